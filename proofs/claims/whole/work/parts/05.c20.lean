set_option maxHeartbeats 4000000 in
set_option maxRecDepth 100000 in
theorem wBX10_find_31 {p : Program} {l : Launch} {e : Env} {s : State} {m : MethodId} {args : Array Value} {below : List Frame} {meth : Method} {c : Code} {P : PT} {N : Nat} {K22 : Mm → Nat → Int32 → Int32 → Int32 → Option (Int32 × Mm)} {K31 : Mm → Nat → Int32 → Int32 → Int32 → Int32 → Option (Int32 × Mm)}  {r9 : Int32} {M9 : Mm} (hX : Cy p s m args c meth cX10_find 5 RX10 "find" (some .int) P)  (hK22 : ∀ (M : Mm) (x0 : Nat) (x1 : Int32) (x2 : Int32) (x3 : Int32), K22 M x0 x1 x2 x3 = some (r9, M9) → Wq p l e s m args below meth c 4 0 (some (.int r9)) M9 5 P 0 22 [(0, .ref (pB P + x0)), (1, .int x1), (2, .int x2), (3, .int x3)] [] M) (hK31 : ∀ (M : Mm) (x0 : Nat) (x1 : Int32) (x2 : Int32) (x3 : Int32) (x4 : Int32), K31 M x0 x1 x2 x3 x4 = some (r9, M9) → Wq p l e s m args below meth c 4 0 (some (.int r9)) M9 5 P 0 31 [(0, .ref (pB P + x0)), (1, .int x1), (2, .int x2), (3, .int x3), (4, .int x4)] [] M) (M : Mm) (x0 : Nat) (x1 : Int32) (x2 : Int32) (x3 : Int32) (x4 : Int32)  (h : BX10_find_31 N K22 K31 M x0 x1 x2 x3 x4 = some (r9, M9)) : Wq p l e s m args below meth c 4 0 (some (.int r9)) M9 5 P 0 31 [(0, .ref (pB P + x0)), (1, .int x1), (2, .int x2), (3, .int x3), (4, .int x4)] [] M := by
  unfold BX10_find_31 at h
  have hX0 := hX
  obtain ⟨X, hr, hlk, hnm⟩ := hX0
  have hx := X.1.1
  have hb := X.1.2.1
  intro H locs ls hM hl
  refine lv_iload (pc := 31) hx hb dX10_find_31 (lv_at hl 4 rfl) ?_
  refine lv_bipush (pc := 33) (v := (8 : Int32)) hx hb dX10_find_33 (by decide) ?_
  refine lv_icmp_ge (pc := 35) (tgt := 77) hx hb dX10_find_35 (by decide) (fun hc => ?_) (fun hc => ?_)
  · have h := if_t hc h
    refine lv_iinc (pc := 77) (v := (x3 + (1 : Int32))) (lv' := [(3, .int (x3 + (1 : Int32))), (0, .ref (pB P + x0)), (1, .int x1), (2, .int x2), (4, .int x4)]) hx hb dX10_find_77 hl (k := 3) rfl rfl (by decide) rfl (fun ls hl => ?_)
    refine lv_goto (pc := 80) (tgt := 22) hx hb dX10_find_80 (by decide) ?_
    exact hK22 _ _ _ _ _ h H locs ls hM (lv_sub hl [1, 2, 3, 0] rfl)
  · have h := if_f hc h
    refine lv_aload_n (pc := 38) hx hb dX10_find_38 rfl (lv_at hl 0 rfl) ?_
    obtain ⟨q1, e2, h⟩ := ob h
    refine bz_getQ (pc := 39) X hM fl_RX10_10 e2 dX10_find_39 ?_
    refine lv_iload_n (pc := 42) hx hb dX10_find_42 rfl (lv_at hl 1 rfl) ?_
    refine lv_iload_n (pc := 43) hx hb dX10_find_43 rfl (lv_at hl 3 rfl) ?_
    refine lv_iload (pc := 44) hx hb dX10_find_44 (lv_at hl 4 rfl) ?_
    obtain ⟨v4, M5, e3, h⟩ := ob2 h
    obtain ⟨fs6, hb7⟩ := (rX6_lawGives e3)
    refine bz_callV1 (pc := 46) (As := [.int x1, .int x3, .int x4]) (rest := []) X hM hl.1 k_RX10_207 (ctX6_lawGives l e3) rfl hb7 rfl rfl ⟨(Nat.le_of_ble_eq_true rfl), (Nat.le_of_ble_eq_true rfl)⟩ (Nat.le_of_ble_eq_true rfl) ⟨(Nat.le_of_ble_eq_true rfl), (Nat.le_of_ble_eq_true rfl)⟩ dX10_find_46 (fun H locs hM => ?_)
    refine lv_aload_n (pc := 49) hx hb dX10_find_49 rfl (lv_at hl 0 rfl) ?_
    obtain ⟨q8, e9, h⟩ := ob h
    refine bz_getQ (pc := 50) X hM fl_RX10_10 e9 dX10_find_50 ?_
    refine lv_iload_n (pc := 53) hx hb dX10_find_53 rfl (lv_at hl 2 rfl) ?_
    refine lv_iload_n (pc := 54) hx hb dX10_find_54 rfl (lv_at hl 3 rfl) ?_
    refine lv_iload (pc := 55) hx hb dX10_find_55 (lv_at hl 4 rfl) ?_
    obtain ⟨v11, M12, e10, h⟩ := ob2 h
    obtain ⟨fs13, hb14⟩ := (rX6_lawGives e10)
    refine bz_callV1 (pc := 57) (As := [.int x2, .int x3, .int x4]) (rest := [.int v4]) X hM hl.1 k_RX10_207 (ctX6_lawGives l e10) rfl hb14 rfl rfl ⟨(Nat.le_of_ble_eq_true rfl), (Nat.le_of_ble_eq_true rfl)⟩ (Nat.le_of_ble_eq_true rfl) ⟨(Nat.le_of_ble_eq_true rfl), (Nat.le_of_ble_eq_true rfl)⟩ dX10_find_57 (fun H locs hM => ?_)
    refine lv_icmp_eq (pc := 60) (tgt := 71) hx hb dX10_find_60 (by decide) (fun hc => ?_) (fun hc => ?_)
    · have h := if_t hc h
      refine lv_iinc (pc := 71) (v := (x4 + (1 : Int32))) (lv' := [(4, .int (x4 + (1 : Int32))), (0, .ref (pB P + x0)), (1, .int x1), (2, .int x2), (3, .int x3)]) hx hb dX10_find_71 hl (k := 4) rfl rfl (by decide) rfl (fun ls hl => ?_)
      refine lv_goto (pc := 74) (tgt := 31) hx hb dX10_find_74 (by decide) ?_
      exact hK31 _ _ _ _ _ _ h H locs ls hM (lv_sub hl [1, 2, 3, 4, 0] rfl)
    · have h := if_f hc h
      refine lv_bipush (pc := 63) (v := (10 : Int32)) hx hb dX10_find_63 (by decide) ?_
      refine lv_iload_n (pc := 65) hx hb dX10_find_65 rfl (lv_at hl 3 rfl) ?_
      refine lv_imul (pc := 66) hx hb dX10_find_66 ?_
      refine lv_iload (pc := 67) hx hb dX10_find_67 (lv_at hl 4 rfl) ?_
      refine lv_iadd (pc := 69) hx hb dX10_find_69 ?_
      obtain ⟨rfl, rfl⟩ := so2 h
      exact bz_iret (pc := 70) X hM hr hlk dX10_find_70 (Nat.le_of_ble_eq_true rfl) (Nat.le_of_ble_eq_true rfl)
set_option maxHeartbeats 4000000 in
set_option maxRecDepth 100000 in
theorem wLX10_find_31 {p : Program} {l : Launch} {e : Env} {s : State} {m : MethodId} {args : Array Value} {below : List Frame} {meth : Method} {c : Code} {P : PT} {N : Nat} {K22 : Mm → Nat → Int32 → Int32 → Int32 → Option (Int32 × Mm)}  {r9 : Int32} {M9 : Mm} (hX : Cy p s m args c meth cX10_find 5 RX10 "find" (some .int) P)  (hK22 : ∀ (M : Mm) (x0 : Nat) (x1 : Int32) (x2 : Int32) (x3 : Int32), K22 M x0 x1 x2 x3 = some (r9, M9) → Wq p l e s m args below meth c 4 0 (some (.int r9)) M9 5 P 0 22 [(0, .ref (pB P + x0)), (1, .int x1), (2, .int x2), (3, .int x3)] [] M) : ∀ (n : Nat) (M : Mm) (x0 : Nat) (x1 : Int32) (x2 : Int32) (x3 : Int32) (x4 : Int32) , LX10_find_31 N K22 n M x0 x1 x2 x3 x4 = some (r9, M9) → Wq p l e s m args below meth c 4 0 (some (.int r9)) M9 5 P 0 31 [(0, .ref (pB P + x0)), (1, .int x1), (2, .int x2), (3, .int x3), (4, .int x4)] [] M := by
  intro n
  induction n with
  | zero => intro M x0 x1 x2 x3 x4 h; cases h
  | succ n ih => intro M x0 x1 x2 x3 x4 h; exact wBX10_find_31 hX hK22 ih M x0 x1 x2 x3 x4 h
set_option maxHeartbeats 4000000 in
set_option maxRecDepth 100000 in
theorem wBX10_find_22 {p : Program} {l : Launch} {e : Env} {s : State} {m : MethodId} {args : Array Value} {below : List Frame} {meth : Method} {c : Code} {P : PT} {N : Nat} {K22 : Mm → Nat → Int32 → Int32 → Int32 → Option (Int32 × Mm)}  {r9 : Int32} {M9 : Mm} (hX : Cy p s m args c meth cX10_find 5 RX10 "find" (some .int) P)  (hK22 : ∀ (M : Mm) (x0 : Nat) (x1 : Int32) (x2 : Int32) (x3 : Int32), K22 M x0 x1 x2 x3 = some (r9, M9) → Wq p l e s m args below meth c 4 0 (some (.int r9)) M9 5 P 0 22 [(0, .ref (pB P + x0)), (1, .int x1), (2, .int x2), (3, .int x3)] [] M) (M : Mm) (x0 : Nat) (x1 : Int32) (x2 : Int32) (x3 : Int32)  (h : BX10_find_22 N K22 M x0 x1 x2 x3 = some (r9, M9)) : Wq p l e s m args below meth c 4 0 (some (.int r9)) M9 5 P 0 22 [(0, .ref (pB P + x0)), (1, .int x1), (2, .int x2), (3, .int x3)] [] M := by
  unfold BX10_find_22 at h
  have hX0 := hX
  obtain ⟨X, hr, hlk, hnm⟩ := hX0
  have hx := X.1.1
  have hb := X.1.2.1
  intro H locs ls hM hl
  refine lv_iload_n (pc := 22) hx hb dX10_find_22 rfl (lv_at hl 3 rfl) ?_
  refine lv_bipush (pc := 23) (v := (99 : Int32)) hx hb dX10_find_23 (by decide) ?_
  refine lv_icmp_gt (pc := 25) (tgt := 83) hx hb dX10_find_25 (by decide) (fun hc => ?_) (fun hc => ?_)
  · have h := if_t hc h
    refine lv_aload_n (pc := 83) hx hb dX10_find_83 rfl (lv_at hl 0 rfl) ?_
    refine lv_iconst (pc := 84) (v := (2 : Int32)) hx hb dX10_find_84 (by decide) ?_
    obtain ⟨v2, M3, e1, h⟩ := ob2 h
    obtain ⟨fs4, hb5⟩ := (rX10_error e1)
    refine bz_callV1 (pc := 85) (As := [.int (2 : Int32)]) (rest := []) X hM hl.1 k_RX10_78 (ctX10_error l e1) rfl hb5 rfl rfl ⟨(Nat.le_of_ble_eq_true rfl), (Nat.le_of_ble_eq_true rfl)⟩ (Nat.le_of_ble_eq_true rfl) ⟨(Nat.le_of_ble_eq_true rfl), (Nat.le_of_ble_eq_true rfl)⟩ dX10_find_85 (fun H locs hM => ?_)
    obtain ⟨rfl, rfl⟩ := so2 h
    exact bz_iret (pc := 88) X hM hr hlk dX10_find_88 (Nat.le_of_ble_eq_true rfl) (Nat.le_of_ble_eq_true rfl)
  · have h := if_f hc h
    refine lv_iconst (pc := 28) (v := (0 : Int32)) hx hb dX10_find_28 (by decide) ?_
    refine lv_istore (pc := 29) (lv' := [(4, .int (0 : Int32)), (0, .ref (pB P + x0)), (1, .int x1), (2, .int x2), (3, .int x3)]) hx hb dX10_find_29 hl (by decide) rfl (fun ls hl => ?_)
    exact wLX10_find_31 hX hK22 _ _ _ _ _ _ _ h H locs ls hM (lv_sub hl [1, 2, 3, 4, 0] rfl)
set_option maxHeartbeats 4000000 in
set_option maxRecDepth 100000 in
theorem wLX10_find_22 {p : Program} {l : Launch} {e : Env} {s : State} {m : MethodId} {args : Array Value} {below : List Frame} {meth : Method} {c : Code} {P : PT} {N : Nat}  {r9 : Int32} {M9 : Mm} (hX : Cy p s m args c meth cX10_find 5 RX10 "find" (some .int) P)   : ∀ (n : Nat) (M : Mm) (x0 : Nat) (x1 : Int32) (x2 : Int32) (x3 : Int32) , LX10_find_22 N n M x0 x1 x2 x3 = some (r9, M9) → Wq p l e s m args below meth c 4 0 (some (.int r9)) M9 5 P 0 22 [(0, .ref (pB P + x0)), (1, .int x1), (2, .int x2), (3, .int x3)] [] M := by
  intro n
  induction n with
  | zero => intro M x0 x1 x2 x3 h; cases h
  | succ n ih => intro M x0 x1 x2 x3 h; exact wBX10_find_22 hX ih M x0 x1 x2 x3 h
set_option maxHeartbeats 4000000 in
set_option maxRecDepth 100000 in
theorem wjX10_find_14 {p : Program} {l : Launch} {e : Env} {s : State} {m : MethodId} {args : Array Value} {below : List Frame} {meth : Method} {c : Code} {P : PT} {N : Nat}  {r9 : Int32} {M9 : Mm} (hX : Cy p s m args c meth cX10_find 5 RX10 "find" (some .int) P)   (M : Mm) (x0 : Nat)  (h : jX10_find_14 N M x0 = some (r9, M9)) : Wq p l e s m args below meth c 4 0 (some (.int r9)) M9 5 P 0 14 [(0, .ref (pB P + x0))] [] M := by
  unfold jX10_find_14 at h
  have hX0 := hX
  obtain ⟨X, hr, hlk, hnm⟩ := hX0
  have hx := X.1.1
  have hb := X.1.2.1
  intro H locs ls hM hl
  refine lv_aload_n (pc := 14) hx hb dX10_find_14 rfl (lv_at hl 0 rfl) ?_
  refine lv_iconst (pc := 15) (v := (1 : Int32)) hx hb dX10_find_15 (by decide) ?_
  obtain ⟨v2, M3, e1, h⟩ := ob2 h
  obtain ⟨fs4, hb5⟩ := (rX10_error e1)
  refine bz_callV1 (pc := 16) (As := [.int (1 : Int32)]) (rest := []) X hM hl.1 k_RX10_78 (ctX10_error l e1) rfl hb5 rfl rfl ⟨(Nat.le_of_ble_eq_true rfl), (Nat.le_of_ble_eq_true rfl)⟩ (Nat.le_of_ble_eq_true rfl) ⟨(Nat.le_of_ble_eq_true rfl), (Nat.le_of_ble_eq_true rfl)⟩ dX10_find_16 (fun H locs hM => ?_)
  obtain ⟨rfl, rfl⟩ := so2 h
  exact bz_iret (pc := 19) X hM hr hlk dX10_find_19 (Nat.le_of_ble_eq_true rfl) (Nat.le_of_ble_eq_true rfl)
set_option maxHeartbeats 4000000 in
set_option maxRecDepth 100000 in
theorem wX10_find {p : Program} {l : Launch} {e : Env} {s : State} {m : MethodId} {args : Array Value} {below : List Frame} {meth : Method} {c : Code} {P : PT} {N : Nat}  {r9 : Int32} {M9 : Mm} (hX : Cy p s m args c meth cX10_find 5 RX10 "find" (some .int) P)  (M : Mm) (a0 : Nat) (a1 : Int32) (a2 : Int32) (h : fX10_find N M a0 a1 a2 = some (r9, M9)) : Wq p l e s m args below meth c 4 0 (some (.int r9)) M9 5 P 0 0 [(0, .ref (pB P + a0)), (1, .int a1), (2, .int a2)] [] M := by
  unfold fX10_find at h
  obtain ⟨_, _, h⟩ := ob h
  have hX0 := hX
  obtain ⟨X, hr, hlk, hnm⟩ := hX0
  have hx := X.1.1
  have hb := X.1.2.1
  intro H locs ls hM hl
  refine lv_iload_n (pc := 0) hx hb dX10_find_0 rfl (lv_at hl 1 rfl) ?_
  obtain ⟨v2, e1, h⟩ := ob h
  refine bz_callS1 (pc := 1) (As := [.int a1]) (rest := []) X hM hl.1 k_RX10_204 (ctX10_isLaw l e1) rfl rfl ⟨(Nat.le_of_ble_eq_true rfl), (Nat.le_of_ble_eq_true rfl)⟩ (Nat.le_of_ble_eq_true rfl) ⟨(Nat.le_of_ble_eq_true rfl), (Nat.le_of_ble_eq_true rfl)⟩ dX10_find_1 (fun H locs hM => ?_)
  refine lv_if_eq (pc := 4) (tgt := 14) hx hb dX10_find_4 (by decide) (fun hc => ?_) (fun hc => ?_)
  · have h := if_t hc h
    exact wjX10_find_14 hX _ _ h H locs ls hM (lv_sub hl [0] rfl)
  · have h := if_f hc h
    refine lv_iload_n (pc := 7) hx hb dX10_find_7 rfl (lv_at hl 2 rfl) ?_
    obtain ⟨v4, e3, h⟩ := ob h
    refine bz_callS1 (pc := 8) (As := [.int a2]) (rest := []) X hM hl.1 k_RX10_204 (ctX10_isLaw l e3) rfl rfl ⟨(Nat.le_of_ble_eq_true rfl), (Nat.le_of_ble_eq_true rfl)⟩ (Nat.le_of_ble_eq_true rfl) ⟨(Nat.le_of_ble_eq_true rfl), (Nat.le_of_ble_eq_true rfl)⟩ dX10_find_8 (fun H locs hM => ?_)
    refine lv_if_ne (pc := 11) (tgt := 20) hx hb dX10_find_11 (by decide) (fun hc => ?_) (fun hc => ?_)
    · have h := if_f hc h
      refine lv_iconst (pc := 20) (v := (0 : Int32)) hx hb dX10_find_20 (by decide) ?_
      refine lv_istore_n (pc := 21) (lv' := [(3, .int (0 : Int32)), (0, .ref (pB P + a0)), (1, .int a1), (2, .int a2)]) hx hb dX10_find_21 rfl hl (by decide) rfl (fun ls hl => ?_)
      exact wLX10_find_22 hX _ _ _ _ _ _ h H locs ls hM (lv_sub hl [1, 2, 3, 0] rfl)
    · have h := if_t hc h
      exact wjX10_find_14 hX _ _ h H locs ls hM (lv_sub hl [0] rfl)
theorem rX10_find {N : Nat} {M : Mm} {a0 : Nat} {a1 : Int32} {a2 : Int32} {r9 : Int32 × Mm} (h : fX10_find N M a0 a1 a2 = some r9) : ∃ fs, M[a0]? = some (.inr (10, fs)) := by
  unfold fX10_find at h
  obtain ⟨_, e1, _⟩ := ob h
  exact gC_spec e1
theorem ctX10_find (l : Launch) {P : PT} {N : Nat} {M : Mm} {a0 : Nat} {a1 : Int32} {a2 : Int32} {r9 : Int32} {M9 : Mm} (h : fX10_find N M a0 a1 a2 = some (r9, M9)) : Ct l yX10_find cX10_find 5 (some .int) 4 0 P [.ref (pB P + a0), .int a1, .int a2] M (some (.int r9)) M9 :=
  Ct.mk (by decide +kernel) (Nat.le_of_ble_eq_true rfl) (fun p e s m args below meth c hX => wX10_find hX M a0 a1 a2 h)
set_option maxHeartbeats 4000000 in
set_option maxRecDepth 100000 in
theorem wBX11_find_31 {p : Program} {l : Launch} {e : Env} {s : State} {m : MethodId} {args : Array Value} {below : List Frame} {meth : Method} {c : Code} {P : PT} {N : Nat} {K22 : Mm → Nat → Int32 → Int32 → Int32 → Option (Int32 × Mm)} {K31 : Mm → Nat → Int32 → Int32 → Int32 → Int32 → Option (Int32 × Mm)}  {r9 : Int32} {M9 : Mm} (hX : Cy p s m args c meth cX11_find 5 RX11 "find" (some .int) P)  (hK22 : ∀ (M : Mm) (x0 : Nat) (x1 : Int32) (x2 : Int32) (x3 : Int32), K22 M x0 x1 x2 x3 = some (r9, M9) → Wq p l e s m args below meth c 3 0 (some (.int r9)) M9 5 P 0 22 [(0, .ref (pB P + x0)), (1, .int x1), (2, .int x2), (3, .int x3)] [] M) (hK31 : ∀ (M : Mm) (x0 : Nat) (x1 : Int32) (x2 : Int32) (x3 : Int32) (x4 : Int32), K31 M x0 x1 x2 x3 x4 = some (r9, M9) → Wq p l e s m args below meth c 3 0 (some (.int r9)) M9 5 P 0 31 [(0, .ref (pB P + x0)), (1, .int x1), (2, .int x2), (3, .int x3), (4, .int x4)] [] M) (M : Mm) (x0 : Nat) (x1 : Int32) (x2 : Int32) (x3 : Int32) (x4 : Int32)  (h : BX11_find_31 N K22 K31 M x0 x1 x2 x3 x4 = some (r9, M9)) : Wq p l e s m args below meth c 3 0 (some (.int r9)) M9 5 P 0 31 [(0, .ref (pB P + x0)), (1, .int x1), (2, .int x2), (3, .int x3), (4, .int x4)] [] M := by
  unfold BX11_find_31 at h
  have hX0 := hX
  obtain ⟨X, hr, hlk, hnm⟩ := hX0
  have hx := X.1.1
  have hb := X.1.2.1
  intro H locs ls hM hl
  refine lv_iload (pc := 31) hx hb dX11_find_31 (lv_at hl 4 rfl) ?_
  refine lv_bipush (pc := 33) (v := (8 : Int32)) hx hb dX11_find_33 (by decide) ?_
  refine lv_icmp_ge (pc := 35) (tgt := 71) hx hb dX11_find_35 (by decide) (fun hc => ?_) (fun hc => ?_)
  · have h := if_t hc h
    refine lv_iinc (pc := 71) (v := (x3 + (1 : Int32))) (lv' := [(3, .int (x3 + (1 : Int32))), (0, .ref (pB P + x0)), (1, .int x1), (2, .int x2), (4, .int x4)]) hx hb dX11_find_71 hl (k := 3) rfl rfl (by decide) rfl (fun ls hl => ?_)
    refine lv_goto (pc := 74) (tgt := 22) hx hb dX11_find_74 (by decide) ?_
    exact hK22 _ _ _ _ _ h H locs ls hM (lv_sub hl [1, 2, 3, 0] rfl)
  · have h := if_f hc h
    refine lv_aload_n (pc := 38) hx hb dX11_find_38 rfl (lv_at hl 0 rfl) ?_
    refine lv_iload_n (pc := 39) hx hb dX11_find_39 rfl (lv_at hl 1 rfl) ?_
    refine lv_iload_n (pc := 40) hx hb dX11_find_40 rfl (lv_at hl 3 rfl) ?_
    refine lv_iload (pc := 41) hx hb dX11_find_41 (lv_at hl 4 rfl) ?_
    obtain ⟨v2, M3, e1, h⟩ := ob2 h
    obtain ⟨fs4, hb5⟩ := (rX11_lawOf e1)
    refine bz_callV1 (pc := 43) (As := [.int x1, .int x3, .int x4]) (rest := []) X hM hl.1 k_RX11_214 (ctX11_lawOf l e1) rfl hb5 rfl rfl ⟨(Nat.le_of_ble_eq_true rfl), (Nat.le_of_ble_eq_true rfl)⟩ (Nat.le_of_ble_eq_true rfl) ⟨(Nat.le_of_ble_eq_true rfl), (Nat.le_of_ble_eq_true rfl)⟩ dX11_find_43 (fun H locs hM => ?_)
    refine lv_aload_n (pc := 46) hx hb dX11_find_46 rfl (lv_at hl 0 rfl) ?_
    refine lv_iload_n (pc := 47) hx hb dX11_find_47 rfl (lv_at hl 2 rfl) ?_
    refine lv_iload_n (pc := 48) hx hb dX11_find_48 rfl (lv_at hl 3 rfl) ?_
    refine lv_iload (pc := 49) hx hb dX11_find_49 (lv_at hl 4 rfl) ?_
    obtain ⟨v7, M8, e6, h⟩ := ob2 h
    obtain ⟨fs9, hb10⟩ := (rX11_lawOf e6)
    refine bz_callV1 (pc := 51) (As := [.int x2, .int x3, .int x4]) (rest := [.int v2]) X hM hl.1 k_RX11_214 (ctX11_lawOf l e6) rfl hb10 rfl rfl ⟨(Nat.le_of_ble_eq_true rfl), (Nat.le_of_ble_eq_true rfl)⟩ (Nat.le_of_ble_eq_true rfl) ⟨(Nat.le_of_ble_eq_true rfl), (Nat.le_of_ble_eq_true rfl)⟩ dX11_find_51 (fun H locs hM => ?_)
    refine lv_icmp_eq (pc := 54) (tgt := 65) hx hb dX11_find_54 (by decide) (fun hc => ?_) (fun hc => ?_)
    · have h := if_t hc h
      refine lv_iinc (pc := 65) (v := (x4 + (1 : Int32))) (lv' := [(4, .int (x4 + (1 : Int32))), (0, .ref (pB P + x0)), (1, .int x1), (2, .int x2), (3, .int x3)]) hx hb dX11_find_65 hl (k := 4) rfl rfl (by decide) rfl (fun ls hl => ?_)
      refine lv_goto (pc := 68) (tgt := 31) hx hb dX11_find_68 (by decide) ?_
      exact hK31 _ _ _ _ _ _ h H locs ls hM (lv_sub hl [1, 2, 3, 4, 0] rfl)
    · have h := if_f hc h
      refine lv_bipush (pc := 57) (v := (10 : Int32)) hx hb dX11_find_57 (by decide) ?_
      refine lv_iload_n (pc := 59) hx hb dX11_find_59 rfl (lv_at hl 3 rfl) ?_
      refine lv_imul (pc := 60) hx hb dX11_find_60 ?_
      refine lv_iload (pc := 61) hx hb dX11_find_61 (lv_at hl 4 rfl) ?_
      refine lv_iadd (pc := 63) hx hb dX11_find_63 ?_
      obtain ⟨rfl, rfl⟩ := so2 h
      exact bz_iret (pc := 64) X hM hr hlk dX11_find_64 (Nat.le_of_ble_eq_true rfl) (Nat.le_of_ble_eq_true rfl)
set_option maxHeartbeats 4000000 in
set_option maxRecDepth 100000 in
theorem wLX11_find_31 {p : Program} {l : Launch} {e : Env} {s : State} {m : MethodId} {args : Array Value} {below : List Frame} {meth : Method} {c : Code} {P : PT} {N : Nat} {K22 : Mm → Nat → Int32 → Int32 → Int32 → Option (Int32 × Mm)}  {r9 : Int32} {M9 : Mm} (hX : Cy p s m args c meth cX11_find 5 RX11 "find" (some .int) P)  (hK22 : ∀ (M : Mm) (x0 : Nat) (x1 : Int32) (x2 : Int32) (x3 : Int32), K22 M x0 x1 x2 x3 = some (r9, M9) → Wq p l e s m args below meth c 3 0 (some (.int r9)) M9 5 P 0 22 [(0, .ref (pB P + x0)), (1, .int x1), (2, .int x2), (3, .int x3)] [] M) : ∀ (n : Nat) (M : Mm) (x0 : Nat) (x1 : Int32) (x2 : Int32) (x3 : Int32) (x4 : Int32) , LX11_find_31 N K22 n M x0 x1 x2 x3 x4 = some (r9, M9) → Wq p l e s m args below meth c 3 0 (some (.int r9)) M9 5 P 0 31 [(0, .ref (pB P + x0)), (1, .int x1), (2, .int x2), (3, .int x3), (4, .int x4)] [] M := by
  intro n
  induction n with
  | zero => intro M x0 x1 x2 x3 x4 h; cases h
  | succ n ih => intro M x0 x1 x2 x3 x4 h; exact wBX11_find_31 hX hK22 ih M x0 x1 x2 x3 x4 h
set_option maxHeartbeats 4000000 in
set_option maxRecDepth 100000 in
theorem wBX11_find_22 {p : Program} {l : Launch} {e : Env} {s : State} {m : MethodId} {args : Array Value} {below : List Frame} {meth : Method} {c : Code} {P : PT} {N : Nat} {K22 : Mm → Nat → Int32 → Int32 → Int32 → Option (Int32 × Mm)}  {r9 : Int32} {M9 : Mm} (hX : Cy p s m args c meth cX11_find 5 RX11 "find" (some .int) P)  (hK22 : ∀ (M : Mm) (x0 : Nat) (x1 : Int32) (x2 : Int32) (x3 : Int32), K22 M x0 x1 x2 x3 = some (r9, M9) → Wq p l e s m args below meth c 3 0 (some (.int r9)) M9 5 P 0 22 [(0, .ref (pB P + x0)), (1, .int x1), (2, .int x2), (3, .int x3)] [] M) (M : Mm) (x0 : Nat) (x1 : Int32) (x2 : Int32) (x3 : Int32)  (h : BX11_find_22 N K22 M x0 x1 x2 x3 = some (r9, M9)) : Wq p l e s m args below meth c 3 0 (some (.int r9)) M9 5 P 0 22 [(0, .ref (pB P + x0)), (1, .int x1), (2, .int x2), (3, .int x3)] [] M := by
  unfold BX11_find_22 at h
  have hX0 := hX
  obtain ⟨X, hr, hlk, hnm⟩ := hX0
  have hx := X.1.1
  have hb := X.1.2.1
  intro H locs ls hM hl
  refine lv_iload_n (pc := 22) hx hb dX11_find_22 rfl (lv_at hl 3 rfl) ?_
  refine lv_bipush (pc := 23) (v := (100 : Int32)) hx hb dX11_find_23 (by decide) ?_
  refine lv_icmp_ge (pc := 25) (tgt := 77) hx hb dX11_find_25 (by decide) (fun hc => ?_) (fun hc => ?_)
  · have h := if_t hc h
    refine lv_aload_n (pc := 77) hx hb dX11_find_77 rfl (lv_at hl 0 rfl) ?_
    refine lv_iconst (pc := 78) (v := (2 : Int32)) hx hb dX11_find_78 (by decide) ?_
    obtain ⟨v2, M3, e1, h⟩ := ob2 h
    obtain ⟨fs4, hb5⟩ := (rX11_error e1)
    refine bz_callV1 (pc := 79) (As := [.int (2 : Int32)]) (rest := []) X hM hl.1 k_RX11_73 (ctX11_error l e1) rfl hb5 rfl rfl ⟨(Nat.le_of_ble_eq_true rfl), (Nat.le_of_ble_eq_true rfl)⟩ (Nat.le_of_ble_eq_true rfl) ⟨(Nat.le_of_ble_eq_true rfl), (Nat.le_of_ble_eq_true rfl)⟩ dX11_find_79 (fun H locs hM => ?_)
    obtain ⟨rfl, rfl⟩ := so2 h
    exact bz_iret (pc := 82) X hM hr hlk dX11_find_82 (Nat.le_of_ble_eq_true rfl) (Nat.le_of_ble_eq_true rfl)
  · have h := if_f hc h
    refine lv_iconst (pc := 28) (v := (0 : Int32)) hx hb dX11_find_28 (by decide) ?_
    refine lv_istore (pc := 29) (lv' := [(4, .int (0 : Int32)), (0, .ref (pB P + x0)), (1, .int x1), (2, .int x2), (3, .int x3)]) hx hb dX11_find_29 hl (by decide) rfl (fun ls hl => ?_)
    exact wLX11_find_31 hX hK22 _ _ _ _ _ _ _ h H locs ls hM (lv_sub hl [1, 2, 3, 4, 0] rfl)
set_option maxHeartbeats 4000000 in
set_option maxRecDepth 100000 in
theorem wLX11_find_22 {p : Program} {l : Launch} {e : Env} {s : State} {m : MethodId} {args : Array Value} {below : List Frame} {meth : Method} {c : Code} {P : PT} {N : Nat}  {r9 : Int32} {M9 : Mm} (hX : Cy p s m args c meth cX11_find 5 RX11 "find" (some .int) P)   : ∀ (n : Nat) (M : Mm) (x0 : Nat) (x1 : Int32) (x2 : Int32) (x3 : Int32) , LX11_find_22 N n M x0 x1 x2 x3 = some (r9, M9) → Wq p l e s m args below meth c 3 0 (some (.int r9)) M9 5 P 0 22 [(0, .ref (pB P + x0)), (1, .int x1), (2, .int x2), (3, .int x3)] [] M := by
  intro n
  induction n with
  | zero => intro M x0 x1 x2 x3 h; cases h
  | succ n ih => intro M x0 x1 x2 x3 h; exact wBX11_find_22 hX ih M x0 x1 x2 x3 h
set_option maxHeartbeats 4000000 in
set_option maxRecDepth 100000 in
theorem wjX11_find_14 {p : Program} {l : Launch} {e : Env} {s : State} {m : MethodId} {args : Array Value} {below : List Frame} {meth : Method} {c : Code} {P : PT} {N : Nat}  {r9 : Int32} {M9 : Mm} (hX : Cy p s m args c meth cX11_find 5 RX11 "find" (some .int) P)   (M : Mm) (x0 : Nat)  (h : jX11_find_14 N M x0 = some (r9, M9)) : Wq p l e s m args below meth c 3 0 (some (.int r9)) M9 5 P 0 14 [(0, .ref (pB P + x0))] [] M := by
  unfold jX11_find_14 at h
  have hX0 := hX
  obtain ⟨X, hr, hlk, hnm⟩ := hX0
  have hx := X.1.1
  have hb := X.1.2.1
  intro H locs ls hM hl
  refine lv_aload_n (pc := 14) hx hb dX11_find_14 rfl (lv_at hl 0 rfl) ?_
  refine lv_iconst (pc := 15) (v := (1 : Int32)) hx hb dX11_find_15 (by decide) ?_
  obtain ⟨v2, M3, e1, h⟩ := ob2 h
  obtain ⟨fs4, hb5⟩ := (rX11_error e1)
  refine bz_callV1 (pc := 16) (As := [.int (1 : Int32)]) (rest := []) X hM hl.1 k_RX11_73 (ctX11_error l e1) rfl hb5 rfl rfl ⟨(Nat.le_of_ble_eq_true rfl), (Nat.le_of_ble_eq_true rfl)⟩ (Nat.le_of_ble_eq_true rfl) ⟨(Nat.le_of_ble_eq_true rfl), (Nat.le_of_ble_eq_true rfl)⟩ dX11_find_16 (fun H locs hM => ?_)
  obtain ⟨rfl, rfl⟩ := so2 h
  exact bz_iret (pc := 19) X hM hr hlk dX11_find_19 (Nat.le_of_ble_eq_true rfl) (Nat.le_of_ble_eq_true rfl)
set_option maxHeartbeats 4000000 in
set_option maxRecDepth 100000 in
theorem wX11_find {p : Program} {l : Launch} {e : Env} {s : State} {m : MethodId} {args : Array Value} {below : List Frame} {meth : Method} {c : Code} {P : PT} {N : Nat}  {r9 : Int32} {M9 : Mm} (hX : Cy p s m args c meth cX11_find 5 RX11 "find" (some .int) P)  (M : Mm) (a0 : Nat) (a1 : Int32) (a2 : Int32) (h : fX11_find N M a0 a1 a2 = some (r9, M9)) : Wq p l e s m args below meth c 3 0 (some (.int r9)) M9 5 P 0 0 [(0, .ref (pB P + a0)), (1, .int a1), (2, .int a2)] [] M := by
  unfold fX11_find at h
  obtain ⟨_, _, h⟩ := ob h
  have hX0 := hX
  obtain ⟨X, hr, hlk, hnm⟩ := hX0
  have hx := X.1.1
  have hb := X.1.2.1
  intro H locs ls hM hl
  refine lv_iload_n (pc := 0) hx hb dX11_find_0 rfl (lv_at hl 1 rfl) ?_
  obtain ⟨v2, e1, h⟩ := ob h
  refine bz_callS1 (pc := 1) (As := [.int a1]) (rest := []) X hM hl.1 k_RX11_211 (ctX11_isLaw l e1) rfl rfl ⟨(Nat.le_of_ble_eq_true rfl), (Nat.le_of_ble_eq_true rfl)⟩ (Nat.le_of_ble_eq_true rfl) ⟨(Nat.le_of_ble_eq_true rfl), (Nat.le_of_ble_eq_true rfl)⟩ dX11_find_1 (fun H locs hM => ?_)
  refine lv_if_eq (pc := 4) (tgt := 14) hx hb dX11_find_4 (by decide) (fun hc => ?_) (fun hc => ?_)
  · have h := if_t hc h
    exact wjX11_find_14 hX _ _ h H locs ls hM (lv_sub hl [0] rfl)
  · have h := if_f hc h
    refine lv_iload_n (pc := 7) hx hb dX11_find_7 rfl (lv_at hl 2 rfl) ?_
    obtain ⟨v4, e3, h⟩ := ob h
    refine bz_callS1 (pc := 8) (As := [.int a2]) (rest := []) X hM hl.1 k_RX11_211 (ctX11_isLaw l e3) rfl rfl ⟨(Nat.le_of_ble_eq_true rfl), (Nat.le_of_ble_eq_true rfl)⟩ (Nat.le_of_ble_eq_true rfl) ⟨(Nat.le_of_ble_eq_true rfl), (Nat.le_of_ble_eq_true rfl)⟩ dX11_find_8 (fun H locs hM => ?_)
    refine lv_if_ne (pc := 11) (tgt := 20) hx hb dX11_find_11 (by decide) (fun hc => ?_) (fun hc => ?_)
    · have h := if_f hc h
      refine lv_iconst (pc := 20) (v := (0 : Int32)) hx hb dX11_find_20 (by decide) ?_
      refine lv_istore_n (pc := 21) (lv' := [(3, .int (0 : Int32)), (0, .ref (pB P + a0)), (1, .int a1), (2, .int a2)]) hx hb dX11_find_21 rfl hl (by decide) rfl (fun ls hl => ?_)
      exact wLX11_find_22 hX _ _ _ _ _ _ h H locs ls hM (lv_sub hl [1, 2, 3, 0] rfl)
    · have h := if_t hc h
      exact wjX11_find_14 hX _ _ h H locs ls hM (lv_sub hl [0] rfl)
theorem rX11_find {N : Nat} {M : Mm} {a0 : Nat} {a1 : Int32} {a2 : Int32} {r9 : Int32 × Mm} (h : fX11_find N M a0 a1 a2 = some r9) : ∃ fs, M[a0]? = some (.inr (11, fs)) := by
  unfold fX11_find at h
  obtain ⟨_, e1, _⟩ := ob h
  exact gC_spec e1
theorem ctX11_find (l : Launch) {P : PT} {N : Nat} {M : Mm} {a0 : Nat} {a1 : Int32} {a2 : Int32} {r9 : Int32} {M9 : Mm} (h : fX11_find N M a0 a1 a2 = some (r9, M9)) : Ct l yX11_find cX11_find 5 (some .int) 3 0 P [.ref (pB P + a0), .int a1, .int a2] M (some (.int r9)) M9 :=
  Ct.mk (by decide +kernel) (Nat.le_of_ble_eq_true rfl) (fun p e s m args below meth c hX => wX11_find hX M a0 a1 a2 h)
set_option maxHeartbeats 4000000 in
set_option maxRecDepth 100000 in
theorem wjX10_quiet_18 {p : Program} {l : Launch} {e : Env} {s : State} {m : MethodId} {args : Array Value} {below : List Frame} {meth : Method} {c : Code} {P : PT}  {r9 : Int32} {M9 : Mm} (hX : Cy p s m args c meth cX10_quiet 3 RX10 "quiet" (some .int) P)   (M : Mm) (x0 : Nat)  (h : jX10_quiet_18 M x0 = some (r9, M9)) : Wq p l e s m args below meth c 3 0 (some (.int r9)) M9 3 P 0 18 [(0, .ref (pB P + x0))] [] M := by
  unfold jX10_quiet_18 at h
  have hX0 := hX
  obtain ⟨X, hr, hlk, hnm⟩ := hX0
  have hx := X.1.1
  have hb := X.1.2.1
  intro H locs ls hM hl
  refine lv_aload_n (pc := 18) hx hb dX10_quiet_18 rfl (lv_at hl 0 rfl) ?_
  refine lv_iconst (pc := 19) (v := (1 : Int32)) hx hb dX10_quiet_19 (by decide) ?_
  obtain ⟨v2, M3, e1, h⟩ := ob2 h
  obtain ⟨fs4, hb5⟩ := (rX10_error e1)
  refine bz_callV1 (pc := 20) (As := [.int (1 : Int32)]) (rest := []) X hM hl.1 k_RX10_78 (ctX10_error l e1) rfl hb5 rfl rfl ⟨(Nat.le_of_ble_eq_true rfl), (Nat.le_of_ble_eq_true rfl)⟩ (Nat.le_of_ble_eq_true rfl) ⟨(Nat.le_of_ble_eq_true rfl), (Nat.le_of_ble_eq_true rfl)⟩ dX10_quiet_20 (fun H locs hM => ?_)
  obtain ⟨rfl, rfl⟩ := so2 h
  exact bz_iret (pc := 23) X hM hr hlk dX10_quiet_23 (Nat.le_of_ble_eq_true rfl) (Nat.le_of_ble_eq_true rfl)
set_option maxHeartbeats 4000000 in
set_option maxRecDepth 100000 in
theorem wX10_quiet {p : Program} {l : Launch} {e : Env} {s : State} {m : MethodId} {args : Array Value} {below : List Frame} {meth : Method} {c : Code} {P : PT}  {r9 : Int32} {M9 : Mm} (hX : Cy p s m args c meth cX10_quiet 3 RX10 "quiet" (some .int) P)  (M : Mm) (a0 : Nat) (a1 : Int32) (a2 : Int32) (h : fX10_quiet M a0 a1 a2 = some (r9, M9)) : Wq p l e s m args below meth c 3 0 (some (.int r9)) M9 3 P 0 0 [(0, .ref (pB P + a0)), (1, .int a1), (2, .int a2)] [] M := by
  unfold fX10_quiet at h
  obtain ⟨_, _, h⟩ := ob h
  have hX0 := hX
  obtain ⟨X, hr, hlk, hnm⟩ := hX0
  have hx := X.1.1
  have hb := X.1.2.1
  intro H locs ls hM hl
  refine lv_iload_n (pc := 0) hx hb dX10_quiet_0 rfl (lv_at hl 1 rfl) ?_
  obtain ⟨v2, e1, h⟩ := ob h
  refine bz_callS1 (pc := 1) (As := [.int a1]) (rest := []) X hM hl.1 k_RX10_106 (ctX10_isHeight l e1) rfl rfl ⟨(Nat.le_of_ble_eq_true rfl), (Nat.le_of_ble_eq_true rfl)⟩ (Nat.le_of_ble_eq_true rfl) ⟨(Nat.le_of_ble_eq_true rfl), (Nat.le_of_ble_eq_true rfl)⟩ dX10_quiet_1 (fun H locs hM => ?_)
  refine lv_if_eq (pc := 4) (tgt := 18) hx hb dX10_quiet_4 (by decide) (fun hc => ?_) (fun hc => ?_)
  · have h := if_t hc h
    exact wjX10_quiet_18 hX _ _ h H locs ls hM (lv_sub hl [0] rfl)
  · have h := if_f hc h
    refine lv_iload_n (pc := 7) hx hb dX10_quiet_7 rfl (lv_at hl 2 rfl) ?_
    refine lv_iconst (pc := 8) (v := (1 : Int32)) hx hb dX10_quiet_8 (by decide) ?_
    refine lv_sipush (pc := 9) (v := (9999 : Int32)) hx hb dX10_quiet_9 (by decide) ?_
    obtain ⟨v4, e3, h⟩ := ob h
    refine bz_callS1 (pc := 12) (As := [.int a2, .int (1 : Int32), .int (9999 : Int32)]) (rest := []) X hM hl.1 k_RX10_74 (ctX10_within l e3) rfl rfl ⟨(Nat.le_of_ble_eq_true rfl), (Nat.le_of_ble_eq_true rfl)⟩ (Nat.le_of_ble_eq_true rfl) ⟨(Nat.le_of_ble_eq_true rfl), (Nat.le_of_ble_eq_true rfl)⟩ dX10_quiet_12 (fun H locs hM => ?_)
    refine lv_if_ne (pc := 15) (tgt := 24) hx hb dX10_quiet_15 (by decide) (fun hc => ?_) (fun hc => ?_)
    · have h := if_f hc h
      refine lv_aload_n (pc := 24) hx hb dX10_quiet_24 rfl (lv_at hl 0 rfl) ?_
      obtain ⟨q5, e6, h⟩ := ob h
      refine bz_getQ (pc := 25) X hM fl_RX10_10 e6 dX10_quiet_25 ?_
      obtain ⟨q7, e8, h⟩ := ob h
      refine bz_getQ (pc := 28) X hM fl_RX10_347 e8 dX10_quiet_28 ?_
      obtain ⟨v10, e9, h⟩ := ob h
      obtain ⟨fs11, hb12⟩ := (rX3_room e9)
      refine bz_callV1 (pc := 31) (As := []) (rest := []) X hM hl.1 k_RX10_176 (ctX3_room l e9) rfl hb12 rfl rfl ⟨(Nat.le_of_ble_eq_true rfl), (Nat.le_of_ble_eq_true rfl)⟩ (Nat.le_of_ble_eq_true rfl) ⟨(Nat.le_of_ble_eq_true rfl), (Nat.le_of_ble_eq_true rfl)⟩ dX10_quiet_31 (fun H locs hM => ?_)
      refine lv_if_ne (pc := 34) (tgt := 43) hx hb dX10_quiet_34 (by decide) (fun hc => ?_) (fun hc => ?_)
      · have h := if_f hc h
        refine lv_aload_n (pc := 43) hx hb dX10_quiet_43 rfl (lv_at hl 0 rfl) ?_
        obtain ⟨q13, e14, h⟩ := ob h
        refine bz_getQ (pc := 44) X hM fl_RX10_10 e14 dX10_quiet_44 ?_
        obtain ⟨q15, e16, h⟩ := ob h
        refine bz_getQ (pc := 47) X hM fl_RX10_347 e16 dX10_quiet_47 ?_
        refine lv_iload_n (pc := 50) hx hb dX10_quiet_50 rfl (lv_at hl 1 rfl) ?_
        obtain ⟨v18, M19, e17, h⟩ := ob2 h
        obtain ⟨fs20, hb21⟩ := (rX3_add e17)
        refine bz_callV1 (pc := 51) (As := [.int a1]) (rest := []) X hM hl.1 k_RX10_92 (ctX3_add l e17) rfl hb21 rfl rfl ⟨(Nat.le_of_ble_eq_true rfl), (Nat.le_of_ble_eq_true rfl)⟩ (Nat.le_of_ble_eq_true rfl) ⟨(Nat.le_of_ble_eq_true rfl), (Nat.le_of_ble_eq_true rfl)⟩ dX10_quiet_51 (fun H locs hM => ?_)
        refine lv_pop (pc := 54) hx hb dX10_quiet_54 rfl ?_
        refine lv_aload_n (pc := 55) hx hb dX10_quiet_55 rfl (lv_at hl 0 rfl) ?_
        obtain ⟨q22, e23, h⟩ := ob h
        refine bz_getQ (pc := 56) X hM fl_RX10_10 e23 dX10_quiet_56 ?_
        obtain ⟨q24, e25, h⟩ := ob h
        refine bz_getQ (pc := 59) X hM fl_RX10_350 e25 dX10_quiet_59 ?_
        refine lv_iload_n (pc := 62) hx hb dX10_quiet_62 rfl (lv_at hl 2 rfl) ?_
        obtain ⟨v27, M28, e26, h⟩ := ob2 h
        obtain ⟨fs29, hb30⟩ := (rX3_add e26)
        refine bz_callV1 (pc := 63) (As := [.int a2]) (rest := []) X hM hl.1 k_RX10_92 (ctX3_add l e26) rfl hb30 rfl rfl ⟨(Nat.le_of_ble_eq_true rfl), (Nat.le_of_ble_eq_true rfl)⟩ (Nat.le_of_ble_eq_true rfl) ⟨(Nat.le_of_ble_eq_true rfl), (Nat.le_of_ble_eq_true rfl)⟩ dX10_quiet_63 (fun H locs hM => ?_)
        refine lv_pop (pc := 66) hx hb dX10_quiet_66 rfl ?_
        refine lv_aload_n (pc := 67) hx hb dX10_quiet_67 rfl (lv_at hl 0 rfl) ?_
        obtain ⟨q31, e32, h⟩ := ob h
        refine bz_getQ (pc := 68) X hM fl_RX10_10 e32 dX10_quiet_68 ?_
        obtain ⟨q33, e34, h⟩ := ob h
        refine bz_getQ (pc := 71) X hM fl_RX10_347 e34 dX10_quiet_71 ?_
        obtain ⟨v36, e35, h⟩ := ob h
        obtain ⟨fs37, hb38⟩ := (rX3_size e35)
        refine bz_callV1 (pc := 74) (As := []) (rest := []) X hM hl.1 k_RX10_96 (ctX3_size l e35) rfl hb38 rfl rfl ⟨(Nat.le_of_ble_eq_true rfl), (Nat.le_of_ble_eq_true rfl)⟩ (Nat.le_of_ble_eq_true rfl) ⟨(Nat.le_of_ble_eq_true rfl), (Nat.le_of_ble_eq_true rfl)⟩ dX10_quiet_74 (fun H locs hM => ?_)
        obtain ⟨rfl, rfl⟩ := so2 h
        exact bz_iret (pc := 77) X hM hr hlk dX10_quiet_77 (Nat.le_of_ble_eq_true rfl) (Nat.le_of_ble_eq_true rfl)
      · have h := if_t hc h
        refine lv_aload_n (pc := 37) hx hb dX10_quiet_37 rfl (lv_at hl 0 rfl) ?_
        refine lv_iconst (pc := 38) (v := (4 : Int32)) hx hb dX10_quiet_38 (by decide) ?_
        obtain ⟨v40, M41, e39, h⟩ := ob2 h
        obtain ⟨fs42, hb43⟩ := (rX10_error e39)
        refine bz_callV1 (pc := 39) (As := [.int (4 : Int32)]) (rest := []) X hM hl.1 k_RX10_78 (ctX10_error l e39) rfl hb43 rfl rfl ⟨(Nat.le_of_ble_eq_true rfl), (Nat.le_of_ble_eq_true rfl)⟩ (Nat.le_of_ble_eq_true rfl) ⟨(Nat.le_of_ble_eq_true rfl), (Nat.le_of_ble_eq_true rfl)⟩ dX10_quiet_39 (fun H locs hM => ?_)
        obtain ⟨rfl, rfl⟩ := so2 h
        exact bz_iret (pc := 42) X hM hr hlk dX10_quiet_42 (Nat.le_of_ble_eq_true rfl) (Nat.le_of_ble_eq_true rfl)
    · have h := if_t hc h
      exact wjX10_quiet_18 hX _ _ h H locs ls hM (lv_sub hl [0] rfl)
theorem rX10_quiet {M : Mm} {a0 : Nat} {a1 : Int32} {a2 : Int32} {r9 : Int32 × Mm} (h : fX10_quiet M a0 a1 a2 = some r9) : ∃ fs, M[a0]? = some (.inr (10, fs)) := by
  unfold fX10_quiet at h
  obtain ⟨_, e1, _⟩ := ob h
  exact gC_spec e1
theorem ctX10_quiet (l : Launch) {P : PT} {M : Mm} {a0 : Nat} {a1 : Int32} {a2 : Int32} {r9 : Int32} {M9 : Mm} (h : fX10_quiet M a0 a1 a2 = some (r9, M9)) : Ct l yX10_quiet cX10_quiet 3 (some .int) 3 0 P [.ref (pB P + a0), .int a1, .int a2] M (some (.int r9)) M9 :=
  Ct.mk (by decide +kernel) (Nat.le_of_ble_eq_true rfl) (fun p e s m args below meth c hX => wX10_quiet hX M a0 a1 a2 h)
set_option maxHeartbeats 4000000 in
set_option maxRecDepth 100000 in
theorem wjX11_quiet_24 {p : Program} {l : Launch} {e : Env} {s : State} {m : MethodId} {args : Array Value} {below : List Frame} {meth : Method} {c : Code} {P : PT}  {r9 : Int32} {M9 : Mm} (hX : Cy p s m args c meth cX11_quiet 4 RX11 "quiet" (some .int) P)   (M : Mm) (x0 : Nat)  (h : jX11_quiet_24 M x0 = some (r9, M9)) : Wq p l e s m args below meth c 1 0 (some (.int r9)) M9 4 P 0 24 [(0, .ref (pB P + x0))] [] M := by
  unfold jX11_quiet_24 at h
  have hX0 := hX
  obtain ⟨X, hr, hlk, hnm⟩ := hX0
  have hx := X.1.1
  have hb := X.1.2.1
  intro H locs ls hM hl
  refine lv_aload_n (pc := 24) hx hb dX11_quiet_24 rfl (lv_at hl 0 rfl) ?_
  refine lv_iconst (pc := 25) (v := (1 : Int32)) hx hb dX11_quiet_25 (by decide) ?_
  obtain ⟨v2, M3, e1, h⟩ := ob2 h
  obtain ⟨fs4, hb5⟩ := (rX11_error e1)
  refine bz_callV1 (pc := 26) (As := [.int (1 : Int32)]) (rest := []) X hM hl.1 k_RX11_73 (ctX11_error l e1) rfl hb5 rfl rfl ⟨(Nat.le_of_ble_eq_true rfl), (Nat.le_of_ble_eq_true rfl)⟩ (Nat.le_of_ble_eq_true rfl) ⟨(Nat.le_of_ble_eq_true rfl), (Nat.le_of_ble_eq_true rfl)⟩ dX11_quiet_26 (fun H locs hM => ?_)
  obtain ⟨rfl, rfl⟩ := so2 h
  exact bz_iret (pc := 29) X hM hr hlk dX11_quiet_29 (Nat.le_of_ble_eq_true rfl) (Nat.le_of_ble_eq_true rfl)
set_option maxHeartbeats 4000000 in
set_option maxRecDepth 100000 in
theorem wX11_quiet {p : Program} {l : Launch} {e : Env} {s : State} {m : MethodId} {args : Array Value} {below : List Frame} {meth : Method} {c : Code} {P : PT}  {r9 : Int32} {M9 : Mm} (hX : Cy p s m args c meth cX11_quiet 4 RX11 "quiet" (some .int) P)  (M : Mm) (a0 : Nat) (a1 : Int32) (a2 : Int32) (h : fX11_quiet M a0 a1 a2 = some (r9, M9)) : Wq p l e s m args below meth c 1 0 (some (.int r9)) M9 4 P 0 0 [(0, .ref (pB P + a0)), (1, .int a1), (2, .int a2)] [] M := by
  unfold fX11_quiet at h
  obtain ⟨_, _, h⟩ := ob h
  have hX0 := hX
  obtain ⟨X, hr, hlk, hnm⟩ := hX0
  have hx := X.1.1
  have hb := X.1.2.1
  intro H locs ls hM hl
  refine lv_iload_n (pc := 0) hx hb dX11_quiet_0 rfl (lv_at hl 1 rfl) ?_
  refine lv_i2l (pc := 1) (v := ((a1).toInt64)) hx hb dX11_quiet_1 rfl ?_
  refine lv_lconst (pc := 2) (v := (1 : Int64)) hx hb dX11_quiet_2 (by decide) ?_
  refine lv_ldc2 (pc := 3) (v := (999 : Int64)) hx hb X.1.2.2.2.1 (X.1.2.2.2.2 _ g_1276) dX11_quiet_3 ?_
  obtain ⟨v2, e1, h⟩ := ob h
  refine bz_callS1 (pc := 6) (As := [.long ((a1).toInt64), .long (1 : Int64), .long (999 : Int64)]) (rest := []) X hM hl.1 k_RX11_57 (ctX11_in l e1) rfl rfl ⟨(Nat.le_of_ble_eq_true rfl), (Nat.le_of_ble_eq_true rfl)⟩ (Nat.le_of_ble_eq_true rfl) ⟨(Nat.le_of_ble_eq_true rfl), (Nat.le_of_ble_eq_true rfl)⟩ dX11_quiet_6 (fun H locs hM => ?_)
  refine lv_if_eq (pc := 9) (tgt := 24) hx hb dX11_quiet_9 (by decide) (fun hc => ?_) (fun hc => ?_)
  · have h := if_t hc h
    exact wjX11_quiet_24 hX _ _ h H locs ls hM (lv_sub hl [0] rfl)
  · have h := if_f hc h
    refine lv_iload_n (pc := 12) hx hb dX11_quiet_12 rfl (lv_at hl 2 rfl) ?_
    refine lv_i2l (pc := 13) (v := ((a2).toInt64)) hx hb dX11_quiet_13 rfl ?_
    refine lv_lconst (pc := 14) (v := (1 : Int64)) hx hb dX11_quiet_14 (by decide) ?_
    refine lv_ldc2 (pc := 15) (v := (9999 : Int64)) hx hb X.1.2.2.2.1 (X.1.2.2.2.2 _ g_1297) dX11_quiet_15 ?_
    obtain ⟨v4, e3, h⟩ := ob h
    refine bz_callS1 (pc := 18) (As := [.long ((a2).toInt64), .long (1 : Int64), .long (9999 : Int64)]) (rest := []) X hM hl.1 k_RX11_57 (ctX11_in l e3) rfl rfl ⟨(Nat.le_of_ble_eq_true rfl), (Nat.le_of_ble_eq_true rfl)⟩ (Nat.le_of_ble_eq_true rfl) ⟨(Nat.le_of_ble_eq_true rfl), (Nat.le_of_ble_eq_true rfl)⟩ dX11_quiet_18 (fun H locs hM => ?_)
    refine lv_if_ne (pc := 21) (tgt := 30) hx hb dX11_quiet_21 (by decide) (fun hc => ?_) (fun hc => ?_)
    · have h := if_f hc h
      refine lv_aload_n (pc := 30) hx hb dX11_quiet_30 rfl (lv_at hl 0 rfl) ?_
      obtain ⟨q5, e6, h⟩ := ob h
      refine bz_getQ (pc := 31) X hM fl_RX11_9 e6 dX11_quiet_31 ?_
      refine lv_iconst (pc := 34) (v := (5 : Int32)) hx hb dX11_quiet_34 (by decide) ?_
      obtain ⟨v7, e8, h⟩ := ob h
      refine bz_iald (pc := 35) X hM e8 dX11_quiet_35 ?_
      refine lv_istore_n (pc := 36) (lv' := [(3, .int v7), (0, .ref (pB P + a0)), (1, .int a1), (2, .int a2)]) hx hb dX11_quiet_36 rfl hl (by decide) rfl (fun ls hl => ?_)
      refine lv_iload_n (pc := 37) hx hb dX11_quiet_37 rfl (lv_at hl 0 rfl) ?_
      refine lv_bipush (pc := 38) (v := (8 : Int32)) hx hb dX11_quiet_38 (by decide) ?_
      refine lv_icmp_ne (pc := 40) (tgt := 49) hx hb dX11_quiet_40 (by decide) (fun hc => ?_) (fun hc => ?_)
      · have h := if_f hc h
        refine lv_aload_n (pc := 49) hx hb dX11_quiet_49 rfl (lv_at hl 1 rfl) ?_
        obtain ⟨q9, e10, h⟩ := ob h
        refine bz_getQ (pc := 50) X hM fl_RX11_9 e10 dX11_quiet_50 ?_
        refine lv_sipush (pc := 53) (v := (382 : Int32)) hx hb dX11_quiet_53 (by decide) ?_
        refine lv_iconst (pc := 56) (v := (2 : Int32)) hx hb dX11_quiet_56 (by decide) ?_
        refine lv_iload_n (pc := 57) hx hb dX11_quiet_57 rfl (lv_at hl 0 rfl) ?_
        refine lv_imul (pc := 58) hx hb dX11_quiet_58 ?_
        refine lv_iadd (pc := 59) hx hb dX11_quiet_59 ?_
        refine lv_iload_n (pc := 60) hx hb dX11_quiet_60 rfl (lv_at hl 2 rfl) ?_
        obtain ⟨M11, e12, h⟩ := ob h
        refine bz_iast (pc := 61) X hM e12 dX11_quiet_61 (fun H locs hM => ?_)
        refine lv_aload_n (pc := 62) hx hb dX11_quiet_62 rfl (lv_at hl 1 rfl) ?_
        obtain ⟨q13, e14, h⟩ := ob h
        refine bz_getQ (pc := 63) X hM fl_RX11_9 e14 dX11_quiet_63 ?_
        refine lv_sipush (pc := 66) (v := (382 : Int32)) hx hb dX11_quiet_66 (by decide) ?_
        refine lv_iconst (pc := 69) (v := (2 : Int32)) hx hb dX11_quiet_69 (by decide) ?_
        refine lv_iload_n (pc := 70) hx hb dX11_quiet_70 rfl (lv_at hl 0 rfl) ?_
        refine lv_imul (pc := 71) hx hb dX11_quiet_71 ?_
        refine lv_iadd (pc := 72) hx hb dX11_quiet_72 ?_
        refine lv_iconst (pc := 73) (v := (1 : Int32)) hx hb dX11_quiet_73 (by decide) ?_
        refine lv_iadd (pc := 74) hx hb dX11_quiet_74 ?_
        refine lv_iload_n (pc := 75) hx hb dX11_quiet_75 rfl (lv_at hl 3 rfl) ?_
        obtain ⟨M15, e16, h⟩ := ob h
        refine bz_iast (pc := 76) X hM e16 dX11_quiet_76 (fun H locs hM => ?_)
        refine lv_aload_n (pc := 77) hx hb dX11_quiet_77 rfl (lv_at hl 1 rfl) ?_
        obtain ⟨q17, e18, h⟩ := ob h
        refine bz_getQ (pc := 78) X hM fl_RX11_9 e18 dX11_quiet_78 ?_
        refine lv_iconst (pc := 81) (v := (5 : Int32)) hx hb dX11_quiet_81 (by decide) ?_
        refine lv_dup2_11 (pc := 82) hx hb dX11_quiet_82 rfl rfl ?_
        obtain ⟨v19, e20, h⟩ := ob h
        refine bz_iald (pc := 83) X hM e20 dX11_quiet_83 ?_
        refine lv_iconst (pc := 84) (v := (1 : Int32)) hx hb dX11_quiet_84 (by decide) ?_
        refine lv_iadd (pc := 85) hx hb dX11_quiet_85 ?_
        obtain ⟨M21, e22, h⟩ := ob h
        refine bz_iast (pc := 86) X hM e22 dX11_quiet_86 (fun H locs hM => ?_)
        refine lv_iload_n (pc := 87) hx hb dX11_quiet_87 rfl (lv_at hl 0 rfl) ?_
        refine lv_iconst (pc := 88) (v := (1 : Int32)) hx hb dX11_quiet_88 (by decide) ?_
        refine lv_iadd (pc := 89) hx hb dX11_quiet_89 ?_
        obtain ⟨rfl, rfl⟩ := so2 h
        exact bz_iret (pc := 90) X hM hr hlk dX11_quiet_90 (Nat.le_of_ble_eq_true rfl) (Nat.le_of_ble_eq_true rfl)
      · have h := if_t hc h
        refine lv_aload_n (pc := 43) hx hb dX11_quiet_43 rfl (lv_at hl 1 rfl) ?_
        refine lv_iconst (pc := 44) (v := (4 : Int32)) hx hb dX11_quiet_44 (by decide) ?_
        obtain ⟨v24, M25, e23, h⟩ := ob2 h
        obtain ⟨fs26, hb27⟩ := (rX11_error e23)
        refine bz_callV1 (pc := 45) (As := [.int (4 : Int32)]) (rest := []) X hM hl.1 k_RX11_73 (ctX11_error l e23) rfl hb27 rfl rfl ⟨(Nat.le_of_ble_eq_true rfl), (Nat.le_of_ble_eq_true rfl)⟩ (Nat.le_of_ble_eq_true rfl) ⟨(Nat.le_of_ble_eq_true rfl), (Nat.le_of_ble_eq_true rfl)⟩ dX11_quiet_45 (fun H locs hM => ?_)
        obtain ⟨rfl, rfl⟩ := so2 h
        exact bz_iret (pc := 48) X hM hr hlk dX11_quiet_48 (Nat.le_of_ble_eq_true rfl) (Nat.le_of_ble_eq_true rfl)
    · have h := if_t hc h
      exact wjX11_quiet_24 hX _ _ h H locs ls hM (lv_sub hl [0] rfl)
theorem rX11_quiet {M : Mm} {a0 : Nat} {a1 : Int32} {a2 : Int32} {r9 : Int32 × Mm} (h : fX11_quiet M a0 a1 a2 = some r9) : ∃ fs, M[a0]? = some (.inr (11, fs)) := by
  unfold fX11_quiet at h
  obtain ⟨_, e1, _⟩ := ob h
  exact gC_spec e1
theorem ctX11_quiet (l : Launch) {P : PT} {M : Mm} {a0 : Nat} {a1 : Int32} {a2 : Int32} {r9 : Int32} {M9 : Mm} (h : fX11_quiet M a0 a1 a2 = some (r9, M9)) : Ct l yX11_quiet cX11_quiet 4 (some .int) 1 0 P [.ref (pB P + a0), .int a1, .int a2] M (some (.int r9)) M9 :=
  Ct.mk (by decide +kernel) (Nat.le_of_ble_eq_true rfl) (fun p e s m args below meth c hX => wX11_quiet hX M a0 a1 a2 h)
set_option maxHeartbeats 4000000 in
set_option maxRecDepth 100000 in
theorem wBX10_bound_17 {p : Program} {l : Launch} {e : Env} {s : State} {m : MethodId} {args : Array Value} {below : List Frame} {meth : Method} {c : Code} {P : PT} {N : Nat} {K17 : Mm → Nat → Int32 → Int32 → Int32 → Option (Int32 × Mm)}  {r9 : Int32} {M9 : Mm} (hX : Cy p s m args c meth cX10_bound 4 RX10 "bound" (some .int) P)  (hK17 : ∀ (M : Mm) (x0 : Nat) (x1 : Int32) (x2 : Int32) (x3 : Int32), K17 M x0 x1 x2 x3 = some (r9, M9) → Wq p l e s m args below meth c 3 0 (some (.int r9)) M9 4 P 0 17 [(0, .ref (pB P + x0)), (1, .int x1), (2, .int x2), (3, .int x3)] [] M) (M : Mm) (x0 : Nat) (x1 : Int32) (x2 : Int32) (x3 : Int32)  (h : BX10_bound_17 N K17 M x0 x1 x2 x3 = some (r9, M9)) : Wq p l e s m args below meth c 3 0 (some (.int r9)) M9 4 P 0 17 [(0, .ref (pB P + x0)), (1, .int x1), (2, .int x2), (3, .int x3)] [] M := by
  unfold BX10_bound_17 at h
  have hX0 := hX
  obtain ⟨X, hr, hlk, hnm⟩ := hX0
  have hx := X.1.1
  have hb := X.1.2.1
  intro H locs ls hM hl
  refine lv_iload_n (pc := 17) hx hb dX10_bound_17 rfl (lv_at hl 3 rfl) ?_
  refine lv_aload_n (pc := 18) hx hb dX10_bound_18 rfl (lv_at hl 0 rfl) ?_
  obtain ⟨q1, e2, h⟩ := ob h
  refine bz_getQ (pc := 19) X hM fl_RX10_10 e2 dX10_bound_19 ?_
  obtain ⟨q3, e4, h⟩ := ob h
  refine bz_getQ (pc := 22) X hM fl_RX10_347 e4 dX10_bound_22 ?_
  obtain ⟨v6, e5, h⟩ := ob h
  obtain ⟨fs7, hb8⟩ := (rX3_size e5)
  refine bz_callV1 (pc := 25) (As := []) (rest := [.int x3]) X hM hl.1 k_RX10_96 (ctX3_size l e5) rfl hb8 rfl rfl ⟨(Nat.le_of_ble_eq_true rfl), (Nat.le_of_ble_eq_true rfl)⟩ (Nat.le_of_ble_eq_true rfl) ⟨(Nat.le_of_ble_eq_true rfl), (Nat.le_of_ble_eq_true rfl)⟩ dX10_bound_25 (fun H locs hM => ?_)
  refine lv_icmp_ge (pc := 28) (tgt := 68) hx hb dX10_bound_28 (by decide) (fun hc => ?_) (fun hc => ?_)
  · have h := if_t hc h
    refine lv_iload_n (pc := 68) hx hb dX10_bound_68 rfl (lv_at hl 2 rfl) ?_
    refine lv_if_ne (pc := 69) (tgt := 78) hx hb dX10_bound_69 (by decide) (fun hc => ?_) (fun hc => ?_)
    · have h := if_f hc h
      refine lv_sipush (pc := 78) (v := (30000 : Int32)) hx hb dX10_bound_78 (by decide) ?_
      refine lv_iload_n (pc := 81) hx hb dX10_bound_81 rfl (lv_at hl 2 rfl) ?_
      obtain ⟨v9, e10, h⟩ := ob h
      refine bz_idiv (pc := 82) hx hb e10 dX10_bound_82 ?_
      obtain ⟨rfl, rfl⟩ := so2 h
      exact bz_iret (pc := 83) X hM hr hlk dX10_bound_83 (Nat.le_of_ble_eq_true rfl) (Nat.le_of_ble_eq_true rfl)
    · have h := if_t hc h
      refine lv_aload_n (pc := 72) hx hb dX10_bound_72 rfl (lv_at hl 0 rfl) ?_
      refine lv_iconst (pc := 73) (v := (2 : Int32)) hx hb dX10_bound_73 (by decide) ?_
      obtain ⟨v12, M13, e11, h⟩ := ob2 h
      obtain ⟨fs14, hb15⟩ := (rX10_error e11)
      refine bz_callV1 (pc := 74) (As := [.int (2 : Int32)]) (rest := []) X hM hl.1 k_RX10_78 (ctX10_error l e11) rfl hb15 rfl rfl ⟨(Nat.le_of_ble_eq_true rfl), (Nat.le_of_ble_eq_true rfl)⟩ (Nat.le_of_ble_eq_true rfl) ⟨(Nat.le_of_ble_eq_true rfl), (Nat.le_of_ble_eq_true rfl)⟩ dX10_bound_74 (fun H locs hM => ?_)
      obtain ⟨rfl, rfl⟩ := so2 h
      exact bz_iret (pc := 77) X hM hr hlk dX10_bound_77 (Nat.le_of_ble_eq_true rfl) (Nat.le_of_ble_eq_true rfl)
  · have h := if_f hc h
    refine lv_aload_n (pc := 31) hx hb dX10_bound_31 rfl (lv_at hl 0 rfl) ?_
    obtain ⟨q16, e17, h⟩ := ob h
    refine bz_getQ (pc := 32) X hM fl_RX10_10 e17 dX10_bound_32 ?_
    obtain ⟨q18, e19, h⟩ := ob h
    refine bz_getQ (pc := 35) X hM fl_RX10_347 e19 dX10_bound_35 ?_
    refine lv_iload_n (pc := 38) hx hb dX10_bound_38 rfl (lv_at hl 3 rfl) ?_
    obtain ⟨v21, e20, h⟩ := ob h
    obtain ⟨fs22, hb23⟩ := (rX3_at e20)
    refine bz_callV1 (pc := 39) (As := [.int x3]) (rest := []) X hM hl.1 k_RX10_121 (ctX3_at l e20) rfl hb23 rfl rfl ⟨(Nat.le_of_ble_eq_true rfl), (Nat.le_of_ble_eq_true rfl)⟩ (Nat.le_of_ble_eq_true rfl) ⟨(Nat.le_of_ble_eq_true rfl), (Nat.le_of_ble_eq_true rfl)⟩ dX10_bound_39 (fun H locs hM => ?_)
    refine lv_iload_n (pc := 42) hx hb dX10_bound_42 rfl (lv_at hl 1 rfl) ?_
    refine lv_icmp_gt (pc := 43) (tgt := 62) hx hb dX10_bound_43 (by decide) (fun hc => ?_) (fun hc => ?_)
    · have h := if_t hc h
      refine lv_iinc (pc := 62) (v := (x3 + (1 : Int32))) (lv' := [(3, .int (x3 + (1 : Int32))), (0, .ref (pB P + x0)), (1, .int x1), (2, .int x2)]) hx hb dX10_bound_62 hl (k := 3) rfl rfl (by decide) rfl (fun ls hl => ?_)
      refine lv_goto (pc := 65) (tgt := 17) hx hb dX10_bound_65 (by decide) ?_
      exact hK17 _ _ _ _ _ h H locs ls hM (lv_sub hl [1, 2, 3, 0] rfl)
    · have h := if_f hc h
      refine lv_iload_n (pc := 46) hx hb dX10_bound_46 rfl (lv_at hl 2 rfl) ?_
      refine lv_aload_n (pc := 47) hx hb dX10_bound_47 rfl (lv_at hl 0 rfl) ?_
      obtain ⟨q24, e25, h⟩ := ob h
      refine bz_getQ (pc := 48) X hM fl_RX10_10 e25 dX10_bound_48 ?_
      obtain ⟨q26, e27, h⟩ := ob h
      refine bz_getQ (pc := 51) X hM fl_RX10_350 e27 dX10_bound_51 ?_
      refine lv_iload_n (pc := 54) hx hb dX10_bound_54 rfl (lv_at hl 3 rfl) ?_
      obtain ⟨v29, e28, h⟩ := ob h
      obtain ⟨fs30, hb31⟩ := (rX3_at e28)
      refine bz_callV1 (pc := 55) (As := [.int x3]) (rest := [.int x2]) X hM hl.1 k_RX10_121 (ctX3_at l e28) rfl hb31 rfl rfl ⟨(Nat.le_of_ble_eq_true rfl), (Nat.le_of_ble_eq_true rfl)⟩ (Nat.le_of_ble_eq_true rfl) ⟨(Nat.le_of_ble_eq_true rfl), (Nat.le_of_ble_eq_true rfl)⟩ dX10_bound_55 (fun H locs hM => ?_)
      obtain ⟨v33, e32, h⟩ := ob h
      refine bz_callS1 (pc := 58) (As := [.int x2, .int v29]) (rest := []) X hM hl.1 k_RX10_353 (ctJ9_max_7cf53 l e32) rfl rfl ⟨(Nat.le_of_ble_eq_true rfl), (Nat.le_of_ble_eq_true rfl)⟩ (Nat.le_of_ble_eq_true rfl) ⟨(Nat.le_of_ble_eq_true rfl), (Nat.le_of_ble_eq_true rfl)⟩ dX10_bound_58 (fun H locs hM => ?_)
      refine lv_istore_n (pc := 61) (lv' := [(2, .int v33), (0, .ref (pB P + x0)), (1, .int x1), (3, .int x3)]) hx hb dX10_bound_61 rfl hl (by decide) rfl (fun ls hl => ?_)
      refine lv_iinc (pc := 62) (v := (x3 + (1 : Int32))) (lv' := [(3, .int (x3 + (1 : Int32))), (2, .int v33), (0, .ref (pB P + x0)), (1, .int x1)]) hx hb dX10_bound_62 hl (k := 3) rfl rfl (by decide) rfl (fun ls hl => ?_)
      refine lv_goto (pc := 65) (tgt := 17) hx hb dX10_bound_65 (by decide) ?_
      exact hK17 _ _ _ _ _ h H locs ls hM (lv_sub hl [2, 3, 1, 0] rfl)
set_option maxHeartbeats 4000000 in
set_option maxRecDepth 100000 in
theorem wLX10_bound_17 {p : Program} {l : Launch} {e : Env} {s : State} {m : MethodId} {args : Array Value} {below : List Frame} {meth : Method} {c : Code} {P : PT} {N : Nat}  {r9 : Int32} {M9 : Mm} (hX : Cy p s m args c meth cX10_bound 4 RX10 "bound" (some .int) P)   : ∀ (n : Nat) (M : Mm) (x0 : Nat) (x1 : Int32) (x2 : Int32) (x3 : Int32) , LX10_bound_17 N n M x0 x1 x2 x3 = some (r9, M9) → Wq p l e s m args below meth c 3 0 (some (.int r9)) M9 4 P 0 17 [(0, .ref (pB P + x0)), (1, .int x1), (2, .int x2), (3, .int x3)] [] M := by
  intro n
  induction n with
  | zero => intro M x0 x1 x2 x3 h; cases h
  | succ n ih => intro M x0 x1 x2 x3 h; exact wBX10_bound_17 hX ih M x0 x1 x2 x3 h
set_option maxHeartbeats 4000000 in
set_option maxRecDepth 100000 in
theorem wX10_bound {p : Program} {l : Launch} {e : Env} {s : State} {m : MethodId} {args : Array Value} {below : List Frame} {meth : Method} {c : Code} {P : PT} {N : Nat}  {r9 : Int32} {M9 : Mm} (hX : Cy p s m args c meth cX10_bound 4 RX10 "bound" (some .int) P)  (M : Mm) (a0 : Nat) (a1 : Int32) (h : fX10_bound N M a0 a1 = some (r9, M9)) : Wq p l e s m args below meth c 3 0 (some (.int r9)) M9 4 P 0 0 [(0, .ref (pB P + a0)), (1, .int a1)] [] M := by
  unfold fX10_bound at h
  obtain ⟨_, _, h⟩ := ob h
  have hX0 := hX
  obtain ⟨X, hr, hlk, hnm⟩ := hX0
  have hx := X.1.1
  have hb := X.1.2.1
  intro H locs ls hM hl
  refine lv_iload_n (pc := 0) hx hb dX10_bound_0 rfl (lv_at hl 1 rfl) ?_
  obtain ⟨v2, e1, h⟩ := ob h
  refine bz_callS1 (pc := 1) (As := [.int a1]) (rest := []) X hM hl.1 k_RX10_106 (ctX10_isHeight l e1) rfl rfl ⟨(Nat.le_of_ble_eq_true rfl), (Nat.le_of_ble_eq_true rfl)⟩ (Nat.le_of_ble_eq_true rfl) ⟨(Nat.le_of_ble_eq_true rfl), (Nat.le_of_ble_eq_true rfl)⟩ dX10_bound_1 (fun H locs hM => ?_)
  refine lv_if_ne (pc := 4) (tgt := 13) hx hb dX10_bound_4 (by decide) (fun hc => ?_) (fun hc => ?_)
  · have h := if_f hc h
    refine lv_iconst (pc := 13) (v := (0 : Int32)) hx hb dX10_bound_13 (by decide) ?_
    refine lv_istore_n (pc := 14) (lv' := [(2, .int (0 : Int32)), (0, .ref (pB P + a0)), (1, .int a1)]) hx hb dX10_bound_14 rfl hl (by decide) rfl (fun ls hl => ?_)
    refine lv_iconst (pc := 15) (v := (0 : Int32)) hx hb dX10_bound_15 (by decide) ?_
    refine lv_istore_n (pc := 16) (lv' := [(3, .int (0 : Int32)), (2, .int (0 : Int32)), (0, .ref (pB P + a0)), (1, .int a1)]) hx hb dX10_bound_16 rfl hl (by decide) rfl (fun ls hl => ?_)
    exact wLX10_bound_17 hX _ _ _ _ _ _ h H locs ls hM (lv_sub hl [2, 3, 1, 0] rfl)
  · have h := if_t hc h
    refine lv_aload_n (pc := 7) hx hb dX10_bound_7 rfl (lv_at hl 0 rfl) ?_
    refine lv_iconst (pc := 8) (v := (1 : Int32)) hx hb dX10_bound_8 (by decide) ?_
    obtain ⟨v4, M5, e3, h⟩ := ob2 h
    obtain ⟨fs6, hb7⟩ := (rX10_error e3)
    refine bz_callV1 (pc := 9) (As := [.int (1 : Int32)]) (rest := []) X hM hl.1 k_RX10_78 (ctX10_error l e3) rfl hb7 rfl rfl ⟨(Nat.le_of_ble_eq_true rfl), (Nat.le_of_ble_eq_true rfl)⟩ (Nat.le_of_ble_eq_true rfl) ⟨(Nat.le_of_ble_eq_true rfl), (Nat.le_of_ble_eq_true rfl)⟩ dX10_bound_9 (fun H locs hM => ?_)
    obtain ⟨rfl, rfl⟩ := so2 h
    exact bz_iret (pc := 12) X hM hr hlk dX10_bound_12 (Nat.le_of_ble_eq_true rfl) (Nat.le_of_ble_eq_true rfl)
theorem rX10_bound {N : Nat} {M : Mm} {a0 : Nat} {a1 : Int32} {r9 : Int32 × Mm} (h : fX10_bound N M a0 a1 = some r9) : ∃ fs, M[a0]? = some (.inr (10, fs)) := by
  unfold fX10_bound at h
  obtain ⟨_, e1, _⟩ := ob h
  exact gC_spec e1
theorem ctX10_bound (l : Launch) {P : PT} {N : Nat} {M : Mm} {a0 : Nat} {a1 : Int32} {r9 : Int32} {M9 : Mm} (h : fX10_bound N M a0 a1 = some (r9, M9)) : Ct l yX10_bound cX10_bound 4 (some .int) 3 0 P [.ref (pB P + a0), .int a1] M (some (.int r9)) M9 :=
  Ct.mk (by decide +kernel) (Nat.le_of_ble_eq_true rfl) (fun p e s m args below meth c hX => wX10_bound hX M a0 a1 h)
set_option maxHeartbeats 4000000 in
set_option maxRecDepth 100000 in
theorem wBX11_bound_22 {p : Program} {l : Launch} {e : Env} {s : State} {m : MethodId} {args : Array Value} {below : List Frame} {meth : Method} {c : Code} {P : PT} {N : Nat} {K22 : Mm → Nat → Int32 → Int32 → Int32 → Option (Int32 × Mm)}  {r9 : Int32} {M9 : Mm} (hX : Cy p s m args c meth cX11_bound 5 RX11 "bound" (some .int) P)  (hK22 : ∀ (M : Mm) (x0 : Nat) (x1 : Int32) (x2 : Int32) (x3 : Int32), K22 M x0 x1 x2 x3 = some (r9, M9) → Wq p l e s m args below meth c 1 0 (some (.int r9)) M9 5 P 0 22 [(0, .ref (pB P + x0)), (1, .int x1), (2, .int x2), (3, .int x3)] [] M) (M : Mm) (x0 : Nat) (x1 : Int32) (x2 : Int32) (x3 : Int32)  (h : BX11_bound_22 N K22 M x0 x1 x2 x3 = some (r9, M9)) : Wq p l e s m args below meth c 1 0 (some (.int r9)) M9 5 P 0 22 [(0, .ref (pB P + x0)), (1, .int x1), (2, .int x2), (3, .int x3)] [] M := by
  unfold BX11_bound_22 at h
  have hX0 := hX
  obtain ⟨X, hr, hlk, hnm⟩ := hX0
  have hx := X.1.1
  have hb := X.1.2.1
  intro H locs ls hM hl
  refine lv_iload_n (pc := 22) hx hb dX11_bound_22 rfl (lv_at hl 3 rfl) ?_
  refine lv_aload_n (pc := 23) hx hb dX11_bound_23 rfl (lv_at hl 0 rfl) ?_
  obtain ⟨q1, e2, h⟩ := ob h
  refine bz_getQ (pc := 24) X hM fl_RX11_9 e2 dX11_bound_24 ?_
  refine lv_iconst (pc := 27) (v := (5 : Int32)) hx hb dX11_bound_27 (by decide) ?_
  obtain ⟨v3, e4, h⟩ := ob h
  refine bz_iald (pc := 28) X hM e4 dX11_bound_28 ?_
  refine lv_icmp_ge (pc := 29) (tgt := 87) hx hb dX11_bound_29 (by decide) (fun hc => ?_) (fun hc => ?_)
  · have h := if_t hc h
    refine lv_iload_n (pc := 87) hx hb dX11_bound_87 rfl (lv_at hl 2 rfl) ?_
    refine lv_if_ge (pc := 88) (tgt := 99) hx hb dX11_bound_88 (by decide) (fun hc => ?_) (fun hc => ?_)
    · have h := if_t hc h
      refine lv_iload_n (pc := 99) hx hb dX11_bound_99 rfl (lv_at hl 2 rfl) ?_
      obtain ⟨rfl, rfl⟩ := so2 h
      exact bz_iret (pc := 100) X hM hr hlk dX11_bound_100 (Nat.le_of_ble_eq_true rfl) (Nat.le_of_ble_eq_true rfl)
    · have h := if_f hc h
      refine lv_aload_n (pc := 91) hx hb dX11_bound_91 rfl (lv_at hl 0 rfl) ?_
      refine lv_iconst (pc := 92) (v := (2 : Int32)) hx hb dX11_bound_92 (by decide) ?_
      obtain ⟨v6, M7, e5, h⟩ := ob2 h
      obtain ⟨fs8, hb9⟩ := (rX11_error e5)
      refine bz_callV1 (pc := 93) (As := [.int (2 : Int32)]) (rest := []) X hM hl.1 k_RX11_73 (ctX11_error l e5) rfl hb9 rfl rfl ⟨(Nat.le_of_ble_eq_true rfl), (Nat.le_of_ble_eq_true rfl)⟩ (Nat.le_of_ble_eq_true rfl) ⟨(Nat.le_of_ble_eq_true rfl), (Nat.le_of_ble_eq_true rfl)⟩ dX11_bound_93 (fun H locs hM => ?_)
      refine lv_goto (pc := 96) (tgt := 100) hx hb dX11_bound_96 (by decide) ?_
      obtain ⟨rfl, rfl⟩ := so2 h
      exact bz_iret (pc := 100) X hM hr hlk dX11_bound_100 (Nat.le_of_ble_eq_true rfl) (Nat.le_of_ble_eq_true rfl)
  · have h := if_f hc h
    refine lv_sipush (pc := 32) (v := (30000 : Int32)) hx hb dX11_bound_32 (by decide) ?_
    refine lv_aload_n (pc := 35) hx hb dX11_bound_35 rfl (lv_at hl 0 rfl) ?_
    obtain ⟨q10, e11, h⟩ := ob h
    refine bz_getQ (pc := 36) X hM fl_RX11_9 e11 dX11_bound_36 ?_
    refine lv_sipush (pc := 39) (v := (382 : Int32)) hx hb dX11_bound_39 (by decide) ?_
    refine lv_iconst (pc := 42) (v := (2 : Int32)) hx hb dX11_bound_42 (by decide) ?_
    refine lv_iload_n (pc := 43) hx hb dX11_bound_43 rfl (lv_at hl 3 rfl) ?_
    refine lv_imul (pc := 44) hx hb dX11_bound_44 ?_
    refine lv_iadd (pc := 45) hx hb dX11_bound_45 ?_
    refine lv_iconst (pc := 46) (v := (1 : Int32)) hx hb dX11_bound_46 (by decide) ?_
    refine lv_iadd (pc := 47) hx hb dX11_bound_47 ?_
    obtain ⟨v12, e13, h⟩ := ob h
    refine bz_iald (pc := 48) X hM e13 dX11_bound_48 ?_
    obtain ⟨v14, e15, h⟩ := ob h
    refine bz_idiv (pc := 49) hx hb e15 dX11_bound_49 ?_
    refine lv_istore (pc := 50) (lv' := [(4, .int v14), (0, .ref (pB P + x0)), (1, .int x1), (2, .int x2), (3, .int x3)]) hx hb dX11_bound_50 hl (by decide) rfl (fun ls hl => ?_)
    refine lv_aload_n (pc := 52) hx hb dX11_bound_52 rfl (lv_at hl 1 rfl) ?_
    obtain ⟨q16, e17, h⟩ := ob h
    refine bz_getQ (pc := 53) X hM fl_RX11_9 e17 dX11_bound_53 ?_
    refine lv_sipush (pc := 56) (v := (382 : Int32)) hx hb dX11_bound_56 (by decide) ?_
    refine lv_iconst (pc := 59) (v := (2 : Int32)) hx hb dX11_bound_59 (by decide) ?_
    refine lv_iload_n (pc := 60) hx hb dX11_bound_60 rfl (lv_at hl 4 rfl) ?_
    refine lv_imul (pc := 61) hx hb dX11_bound_61 ?_
    refine lv_iadd (pc := 62) hx hb dX11_bound_62 ?_
    obtain ⟨v18, e19, h⟩ := ob h
    refine bz_iald (pc := 63) X hM e19 dX11_bound_63 ?_
    refine lv_iload_n (pc := 64) hx hb dX11_bound_64 rfl (lv_at hl 2 rfl) ?_
    refine lv_icmp_gt (pc := 65) (tgt := 81) hx hb dX11_bound_65 (by decide) (fun hc => ?_) (fun hc => ?_)
    · have h := if_t hc h
      refine lv_iinc (pc := 81) (v := (x3 + (1 : Int32))) (lv' := [(3, .int (x3 + (1 : Int32))), (4, .int v14), (0, .ref (pB P + x0)), (1, .int x1), (2, .int x2)]) hx hb dX11_bound_81 hl (k := 4) rfl rfl (by decide) rfl (fun ls hl => ?_)
      refine lv_goto (pc := 84) (tgt := 22) hx hb dX11_bound_84 (by decide) ?_
      exact hK22 _ _ _ _ _ h H locs ls hM (lv_sub hl [2, 3, 4, 0] rfl)
    · have h := if_f hc h
      refine lv_iload_n (pc := 68) hx hb dX11_bound_68 rfl (lv_at hl 3 rfl) ?_
      refine lv_if_lt (pc := 69) (tgt := 78) hx hb dX11_bound_69 (by decide) (fun hc => ?_) (fun hc => ?_)
      · have h := if_t hc h
        refine lv_iload (pc := 78) hx hb dX11_bound_78 (lv_at hl 0 rfl) ?_
        refine lv_istore_n (pc := 80) (lv' := [(2, .int v14), (4, .int v14), (0, .ref (pB P + x0)), (1, .int x1), (3, .int x3)]) hx hb dX11_bound_80 rfl hl (by decide) rfl (fun ls hl => ?_)
        refine lv_iinc (pc := 81) (v := (x3 + (1 : Int32))) (lv' := [(3, .int (x3 + (1 : Int32))), (2, .int v14), (4, .int v14), (0, .ref (pB P + x0)), (1, .int x1)]) hx hb dX11_bound_81 hl (k := 4) rfl rfl (by decide) rfl (fun ls hl => ?_)
        refine lv_goto (pc := 84) (tgt := 22) hx hb dX11_bound_84 (by decide) ?_
        exact hK22 _ _ _ _ _ h H locs ls hM (lv_sub hl [3, 4, 1, 0] rfl)
      · have h := if_f hc h
        refine lv_iload (pc := 72) hx hb dX11_bound_72 (lv_at hl 0 rfl) ?_
        refine lv_iload_n (pc := 74) hx hb dX11_bound_74 rfl (lv_at hl 3 rfl) ?_
        refine lv_icmp_ge (pc := 75) (tgt := 81) hx hb dX11_bound_75 (by decide) (fun hc => ?_) (fun hc => ?_)
        · have h := if_t hc h
          refine lv_iinc (pc := 81) (v := (x3 + (1 : Int32))) (lv' := [(3, .int (x3 + (1 : Int32))), (4, .int v14), (0, .ref (pB P + x0)), (1, .int x1), (2, .int x2)]) hx hb dX11_bound_81 hl (k := 4) rfl rfl (by decide) rfl (fun ls hl => ?_)
          refine lv_goto (pc := 84) (tgt := 22) hx hb dX11_bound_84 (by decide) ?_
          exact hK22 _ _ _ _ _ h H locs ls hM (lv_sub hl [2, 3, 4, 0] rfl)
        · have h := if_f hc h
          refine lv_iload (pc := 78) hx hb dX11_bound_78 (lv_at hl 0 rfl) ?_
          refine lv_istore_n (pc := 80) (lv' := [(2, .int v14), (4, .int v14), (0, .ref (pB P + x0)), (1, .int x1), (3, .int x3)]) hx hb dX11_bound_80 rfl hl (by decide) rfl (fun ls hl => ?_)
          refine lv_iinc (pc := 81) (v := (x3 + (1 : Int32))) (lv' := [(3, .int (x3 + (1 : Int32))), (2, .int v14), (4, .int v14), (0, .ref (pB P + x0)), (1, .int x1)]) hx hb dX11_bound_81 hl (k := 4) rfl rfl (by decide) rfl (fun ls hl => ?_)
          refine lv_goto (pc := 84) (tgt := 22) hx hb dX11_bound_84 (by decide) ?_
          exact hK22 _ _ _ _ _ h H locs ls hM (lv_sub hl [3, 4, 1, 0] rfl)
set_option maxHeartbeats 4000000 in
set_option maxRecDepth 100000 in
theorem wLX11_bound_22 {p : Program} {l : Launch} {e : Env} {s : State} {m : MethodId} {args : Array Value} {below : List Frame} {meth : Method} {c : Code} {P : PT} {N : Nat}  {r9 : Int32} {M9 : Mm} (hX : Cy p s m args c meth cX11_bound 5 RX11 "bound" (some .int) P)   : ∀ (n : Nat) (M : Mm) (x0 : Nat) (x1 : Int32) (x2 : Int32) (x3 : Int32) , LX11_bound_22 N n M x0 x1 x2 x3 = some (r9, M9) → Wq p l e s m args below meth c 1 0 (some (.int r9)) M9 5 P 0 22 [(0, .ref (pB P + x0)), (1, .int x1), (2, .int x2), (3, .int x3)] [] M := by
  intro n
  induction n with
  | zero => intro M x0 x1 x2 x3 h; cases h
  | succ n ih => intro M x0 x1 x2 x3 h; exact wBX11_bound_22 hX ih M x0 x1 x2 x3 h
set_option maxHeartbeats 4000000 in
set_option maxRecDepth 100000 in
theorem wX11_bound {p : Program} {l : Launch} {e : Env} {s : State} {m : MethodId} {args : Array Value} {below : List Frame} {meth : Method} {c : Code} {P : PT} {N : Nat}  {r9 : Int32} {M9 : Mm} (hX : Cy p s m args c meth cX11_bound 5 RX11 "bound" (some .int) P)  (M : Mm) (a0 : Nat) (a1 : Int32) (h : fX11_bound N M a0 a1 = some (r9, M9)) : Wq p l e s m args below meth c 1 0 (some (.int r9)) M9 5 P 0 0 [(0, .ref (pB P + a0)), (1, .int a1)] [] M := by
  unfold fX11_bound at h
  obtain ⟨_, _, h⟩ := ob h
  have hX0 := hX
  obtain ⟨X, hr, hlk, hnm⟩ := hX0
  have hx := X.1.1
  have hb := X.1.2.1
  intro H locs ls hM hl
  refine lv_iload_n (pc := 0) hx hb dX11_bound_0 rfl (lv_at hl 1 rfl) ?_
  refine lv_i2l (pc := 1) (v := ((a1).toInt64)) hx hb dX11_bound_1 rfl ?_
  refine lv_lconst (pc := 2) (v := (1 : Int64)) hx hb dX11_bound_2 (by decide) ?_
  refine lv_ldc2 (pc := 3) (v := (999 : Int64)) hx hb X.1.2.2.2.1 (X.1.2.2.2.2 _ g_1276) dX11_bound_3 ?_
  obtain ⟨v2, e1, h⟩ := ob h
  refine bz_callS1 (pc := 6) (As := [.long ((a1).toInt64), .long (1 : Int64), .long (999 : Int64)]) (rest := []) X hM hl.1 k_RX11_57 (ctX11_in l e1) rfl rfl ⟨(Nat.le_of_ble_eq_true rfl), (Nat.le_of_ble_eq_true rfl)⟩ (Nat.le_of_ble_eq_true rfl) ⟨(Nat.le_of_ble_eq_true rfl), (Nat.le_of_ble_eq_true rfl)⟩ dX11_bound_6 (fun H locs hM => ?_)
  refine lv_if_ne (pc := 9) (tgt := 18) hx hb dX11_bound_9 (by decide) (fun hc => ?_) (fun hc => ?_)
  · have h := if_f hc h
    refine lv_iconst (pc := 18) (v := (-1 : Int32)) hx hb dX11_bound_18 (by decide) ?_
    refine lv_istore_n (pc := 19) (lv' := [(2, .int (-1 : Int32)), (0, .ref (pB P + a0)), (1, .int a1)]) hx hb dX11_bound_19 rfl hl (by decide) rfl (fun ls hl => ?_)
    refine lv_iconst (pc := 20) (v := (0 : Int32)) hx hb dX11_bound_20 (by decide) ?_
    refine lv_istore_n (pc := 21) (lv' := [(3, .int (0 : Int32)), (2, .int (-1 : Int32)), (0, .ref (pB P + a0)), (1, .int a1)]) hx hb dX11_bound_21 rfl hl (by decide) rfl (fun ls hl => ?_)
    exact wLX11_bound_22 hX _ _ _ _ _ _ h H locs ls hM (lv_sub hl [2, 3, 1, 0] rfl)
  · have h := if_t hc h
    refine lv_aload_n (pc := 12) hx hb dX11_bound_12 rfl (lv_at hl 0 rfl) ?_
    refine lv_iconst (pc := 13) (v := (1 : Int32)) hx hb dX11_bound_13 (by decide) ?_
    obtain ⟨v4, M5, e3, h⟩ := ob2 h
    obtain ⟨fs6, hb7⟩ := (rX11_error e3)
    refine bz_callV1 (pc := 14) (As := [.int (1 : Int32)]) (rest := []) X hM hl.1 k_RX11_73 (ctX11_error l e3) rfl hb7 rfl rfl ⟨(Nat.le_of_ble_eq_true rfl), (Nat.le_of_ble_eq_true rfl)⟩ (Nat.le_of_ble_eq_true rfl) ⟨(Nat.le_of_ble_eq_true rfl), (Nat.le_of_ble_eq_true rfl)⟩ dX11_bound_14 (fun H locs hM => ?_)
    obtain ⟨rfl, rfl⟩ := so2 h
    exact bz_iret (pc := 17) X hM hr hlk dX11_bound_17 (Nat.le_of_ble_eq_true rfl) (Nat.le_of_ble_eq_true rfl)
theorem rX11_bound {N : Nat} {M : Mm} {a0 : Nat} {a1 : Int32} {r9 : Int32 × Mm} (h : fX11_bound N M a0 a1 = some r9) : ∃ fs, M[a0]? = some (.inr (11, fs)) := by
  unfold fX11_bound at h
  obtain ⟨_, e1, _⟩ := ob h
  exact gC_spec e1
theorem ctX11_bound (l : Launch) {P : PT} {N : Nat} {M : Mm} {a0 : Nat} {a1 : Int32} {r9 : Int32} {M9 : Mm} (h : fX11_bound N M a0 a1 = some (r9, M9)) : Ct l yX11_bound cX11_bound 5 (some .int) 1 0 P [.ref (pB P + a0), .int a1] M (some (.int r9)) M9 :=
  Ct.mk (by decide +kernel) (Nat.le_of_ble_eq_true rfl) (fun p e s m args below meth c hX => wX11_bound hX M a0 a1 h)
set_option maxHeartbeats 4000000 in
set_option maxRecDepth 100000 in
theorem wBX10_gone_55 {p : Program} {l : Launch} {e : Env} {s : State} {m : MethodId} {args : Array Value} {below : List Frame} {meth : Method} {c : Code} {P : PT} {N : Nat} {K44 : Mm → Nat → Int32 → Int32 → Int32 → Int32 → Int32 → Option (Int32 × Mm)} {K55 : Mm → Nat → Int32 → Int32 → Int32 → Int32 → Int32 → Int32 → Option (Int32 × Mm)}  {r9 : Int32} {M9 : Mm} (hX : Cy p s m args c meth cX10_gone 7 RX10 "gone" (some .int) P)  (hK44 : ∀ (M : Mm) (x0 : Nat) (x1 : Int32) (x2 : Int32) (x3 : Int32) (x4 : Int32) (x5 : Int32), K44 M x0 x1 x2 x3 x4 x5 = some (r9, M9) → Wq p l e s m args below meth c 3 0 (some (.int r9)) M9 7 P 0 44 [(0, .ref (pB P + x0)), (1, .int x1), (2, .int x2), (3, .int x3), (4, .int x4), (5, .int x5)] [] M) (hK55 : ∀ (M : Mm) (x0 : Nat) (x1 : Int32) (x2 : Int32) (x3 : Int32) (x4 : Int32) (x5 : Int32) (x6 : Int32), K55 M x0 x1 x2 x3 x4 x5 x6 = some (r9, M9) → Wq p l e s m args below meth c 3 0 (some (.int r9)) M9 7 P 0 55 [(0, .ref (pB P + x0)), (1, .int x1), (2, .int x2), (3, .int x3), (4, .int x4), (5, .int x5), (6, .int x6)] [] M) (M : Mm) (x0 : Nat) (x1 : Int32) (x2 : Int32) (x3 : Int32) (x4 : Int32) (x5 : Int32) (x6 : Int32)  (h : BX10_gone_55 N K44 K55 M x0 x1 x2 x3 x4 x5 x6 = some (r9, M9)) : Wq p l e s m args below meth c 3 0 (some (.int r9)) M9 7 P 0 55 [(0, .ref (pB P + x0)), (1, .int x1), (2, .int x2), (3, .int x3), (4, .int x4), (5, .int x5), (6, .int x6)] [] M := by
  unfold BX10_gone_55 at h
  have hX0 := hX
  obtain ⟨X, hr, hlk, hnm⟩ := hX0
  have hx := X.1.1
  have hb := X.1.2.1
  intro H locs ls hM hl
  refine lv_iload (pc := 55) hx hb dX10_gone_55 (lv_at hl 6 rfl) ?_
  refine lv_iload_n (pc := 57) hx hb dX10_gone_57 rfl (lv_at hl 3 rfl) ?_
  refine lv_icmp_ge (pc := 58) (tgt := 84) hx hb dX10_gone_58 (by decide) (fun hc => ?_) (fun hc => ?_)
  · have h := if_t hc h
    refine lv_iconst (pc := 84) (v := (2 : Int32)) hx hb dX10_gone_84 (by decide) ?_
    refine lv_iload (pc := 85) hx hb dX10_gone_85 (lv_at hl 4 rfl) ?_
    refine lv_imul (pc := 87) hx hb dX10_gone_87 ?_
    refine lv_iload_n (pc := 88) hx hb dX10_gone_88 rfl (lv_at hl 1 rfl) ?_
    refine lv_icmp_ge (pc := 89) (tgt := 95) hx hb dX10_gone_89 (by decide) (fun hc => ?_) (fun hc => ?_)
    · have h := if_t hc h
      refine lv_iinc (pc := 95) (v := (x5 + (1 : Int32))) (lv' := [(5, .int (x5 + (1 : Int32))), (0, .ref (pB P + x0)), (1, .int x1), (2, .int x2), (3, .int x3), (4, .int x4), (6, .int x6)]) hx hb dX10_gone_95 hl (k := 5) rfl rfl (by decide) rfl (fun ls hl => ?_)
      refine lv_goto (pc := 98) (tgt := 44) hx hb dX10_gone_98 (by decide) ?_
      exact hK44 _ _ _ _ _ _ _ h H locs ls hM (lv_sub hl [1, 2, 3, 4, 5, 0] rfl)
    · have h := if_f hc h
      refine lv_iload (pc := 92) hx hb dX10_gone_92 (lv_at hl 5 rfl) ?_
      obtain ⟨rfl, rfl⟩ := so2 h
      exact bz_iret (pc := 94) X hM hr hlk dX10_gone_94 (Nat.le_of_ble_eq_true rfl) (Nat.le_of_ble_eq_true rfl)
  · have h := if_f hc h
    refine lv_iload (pc := 61) hx hb dX10_gone_61 (lv_at hl 4 rfl) ?_
    refine lv_iload (pc := 63) hx hb dX10_gone_63 (lv_at hl 4 rfl) ?_
    refine lv_iload_n (pc := 65) hx hb dX10_gone_65 rfl (lv_at hl 2 rfl) ?_
    refine lv_imul (pc := 66) hx hb dX10_gone_66 ?_
    refine lv_sipush (pc := 67) (v := (999 : Int32)) hx hb dX10_gone_67 (by decide) ?_
    refine lv_iadd (pc := 70) hx hb dX10_gone_70 ?_
    refine lv_sipush (pc := 71) (v := (1000 : Int32)) hx hb dX10_gone_71 (by decide) ?_
    refine lv_idiv (pc := 74) hx hb dX10_gone_74 (by decide) ?_
    refine lv_isub (pc := 75) hx hb dX10_gone_75 ?_
    refine lv_istore (pc := 76) (lv' := [(4, .int (x4 - (((x4 * x2) + (999 : Int32)) / (1000 : Int32)))), (0, .ref (pB P + x0)), (1, .int x1), (2, .int x2), (3, .int x3), (5, .int x5), (6, .int x6)]) hx hb dX10_gone_76 hl (by decide) rfl (fun ls hl => ?_)
    refine lv_iinc (pc := 78) (v := (x6 + (1 : Int32))) (lv' := [(6, .int (x6 + (1 : Int32))), (4, .int (x4 - (((x4 * x2) + (999 : Int32)) / (1000 : Int32)))), (0, .ref (pB P + x0)), (1, .int x1), (2, .int x2), (3, .int x3), (5, .int x5)]) hx hb dX10_gone_78 hl (k := 6) rfl rfl (by decide) rfl (fun ls hl => ?_)
    refine lv_goto (pc := 81) (tgt := 55) hx hb dX10_gone_81 (by decide) ?_
    exact hK55 _ _ _ _ _ _ _ _ h H locs ls hM (lv_sub hl [2, 3, 4, 5, 1, 6, 0] rfl)
set_option maxHeartbeats 4000000 in
set_option maxRecDepth 100000 in
theorem wLX10_gone_55 {p : Program} {l : Launch} {e : Env} {s : State} {m : MethodId} {args : Array Value} {below : List Frame} {meth : Method} {c : Code} {P : PT} {N : Nat} {K44 : Mm → Nat → Int32 → Int32 → Int32 → Int32 → Int32 → Option (Int32 × Mm)}  {r9 : Int32} {M9 : Mm} (hX : Cy p s m args c meth cX10_gone 7 RX10 "gone" (some .int) P)  (hK44 : ∀ (M : Mm) (x0 : Nat) (x1 : Int32) (x2 : Int32) (x3 : Int32) (x4 : Int32) (x5 : Int32), K44 M x0 x1 x2 x3 x4 x5 = some (r9, M9) → Wq p l e s m args below meth c 3 0 (some (.int r9)) M9 7 P 0 44 [(0, .ref (pB P + x0)), (1, .int x1), (2, .int x2), (3, .int x3), (4, .int x4), (5, .int x5)] [] M) : ∀ (n : Nat) (M : Mm) (x0 : Nat) (x1 : Int32) (x2 : Int32) (x3 : Int32) (x4 : Int32) (x5 : Int32) (x6 : Int32) , LX10_gone_55 N K44 n M x0 x1 x2 x3 x4 x5 x6 = some (r9, M9) → Wq p l e s m args below meth c 3 0 (some (.int r9)) M9 7 P 0 55 [(0, .ref (pB P + x0)), (1, .int x1), (2, .int x2), (3, .int x3), (4, .int x4), (5, .int x5), (6, .int x6)] [] M := by
  intro n
  induction n with
  | zero => intro M x0 x1 x2 x3 x4 x5 x6 h; cases h
  | succ n ih => intro M x0 x1 x2 x3 x4 x5 x6 h; exact wBX10_gone_55 hX hK44 ih M x0 x1 x2 x3 x4 x5 x6 h
set_option maxHeartbeats 4000000 in
set_option maxRecDepth 100000 in
theorem wBX10_gone_44 {p : Program} {l : Launch} {e : Env} {s : State} {m : MethodId} {args : Array Value} {below : List Frame} {meth : Method} {c : Code} {P : PT} {N : Nat} {K44 : Mm → Nat → Int32 → Int32 → Int32 → Int32 → Int32 → Option (Int32 × Mm)}  {r9 : Int32} {M9 : Mm} (hX : Cy p s m args c meth cX10_gone 7 RX10 "gone" (some .int) P)  (hK44 : ∀ (M : Mm) (x0 : Nat) (x1 : Int32) (x2 : Int32) (x3 : Int32) (x4 : Int32) (x5 : Int32), K44 M x0 x1 x2 x3 x4 x5 = some (r9, M9) → Wq p l e s m args below meth c 3 0 (some (.int r9)) M9 7 P 0 44 [(0, .ref (pB P + x0)), (1, .int x1), (2, .int x2), (3, .int x3), (4, .int x4), (5, .int x5)] [] M) (M : Mm) (x0 : Nat) (x1 : Int32) (x2 : Int32) (x3 : Int32) (x4 : Int32) (x5 : Int32)  (h : BX10_gone_44 N K44 M x0 x1 x2 x3 x4 x5 = some (r9, M9)) : Wq p l e s m args below meth c 3 0 (some (.int r9)) M9 7 P 0 44 [(0, .ref (pB P + x0)), (1, .int x1), (2, .int x2), (3, .int x3), (4, .int x4), (5, .int x5)] [] M := by
  unfold BX10_gone_44 at h
  have hX0 := hX
  obtain ⟨X, hr, hlk, hnm⟩ := hX0
  have hx := X.1.1
  have hb := X.1.2.1
  intro H locs ls hM hl
  refine lv_iload (pc := 44) hx hb dX10_gone_44 (lv_at hl 5 rfl) ?_
  refine lv_sipush (pc := 46) (v := (999 : Int32)) hx hb dX10_gone_46 (by decide) ?_
  refine lv_icmp_gt (pc := 49) (tgt := 101) hx hb dX10_gone_49 (by decide) (fun hc => ?_) (fun hc => ?_)
  · have h := if_t hc h
    refine lv_aload_n (pc := 101) hx hb dX10_gone_101 rfl (lv_at hl 0 rfl) ?_
    refine lv_iconst (pc := 102) (v := (2 : Int32)) hx hb dX10_gone_102 (by decide) ?_
    obtain ⟨v2, M3, e1, h⟩ := ob2 h
    obtain ⟨fs4, hb5⟩ := (rX10_error e1)
    refine bz_callV1 (pc := 103) (As := [.int (2 : Int32)]) (rest := []) X hM hl.1 k_RX10_78 (ctX10_error l e1) rfl hb5 rfl rfl ⟨(Nat.le_of_ble_eq_true rfl), (Nat.le_of_ble_eq_true rfl)⟩ (Nat.le_of_ble_eq_true rfl) ⟨(Nat.le_of_ble_eq_true rfl), (Nat.le_of_ble_eq_true rfl)⟩ dX10_gone_103 (fun H locs hM => ?_)
    obtain ⟨rfl, rfl⟩ := so2 h
    exact bz_iret (pc := 106) X hM hr hlk dX10_gone_106 (Nat.le_of_ble_eq_true rfl) (Nat.le_of_ble_eq_true rfl)
  · have h := if_f hc h
    refine lv_iconst (pc := 52) (v := (0 : Int32)) hx hb dX10_gone_52 (by decide) ?_
    refine lv_istore (pc := 53) (lv' := [(6, .int (0 : Int32)), (0, .ref (pB P + x0)), (1, .int x1), (2, .int x2), (3, .int x3), (4, .int x4), (5, .int x5)]) hx hb dX10_gone_53 hl (by decide) rfl (fun ls hl => ?_)
    exact wLX10_gone_55 hX hK44 _ _ _ _ _ _ _ _ _ h H locs ls hM (lv_sub hl [1, 2, 3, 4, 5, 6, 0] rfl)
set_option maxHeartbeats 4000000 in
set_option maxRecDepth 100000 in
theorem wLX10_gone_44 {p : Program} {l : Launch} {e : Env} {s : State} {m : MethodId} {args : Array Value} {below : List Frame} {meth : Method} {c : Code} {P : PT} {N : Nat}  {r9 : Int32} {M9 : Mm} (hX : Cy p s m args c meth cX10_gone 7 RX10 "gone" (some .int) P)   : ∀ (n : Nat) (M : Mm) (x0 : Nat) (x1 : Int32) (x2 : Int32) (x3 : Int32) (x4 : Int32) (x5 : Int32) , LX10_gone_44 N n M x0 x1 x2 x3 x4 x5 = some (r9, M9) → Wq p l e s m args below meth c 3 0 (some (.int r9)) M9 7 P 0 44 [(0, .ref (pB P + x0)), (1, .int x1), (2, .int x2), (3, .int x3), (4, .int x4), (5, .int x5)] [] M := by
  intro n
  induction n with
  | zero => intro M x0 x1 x2 x3 x4 x5 h; cases h
  | succ n ih => intro M x0 x1 x2 x3 x4 x5 h; exact wBX10_gone_44 hX ih M x0 x1 x2 x3 x4 x5 h
set_option maxHeartbeats 4000000 in
set_option maxRecDepth 100000 in
theorem wjX10_gone_32 {p : Program} {l : Launch} {e : Env} {s : State} {m : MethodId} {args : Array Value} {below : List Frame} {meth : Method} {c : Code} {P : PT} {N : Nat}  {r9 : Int32} {M9 : Mm} (hX : Cy p s m args c meth cX10_gone 7 RX10 "gone" (some .int) P)   (M : Mm) (x0 : Nat)  (h : jX10_gone_32 N M x0 = some (r9, M9)) : Wq p l e s m args below meth c 3 0 (some (.int r9)) M9 7 P 0 32 [(0, .ref (pB P + x0))] [] M := by
  unfold jX10_gone_32 at h
  have hX0 := hX
  obtain ⟨X, hr, hlk, hnm⟩ := hX0
  have hx := X.1.1
  have hb := X.1.2.1
  intro H locs ls hM hl
  refine lv_aload_n (pc := 32) hx hb dX10_gone_32 rfl (lv_at hl 0 rfl) ?_
  refine lv_iconst (pc := 33) (v := (1 : Int32)) hx hb dX10_gone_33 (by decide) ?_
  obtain ⟨v2, M3, e1, h⟩ := ob2 h
  obtain ⟨fs4, hb5⟩ := (rX10_error e1)
  refine bz_callV1 (pc := 34) (As := [.int (1 : Int32)]) (rest := []) X hM hl.1 k_RX10_78 (ctX10_error l e1) rfl hb5 rfl rfl ⟨(Nat.le_of_ble_eq_true rfl), (Nat.le_of_ble_eq_true rfl)⟩ (Nat.le_of_ble_eq_true rfl) ⟨(Nat.le_of_ble_eq_true rfl), (Nat.le_of_ble_eq_true rfl)⟩ dX10_gone_34 (fun H locs hM => ?_)
  obtain ⟨rfl, rfl⟩ := so2 h
  exact bz_iret (pc := 37) X hM hr hlk dX10_gone_37 (Nat.le_of_ble_eq_true rfl) (Nat.le_of_ble_eq_true rfl)
set_option maxHeartbeats 4000000 in
set_option maxRecDepth 100000 in
theorem wX10_gone {p : Program} {l : Launch} {e : Env} {s : State} {m : MethodId} {args : Array Value} {below : List Frame} {meth : Method} {c : Code} {P : PT} {N : Nat}  {r9 : Int32} {M9 : Mm} (hX : Cy p s m args c meth cX10_gone 7 RX10 "gone" (some .int) P)  (M : Mm) (a0 : Nat) (a1 : Int32) (a2 : Int32) (a3 : Int32) (h : fX10_gone N M a0 a1 a2 a3 = some (r9, M9)) : Wq p l e s m args below meth c 3 0 (some (.int r9)) M9 7 P 0 0 [(0, .ref (pB P + a0)), (1, .int a1), (2, .int a2), (3, .int a3)] [] M := by
  unfold fX10_gone at h
  obtain ⟨_, _, h⟩ := ob h
  have hX0 := hX
  obtain ⟨X, hr, hlk, hnm⟩ := hX0
  have hx := X.1.1
  have hb := X.1.2.1
  intro H locs ls hM hl
  refine lv_iload_n (pc := 0) hx hb dX10_gone_0 rfl (lv_at hl 1 rfl) ?_
  refine lv_iconst (pc := 1) (v := (1 : Int32)) hx hb dX10_gone_1 (by decide) ?_
  refine lv_ldcw (pc := 2) (v := (99999 : Int32)) hx hb X.1.2.2.2.1 (X.1.2.2.2.2 _ g_1062) dX10_gone_2 ?_
  obtain ⟨v2, e1, h⟩ := ob h
  refine bz_callS1 (pc := 5) (As := [.int a1, .int (1 : Int32), .int (99999 : Int32)]) (rest := []) X hM hl.1 k_RX10_74 (ctX10_within l e1) rfl rfl ⟨(Nat.le_of_ble_eq_true rfl), (Nat.le_of_ble_eq_true rfl)⟩ (Nat.le_of_ble_eq_true rfl) ⟨(Nat.le_of_ble_eq_true rfl), (Nat.le_of_ble_eq_true rfl)⟩ dX10_gone_5 (fun H locs hM => ?_)
  refine lv_if_eq (pc := 8) (tgt := 32) hx hb dX10_gone_8 (by decide) (fun hc => ?_) (fun hc => ?_)
  · have h := if_t hc h
    exact wjX10_gone_32 hX _ _ h H locs ls hM (lv_sub hl [0] rfl)
  · have h := if_f hc h
    refine lv_iload_n (pc := 11) hx hb dX10_gone_11 rfl (lv_at hl 2 rfl) ?_
    refine lv_iconst (pc := 12) (v := (1 : Int32)) hx hb dX10_gone_12 (by decide) ?_
    refine lv_sipush (pc := 13) (v := (999 : Int32)) hx hb dX10_gone_13 (by decide) ?_
    obtain ⟨v4, e3, h⟩ := ob h
    refine bz_callS1 (pc := 16) (As := [.int a2, .int (1 : Int32), .int (999 : Int32)]) (rest := []) X hM hl.1 k_RX10_74 (ctX10_within l e3) rfl rfl ⟨(Nat.le_of_ble_eq_true rfl), (Nat.le_of_ble_eq_true rfl)⟩ (Nat.le_of_ble_eq_true rfl) ⟨(Nat.le_of_ble_eq_true rfl), (Nat.le_of_ble_eq_true rfl)⟩ dX10_gone_16 (fun H locs hM => ?_)
    refine lv_if_eq (pc := 19) (tgt := 32) hx hb dX10_gone_19 (by decide) (fun hc => ?_) (fun hc => ?_)
    · have h := if_t hc h
      exact wjX10_gone_32 hX _ _ h H locs ls hM (lv_sub hl [0] rfl)
    · have h := if_f hc h
      refine lv_iload_n (pc := 22) hx hb dX10_gone_22 rfl (lv_at hl 3 rfl) ?_
      refine lv_iconst (pc := 23) (v := (1 : Int32)) hx hb dX10_gone_23 (by decide) ?_
      refine lv_bipush (pc := 24) (v := (9 : Int32)) hx hb dX10_gone_24 (by decide) ?_
      obtain ⟨v6, e5, h⟩ := ob h
      refine bz_callS1 (pc := 26) (As := [.int a3, .int (1 : Int32), .int (9 : Int32)]) (rest := []) X hM hl.1 k_RX10_74 (ctX10_within l e5) rfl rfl ⟨(Nat.le_of_ble_eq_true rfl), (Nat.le_of_ble_eq_true rfl)⟩ (Nat.le_of_ble_eq_true rfl) ⟨(Nat.le_of_ble_eq_true rfl), (Nat.le_of_ble_eq_true rfl)⟩ dX10_gone_26 (fun H locs hM => ?_)
      refine lv_if_ne (pc := 29) (tgt := 38) hx hb dX10_gone_29 (by decide) (fun hc => ?_) (fun hc => ?_)
      · have h := if_f hc h
        refine lv_iload_n (pc := 38) hx hb dX10_gone_38 rfl (lv_at hl 1 rfl) ?_
        refine lv_istore (pc := 39) (lv' := [(4, .int a1), (0, .ref (pB P + a0)), (1, .int a1), (2, .int a2), (3, .int a3)]) hx hb dX10_gone_39 hl (by decide) rfl (fun ls hl => ?_)
        refine lv_iconst (pc := 41) (v := (1 : Int32)) hx hb dX10_gone_41 (by decide) ?_
        refine lv_istore (pc := 42) (lv' := [(5, .int (1 : Int32)), (4, .int a1), (0, .ref (pB P + a0)), (1, .int a1), (2, .int a2), (3, .int a3)]) hx hb dX10_gone_42 hl (by decide) rfl (fun ls hl => ?_)
        exact wLX10_gone_44 hX _ _ _ _ _ _ _ _ h H locs ls hM (lv_sub hl [2, 3, 4, 5, 1, 0] rfl)
      · have h := if_t hc h
        exact wjX10_gone_32 hX _ _ h H locs ls hM (lv_sub hl [0] rfl)
theorem rX10_gone {N : Nat} {M : Mm} {a0 : Nat} {a1 : Int32} {a2 : Int32} {a3 : Int32} {r9 : Int32 × Mm} (h : fX10_gone N M a0 a1 a2 a3 = some r9) : ∃ fs, M[a0]? = some (.inr (10, fs)) := by
  unfold fX10_gone at h
  obtain ⟨_, e1, _⟩ := ob h
  exact gC_spec e1
theorem ctX10_gone (l : Launch) {P : PT} {N : Nat} {M : Mm} {a0 : Nat} {a1 : Int32} {a2 : Int32} {a3 : Int32} {r9 : Int32} {M9 : Mm} (h : fX10_gone N M a0 a1 a2 a3 = some (r9, M9)) : Ct l yX10_gone cX10_gone 7 (some .int) 3 0 P [.ref (pB P + a0), .int a1, .int a2, .int a3] M (some (.int r9)) M9 :=
  Ct.mk (by decide +kernel) (Nat.le_of_ble_eq_true rfl) (fun p e s m args below meth c hX => wX10_gone hX M a0 a1 a2 a3 h)
