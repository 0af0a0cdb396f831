set_option maxHeartbeats 4000000 in
set_option maxRecDepth 100000 in
theorem wX10_addPair {p : Program} {l : Launch} {e : Env} {s : State} {m : MethodId} {args : Array Value} {below : List Frame} {meth : Method} {c : Code} {P : PT}  {r9 : Int32} {M9 : Mm} (hX : Cy p s m args c meth cX10_addPair 6 RX10 "addPair" (some .boolean) P)  (M : Mm) (a0 : Nat) (a1 : Int32) (a2 : Nat) (a3 : Int32) (h : fX10_addPair M a0 a1 a2 a3 = some (r9, M9)) : Wq p l e s m args below meth c 2 0 (some (.int r9)) M9 6 P 0 0 [(0, .ref (pB P + a0)), (1, .int a1), (2, .ref (pB P + a2)), (3, .int a3)] [] M := by
  unfold fX10_addPair at h
  obtain ⟨_, _, h⟩ := ob h
  have hX0 := hX
  obtain ⟨X, hr, hlk, hnm⟩ := hX0
  have hx := X.1.1
  have hb := X.1.2.1
  intro H locs ls hM hl
  refine lv_aload_n (pc := 0) hx hb dX10_addPair_0 rfl (lv_at hl 2 rfl) ?_
  refine lv_iload_n (pc := 1) hx hb dX10_addPair_1 rfl (lv_at hl 3 rfl) ?_
  obtain ⟨v2, e1, h⟩ := ob h
  obtain ⟨fs3, hb4⟩ := (rX4_hasNumber e1)
  refine bz_callV1 (pc := 2) (As := [.int a3]) (rest := []) X hM hl.1 k_RX10_167 (ctX4_hasNumber l e1) rfl hb4 rfl rfl ⟨(Nat.le_of_ble_eq_true rfl), (Nat.le_of_ble_eq_true rfl)⟩ (Nat.le_of_ble_eq_true rfl) ⟨(Nat.le_of_ble_eq_true rfl), (Nat.le_of_ble_eq_true rfl)⟩ dX10_addPair_2 (fun H locs hM => ?_)
  refine lv_if_eq (pc := 5) (tgt := 18) hx hb dX10_addPair_5 (by decide) (fun hc => ?_) (fun hc => ?_)
  · have h := if_t hc h
    refine lv_iconst (pc := 18) (v := (0 : Int32)) hx hb dX10_addPair_18 (by decide) ?_
    obtain ⟨rfl, rfl⟩ := so2 h
    exact bz_zret (pc := 19) X hM hr hlk (by decide) dX10_addPair_19 (Nat.le_of_ble_eq_true rfl) (Nat.le_of_ble_eq_true rfl)
  · have h := if_f hc h
    refine lv_aload_n (pc := 8) hx hb dX10_addPair_8 rfl (lv_at hl 2 rfl) ?_
    refine lv_iload_n (pc := 9) hx hb dX10_addPair_9 rfl (lv_at hl 3 rfl) ?_
    refine lv_iconst (pc := 10) (v := (1 : Int32)) hx hb dX10_addPair_10 (by decide) ?_
    refine lv_iadd (pc := 11) hx hb dX10_addPair_11 ?_
    obtain ⟨v6, e5, h⟩ := ob h
    obtain ⟨fs7, hb8⟩ := (rX4_hasNumber e5)
    refine bz_callV1 (pc := 12) (As := [.int (a3 + (1 : Int32))]) (rest := []) X hM hl.1 k_RX10_167 (ctX4_hasNumber l e5) rfl hb8 rfl rfl ⟨(Nat.le_of_ble_eq_true rfl), (Nat.le_of_ble_eq_true rfl)⟩ (Nat.le_of_ble_eq_true rfl) ⟨(Nat.le_of_ble_eq_true rfl), (Nat.le_of_ble_eq_true rfl)⟩ dX10_addPair_12 (fun H locs hM => ?_)
    refine lv_if_ne (pc := 15) (tgt := 20) hx hb dX10_addPair_15 (by decide) (fun hc => ?_) (fun hc => ?_)
    · have h := if_f hc h
      refine lv_aload_n (pc := 20) hx hb dX10_addPair_20 rfl (lv_at hl 2 rfl) ?_
      refine lv_iload_n (pc := 21) hx hb dX10_addPair_21 rfl (lv_at hl 3 rfl) ?_
      obtain ⟨v10, e9, h⟩ := ob h
      obtain ⟨fs11, hb12⟩ := (rX4_numberAt e9)
      refine bz_callV1 (pc := 22) (As := [.int a3]) (rest := []) X hM hl.1 k_RX10_170 (ctX4_numberAt l e9) rfl hb12 rfl rfl ⟨(Nat.le_of_ble_eq_true rfl), (Nat.le_of_ble_eq_true rfl)⟩ (Nat.le_of_ble_eq_true rfl) ⟨(Nat.le_of_ble_eq_true rfl), (Nat.le_of_ble_eq_true rfl)⟩ dX10_addPair_22 (fun H locs hM => ?_)
      refine lv_istore (pc := 25) (lv' := [(4, .int v10), (0, .ref (pB P + a0)), (1, .int a1), (2, .ref (pB P + a2)), (3, .int a3)]) hx hb dX10_addPair_25 hl (by decide) rfl (fun ls hl => ?_)
      refine lv_aload_n (pc := 27) hx hb dX10_addPair_27 rfl (lv_at hl 3 rfl) ?_
      refine lv_iload_n (pc := 28) hx hb dX10_addPair_28 rfl (lv_at hl 4 rfl) ?_
      refine lv_iconst (pc := 29) (v := (1 : Int32)) hx hb dX10_addPair_29 (by decide) ?_
      refine lv_iadd (pc := 30) hx hb dX10_addPair_30 ?_
      obtain ⟨v14, e13, h⟩ := ob h
      obtain ⟨fs15, hb16⟩ := (rX4_numberAt e13)
      refine bz_callV1 (pc := 31) (As := [.int (a3 + (1 : Int32))]) (rest := []) X hM hl.1 k_RX10_170 (ctX4_numberAt l e13) rfl hb16 rfl rfl ⟨(Nat.le_of_ble_eq_true rfl), (Nat.le_of_ble_eq_true rfl)⟩ (Nat.le_of_ble_eq_true rfl) ⟨(Nat.le_of_ble_eq_true rfl), (Nat.le_of_ble_eq_true rfl)⟩ dX10_addPair_31 (fun H locs hM => ?_)
      refine lv_istore (pc := 34) (lv' := [(5, .int v14), (4, .int v10), (0, .ref (pB P + a0)), (1, .int a1), (2, .ref (pB P + a2)), (3, .int a3)]) hx hb dX10_addPair_34 hl (by decide) rfl (fun ls hl => ?_)
      refine lv_iload (pc := 36) hx hb dX10_addPair_36 (lv_at hl 1 rfl) ?_
      obtain ⟨v18, e17, h⟩ := ob h
      refine bz_callS1 (pc := 38) (As := [.int v10]) (rest := []) X hM hl.1 k_RX10_103 (ctX10_isTenth l e17) rfl rfl ⟨(Nat.le_of_ble_eq_true rfl), (Nat.le_of_ble_eq_true rfl)⟩ (Nat.le_of_ble_eq_true rfl) ⟨(Nat.le_of_ble_eq_true rfl), (Nat.le_of_ble_eq_true rfl)⟩ dX10_addPair_38 (fun H locs hM => ?_)
      refine lv_if_eq (pc := 41) (tgt := 71) hx hb dX10_addPair_41 (by decide) (fun hc => ?_) (fun hc => ?_)
      · have h := if_t hc h
        refine lv_iconst (pc := 71) (v := (0 : Int32)) hx hb dX10_addPair_71 (by decide) ?_
        obtain ⟨rfl, rfl⟩ := so2 h
        exact bz_zret (pc := 72) X hM hr hlk (by decide) dX10_addPair_72 (Nat.le_of_ble_eq_true rfl) (Nat.le_of_ble_eq_true rfl)
      · have h := if_f hc h
        refine lv_iload (pc := 44) hx hb dX10_addPair_44 (lv_at hl 0 rfl) ?_
        obtain ⟨v20, e19, h⟩ := ob h
        refine bz_callS1 (pc := 46) (As := [.int v14]) (rest := []) X hM hl.1 k_RX10_106 (ctX10_isHeight l e19) rfl rfl ⟨(Nat.le_of_ble_eq_true rfl), (Nat.le_of_ble_eq_true rfl)⟩ (Nat.le_of_ble_eq_true rfl) ⟨(Nat.le_of_ble_eq_true rfl), (Nat.le_of_ble_eq_true rfl)⟩ dX10_addPair_46 (fun H locs hM => ?_)
        refine lv_if_eq (pc := 49) (tgt := 71) hx hb dX10_addPair_49 (by decide) (fun hc => ?_) (fun hc => ?_)
        · have h := if_t hc h
          refine lv_iconst (pc := 71) (v := (0 : Int32)) hx hb dX10_addPair_71 (by decide) ?_
          obtain ⟨rfl, rfl⟩ := so2 h
          exact bz_zret (pc := 72) X hM hr hlk (by decide) dX10_addPair_72 (Nat.le_of_ble_eq_true rfl) (Nat.le_of_ble_eq_true rfl)
        · have h := if_f hc h
          refine lv_aload_n (pc := 52) hx hb dX10_addPair_52 rfl (lv_at hl 2 rfl) ?_
          obtain ⟨q21, e22, h⟩ := ob h
          refine bz_getQ (pc := 53) X hM fl_RX10_10 e22 dX10_addPair_53 ?_
          refine lv_iload_n (pc := 56) hx hb dX10_addPair_56 rfl (lv_at hl 3 rfl) ?_
          refine lv_iload (pc := 57) hx hb dX10_addPair_57 (lv_at hl 1 rfl) ?_
          refine lv_iload (pc := 59) hx hb dX10_addPair_59 (lv_at hl 0 rfl) ?_
          obtain ⟨v24, M25, e23, h⟩ := ob2 h
          obtain ⟨fs26, hb27⟩ := (rX6_addRing e23)
          refine bz_callV1 (pc := 61) (As := [.int a1, .int v10, .int v14]) (rest := []) X hM hl.1 k_RX10_109 (ctX6_addRing l e23) rfl hb27 rfl rfl ⟨(Nat.le_of_ble_eq_true rfl), (Nat.le_of_ble_eq_true rfl)⟩ (Nat.le_of_ble_eq_true rfl) ⟨(Nat.le_of_ble_eq_true rfl), (Nat.le_of_ble_eq_true rfl)⟩ dX10_addPair_61 (fun H locs hM => ?_)
          refine lv_if_eq (pc := 64) (tgt := 71) hx hb dX10_addPair_64 (by decide) (fun hc => ?_) (fun hc => ?_)
          · have h := if_t hc h
            refine lv_iconst (pc := 71) (v := (0 : Int32)) hx hb dX10_addPair_71 (by decide) ?_
            obtain ⟨rfl, rfl⟩ := so2 h
            exact bz_zret (pc := 72) X hM hr hlk (by decide) dX10_addPair_72 (Nat.le_of_ble_eq_true rfl) (Nat.le_of_ble_eq_true rfl)
          · have h := if_f hc h
            refine lv_iconst (pc := 67) (v := (1 : Int32)) hx hb dX10_addPair_67 (by decide) ?_
            refine lv_goto (pc := 68) (tgt := 72) hx hb dX10_addPair_68 (by decide) ?_
            obtain ⟨rfl, rfl⟩ := so2 h
            exact bz_zret (pc := 72) X hM hr hlk (by decide) dX10_addPair_72 (Nat.le_of_ble_eq_true rfl) (Nat.le_of_ble_eq_true rfl)
    · have h := if_t hc h
      refine lv_iconst (pc := 18) (v := (0 : Int32)) hx hb dX10_addPair_18 (by decide) ?_
      obtain ⟨rfl, rfl⟩ := so2 h
      exact bz_zret (pc := 19) X hM hr hlk (by decide) dX10_addPair_19 (Nat.le_of_ble_eq_true rfl) (Nat.le_of_ble_eq_true rfl)
theorem rX10_addPair {M : Mm} {a0 : Nat} {a1 : Int32} {a2 : Nat} {a3 : Int32} {r9 : Int32 × Mm} (h : fX10_addPair M a0 a1 a2 a3 = some r9) : ∃ fs, M[a0]? = some (.inr (10, fs)) := by
  unfold fX10_addPair at h
  obtain ⟨_, e1, _⟩ := ob h
  exact gC_spec e1
theorem ctX10_addPair (l : Launch) {P : PT} {M : Mm} {a0 : Nat} {a1 : Int32} {a2 : Nat} {a3 : Int32} {r9 : Int32} {M9 : Mm} (h : fX10_addPair M a0 a1 a2 a3 = some (r9, M9)) : Ct l yX10_addPair cX10_addPair 6 (some .boolean) 2 0 P [.ref (pB P + a0), .int a1, .ref (pB P + a2), .int a3] M (some (.int r9)) M9 :=
  Ct.mk (by decide +kernel) (Nat.le_of_ble_eq_true rfl) (fun p e s m args below meth c hX => wX10_addPair hX M a0 a1 a2 a3 h)
set_option maxHeartbeats 4000000 in
set_option maxRecDepth 100000 in
theorem wBX10_rows_40 {p : Program} {l : Launch} {e : Env} {s : State} {m : MethodId} {args : Array Value} {below : List Frame} {meth : Method} {c : Code} {P : PT} {N : Nat} {K40 : Mm → Nat → Int32 → Nat → Int32 → Option (Int32 × Mm)}  {r9 : Int32} {M9 : Mm} (hX : Cy p s m args c meth cX10_rows 5 RX10 "rows" (some .int) P)  (hK40 : ∀ (M : Mm) (x0 : Nat) (x1 : Int32) (x3 : Nat) (x4 : Int32), K40 M x0 x1 x3 x4 = some (r9, M9) → Wq p l e s m args below meth c 3 0 (some (.int r9)) M9 5 P 0 40 [(0, .ref (pB P + x0)), (1, .int x1), (3, .ref (pB P + x3)), (4, .int x4)] [] M) (M : Mm) (x0 : Nat) (x1 : Int32) (x3 : Nat) (x4 : Int32)  (h : BX10_rows_40 N K40 M x0 x1 x3 x4 = some (r9, M9)) : Wq p l e s m args below meth c 3 0 (some (.int r9)) M9 5 P 0 40 [(0, .ref (pB P + x0)), (1, .int x1), (3, .ref (pB P + x3)), (4, .int x4)] [] M := by
  unfold BX10_rows_40 at h
  have hX0 := hX
  obtain ⟨X, hr, hlk, hnm⟩ := hX0
  have hx := X.1.1
  have hb := X.1.2.1
  intro H locs ls hM hl
  refine lv_iload (pc := 40) hx hb dX10_rows_40 (lv_at hl 3 rfl) ?_
  refine lv_bipush (pc := 42) (v := (40 : Int32)) hx hb dX10_rows_42 (by decide) ?_
  refine lv_icmp_ge (pc := 44) (tgt := 66) hx hb dX10_rows_44 (by decide) (fun hc => ?_) (fun hc => ?_)
  · have h := if_t hc h
    refine lv_iload (pc := 66) hx hb dX10_rows_66 (lv_at hl 3 rfl) ?_
    obtain ⟨rfl, rfl⟩ := so2 h
    exact bz_iret (pc := 68) X hM hr hlk dX10_rows_68 (Nat.le_of_ble_eq_true rfl) (Nat.le_of_ble_eq_true rfl)
  · have h := if_f hc h
    refine lv_aload_n (pc := 47) hx hb dX10_rows_47 rfl (lv_at hl 0 rfl) ?_
    refine lv_iload_n (pc := 48) hx hb dX10_rows_48 rfl (lv_at hl 1 rfl) ?_
    refine lv_aload_n (pc := 49) hx hb dX10_rows_49 rfl (lv_at hl 2 rfl) ?_
    refine lv_iconst (pc := 50) (v := (2 : Int32)) hx hb dX10_rows_50 (by decide) ?_
    refine lv_iload (pc := 51) hx hb dX10_rows_51 (lv_at hl 3 rfl) ?_
    refine lv_imul (pc := 53) hx hb dX10_rows_53 ?_
    obtain ⟨v2, M3, e1, h⟩ := ob2 h
    obtain ⟨fs4, hb5⟩ := (rX10_addPair e1)
    refine bz_callV1 (pc := 54) (As := [.int x1, .ref (pB P + x3), .int ((2 : Int32) * x4)]) (rest := []) X hM hl.1 k_RX10_163 (ctX10_addPair l e1) rfl hb5 rfl rfl ⟨(Nat.le_of_ble_eq_true rfl), (Nat.le_of_ble_eq_true rfl)⟩ (Nat.le_of_ble_eq_true rfl) ⟨(Nat.le_of_ble_eq_true rfl), (Nat.le_of_ble_eq_true rfl)⟩ dX10_rows_54 (fun H locs hM => ?_)
    refine lv_if_eq (pc := 57) (tgt := 66) hx hb dX10_rows_57 (by decide) (fun hc => ?_) (fun hc => ?_)
    · have h := if_t hc h
      refine lv_iload (pc := 66) hx hb dX10_rows_66 (lv_at hl 3 rfl) ?_
      obtain ⟨rfl, rfl⟩ := so2 h
      exact bz_iret (pc := 68) X hM hr hlk dX10_rows_68 (Nat.le_of_ble_eq_true rfl) (Nat.le_of_ble_eq_true rfl)
    · have h := if_f hc h
      refine lv_iinc (pc := 60) (v := (x4 + (1 : Int32))) (lv' := [(4, .int (x4 + (1 : Int32))), (0, .ref (pB P + x0)), (1, .int x1), (3, .ref (pB P + x3))]) hx hb dX10_rows_60 hl (k := 3) rfl rfl (by decide) rfl (fun ls hl => ?_)
      refine lv_goto (pc := 63) (tgt := 40) hx hb dX10_rows_63 (by decide) ?_
      exact hK40 _ _ _ _ _ h H locs ls hM (lv_sub hl [1, 2, 3, 0] rfl)
set_option maxHeartbeats 4000000 in
set_option maxRecDepth 100000 in
theorem wLX10_rows_40 {p : Program} {l : Launch} {e : Env} {s : State} {m : MethodId} {args : Array Value} {below : List Frame} {meth : Method} {c : Code} {P : PT} {N : Nat}  {r9 : Int32} {M9 : Mm} (hX : Cy p s m args c meth cX10_rows 5 RX10 "rows" (some .int) P)   : ∀ (n : Nat) (M : Mm) (x0 : Nat) (x1 : Int32) (x3 : Nat) (x4 : Int32) , LX10_rows_40 N n M x0 x1 x3 x4 = some (r9, M9) → Wq p l e s m args below meth c 3 0 (some (.int r9)) M9 5 P 0 40 [(0, .ref (pB P + x0)), (1, .int x1), (3, .ref (pB P + x3)), (4, .int x4)] [] M := by
  intro n
  induction n with
  | zero => intro M x0 x1 x3 x4 h; cases h
  | succ n ih => intro M x0 x1 x3 x4 h; exact wBX10_rows_40 hX ih M x0 x1 x3 x4 h
set_option maxHeartbeats 4000000 in
set_option maxRecDepth 100000 in
theorem wjX10_rows_18 {p : Program} {l : Launch} {e : Env} {s : State} {m : MethodId} {args : Array Value} {below : List Frame} {meth : Method} {c : Code} {P : PT} {N : Nat}  {r9 : Int32} {M9 : Mm} (hX : Cy p s m args c meth cX10_rows 5 RX10 "rows" (some .int) P)   (M : Mm) (x0 : Nat)  (h : jX10_rows_18 N M x0 = some (r9, M9)) : Wq p l e s m args below meth c 3 0 (some (.int r9)) M9 5 P 0 18 [(0, .ref (pB P + x0))] [] M := by
  unfold jX10_rows_18 at h
  have hX0 := hX
  obtain ⟨X, hr, hlk, hnm⟩ := hX0
  have hx := X.1.1
  have hb := X.1.2.1
  intro H locs ls hM hl
  refine lv_aload_n (pc := 18) hx hb dX10_rows_18 rfl (lv_at hl 0 rfl) ?_
  refine lv_iconst (pc := 19) (v := (1 : Int32)) hx hb dX10_rows_19 (by decide) ?_
  obtain ⟨v2, M3, e1, h⟩ := ob2 h
  obtain ⟨fs4, hb5⟩ := (rX10_error e1)
  refine bz_callV1 (pc := 20) (As := [.int (1 : Int32)]) (rest := []) X hM hl.1 k_RX10_78 (ctX10_error l e1) rfl hb5 rfl rfl ⟨(Nat.le_of_ble_eq_true rfl), (Nat.le_of_ble_eq_true rfl)⟩ (Nat.le_of_ble_eq_true rfl) ⟨(Nat.le_of_ble_eq_true rfl), (Nat.le_of_ble_eq_true rfl)⟩ dX10_rows_20 (fun H locs hM => ?_)
  obtain ⟨rfl, rfl⟩ := so2 h
  exact bz_iret (pc := 23) X hM hr hlk dX10_rows_23 (Nat.le_of_ble_eq_true rfl) (Nat.le_of_ble_eq_true rfl)
set_option maxHeartbeats 4000000 in
set_option maxRecDepth 100000 in
theorem wX10_rows {p : Program} {l : Launch} {e : Env} {s : State} {m : MethodId} {args : Array Value} {below : List Frame} {meth : Method} {c : Code} {P : PT} {N : Nat}  {r9 : Int32} {M9 : Mm} (hX : Cy p s m args c meth cX10_rows 5 RX10 "rows" (some .int) P)  (M : Mm) (a0 : Nat) (a1 : Int32) (a2 : Int32) (h : fX10_rows N M a0 a1 a2 = some (r9, M9)) : Wq p l e s m args below meth c 3 0 (some (.int r9)) M9 5 P 0 0 [(0, .ref (pB P + a0)), (1, .int a1), (2, .int a2)] [] M := by
  unfold fX10_rows at h
  obtain ⟨_, _, h⟩ := ob h
  have hX0 := hX
  obtain ⟨X, hr, hlk, hnm⟩ := hX0
  have hx := X.1.1
  have hb := X.1.2.1
  intro H locs ls hM hl
  refine lv_aload_n (pc := 0) hx hb dX10_rows_0 rfl (lv_at hl 0 rfl) ?_
  refine lv_iload_n (pc := 1) hx hb dX10_rows_1 rfl (lv_at hl 2 rfl) ?_
  obtain ⟨r2, e1, h⟩ := ob h
  obtain ⟨fs3, hb4⟩ := (rX10_sheetAt e1)
  refine bz_callV1 (pc := 2) (As := [.int a2]) (rest := []) X hM hl.1 k_RX10_155 (ctX10_sheetAt l e1) rfl hb4 rfl rfl ⟨(Nat.le_of_ble_eq_true rfl), (Nat.le_of_ble_eq_true rfl)⟩ (Nat.le_of_ble_eq_true rfl) ⟨(Nat.le_of_ble_eq_true rfl), (Nat.le_of_ble_eq_true rfl)⟩ dX10_rows_2 (fun H locs hM => ?_)
  refine bz_astore_nO (pc := 5) (lv' := [(3, rO P r2), (0, .ref (pB P + a0)), (1, .int a1), (2, .int a2)]) hx hb dX10_rows_5 rfl hl (by decide) rfl (fun ls hl => ?_)
  refine lv_aload_n (pc := 6) hx hb dX10_rows_6 rfl (lv_at hl 1 rfl) ?_
  refine lv_iload_n (pc := 7) hx hb dX10_rows_7 rfl (lv_at hl 2 rfl) ?_
  obtain ⟨v6, e5, h⟩ := ob h
  obtain ⟨fs7, hb8⟩ := (rX10_isBar e5)
  refine bz_callV1 (pc := 8) (As := [.int a1]) (rest := []) X hM hl.1 k_RX10_100 (ctX10_isBar l e5) rfl hb8 rfl rfl ⟨(Nat.le_of_ble_eq_true rfl), (Nat.le_of_ble_eq_true rfl)⟩ (Nat.le_of_ble_eq_true rfl) ⟨(Nat.le_of_ble_eq_true rfl), (Nat.le_of_ble_eq_true rfl)⟩ dX10_rows_8 (fun H locs hM => ?_)
  refine lv_if_eq (pc := 11) (tgt := 18) hx hb dX10_rows_11 (by decide) (fun hc => ?_) (fun hc => ?_)
  · have h := if_t hc h
    exact wjX10_rows_18 hX _ _ h H locs ls hM (lv_sub hl [1] rfl)
  · have h := if_f hc h
    refine bz_aload_nO (pc := 14) hx hb dX10_rows_14 rfl (lv_at hl 0 rfl) ?_
    refine bz_ifnonnullO (pc := 15) (tgt := 24) hx hb dX10_rows_15 (by decide) (fun q9 hc => ?_) (fun hc => ?_)
    · subst hc
      have h := om_s rfl h
      have hl : lv_has ls 5 [(3, .ref (pB P + q9)), (0, .ref (pB P + a0)), (1, .int a1), (2, .int a2)] := hl
      refine lv_aload_n (pc := 24) hx hb dX10_rows_24 rfl (lv_at hl 0 rfl) ?_
      obtain ⟨v11, e10, h⟩ := ob h
      obtain ⟨fs12, hb13⟩ := (rX4_isMissing e10)
      refine bz_callV1 (pc := 25) (As := []) (rest := []) X hM hl.1 k_RX10_159 (ctX4_isMissing l e10) rfl hb13 rfl rfl ⟨(Nat.le_of_ble_eq_true rfl), (Nat.le_of_ble_eq_true rfl)⟩ (Nat.le_of_ble_eq_true rfl) ⟨(Nat.le_of_ble_eq_true rfl), (Nat.le_of_ble_eq_true rfl)⟩ dX10_rows_25 (fun H locs hM => ?_)
      refine lv_if_eq (pc := 28) (tgt := 37) hx hb dX10_rows_28 (by decide) (fun hc => ?_) (fun hc => ?_)
      · have h := if_t hc h
        refine lv_iconst (pc := 37) (v := (0 : Int32)) hx hb dX10_rows_37 (by decide) ?_
        refine lv_istore (pc := 38) (lv' := [(4, .int (0 : Int32)), (3, .ref (pB P + q9)), (0, .ref (pB P + a0)), (1, .int a1), (2, .int a2)]) hx hb dX10_rows_38 hl (by decide) rfl (fun ls hl => ?_)
        exact wLX10_rows_40 hX _ _ _ _ _ _ h H locs ls hM (lv_sub hl [2, 3, 1, 0] rfl)
      · have h := if_f hc h
        refine lv_aload_n (pc := 31) hx hb dX10_rows_31 rfl (lv_at hl 1 rfl) ?_
        refine lv_iconst (pc := 32) (v := (2 : Int32)) hx hb dX10_rows_32 (by decide) ?_
        obtain ⟨v15, M16, e14, h⟩ := ob2 h
        obtain ⟨fs17, hb18⟩ := (rX10_error e14)
        refine bz_callV1 (pc := 33) (As := [.int (2 : Int32)]) (rest := []) X hM hl.1 k_RX10_78 (ctX10_error l e14) rfl hb18 rfl rfl ⟨(Nat.le_of_ble_eq_true rfl), (Nat.le_of_ble_eq_true rfl)⟩ (Nat.le_of_ble_eq_true rfl) ⟨(Nat.le_of_ble_eq_true rfl), (Nat.le_of_ble_eq_true rfl)⟩ dX10_rows_33 (fun H locs hM => ?_)
        obtain ⟨rfl, rfl⟩ := so2 h
        exact bz_iret (pc := 36) X hM hr hlk dX10_rows_36 (Nat.le_of_ble_eq_true rfl) (Nat.le_of_ble_eq_true rfl)
    · subst hc
      have h := om_n rfl h
      have hl : lv_has ls 5 [(3, .null), (0, .ref (pB P + a0)), (1, .int a1), (2, .int a2)] := hl
      exact wjX10_rows_18 hX _ _ h H locs ls hM (lv_sub hl [1] rfl)
theorem rX10_rows {N : Nat} {M : Mm} {a0 : Nat} {a1 : Int32} {a2 : Int32} {r9 : Int32 × Mm} (h : fX10_rows N M a0 a1 a2 = some r9) : ∃ fs, M[a0]? = some (.inr (10, fs)) := by
  unfold fX10_rows at h
  obtain ⟨_, e1, _⟩ := ob h
  exact gC_spec e1
theorem ctX10_rows (l : Launch) {P : PT} {N : Nat} {M : Mm} {a0 : Nat} {a1 : Int32} {a2 : Int32} {r9 : Int32} {M9 : Mm} (h : fX10_rows N M a0 a1 a2 = some (r9, M9)) : Ct l yX10_rows cX10_rows 5 (some .int) 3 0 P [.ref (pB P + a0), .int a1, .int a2] M (some (.int r9)) M9 :=
  Ct.mk (by decide +kernel) (Nat.le_of_ble_eq_true rfl) (fun p e s m args below meth c hX => wX10_rows hX M a0 a1 a2 h)
set_option maxHeartbeats 4000000 in
set_option maxRecDepth 100000 in
theorem wX11_isSheet {p : Program} {l : Launch} {e : Env} {s : State} {m : MethodId} {args : Array Value} {below : List Frame} {meth : Method} {c : Code} {P : PT}  {r9 : Int32} (hX : Cy p s m args c meth cX11_isSheet 1 RX11 "isSheet" (some .boolean) P)  (M : Mm) (a0 : Int32) (h : fX11_isSheet M a0 = some r9) : Wq p l e s m args below meth c 1 0 (some (.int r9)) M 1 P 0 0 [(0, .int a0)] [] M := by
  unfold fX11_isSheet at h
  have hX0 := hX
  obtain ⟨X, hr, hlk, hnm⟩ := hX0
  have hx := X.1.1
  have hb := X.1.2.1
  intro H locs ls hM hl
  refine lv_iload_n (pc := 0) hx hb dX11_isSheet_0 rfl (lv_at hl 0 rfl) ?_
  refine lv_i2l (pc := 1) (v := ((a0).toInt64)) hx hb dX11_isSheet_1 rfl ?_
  refine lv_lconst (pc := 2) (v := (0 : Int64)) hx hb dX11_isSheet_2 (by decide) ?_
  refine lv_ldc2 (pc := 3) (v := (3 : Int64)) hx hb X.1.2.2.2.1 (X.1.2.2.2.2 _ g_1392) dX11_isSheet_3 ?_
  obtain ⟨v2, e1, h⟩ := ob h
  refine bz_callS1 (pc := 6) (As := [.long ((a0).toInt64), .long (0 : Int64), .long (3 : Int64)]) (rest := []) X hM hl.1 k_RX11_57 (ctX11_in l e1) rfl rfl ⟨(Nat.le_of_ble_eq_true rfl), (Nat.le_of_ble_eq_true rfl)⟩ (Nat.le_of_ble_eq_true rfl) ⟨(Nat.le_of_ble_eq_true rfl), (Nat.le_of_ble_eq_true rfl)⟩ dX11_isSheet_6 (fun H locs hM => ?_)
  obtain ⟨v3, e4, h⟩ := ob h
  obtain rfl := so1 h
  exact bz_zretz (pc := 9) X hM hr hlk e4 dX11_isSheet_9 (Nat.le_of_ble_eq_true rfl) (Nat.le_of_ble_eq_true rfl)
theorem ctX11_isSheet (l : Launch) {P : PT} {M : Mm} {a0 : Int32} {r9 : Int32} (h : fX11_isSheet M a0 = some r9) : Ct l yX11_isSheet cX11_isSheet 1 (some .boolean) 1 0 P [.int a0] M (some (.int r9)) M :=
  Ct.mk (by decide +kernel) (Nat.le_of_ble_eq_true rfl) (fun p e s m args below meth c hX => wX11_isSheet hX M a0 h)
set_option maxHeartbeats 4000000 in
set_option maxRecDepth 100000 in
theorem wBX11_rows_41 {p : Program} {l : Launch} {e : Env} {s : State} {m : MethodId} {args : Array Value} {below : List Frame} {meth : Method} {c : Code} {P : PT} {N : Nat} {K41 : Mm → Nat → Int32 → Int32 → Int32 → Int32 → Option (Int32 × Mm)}  {r9 : Int32} {M9 : Mm} (hX : Cy p s m args c meth cX11_rows 7 RX11 "rows" (some .int) P)  (hK41 : ∀ (M : Mm) (x0 : Nat) (x1 : Int32) (x2 : Int32) (x3 : Int32) (x4 : Int32), K41 M x0 x1 x2 x3 x4 = some (r9, M9) → Wq p l e s m args below meth c 2 0 (some (.int r9)) M9 7 P 0 41 [(0, .ref (pB P + x0)), (1, .int x1), (2, .int x2), (3, .int x3), (4, .int x4)] [] M) (M : Mm) (x0 : Nat) (x1 : Int32) (x2 : Int32) (x3 : Int32) (x4 : Int32)  (h : BX11_rows_41 N K41 M x0 x1 x2 x3 x4 = some (r9, M9)) : Wq p l e s m args below meth c 2 0 (some (.int r9)) M9 7 P 0 41 [(0, .ref (pB P + x0)), (1, .int x1), (2, .int x2), (3, .int x3), (4, .int x4)] [] M := by
  unfold BX11_rows_41 at h
  have hX0 := hX
  obtain ⟨X, hr, hlk, hnm⟩ := hX0
  have hx := X.1.1
  have hb := X.1.2.1
  intro H locs ls hM hl
  refine lv_iload (pc := 41) hx hb dX11_rows_41 (lv_at hl 4 rfl) ?_
  refine lv_iconst (pc := 43) (v := (1 : Int32)) hx hb dX11_rows_43 (by decide) ?_
  refine lv_iadd (pc := 44) hx hb dX11_rows_44 ?_
  refine lv_aload_n (pc := 45) hx hb dX11_rows_45 rfl (lv_at hl 0 rfl) ?_
  obtain ⟨q1, e2, h⟩ := ob h
  refine bz_getQ (pc := 46) X hM fl_RX11_29 e2 dX11_rows_46 ?_
  refine lv_iload_n (pc := 49) hx hb dX11_rows_49 rfl (lv_at hl 2 rfl) ?_
  obtain ⟨v3, e4, h⟩ := ob h
  refine bz_iald (pc := 50) X hM e4 dX11_rows_50 ?_
  refine lv_icmp_ge (pc := 51) (tgt := 125) hx hb dX11_rows_51 (by decide) (fun hc => ?_) (fun hc => ?_)
  · have h := if_t hc h
    refine lv_iload_n (pc := 125) hx hb dX11_rows_125 rfl (lv_at hl 3 rfl) ?_
    obtain ⟨rfl, rfl⟩ := so2 h
    exact bz_iret (pc := 126) X hM hr hlk dX11_rows_126 (Nat.le_of_ble_eq_true rfl) (Nat.le_of_ble_eq_true rfl)
  · have h := if_f hc h
    refine lv_aload_n (pc := 54) hx hb dX11_rows_54 rfl (lv_at hl 0 rfl) ?_
    obtain ⟨q5, e6, h⟩ := ob h
    refine bz_getQ (pc := 55) X hM fl_RX11_32 e6 dX11_rows_55 ?_
    refine lv_bipush (pc := 58) (v := (40 : Int32)) hx hb dX11_rows_58 (by decide) ?_
    refine lv_iload_n (pc := 60) hx hb dX11_rows_60 rfl (lv_at hl 2 rfl) ?_
    refine lv_imul (pc := 61) hx hb dX11_rows_61 ?_
    refine lv_iload (pc := 62) hx hb dX11_rows_62 (lv_at hl 4 rfl) ?_
    refine lv_iadd (pc := 64) hx hb dX11_rows_64 ?_
    obtain ⟨v7, e8, h⟩ := ob h
    refine bz_iald (pc := 65) X hM e8 dX11_rows_65 ?_
    refine lv_istore (pc := 66) (lv' := [(5, .int v7), (0, .ref (pB P + x0)), (1, .int x1), (2, .int x2), (3, .int x3), (4, .int x4)]) hx hb dX11_rows_66 hl (by decide) rfl (fun ls hl => ?_)
    refine lv_aload_n (pc := 68) hx hb dX11_rows_68 rfl (lv_at hl 1 rfl) ?_
    obtain ⟨q9, e10, h⟩ := ob h
    refine bz_getQ (pc := 69) X hM fl_RX11_32 e10 dX11_rows_69 ?_
    refine lv_bipush (pc := 72) (v := (40 : Int32)) hx hb dX11_rows_72 (by decide) ?_
    refine lv_iload_n (pc := 74) hx hb dX11_rows_74 rfl (lv_at hl 3 rfl) ?_
    refine lv_imul (pc := 75) hx hb dX11_rows_75 ?_
    refine lv_iload (pc := 76) hx hb dX11_rows_76 (lv_at hl 5 rfl) ?_
    refine lv_iadd (pc := 78) hx hb dX11_rows_78 ?_
    refine lv_iconst (pc := 79) (v := (1 : Int32)) hx hb dX11_rows_79 (by decide) ?_
    refine lv_iadd (pc := 80) hx hb dX11_rows_80 ?_
    obtain ⟨v11, e12, h⟩ := ob h
    refine bz_iald (pc := 81) X hM e12 dX11_rows_81 ?_
    refine lv_istore (pc := 82) (lv' := [(6, .int v11), (5, .int v7), (0, .ref (pB P + x0)), (1, .int x1), (2, .int x2), (3, .int x3), (4, .int x4)]) hx hb dX11_rows_82 hl (by decide) rfl (fun ls hl => ?_)
    refine lv_iload (pc := 84) hx hb dX11_rows_84 (lv_at hl 1 rfl) ?_
    refine lv_iload (pc := 86) hx hb dX11_rows_86 (lv_at hl 0 rfl) ?_
    obtain ⟨v14, e13, h⟩ := ob h
    refine bz_callS1 (pc := 88) (As := [.int v7, .int v11]) (rest := []) X hM hl.1 k_RX11_79 (ctX11_mayRing l e13) rfl rfl ⟨(Nat.le_of_ble_eq_true rfl), (Nat.le_of_ble_eq_true rfl)⟩ (Nat.le_of_ble_eq_true rfl) ⟨(Nat.le_of_ble_eq_true rfl), (Nat.le_of_ble_eq_true rfl)⟩ dX11_rows_88 (fun H locs hM => ?_)
    refine lv_if_eq (pc := 91) (tgt := 105) hx hb dX11_rows_91 (by decide) (fun hc => ?_) (fun hc => ?_)
    · have h := if_t hc h
      refine lv_iload_n (pc := 105) hx hb dX11_rows_105 rfl (lv_at hl 5 rfl) ?_
      obtain ⟨rfl, rfl⟩ := so2 h
      exact bz_iret (pc := 106) X hM hr hlk dX11_rows_106 (Nat.le_of_ble_eq_true rfl) (Nat.le_of_ble_eq_true rfl)
    · have h := if_f hc h
      refine lv_aload_n (pc := 94) hx hb dX11_rows_94 rfl (lv_at hl 2 rfl) ?_
      obtain ⟨q15, e16, h⟩ := ob h
      refine bz_getQ (pc := 95) X hM fl_RX11_9 e16 dX11_rows_95 ?_
      refine lv_iconst (pc := 98) (v := (1 : Int32)) hx hb dX11_rows_98 (by decide) ?_
      obtain ⟨v17, e18, h⟩ := ob h
      refine bz_iald (pc := 99) X hM e18 dX11_rows_99 ?_
      refine lv_bipush (pc := 100) (v := (96 : Int32)) hx hb dX11_rows_100 (by decide) ?_
      refine lv_icmp_ne (pc := 102) (tgt := 107) hx hb dX11_rows_102 (by decide) (fun hc => ?_) (fun hc => ?_)
      · have h := if_f hc h
        refine lv_aload_n (pc := 107) hx hb dX11_rows_107 rfl (lv_at hl 2 rfl) ?_
        refine lv_iload_n (pc := 108) hx hb dX11_rows_108 rfl (lv_at hl 3 rfl) ?_
        refine lv_iload (pc := 109) hx hb dX11_rows_109 (lv_at hl 1 rfl) ?_
        refine lv_iload (pc := 111) hx hb dX11_rows_111 (lv_at hl 0 rfl) ?_
        obtain ⟨M20, e19, h⟩ := ob h
        obtain ⟨fs21, hb22⟩ := (rX11_rings e19)
        refine bz_callV0 (pc := 113) (As := [.int x1, .int v7, .int v11]) (rest := []) X hM hl.1 k_RX11_83 (ctX11_rings l e19) rfl hb22 rfl rfl ⟨(Nat.le_of_ble_eq_true rfl), (Nat.le_of_ble_eq_true rfl)⟩ (Nat.le_of_ble_eq_true rfl) ⟨(Nat.le_of_ble_eq_true rfl), (Nat.le_of_ble_eq_true rfl)⟩ dX11_rows_113 (fun H locs hM => ?_)
        refine lv_iinc (pc := 116) (v := (x3 + (1 : Int32))) (lv' := [(3, .int (x3 + (1 : Int32))), (6, .int v11), (5, .int v7), (0, .ref (pB P + x0)), (1, .int x1), (2, .int x2), (4, .int x4)]) hx hb dX11_rows_116 hl (k := 5) rfl rfl (by decide) rfl (fun ls hl => ?_)
        refine lv_iinc (pc := 119) (v := (x4 + (2 : Int32))) (lv' := [(4, .int (x4 + (2 : Int32))), (3, .int (x3 + (1 : Int32))), (6, .int v11), (5, .int v7), (0, .ref (pB P + x0)), (1, .int x1), (2, .int x2)]) hx hb dX11_rows_119 hl (k := 6) rfl rfl (by decide) rfl (fun ls hl => ?_)
        refine lv_goto (pc := 122) (tgt := 41) hx hb dX11_rows_122 (by decide) ?_
        exact hK41 _ _ _ _ _ _ h H locs ls hM (lv_sub hl [4, 5, 6, 1, 0] rfl)
      · have h := if_t hc h
        refine lv_iload_n (pc := 105) hx hb dX11_rows_105 rfl (lv_at hl 5 rfl) ?_
        obtain ⟨rfl, rfl⟩ := so2 h
        exact bz_iret (pc := 106) X hM hr hlk dX11_rows_106 (Nat.le_of_ble_eq_true rfl) (Nat.le_of_ble_eq_true rfl)
set_option maxHeartbeats 4000000 in
set_option maxRecDepth 100000 in
theorem wLX11_rows_41 {p : Program} {l : Launch} {e : Env} {s : State} {m : MethodId} {args : Array Value} {below : List Frame} {meth : Method} {c : Code} {P : PT} {N : Nat}  {r9 : Int32} {M9 : Mm} (hX : Cy p s m args c meth cX11_rows 7 RX11 "rows" (some .int) P)   : ∀ (n : Nat) (M : Mm) (x0 : Nat) (x1 : Int32) (x2 : Int32) (x3 : Int32) (x4 : Int32) , LX11_rows_41 N n M x0 x1 x2 x3 x4 = some (r9, M9) → Wq p l e s m args below meth c 2 0 (some (.int r9)) M9 7 P 0 41 [(0, .ref (pB P + x0)), (1, .int x1), (2, .int x2), (3, .int x3), (4, .int x4)] [] M := by
  intro n
  induction n with
  | zero => intro M x0 x1 x2 x3 x4 h; cases h
  | succ n ih => intro M x0 x1 x2 x3 x4 h; exact wBX11_rows_41 hX ih M x0 x1 x2 x3 x4 h
set_option maxHeartbeats 4000000 in
set_option maxRecDepth 100000 in
theorem wjX11_rows_15 {p : Program} {l : Launch} {e : Env} {s : State} {m : MethodId} {args : Array Value} {below : List Frame} {meth : Method} {c : Code} {P : PT} {N : Nat}  {r9 : Int32} {M9 : Mm} (hX : Cy p s m args c meth cX11_rows 7 RX11 "rows" (some .int) P)   (M : Mm) (x0 : Nat)  (h : jX11_rows_15 N M x0 = some (r9, M9)) : Wq p l e s m args below meth c 2 0 (some (.int r9)) M9 7 P 0 15 [(0, .ref (pB P + x0))] [] M := by
  unfold jX11_rows_15 at h
  have hX0 := hX
  obtain ⟨X, hr, hlk, hnm⟩ := hX0
  have hx := X.1.1
  have hb := X.1.2.1
  intro H locs ls hM hl
  refine lv_aload_n (pc := 15) hx hb dX11_rows_15 rfl (lv_at hl 0 rfl) ?_
  refine lv_iconst (pc := 16) (v := (1 : Int32)) hx hb dX11_rows_16 (by decide) ?_
  obtain ⟨v2, M3, e1, h⟩ := ob2 h
  obtain ⟨fs4, hb5⟩ := (rX11_error e1)
  refine bz_callV1 (pc := 17) (As := [.int (1 : Int32)]) (rest := []) X hM hl.1 k_RX11_73 (ctX11_error l e1) rfl hb5 rfl rfl ⟨(Nat.le_of_ble_eq_true rfl), (Nat.le_of_ble_eq_true rfl)⟩ (Nat.le_of_ble_eq_true rfl) ⟨(Nat.le_of_ble_eq_true rfl), (Nat.le_of_ble_eq_true rfl)⟩ dX11_rows_17 (fun H locs hM => ?_)
  obtain ⟨rfl, rfl⟩ := so2 h
  exact bz_iret (pc := 20) X hM hr hlk dX11_rows_20 (Nat.le_of_ble_eq_true rfl) (Nat.le_of_ble_eq_true rfl)
set_option maxHeartbeats 4000000 in
set_option maxRecDepth 100000 in
theorem wX11_rows {p : Program} {l : Launch} {e : Env} {s : State} {m : MethodId} {args : Array Value} {below : List Frame} {meth : Method} {c : Code} {P : PT} {N : Nat}  {r9 : Int32} {M9 : Mm} (hX : Cy p s m args c meth cX11_rows 7 RX11 "rows" (some .int) P)  (M : Mm) (a0 : Nat) (a1 : Int32) (a2 : Int32) (h : fX11_rows N M a0 a1 a2 = some (r9, M9)) : Wq p l e s m args below meth c 2 0 (some (.int r9)) M9 7 P 0 0 [(0, .ref (pB P + a0)), (1, .int a1), (2, .int a2)] [] M := by
  unfold fX11_rows at h
  obtain ⟨_, _, h⟩ := ob h
  have hX0 := hX
  obtain ⟨X, hr, hlk, hnm⟩ := hX0
  have hx := X.1.1
  have hb := X.1.2.1
  intro H locs ls hM hl
  refine lv_aload_n (pc := 0) hx hb dX11_rows_0 rfl (lv_at hl 0 rfl) ?_
  refine lv_iload_n (pc := 1) hx hb dX11_rows_1 rfl (lv_at hl 1 rfl) ?_
  obtain ⟨v2, e1, h⟩ := ob h
  obtain ⟨fs3, hb4⟩ := (rX11_isBar e1)
  refine bz_callV1 (pc := 2) (As := [.int a1]) (rest := []) X hM hl.1 k_RX11_65 (ctX11_isBar l e1) rfl hb4 rfl rfl ⟨(Nat.le_of_ble_eq_true rfl), (Nat.le_of_ble_eq_true rfl)⟩ (Nat.le_of_ble_eq_true rfl) ⟨(Nat.le_of_ble_eq_true rfl), (Nat.le_of_ble_eq_true rfl)⟩ dX11_rows_2 (fun H locs hM => ?_)
  refine lv_if_eq (pc := 5) (tgt := 15) hx hb dX11_rows_5 (by decide) (fun hc => ?_) (fun hc => ?_)
  · have h := if_t hc h
    exact wjX11_rows_15 hX _ _ h H locs ls hM (lv_sub hl [0] rfl)
  · have h := if_f hc h
    refine lv_iload_n (pc := 8) hx hb dX11_rows_8 rfl (lv_at hl 2 rfl) ?_
    obtain ⟨v6, e5, h⟩ := ob h
    refine bz_callS1 (pc := 9) (As := [.int a2]) (rest := []) X hM hl.1 k_RX11_145 (ctX11_isSheet l e5) rfl rfl ⟨(Nat.le_of_ble_eq_true rfl), (Nat.le_of_ble_eq_true rfl)⟩ (Nat.le_of_ble_eq_true rfl) ⟨(Nat.le_of_ble_eq_true rfl), (Nat.le_of_ble_eq_true rfl)⟩ dX11_rows_9 (fun H locs hM => ?_)
    refine lv_if_ne (pc := 12) (tgt := 21) hx hb dX11_rows_12 (by decide) (fun hc => ?_) (fun hc => ?_)
    · have h := if_f hc h
      refine lv_aload_n (pc := 21) hx hb dX11_rows_21 rfl (lv_at hl 0 rfl) ?_
      obtain ⟨q7, e8, h⟩ := ob h
      refine bz_getQ (pc := 22) X hM fl_RX11_26 e8 dX11_rows_22 ?_
      refine lv_iload_n (pc := 25) hx hb dX11_rows_25 rfl (lv_at hl 2 rfl) ?_
      obtain ⟨v9, e10, h⟩ := ob h
      refine bz_iald (pc := 26) X hM e10 dX11_rows_26 ?_
      refine lv_if_ne (pc := 27) (tgt := 36) hx hb dX11_rows_27 (by decide) (fun hc => ?_) (fun hc => ?_)
      · have h := if_f hc h
        refine lv_iconst (pc := 36) (v := (0 : Int32)) hx hb dX11_rows_36 (by decide) ?_
        refine lv_istore_n (pc := 37) (lv' := [(3, .int (0 : Int32)), (0, .ref (pB P + a0)), (1, .int a1), (2, .int a2)]) hx hb dX11_rows_37 rfl hl (by decide) rfl (fun ls hl => ?_)
        refine lv_iconst (pc := 38) (v := (0 : Int32)) hx hb dX11_rows_38 (by decide) ?_
        refine lv_istore (pc := 39) (lv' := [(4, .int (0 : Int32)), (3, .int (0 : Int32)), (0, .ref (pB P + a0)), (1, .int a1), (2, .int a2)]) hx hb dX11_rows_39 hl (by decide) rfl (fun ls hl => ?_)
        exact wLX11_rows_41 hX _ _ _ _ _ _ _ h H locs ls hM (lv_sub hl [2, 3, 4, 1, 0] rfl)
      · have h := if_t hc h
        refine lv_aload_n (pc := 30) hx hb dX11_rows_30 rfl (lv_at hl 0 rfl) ?_
        refine lv_iconst (pc := 31) (v := (2 : Int32)) hx hb dX11_rows_31 (by decide) ?_
        obtain ⟨v12, M13, e11, h⟩ := ob2 h
        obtain ⟨fs14, hb15⟩ := (rX11_error e11)
        refine bz_callV1 (pc := 32) (As := [.int (2 : Int32)]) (rest := []) X hM hl.1 k_RX11_73 (ctX11_error l e11) rfl hb15 rfl rfl ⟨(Nat.le_of_ble_eq_true rfl), (Nat.le_of_ble_eq_true rfl)⟩ (Nat.le_of_ble_eq_true rfl) ⟨(Nat.le_of_ble_eq_true rfl), (Nat.le_of_ble_eq_true rfl)⟩ dX11_rows_32 (fun H locs hM => ?_)
        obtain ⟨rfl, rfl⟩ := so2 h
        exact bz_iret (pc := 35) X hM hr hlk dX11_rows_35 (Nat.le_of_ble_eq_true rfl) (Nat.le_of_ble_eq_true rfl)
    · have h := if_t hc h
      exact wjX11_rows_15 hX _ _ h H locs ls hM (lv_sub hl [0] rfl)
theorem rX11_rows {N : Nat} {M : Mm} {a0 : Nat} {a1 : Int32} {a2 : Int32} {r9 : Int32 × Mm} (h : fX11_rows N M a0 a1 a2 = some r9) : ∃ fs, M[a0]? = some (.inr (11, fs)) := by
  unfold fX11_rows at h
  obtain ⟨_, e1, _⟩ := ob h
  exact gC_spec e1
theorem ctX11_rows (l : Launch) {P : PT} {N : Nat} {M : Mm} {a0 : Nat} {a1 : Int32} {a2 : Int32} {r9 : Int32} {M9 : Mm} (h : fX11_rows N M a0 a1 a2 = some (r9, M9)) : Ct l yX11_rows cX11_rows 7 (some .int) 2 0 P [.ref (pB P + a0), .int a1, .int a2] M (some (.int r9)) M9 :=
  Ct.mk (by decide +kernel) (Nat.le_of_ble_eq_true rfl) (fun p e s m args below meth c hX => wX11_rows hX M a0 a1 a2 h)
set_option maxHeartbeats 4000000 in
set_option maxRecDepth 100000 in
theorem wX3_room {p : Program} {l : Launch} {e : Env} {s : State} {m : MethodId} {args : Array Value} {below : List Frame} {meth : Method} {c : Code} {P : PT}  {r9 : Int32} (hX : Cy p s m args c meth cX3_room 1 RX3 "room" (some .int) P)  (M : Mm) (a0 : Nat) (h : fX3_room M a0 = some r9) : Wq p l e s m args below meth c 0 0 (some (.int r9)) M 1 P 0 0 [(0, .ref (pB P + a0))] [] M := by
  unfold fX3_room at h
  obtain ⟨_, _, h⟩ := ob h
  have hX0 := hX
  obtain ⟨X, hr, hlk, hnm⟩ := hX0
  have hx := X.1.1
  have hb := X.1.2.1
  intro H locs ls hM hl
  refine lv_aload_n (pc := 0) hx hb dX3_room_0 rfl (lv_at hl 0 rfl) ?_
  obtain ⟨q1, e2, h⟩ := ob h
  refine bz_getQ (pc := 1) X hM fl_RX3_13 e2 dX3_room_1 ?_
  obtain ⟨v3, e4, h⟩ := ob h
  refine bz_alen (pc := 4) X hM e4 dX3_room_4 ?_
  refine lv_aload_n (pc := 5) hx hb dX3_room_5 rfl (lv_at hl 0 rfl) ?_
  obtain ⟨v5, e6, h⟩ := ob h
  refine bz_getI (pc := 6) X hM fl_RX3_19 e6 dX3_room_6 ?_
  refine lv_isub (pc := 9) hx hb dX3_room_9 ?_
  obtain rfl := so1 h
  exact bz_iret (pc := 10) X hM hr hlk dX3_room_10 (Nat.le_of_ble_eq_true rfl) (Nat.le_of_ble_eq_true rfl)
theorem rX3_room {M : Mm} {a0 : Nat} {r9 : Int32} (h : fX3_room M a0 = some r9) : ∃ fs, M[a0]? = some (.inr (3, fs)) := by
  unfold fX3_room at h
  obtain ⟨_, e1, _⟩ := ob h
  exact gC_spec e1
theorem ctX3_room (l : Launch) {P : PT} {M : Mm} {a0 : Nat} {r9 : Int32} (h : fX3_room M a0 = some r9) : Ct l yX3_room cX3_room 1 (some .int) 0 0 P [.ref (pB P + a0)] M (some (.int r9)) M :=
  Ct.mk (by decide +kernel) (Nat.le_of_ble_eq_true rfl) (fun p e s m args below meth c hX => wX3_room hX M a0 h)
set_option maxHeartbeats 4000000 in
set_option maxRecDepth 100000 in
theorem wBX10_feed_39 {p : Program} {l : Launch} {e : Env} {s : State} {m : MethodId} {args : Array Value} {below : List Frame} {meth : Method} {c : Code} {P : PT} {N : Nat} {K39 : Mm → Nat → Int64 → Int32 → Int32 → Option (Int32 × Mm)}  {r9 : Int32} {M9 : Mm} (hX : Cy p s m args c meth cX10_feed 5 RX10 "feed" (some .int) P)  (hK39 : ∀ (M : Mm) (x0 : Nat) (x1 : Int64) (x3 : Int32) (x4 : Int32), K39 M x0 x1 x3 x4 = some (r9, M9) → Wq p l e s m args below meth c 3 0 (some (.int r9)) M9 5 P 0 39 [(0, .ref (pB P + x0)), (1, .long x1), (3, .int x3), (4, .int x4)] [] M) (M : Mm) (x0 : Nat) (x1 : Int64) (x3 : Int32) (x4 : Int32)  (h : BX10_feed_39 N K39 M x0 x1 x3 x4 = some (r9, M9)) : Wq p l e s m args below meth c 3 0 (some (.int r9)) M9 5 P 0 39 [(0, .ref (pB P + x0)), (1, .long x1), (3, .int x3), (4, .int x4)] [] M := by
  unfold BX10_feed_39 at h
  have hX0 := hX
  obtain ⟨X, hr, hlk, hnm⟩ := hX0
  have hx := X.1.1
  have hb := X.1.2.1
  intro H locs ls hM hl
  refine lv_iload (pc := 39) hx hb dX10_feed_39 (lv_at hl 3 rfl) ?_
  refine lv_iload_n (pc := 41) hx hb dX10_feed_41 rfl (lv_at hl 2 rfl) ?_
  refine lv_icmp_ge (pc := 42) (tgt := 74) hx hb dX10_feed_42 (by decide) (fun hc => ?_) (fun hc => ?_)
  · have h := if_t hc h
    refine lv_aload_n (pc := 74) hx hb dX10_feed_74 rfl (lv_at hl 0 rfl) ?_
    obtain ⟨q1, e2, h⟩ := ob h
    refine bz_getQ (pc := 75) X hM fl_RX10_10 e2 dX10_feed_75 ?_
    obtain ⟨q3, e4, h⟩ := ob h
    refine bz_getQ (pc := 78) X hM fl_RX10_173 e4 dX10_feed_78 ?_
    obtain ⟨v6, e5, h⟩ := ob h
    obtain ⟨fs7, hb8⟩ := (rX3_size e5)
    refine bz_callV1 (pc := 81) (As := []) (rest := []) X hM hl.1 k_RX10_96 (ctX3_size l e5) rfl hb8 rfl rfl ⟨(Nat.le_of_ble_eq_true rfl), (Nat.le_of_ble_eq_true rfl)⟩ (Nat.le_of_ble_eq_true rfl) ⟨(Nat.le_of_ble_eq_true rfl), (Nat.le_of_ble_eq_true rfl)⟩ dX10_feed_81 (fun H locs hM => ?_)
    obtain ⟨rfl, rfl⟩ := so2 h
    exact bz_iret (pc := 84) X hM hr hlk dX10_feed_84 (Nat.le_of_ble_eq_true rfl) (Nat.le_of_ble_eq_true rfl)
  · have h := if_f hc h
    refine lv_aload_n (pc := 45) hx hb dX10_feed_45 rfl (lv_at hl 0 rfl) ?_
    obtain ⟨q9, e10, h⟩ := ob h
    refine bz_getQ (pc := 46) X hM fl_RX10_10 e10 dX10_feed_46 ?_
    obtain ⟨q11, e12, h⟩ := ob h
    refine bz_getQ (pc := 49) X hM fl_RX10_173 e12 dX10_feed_49 ?_
    refine lv_lload_n (pc := 52) hx hb dX10_feed_52 rfl (lv_at hl 1 rfl) ?_
    refine lv_bipush (pc := 53) (v := (8 : Int32)) hx hb dX10_feed_53 (by decide) ?_
    refine lv_iload (pc := 55) hx hb dX10_feed_55 (lv_at hl 3 rfl) ?_
    refine lv_imul (pc := 57) hx hb dX10_feed_57 ?_
    refine lv_lushr (pc := 58) (v := (((x1).toUInt64 >>> ((((8 : Int32) * x4)).toInt64.toUInt64 &&& Int64.toUInt64 63)).toInt64)) hx hb dX10_feed_58 rfl ?_
    refine lv_ldc2 (pc := 59) (v := (255 : Int64)) hx hb X.1.2.2.2.1 (X.1.2.2.2.2 _ g_575) dX10_feed_59 ?_
    refine lv_land (pc := 62) hx hb dX10_feed_62 ?_
    refine lv_l2i (pc := 63) (v := ((((((x1).toUInt64 >>> ((((8 : Int32) * x4)).toInt64.toUInt64 &&& Int64.toUInt64 63)).toInt64) &&& (255 : Int64))).toInt32)) hx hb dX10_feed_63 rfl ?_
    obtain ⟨v14, M15, e13, h⟩ := ob2 h
    obtain ⟨fs16, hb17⟩ := (rX3_add e13)
    refine bz_callV1 (pc := 64) (As := [.int ((((((x1).toUInt64 >>> ((((8 : Int32) * x4)).toInt64.toUInt64 &&& Int64.toUInt64 63)).toInt64) &&& (255 : Int64))).toInt32)]) (rest := []) X hM hl.1 k_RX10_92 (ctX3_add l e13) rfl hb17 rfl rfl ⟨(Nat.le_of_ble_eq_true rfl), (Nat.le_of_ble_eq_true rfl)⟩ (Nat.le_of_ble_eq_true rfl) ⟨(Nat.le_of_ble_eq_true rfl), (Nat.le_of_ble_eq_true rfl)⟩ dX10_feed_64 (fun H locs hM => ?_)
    refine lv_pop (pc := 67) hx hb dX10_feed_67 rfl ?_
    refine lv_iinc (pc := 68) (v := (x4 + (1 : Int32))) (lv' := [(4, .int (x4 + (1 : Int32))), (0, .ref (pB P + x0)), (1, .long x1), (3, .int x3)]) hx hb dX10_feed_68 hl (k := 3) rfl rfl (by decide) rfl (fun ls hl => ?_)
    refine lv_goto (pc := 71) (tgt := 39) hx hb dX10_feed_71 (by decide) ?_
    exact hK39 _ _ _ _ _ h H locs ls hM (lv_sub hl [1, 2, 3, 0] rfl)
set_option maxHeartbeats 4000000 in
set_option maxRecDepth 100000 in
theorem wLX10_feed_39 {p : Program} {l : Launch} {e : Env} {s : State} {m : MethodId} {args : Array Value} {below : List Frame} {meth : Method} {c : Code} {P : PT} {N : Nat}  {r9 : Int32} {M9 : Mm} (hX : Cy p s m args c meth cX10_feed 5 RX10 "feed" (some .int) P)   : ∀ (n : Nat) (M : Mm) (x0 : Nat) (x1 : Int64) (x3 : Int32) (x4 : Int32) , LX10_feed_39 N n M x0 x1 x3 x4 = some (r9, M9) → Wq p l e s m args below meth c 3 0 (some (.int r9)) M9 5 P 0 39 [(0, .ref (pB P + x0)), (1, .long x1), (3, .int x3), (4, .int x4)] [] M := by
  intro n
  induction n with
  | zero => intro M x0 x1 x3 x4 h; cases h
  | succ n ih => intro M x0 x1 x3 x4 h; exact wBX10_feed_39 hX ih M x0 x1 x3 x4 h
set_option maxHeartbeats 4000000 in
set_option maxRecDepth 100000 in
theorem wX10_feed {p : Program} {l : Launch} {e : Env} {s : State} {m : MethodId} {args : Array Value} {below : List Frame} {meth : Method} {c : Code} {P : PT} {N : Nat}  {r9 : Int32} {M9 : Mm} (hX : Cy p s m args c meth cX10_feed 5 RX10 "feed" (some .int) P)  (M : Mm) (a0 : Nat) (a1 : Int64) (a3 : Int32) (h : fX10_feed N M a0 a1 a3 = some (r9, M9)) : Wq p l e s m args below meth c 3 0 (some (.int r9)) M9 5 P 0 0 [(0, .ref (pB P + a0)), (1, .long a1), (3, .int a3)] [] M := by
  unfold fX10_feed at h
  obtain ⟨_, _, h⟩ := ob h
  have hX0 := hX
  obtain ⟨X, hr, hlk, hnm⟩ := hX0
  have hx := X.1.1
  have hb := X.1.2.1
  intro H locs ls hM hl
  refine lv_iload_n (pc := 0) hx hb dX10_feed_0 rfl (lv_at hl 2 rfl) ?_
  refine lv_iconst (pc := 1) (v := (1 : Int32)) hx hb dX10_feed_1 (by decide) ?_
  refine lv_bipush (pc := 2) (v := (8 : Int32)) hx hb dX10_feed_2 (by decide) ?_
  obtain ⟨v2, e1, h⟩ := ob h
  refine bz_callS1 (pc := 4) (As := [.int a3, .int (1 : Int32), .int (8 : Int32)]) (rest := []) X hM hl.1 k_RX10_74 (ctX10_within l e1) rfl rfl ⟨(Nat.le_of_ble_eq_true rfl), (Nat.le_of_ble_eq_true rfl)⟩ (Nat.le_of_ble_eq_true rfl) ⟨(Nat.le_of_ble_eq_true rfl), (Nat.le_of_ble_eq_true rfl)⟩ dX10_feed_4 (fun H locs hM => ?_)
  refine lv_if_ne (pc := 7) (tgt := 16) hx hb dX10_feed_7 (by decide) (fun hc => ?_) (fun hc => ?_)
  · have h := if_f hc h
    refine lv_aload_n (pc := 16) hx hb dX10_feed_16 rfl (lv_at hl 0 rfl) ?_
    obtain ⟨q3, e4, h⟩ := ob h
    refine bz_getQ (pc := 17) X hM fl_RX10_10 e4 dX10_feed_17 ?_
    obtain ⟨q5, e6, h⟩ := ob h
    refine bz_getQ (pc := 20) X hM fl_RX10_173 e6 dX10_feed_20 ?_
    obtain ⟨v8, e7, h⟩ := ob h
    obtain ⟨fs9, hb10⟩ := (rX3_room e7)
    refine bz_callV1 (pc := 23) (As := []) (rest := []) X hM hl.1 k_RX10_176 (ctX3_room l e7) rfl hb10 rfl rfl ⟨(Nat.le_of_ble_eq_true rfl), (Nat.le_of_ble_eq_true rfl)⟩ (Nat.le_of_ble_eq_true rfl) ⟨(Nat.le_of_ble_eq_true rfl), (Nat.le_of_ble_eq_true rfl)⟩ dX10_feed_23 (fun H locs hM => ?_)
    refine lv_iload_n (pc := 26) hx hb dX10_feed_26 rfl (lv_at hl 2 rfl) ?_
    refine lv_icmp_ge (pc := 27) (tgt := 36) hx hb dX10_feed_27 (by decide) (fun hc => ?_) (fun hc => ?_)
    · have h := if_t hc h
      refine lv_iconst (pc := 36) (v := (0 : Int32)) hx hb dX10_feed_36 (by decide) ?_
      refine lv_istore (pc := 37) (lv' := [(4, .int (0 : Int32)), (0, .ref (pB P + a0)), (1, .long a1), (3, .int a3)]) hx hb dX10_feed_37 hl (by decide) rfl (fun ls hl => ?_)
      exact wLX10_feed_39 hX _ _ _ _ _ _ h H locs ls hM (lv_sub hl [1, 2, 3, 0] rfl)
    · have h := if_f hc h
      refine lv_aload_n (pc := 30) hx hb dX10_feed_30 rfl (lv_at hl 0 rfl) ?_
      refine lv_iconst (pc := 31) (v := (4 : Int32)) hx hb dX10_feed_31 (by decide) ?_
      obtain ⟨v12, M13, e11, h⟩ := ob2 h
      obtain ⟨fs14, hb15⟩ := (rX10_error e11)
      refine bz_callV1 (pc := 32) (As := [.int (4 : Int32)]) (rest := []) X hM hl.1 k_RX10_78 (ctX10_error l e11) rfl hb15 rfl rfl ⟨(Nat.le_of_ble_eq_true rfl), (Nat.le_of_ble_eq_true rfl)⟩ (Nat.le_of_ble_eq_true rfl) ⟨(Nat.le_of_ble_eq_true rfl), (Nat.le_of_ble_eq_true rfl)⟩ dX10_feed_32 (fun H locs hM => ?_)
      obtain ⟨rfl, rfl⟩ := so2 h
      exact bz_iret (pc := 35) X hM hr hlk dX10_feed_35 (Nat.le_of_ble_eq_true rfl) (Nat.le_of_ble_eq_true rfl)
  · have h := if_t hc h
    refine lv_aload_n (pc := 10) hx hb dX10_feed_10 rfl (lv_at hl 0 rfl) ?_
    refine lv_iconst (pc := 11) (v := (1 : Int32)) hx hb dX10_feed_11 (by decide) ?_
    obtain ⟨v17, M18, e16, h⟩ := ob2 h
    obtain ⟨fs19, hb20⟩ := (rX10_error e16)
    refine bz_callV1 (pc := 12) (As := [.int (1 : Int32)]) (rest := []) X hM hl.1 k_RX10_78 (ctX10_error l e16) rfl hb20 rfl rfl ⟨(Nat.le_of_ble_eq_true rfl), (Nat.le_of_ble_eq_true rfl)⟩ (Nat.le_of_ble_eq_true rfl) ⟨(Nat.le_of_ble_eq_true rfl), (Nat.le_of_ble_eq_true rfl)⟩ dX10_feed_12 (fun H locs hM => ?_)
    obtain ⟨rfl, rfl⟩ := so2 h
    exact bz_iret (pc := 15) X hM hr hlk dX10_feed_15 (Nat.le_of_ble_eq_true rfl) (Nat.le_of_ble_eq_true rfl)
theorem rX10_feed {N : Nat} {M : Mm} {a0 : Nat} {a1 : Int64} {a3 : Int32} {r9 : Int32 × Mm} (h : fX10_feed N M a0 a1 a3 = some r9) : ∃ fs, M[a0]? = some (.inr (10, fs)) := by
  unfold fX10_feed at h
  obtain ⟨_, e1, _⟩ := ob h
  exact gC_spec e1
theorem ctX10_feed (l : Launch) {P : PT} {N : Nat} {M : Mm} {a0 : Nat} {a1 : Int64} {a3 : Int32} {r9 : Int32} {M9 : Mm} (h : fX10_feed N M a0 a1 a3 = some (r9, M9)) : Ct l yX10_feed cX10_feed 5 (some .int) 3 0 P [.ref (pB P + a0), .long a1, .int a3] M (some (.int r9)) M9 :=
  Ct.mk (by decide +kernel) (Nat.le_of_ble_eq_true rfl) (fun p e s m args below meth c hX => wX10_feed hX M a0 a1 a3 h)
set_option maxHeartbeats 4000000 in
set_option maxRecDepth 100000 in
theorem wBX11_feed_41 {p : Program} {l : Launch} {e : Env} {s : State} {m : MethodId} {args : Array Value} {below : List Frame} {meth : Method} {c : Code} {P : PT} {N : Nat} {K41 : Mm → Nat → Int64 → Int32 → Int32 → Option (Int32 × Mm)}  {r9 : Int32} {M9 : Mm} (hX : Cy p s m args c meth cX11_feed 5 RX11 "feed" (some .int) P)  (hK41 : ∀ (M : Mm) (x0 : Nat) (x1 : Int64) (x3 : Int32) (x4 : Int32), K41 M x0 x1 x3 x4 = some (r9, M9) → Wq p l e s m args below meth c 1 0 (some (.int r9)) M9 5 P 0 41 [(0, .ref (pB P + x0)), (1, .long x1), (3, .int x3), (4, .int x4)] [] M) (M : Mm) (x0 : Nat) (x1 : Int64) (x3 : Int32) (x4 : Int32)  (h : BX11_feed_41 N K41 M x0 x1 x3 x4 = some (r9, M9)) : Wq p l e s m args below meth c 1 0 (some (.int r9)) M9 5 P 0 41 [(0, .ref (pB P + x0)), (1, .long x1), (3, .int x3), (4, .int x4)] [] M := by
  unfold BX11_feed_41 at h
  have hX0 := hX
  obtain ⟨X, hr, hlk, hnm⟩ := hX0
  have hx := X.1.1
  have hb := X.1.2.1
  intro H locs ls hM hl
  refine lv_iload (pc := 41) hx hb dX11_feed_41 (lv_at hl 3 rfl) ?_
  refine lv_iload_n (pc := 43) hx hb dX11_feed_43 rfl (lv_at hl 2 rfl) ?_
  refine lv_icmp_ge (pc := 44) (tgt := 92) hx hb dX11_feed_44 (by decide) (fun hc => ?_) (fun hc => ?_)
  · have h := if_t hc h
    refine lv_aload_n (pc := 92) hx hb dX11_feed_92 rfl (lv_at hl 0 rfl) ?_
    obtain ⟨q1, e2, h⟩ := ob h
    refine bz_getQ (pc := 93) X hM fl_RX11_9 e2 dX11_feed_93 ?_
    refine lv_bipush (pc := 96) (v := (6 : Int32)) hx hb dX11_feed_96 (by decide) ?_
    obtain ⟨v3, e4, h⟩ := ob h
    refine bz_iald (pc := 98) X hM e4 dX11_feed_98 ?_
    obtain ⟨rfl, rfl⟩ := so2 h
    exact bz_iret (pc := 99) X hM hr hlk dX11_feed_99 (Nat.le_of_ble_eq_true rfl) (Nat.le_of_ble_eq_true rfl)
  · have h := if_f hc h
    refine lv_aload_n (pc := 47) hx hb dX11_feed_47 rfl (lv_at hl 0 rfl) ?_
    obtain ⟨q5, e6, h⟩ := ob h
    refine bz_getQ (pc := 48) X hM fl_RX11_9 e6 dX11_feed_48 ?_
    refine lv_sipush (pc := 51) (v := (412 : Int32)) hx hb dX11_feed_51 (by decide) ?_
    refine lv_aload_n (pc := 54) hx hb dX11_feed_54 rfl (lv_at hl 0 rfl) ?_
    obtain ⟨q7, e8, h⟩ := ob h
    refine bz_getQ (pc := 55) X hM fl_RX11_9 e8 dX11_feed_55 ?_
    refine lv_bipush (pc := 58) (v := (6 : Int32)) hx hb dX11_feed_58 (by decide) ?_
    obtain ⟨v9, e10, h⟩ := ob h
    refine bz_iald (pc := 60) X hM e10 dX11_feed_60 ?_
    refine lv_iadd (pc := 61) hx hb dX11_feed_61 ?_
    refine lv_lload_n (pc := 62) hx hb dX11_feed_62 rfl (lv_at hl 1 rfl) ?_
    refine lv_bipush (pc := 63) (v := (8 : Int32)) hx hb dX11_feed_63 (by decide) ?_
    refine lv_iload (pc := 65) hx hb dX11_feed_65 (lv_at hl 3 rfl) ?_
    refine lv_imul (pc := 67) hx hb dX11_feed_67 ?_
    refine lv_lshr (pc := 68) (v := ((x1 >>> ((((8 : Int32) * x4)).toInt64 &&& 63)))) hx hb dX11_feed_68 rfl ?_
    refine lv_ldc2 (pc := 69) (v := (255 : Int64)) hx hb X.1.2.2.2.1 (X.1.2.2.2.2 _ g_1398) dX11_feed_69 ?_
    refine lv_land (pc := 72) hx hb dX11_feed_72 ?_
    refine lv_l2i (pc := 73) (v := (((((x1 >>> ((((8 : Int32) * x4)).toInt64 &&& 63))) &&& (255 : Int64))).toInt32)) hx hb dX11_feed_73 rfl ?_
    obtain ⟨M11, e12, h⟩ := ob h
    refine bz_iast (pc := 74) X hM e12 dX11_feed_74 (fun H locs hM => ?_)
    refine lv_aload_n (pc := 75) hx hb dX11_feed_75 rfl (lv_at hl 0 rfl) ?_
    obtain ⟨q13, e14, h⟩ := ob h
    refine bz_getQ (pc := 76) X hM fl_RX11_9 e14 dX11_feed_76 ?_
    refine lv_bipush (pc := 79) (v := (6 : Int32)) hx hb dX11_feed_79 (by decide) ?_
    refine lv_dup2_11 (pc := 81) hx hb dX11_feed_81 rfl rfl ?_
    obtain ⟨v15, e16, h⟩ := ob h
    refine bz_iald (pc := 82) X hM e16 dX11_feed_82 ?_
    refine lv_iconst (pc := 83) (v := (1 : Int32)) hx hb dX11_feed_83 (by decide) ?_
    refine lv_iadd (pc := 84) hx hb dX11_feed_84 ?_
    obtain ⟨M17, e18, h⟩ := ob h
    refine bz_iast (pc := 85) X hM e18 dX11_feed_85 (fun H locs hM => ?_)
    refine lv_iinc (pc := 86) (v := (x4 + (1 : Int32))) (lv' := [(4, .int (x4 + (1 : Int32))), (0, .ref (pB P + x0)), (1, .long x1), (3, .int x3)]) hx hb dX11_feed_86 hl (k := 3) rfl rfl (by decide) rfl (fun ls hl => ?_)
    refine lv_goto (pc := 89) (tgt := 41) hx hb dX11_feed_89 (by decide) ?_
    exact hK41 _ _ _ _ _ h H locs ls hM (lv_sub hl [1, 2, 3, 0] rfl)
set_option maxHeartbeats 4000000 in
set_option maxRecDepth 100000 in
theorem wLX11_feed_41 {p : Program} {l : Launch} {e : Env} {s : State} {m : MethodId} {args : Array Value} {below : List Frame} {meth : Method} {c : Code} {P : PT} {N : Nat}  {r9 : Int32} {M9 : Mm} (hX : Cy p s m args c meth cX11_feed 5 RX11 "feed" (some .int) P)   : ∀ (n : Nat) (M : Mm) (x0 : Nat) (x1 : Int64) (x3 : Int32) (x4 : Int32) , LX11_feed_41 N n M x0 x1 x3 x4 = some (r9, M9) → Wq p l e s m args below meth c 1 0 (some (.int r9)) M9 5 P 0 41 [(0, .ref (pB P + x0)), (1, .long x1), (3, .int x3), (4, .int x4)] [] M := by
  intro n
  induction n with
  | zero => intro M x0 x1 x3 x4 h; cases h
  | succ n ih => intro M x0 x1 x3 x4 h; exact wBX11_feed_41 hX ih M x0 x1 x3 x4 h
set_option maxHeartbeats 4000000 in
set_option maxRecDepth 100000 in
theorem wX11_feed {p : Program} {l : Launch} {e : Env} {s : State} {m : MethodId} {args : Array Value} {below : List Frame} {meth : Method} {c : Code} {P : PT} {N : Nat}  {r9 : Int32} {M9 : Mm} (hX : Cy p s m args c meth cX11_feed 5 RX11 "feed" (some .int) P)  (M : Mm) (a0 : Nat) (a1 : Int64) (a3 : Int32) (h : fX11_feed N M a0 a1 a3 = some (r9, M9)) : Wq p l e s m args below meth c 1 0 (some (.int r9)) M9 5 P 0 0 [(0, .ref (pB P + a0)), (1, .long a1), (3, .int a3)] [] M := by
  unfold fX11_feed at h
  obtain ⟨_, _, h⟩ := ob h
  have hX0 := hX
  obtain ⟨X, hr, hlk, hnm⟩ := hX0
  have hx := X.1.1
  have hb := X.1.2.1
  intro H locs ls hM hl
  refine lv_iload_n (pc := 0) hx hb dX11_feed_0 rfl (lv_at hl 2 rfl) ?_
  refine lv_i2l (pc := 1) (v := ((a3).toInt64)) hx hb dX11_feed_1 rfl ?_
  refine lv_lconst (pc := 2) (v := (1 : Int64)) hx hb dX11_feed_2 (by decide) ?_
  refine lv_ldc2 (pc := 3) (v := (8 : Int64)) hx hb X.1.2.2.2.1 (X.1.2.2.2.2 _ g_1397) dX11_feed_3 ?_
  obtain ⟨v2, e1, h⟩ := ob h
  refine bz_callS1 (pc := 6) (As := [.long ((a3).toInt64), .long (1 : Int64), .long (8 : Int64)]) (rest := []) X hM hl.1 k_RX11_57 (ctX11_in l e1) rfl rfl ⟨(Nat.le_of_ble_eq_true rfl), (Nat.le_of_ble_eq_true rfl)⟩ (Nat.le_of_ble_eq_true rfl) ⟨(Nat.le_of_ble_eq_true rfl), (Nat.le_of_ble_eq_true rfl)⟩ dX11_feed_6 (fun H locs hM => ?_)
  refine lv_if_ne (pc := 9) (tgt := 18) hx hb dX11_feed_9 (by decide) (fun hc => ?_) (fun hc => ?_)
  · have h := if_f hc h
    refine lv_aload_n (pc := 18) hx hb dX11_feed_18 rfl (lv_at hl 0 rfl) ?_
    obtain ⟨q3, e4, h⟩ := ob h
    refine bz_getQ (pc := 19) X hM fl_RX11_9 e4 dX11_feed_19 ?_
    refine lv_bipush (pc := 22) (v := (6 : Int32)) hx hb dX11_feed_22 (by decide) ?_
    obtain ⟨v5, e6, h⟩ := ob h
    refine bz_iald (pc := 24) X hM e6 dX11_feed_24 ?_
    refine lv_iload_n (pc := 25) hx hb dX11_feed_25 rfl (lv_at hl 2 rfl) ?_
    refine lv_iadd (pc := 26) hx hb dX11_feed_26 ?_
    refine lv_bipush (pc := 27) (v := (50 : Int32)) hx hb dX11_feed_27 (by decide) ?_
    refine lv_icmp_le (pc := 29) (tgt := 38) hx hb dX11_feed_29 (by decide) (fun hc => ?_) (fun hc => ?_)
    · have h := if_t hc h
      refine lv_iconst (pc := 38) (v := (0 : Int32)) hx hb dX11_feed_38 (by decide) ?_
      refine lv_istore (pc := 39) (lv' := [(4, .int (0 : Int32)), (0, .ref (pB P + a0)), (1, .long a1), (3, .int a3)]) hx hb dX11_feed_39 hl (by decide) rfl (fun ls hl => ?_)
      exact wLX11_feed_41 hX _ _ _ _ _ _ h H locs ls hM (lv_sub hl [1, 2, 3, 0] rfl)
    · have h := if_f hc h
      refine lv_aload_n (pc := 32) hx hb dX11_feed_32 rfl (lv_at hl 0 rfl) ?_
      refine lv_iconst (pc := 33) (v := (4 : Int32)) hx hb dX11_feed_33 (by decide) ?_
      obtain ⟨v8, M9, e7, h⟩ := ob2 h
      obtain ⟨fs10, hb11⟩ := (rX11_error e7)
      refine bz_callV1 (pc := 34) (As := [.int (4 : Int32)]) (rest := []) X hM hl.1 k_RX11_73 (ctX11_error l e7) rfl hb11 rfl rfl ⟨(Nat.le_of_ble_eq_true rfl), (Nat.le_of_ble_eq_true rfl)⟩ (Nat.le_of_ble_eq_true rfl) ⟨(Nat.le_of_ble_eq_true rfl), (Nat.le_of_ble_eq_true rfl)⟩ dX11_feed_34 (fun H locs hM => ?_)
      obtain ⟨rfl, rfl⟩ := so2 h
      exact bz_iret (pc := 37) X hM hr hlk dX11_feed_37 (Nat.le_of_ble_eq_true rfl) (Nat.le_of_ble_eq_true rfl)
  · have h := if_t hc h
    refine lv_aload_n (pc := 12) hx hb dX11_feed_12 rfl (lv_at hl 0 rfl) ?_
    refine lv_iconst (pc := 13) (v := (1 : Int32)) hx hb dX11_feed_13 (by decide) ?_
    obtain ⟨v13, M14, e12, h⟩ := ob2 h
    obtain ⟨fs15, hb16⟩ := (rX11_error e12)
    refine bz_callV1 (pc := 14) (As := [.int (1 : Int32)]) (rest := []) X hM hl.1 k_RX11_73 (ctX11_error l e12) rfl hb16 rfl rfl ⟨(Nat.le_of_ble_eq_true rfl), (Nat.le_of_ble_eq_true rfl)⟩ (Nat.le_of_ble_eq_true rfl) ⟨(Nat.le_of_ble_eq_true rfl), (Nat.le_of_ble_eq_true rfl)⟩ dX11_feed_14 (fun H locs hM => ?_)
    obtain ⟨rfl, rfl⟩ := so2 h
    exact bz_iret (pc := 17) X hM hr hlk dX11_feed_17 (Nat.le_of_ble_eq_true rfl) (Nat.le_of_ble_eq_true rfl)
theorem rX11_feed {N : Nat} {M : Mm} {a0 : Nat} {a1 : Int64} {a3 : Int32} {r9 : Int32 × Mm} (h : fX11_feed N M a0 a1 a3 = some r9) : ∃ fs, M[a0]? = some (.inr (11, fs)) := by
  unfold fX11_feed at h
  obtain ⟨_, e1, _⟩ := ob h
  exact gC_spec e1
theorem ctX11_feed (l : Launch) {P : PT} {N : Nat} {M : Mm} {a0 : Nat} {a1 : Int64} {a3 : Int32} {r9 : Int32} {M9 : Mm} (h : fX11_feed N M a0 a1 a3 = some (r9, M9)) : Ct l yX11_feed cX11_feed 5 (some .int) 1 0 P [.ref (pB P + a0), .long a1, .int a3] M (some (.int r9)) M9 :=
  Ct.mk (by decide +kernel) (Nat.le_of_ble_eq_true rfl) (fun p e s m args below meth c hX => wX11_feed hX M a0 a1 a3 h)
set_option maxHeartbeats 4000000 in
set_option maxRecDepth 100000 in
theorem wX3_become {p : Program} {l : Launch} {e : Env} {s : State} {m : MethodId} {args : Array Value} {below : List Frame} {meth : Method} {c : Code} {P : PT}  {M9 : Mm} (hX : Cy p s m args c meth cX3_become 2 RX3 "become" none P)  (M : Mm) (a0 : Nat) (a1 : Nat) (h : fX3_become M a0 a1 = some M9) : Wq p l e s m args below meth c 1 0 none M9 2 P 0 0 [(0, .ref (pB P + a0)), (1, .ref (pB P + a1))] [] M := by
  unfold fX3_become at h
  obtain ⟨_, _, h⟩ := ob h
  have hX0 := hX
  obtain ⟨X, hr, hlk, hnm⟩ := hX0
  have hx := X.1.1
  have hb := X.1.2.1
  intro H locs ls hM hl
  refine lv_aload_n (pc := 0) hx hb dX3_become_0 rfl (lv_at hl 0 rfl) ?_
  refine lv_aload_n (pc := 1) hx hb dX3_become_1 rfl (lv_at hl 1 rfl) ?_
  obtain ⟨v1, e2, h⟩ := ob h
  refine bz_getI (pc := 2) X hM fl_RX3_19 e2 dX3_become_2 ?_
  refine lv_aload_n (pc := 5) hx hb dX3_become_5 rfl (lv_at hl 0 rfl) ?_
  obtain ⟨q3, e4, h⟩ := ob h
  refine bz_getQ (pc := 6) X hM fl_RX3_13 e4 dX3_become_6 ?_
  obtain ⟨v5, e6, h⟩ := ob h
  refine bz_alen (pc := 9) X hM e6 dX3_become_9 ?_
  obtain ⟨v8, e7, h⟩ := ob h
  refine bz_callS1 (pc := 10) (As := [.int v1, .int v5]) (rest := [.ref (pB P + a0)]) X hM hl.1 k_RX3_39 (ctJ9_min_7cf53 l e7) rfl rfl ⟨(Nat.le_of_ble_eq_true rfl), (Nat.le_of_ble_eq_true rfl)⟩ (Nat.le_of_ble_eq_true rfl) ⟨(Nat.le_of_ble_eq_true rfl), (Nat.le_of_ble_eq_true rfl)⟩ dX3_become_10 (fun H locs hM => ?_)
  obtain ⟨M9, e10, h⟩ := ob h
  refine bz_putI (pc := 13) X hM fp_RX3_19 (Or.inl rfl) e10 dX3_become_13 (fun H locs hM => ?_)
  refine lv_aload_n (pc := 16) hx hb dX3_become_16 rfl (lv_at hl 1 rfl) ?_
  obtain ⟨q11, e12, h⟩ := ob h
  refine bz_getQ (pc := 17) X hM fl_RX3_13 e12 dX3_become_17 ?_
  refine lv_iconst (pc := 20) (v := (0 : Int32)) hx hb dX3_become_20 (by decide) ?_
  refine lv_aload_n (pc := 21) hx hb dX3_become_21 rfl (lv_at hl 0 rfl) ?_
  obtain ⟨q13, e14, h⟩ := ob h
  refine bz_getQ (pc := 22) X hM fl_RX3_13 e14 dX3_become_22 ?_
  refine lv_iconst (pc := 25) (v := (0 : Int32)) hx hb dX3_become_25 (by decide) ?_
  refine lv_aload_n (pc := 26) hx hb dX3_become_26 rfl (lv_at hl 0 rfl) ?_
  obtain ⟨v15, e16, h⟩ := ob h
  refine bz_getI (pc := 27) X hM fl_RX3_19 e16 dX3_become_27 ?_
  obtain ⟨M17, e18, h⟩ := ob h
  refine bz_copy (pc := 30) X hM hl.1 g_478 m_an m_as m_ai e18 (Nat.le_of_ble_eq_true rfl) (Nat.le_of_ble_eq_true rfl) dX3_become_30 (fun H locs hM => ?_)
  obtain rfl := so1 h
  exact bz_vret (pc := 33) X hM hr hlk dX3_become_33 (Nat.le_of_ble_eq_true rfl) (Nat.le_of_ble_eq_true rfl)
theorem rX3_become {M : Mm} {a0 : Nat} {a1 : Nat} {r9 : Mm} (h : fX3_become M a0 a1 = some r9) : ∃ fs, M[a0]? = some (.inr (3, fs)) := by
  unfold fX3_become at h
  obtain ⟨_, e1, _⟩ := ob h
  exact gC_spec e1
theorem ctX3_become (l : Launch) {P : PT} {M : Mm} {a0 : Nat} {a1 : Nat} {M9 : Mm} (h : fX3_become M a0 a1 = some M9) : Ct l yX3_become cX3_become 2 none 1 0 P [.ref (pB P + a0), .ref (pB P + a1)] M none M9 :=
  Ct.mk (by decide +kernel) (Nat.le_of_ble_eq_true rfl) (fun p e s m args below meth c hX => wX3_become hX M a0 a1 h)
set_option maxHeartbeats 4000000 in
set_option maxRecDepth 100000 in
theorem wX2_signsOf {p : Program} {l : Launch} {e : Env} {s : State} {m : MethodId} {args : Array Value} {below : List Frame} {meth : Method} {c : Code} {P : PT}  {r9 : Nat} (hX : Cy p s m args c meth cX2_signsOf 1 RX2 "signsOf" (some (.object "java/lang/String")) P)  (M : Mm) (a0 : Int32) (h : fX2_signsOf M a0 = some r9) : Wq p l e s m args below meth c 0 0 (some (.ref (pK P r9))) M 1 P 0 0 [(0, .int a0)] [] M := by
  unfold fX2_signsOf at h
  have hX0 := hX
  obtain ⟨X, hr, hlk, hnm⟩ := hX0
  have hx := X.1.1
  have hb := X.1.2.1
  intro H locs ls hM hl
  refine lv_iload_n (pc := 0) hx hb dX2_signsOf_0 rfl (lv_at hl 0 rfl) ?_
  by_cases hs0 : a0 = (0 : Int32)
  · have h := if_t hs0 h
    refine lv_tableIn (pc := 1) (off := 31) (tgt := 32) hx hb dX2_signsOf_1 (by rw [hs0]; decide) (by rw [hs0]; decide) (by rw [hs0]; rfl) (by decide) ?_
    refine bz_ldcS (pc := 32) X 6 (by decide) rfl rfl dX2_signsOf_32 ?_
    obtain rfl := so1 h
    exact bz_sret (pc := 34) X hM hr hlk dX2_signsOf_34 (Nat.le_of_ble_eq_true rfl) (Nat.le_of_ble_eq_true rfl)
  have h := if_f hs0 h
  by_cases hs1 : a0 = (1 : Int32)
  · have h := if_t hs1 h
    refine lv_tableIn (pc := 1) (off := 34) (tgt := 35) hx hb dX2_signsOf_1 (by rw [hs1]; decide) (by rw [hs1]; decide) (by rw [hs1]; rfl) (by decide) ?_
    refine bz_ldcS (pc := 35) X 7 (by decide) rfl rfl dX2_signsOf_35 ?_
    obtain rfl := so1 h
    exact bz_sret (pc := 37) X hM hr hlk dX2_signsOf_37 (Nat.le_of_ble_eq_true rfl) (Nat.le_of_ble_eq_true rfl)
  have h := if_f hs1 h
  by_cases hs2 : a0 = (2 : Int32)
  · have h := if_t hs2 h
    refine lv_tableIn (pc := 1) (off := 37) (tgt := 38) hx hb dX2_signsOf_1 (by rw [hs2]; decide) (by rw [hs2]; decide) (by rw [hs2]; rfl) (by decide) ?_
    refine bz_ldcS (pc := 38) X 8 (by decide) rfl rfl dX2_signsOf_38 ?_
    obtain rfl := so1 h
    exact bz_sret (pc := 40) X hM hr hlk dX2_signsOf_40 (Nat.le_of_ble_eq_true rfl) (Nat.le_of_ble_eq_true rfl)
  have h := if_f hs2 h
  by_cases hs3 : a0 = (3 : Int32)
  · have h := if_t hs3 h
    refine lv_tableIn (pc := 1) (off := 40) (tgt := 41) hx hb dX2_signsOf_1 (by rw [hs3]; decide) (by rw [hs3]; decide) (by rw [hs3]; rfl) (by decide) ?_
    refine bz_ldcS (pc := 41) X 9 (by decide) rfl rfl dX2_signsOf_41 ?_
    obtain rfl := so1 h
    exact bz_sret (pc := 43) X hM hr hlk dX2_signsOf_43 (Nat.le_of_ble_eq_true rfl) (Nat.le_of_ble_eq_true rfl)
  have h := if_f hs3 h
  have ho : (a0).toInt < 0 ∨ 3 < (a0).toInt := by
    have hs0 := lv_neT hs0 (a := 0) (by decide)
    have hs1 := lv_neT hs1 (a := 1) (by decide)
    have hs2 := lv_neT hs2 (a := 2) (by decide)
    have hs3 := lv_neT hs3 (a := 3) (by decide)
    omega
  refine lv_tableOut (pc := 1) (tgt := 44) hx hb dX2_signsOf_1 ho (by decide) ?_
  refine bz_ldcS (pc := 44) X 10 (by decide) rfl rfl dX2_signsOf_44 ?_
  obtain rfl := so1 h
  exact bz_sret (pc := 46) X hM hr hlk dX2_signsOf_46 (Nat.le_of_ble_eq_true rfl) (Nat.le_of_ble_eq_true rfl)
theorem ctX2_signsOf (l : Launch) {P : PT} {M : Mm} {a0 : Int32} {r9 : Nat} (h : fX2_signsOf M a0 = some r9) : Ct l yX2_signsOf cX2_signsOf 1 (some (.object "java/lang/String")) 0 0 P [.int a0] M (some (.ref (pK P r9))) M :=
  Ct.mk (by decide +kernel) (Nat.le_of_ble_eq_true rfl) (fun p e s m args below meth c hX => wX2_signsOf hX M a0 h)
set_option maxHeartbeats 4000000 in
set_option maxRecDepth 100000 in
theorem wJ0_isLatin1_aae02 {p : Program} {l : Launch} {e : Env} {s : State} {m : MethodId} {args : Array Value} {below : List Frame} {meth : Method} {c : Code} {P : PT}  {r9 : Int32} (hX : Cy p s m args c meth cJ0_isLatin1_aae02 1 RJ0 "isLatin1" (some .boolean) P)  (M : Mm) (a0 : Nat) (h : fJ0_isLatin1_aae02 M a0 = some r9) : Wq p l e s m args below meth c 0 0 (some (.int r9)) M 1 P 0 0 [(0, .ref (pK P a0))] [] M := by
  unfold fJ0_isLatin1_aae02 at h
  have hX0 := hX
  obtain ⟨X, hr, hlk, hnm⟩ := hX0
  have hx := X.1.1
  have hb := X.1.2.1
  intro H locs ls hM hl
  refine bz_compact (pc := 0) X hM g_619 dJ0_isLatin1_aae02_0 ?_
  refine lv_if_eq (pc := 3) (tgt := 17) hx hb dJ0_isLatin1_aae02_3 (by decide) (fun hc => ?_) (fun hc => ?_)
  · have h := if_t hc h
    refine lv_iconst (pc := 17) (v := (0 : Int32)) hx hb dJ0_isLatin1_aae02_17 (by decide) ?_
    obtain rfl := so1 h
    exact bz_zret (pc := 18) X hM hr hlk (by decide) dJ0_isLatin1_aae02_18 (Nat.le_of_ble_eq_true rfl) (Nat.le_of_ble_eq_true rfl)
  · have h := if_f hc h
    refine lv_aload_n (pc := 6) hx hb dJ0_isLatin1_aae02_6 rfl (lv_at hl 0 rfl) ?_
    obtain ⟨q1, e2, h⟩ := ob h
    refine bz_scod (pc := 7) X hM g_1748 e2 dJ0_isLatin1_aae02_7 ?_
    refine lv_if_ne (pc := 10) (tgt := 17) hx hb dJ0_isLatin1_aae02_10 (by decide) (fun hc => ?_) (fun hc => ?_)
    · have h := if_f hc h
      refine lv_iconst (pc := 17) (v := (0 : Int32)) hx hb dJ0_isLatin1_aae02_17 (by decide) ?_
      obtain rfl := so1 h
      exact bz_zret (pc := 18) X hM hr hlk (by decide) dJ0_isLatin1_aae02_18 (Nat.le_of_ble_eq_true rfl) (Nat.le_of_ble_eq_true rfl)
    · have h := if_t hc h
      refine lv_iconst (pc := 13) (v := (1 : Int32)) hx hb dJ0_isLatin1_aae02_13 (by decide) ?_
      refine lv_goto (pc := 14) (tgt := 18) hx hb dJ0_isLatin1_aae02_14 (by decide) ?_
      obtain rfl := so1 h
      exact bz_zret (pc := 18) X hM hr hlk (by decide) dJ0_isLatin1_aae02_18 (Nat.le_of_ble_eq_true rfl) (Nat.le_of_ble_eq_true rfl)
theorem ctJ0_isLatin1_aae02 (l : Launch) {P : PT} {M : Mm} {a0 : Nat} {r9 : Int32} (h : fJ0_isLatin1_aae02 M a0 = some r9) : Ct l yJ0_isLatin1_aae02 cJ0_isLatin1_aae02 1 (some .boolean) 0 0 P [.ref (pK P a0)] M (some (.int r9)) M :=
  Ct.mk (by decide +kernel) (Nat.le_of_ble_eq_true rfl) (fun p e s m args below meth c hX => wJ0_isLatin1_aae02 hX M a0 h)
set_option maxHeartbeats 4000000 in
set_option maxRecDepth 100000 in
theorem wJ0_coder_7d493 {p : Program} {l : Launch} {e : Env} {s : State} {m : MethodId} {args : Array Value} {below : List Frame} {meth : Method} {c : Code} {P : PT}  {r9 : Int32} (hX : Cy p s m args c meth cJ0_coder_7d493 1 RJ0 "coder" (some .byte) P)  (M : Mm) (a0 : Nat) (h : fJ0_coder_7d493 M a0 = some r9) : Wq p l e s m args below meth c 0 0 (some (.int r9)) M 1 P 0 0 [(0, .ref (pK P a0))] [] M := by
  unfold fJ0_coder_7d493 at h
  have hX0 := hX
  obtain ⟨X, hr, hlk, hnm⟩ := hX0
  have hx := X.1.1
  have hb := X.1.2.1
  intro H locs ls hM hl
  refine bz_compact (pc := 0) X hM g_619 dJ0_coder_7d493_0 ?_
  refine lv_if_eq (pc := 3) (tgt := 13) hx hb dJ0_coder_7d493_3 (by decide) (fun hc => ?_) (fun hc => ?_)
  · have h := if_t hc h
    refine lv_iconst (pc := 13) (v := (1 : Int32)) hx hb dJ0_coder_7d493_13 (by decide) ?_
    obtain rfl := so1 h
    exact bz_bret (pc := 14) X hM hr hlk (by decide) dJ0_coder_7d493_14 (Nat.le_of_ble_eq_true rfl) (Nat.le_of_ble_eq_true rfl)
  · have h := if_f hc h
    refine lv_aload_n (pc := 6) hx hb dJ0_coder_7d493_6 rfl (lv_at hl 0 rfl) ?_
    obtain ⟨q1, e2, h⟩ := ob h
    refine bz_scod (pc := 7) X hM g_1748 e2 dJ0_coder_7d493_7 ?_
    refine lv_goto (pc := 10) (tgt := 14) hx hb dJ0_coder_7d493_10 (by decide) ?_
    obtain rfl := so1 h
    exact bz_bret (pc := 14) X hM hr hlk (by decide) dJ0_coder_7d493_14 (Nat.le_of_ble_eq_true rfl) (Nat.le_of_ble_eq_true rfl)
theorem ctJ0_coder_7d493 (l : Launch) {P : PT} {M : Mm} {a0 : Nat} {r9 : Int32} (h : fJ0_coder_7d493 M a0 = some r9) : Ct l yJ0_coder_7d493 cJ0_coder_7d493 1 (some .byte) 0 0 P [.ref (pK P a0)] M (some (.int r9)) M :=
  Ct.mk (by decide +kernel) (Nat.le_of_ble_eq_true rfl) (fun p e s m args below meth c hX => wJ0_coder_7d493 hX M a0 h)
set_option maxHeartbeats 4000000 in
set_option maxRecDepth 100000 in
theorem wJ0_length_8abf5 {p : Program} {l : Launch} {e : Env} {s : State} {m : MethodId} {args : Array Value} {below : List Frame} {meth : Method} {c : Code} {P : PT}  {r9 : Int32} (hX : Cy p s m args c meth cJ0_length_8abf5 1 RJ0 "length" (some .int) P)  (M : Mm) (a0 : Nat) (h : fJ0_length_8abf5 M a0 = some r9) : Wq p l e s m args below meth c 1 0 (some (.int r9)) M 1 P 0 0 [(0, .ref (pK P a0))] [] M := by
  unfold fJ0_length_8abf5 at h
  have hX0 := hX
  obtain ⟨X, hr, hlk, hnm⟩ := hX0
  have hx := X.1.1
  have hb := X.1.2.1
  intro H locs ls hM hl
  refine lv_aload_n (pc := 0) hx hb dJ0_length_8abf5_0 rfl (lv_at hl 0 rfl) ?_
  obtain ⟨q1, e2, h⟩ := ob h
  refine bz_sval (pc := 1) X hM g_1749 e2 dJ0_length_8abf5_1 ?_
  obtain ⟨q3, e4, h⟩ := ob h
  refine bz_slen (pc := 4) X hM e4 dJ0_length_8abf5_4 ?_
  refine lv_aload_n (pc := 5) hx hb dJ0_length_8abf5_5 rfl (lv_at hl 0 rfl) ?_
  obtain ⟨q7, e8, h⟩ := ob h
  obtain ⟨v6, e5, h⟩ := ob h
  refine bz_callT1 (pc := 6) (As := []) (rest := [.int (sLn a0)]) X hM hl.1 k_RJ0_335 e8 (ctJ0_coder_7d493 l e5) rfl rfl ⟨(Nat.le_of_ble_eq_true rfl), (Nat.le_of_ble_eq_true rfl)⟩ (Nat.le_of_ble_eq_true rfl) ⟨(Nat.le_of_ble_eq_true rfl), (Nat.le_of_ble_eq_true rfl)⟩ dJ0_length_8abf5_6 (fun H locs hM => ?_)
  refine lv_ishr (pc := 9) hx hb dJ0_length_8abf5_9 ?_
  obtain rfl := so1 h
  exact bz_iret (pc := 10) X hM hr hlk dJ0_length_8abf5_10 (Nat.le_of_ble_eq_true rfl) (Nat.le_of_ble_eq_true rfl)
theorem ctJ0_length_8abf5 (l : Launch) {P : PT} {M : Mm} {a0 : Nat} {r9 : Int32} (h : fJ0_length_8abf5 M a0 = some r9) : Ct l yJ0_length_8abf5 cJ0_length_8abf5 1 (some .int) 1 0 P [.ref (pK P a0)] M (some (.int r9)) M :=
  Ct.mk (by decide +kernel) (Nat.le_of_ble_eq_true rfl) (fun p e s m args below meth c hX => wJ0_length_8abf5 hX M a0 h)
set_option maxHeartbeats 4000000 in
set_option maxRecDepth 100000 in
theorem wJ1_canEncode_9a6ad {p : Program} {l : Launch} {e : Env} {s : State} {m : MethodId} {args : Array Value} {below : List Frame} {meth : Method} {c : Code} {P : PT}  {r9 : Int32} (hX : Cy p s m args c meth cJ1_canEncode_9a6ad 1 RJ1 "canEncode" (some .boolean) P)  (M : Mm) (a0 : Int32) (h : fJ1_canEncode_9a6ad M a0 = some r9) : Wq p l e s m args below meth c 0 0 (some (.int r9)) M 1 P 0 0 [(0, .int a0)] [] M := by
  unfold fJ1_canEncode_9a6ad at h
  have hX0 := hX
  obtain ⟨X, hr, hlk, hnm⟩ := hX0
  have hx := X.1.1
  have hb := X.1.2.1
  intro H locs ls hM hl
  refine lv_iload_n (pc := 0) hx hb dJ1_canEncode_9a6ad_0 rfl (lv_at hl 0 rfl) ?_
  refine lv_if_lt (pc := 1) (tgt := 15) hx hb dJ1_canEncode_9a6ad_1 (by decide) (fun hc => ?_) (fun hc => ?_)
  · have h := if_t hc h
    refine lv_iconst (pc := 15) (v := (0 : Int32)) hx hb dJ1_canEncode_9a6ad_15 (by decide) ?_
    obtain rfl := so1 h
    exact bz_zret (pc := 16) X hM hr hlk (by decide) dJ1_canEncode_9a6ad_16 (Nat.le_of_ble_eq_true rfl) (Nat.le_of_ble_eq_true rfl)
  · have h := if_f hc h
    refine lv_iload_n (pc := 4) hx hb dJ1_canEncode_9a6ad_4 rfl (lv_at hl 0 rfl) ?_
    refine lv_sipush (pc := 5) (v := (255 : Int32)) hx hb dJ1_canEncode_9a6ad_5 (by decide) ?_
    refine lv_icmp_gt (pc := 8) (tgt := 15) hx hb dJ1_canEncode_9a6ad_8 (by decide) (fun hc => ?_) (fun hc => ?_)
    · have h := if_t hc h
      refine lv_iconst (pc := 15) (v := (0 : Int32)) hx hb dJ1_canEncode_9a6ad_15 (by decide) ?_
      obtain rfl := so1 h
      exact bz_zret (pc := 16) X hM hr hlk (by decide) dJ1_canEncode_9a6ad_16 (Nat.le_of_ble_eq_true rfl) (Nat.le_of_ble_eq_true rfl)
    · have h := if_f hc h
      refine lv_iconst (pc := 11) (v := (1 : Int32)) hx hb dJ1_canEncode_9a6ad_11 (by decide) ?_
      refine lv_goto (pc := 12) (tgt := 16) hx hb dJ1_canEncode_9a6ad_12 (by decide) ?_
      obtain rfl := so1 h
      exact bz_zret (pc := 16) X hM hr hlk (by decide) dJ1_canEncode_9a6ad_16 (Nat.le_of_ble_eq_true rfl) (Nat.le_of_ble_eq_true rfl)
theorem ctJ1_canEncode_9a6ad (l : Launch) {P : PT} {M : Mm} {a0 : Int32} {r9 : Int32} (h : fJ1_canEncode_9a6ad M a0 = some r9) : Ct l yJ1_canEncode_9a6ad cJ1_canEncode_9a6ad 1 (some .boolean) 0 0 P [.int a0] M (some (.int r9)) M :=
  Ct.mk (by decide +kernel) (Nat.le_of_ble_eq_true rfl) (fun p e s m args below meth c hX => wJ1_canEncode_9a6ad hX M a0 h)
set_option maxHeartbeats 4000000 in
set_option maxRecDepth 100000 in
theorem wBJ1_indexOfChar_4cfef_7 {p : Program} {l : Launch} {e : Env} {s : State} {m : MethodId} {args : Array Value} {below : List Frame} {meth : Method} {c : Code} {P : PT} {N : Nat} {K7 : Mm → Nat → Int32 → Int32 → Int32 → Option (Int32)}  {r9 : Int32} (hX : Cy p s m args c meth cJ1_indexOfChar_4cfef 6 RJ1 "indexOfChar" (some .int) P)  (hK7 : ∀ (M : Mm) (x0 : Nat) (x3 : Int32) (x4 : Int32) (x5 : Int32), K7 M x0 x3 x4 x5 = some r9 → Wq p l e s m args below meth c 0 0 (some (.int r9)) M 6 P 0 7 [(0, .ref (pV P x0)), (3, .int x3), (4, .int x4), (5, .int x5)] [] M) (M : Mm) (x0 : Nat) (x3 : Int32) (x4 : Int32) (x5 : Int32)  (h : BJ1_indexOfChar_4cfef_7 N K7 M x0 x3 x4 x5 = some r9) : Wq p l e s m args below meth c 0 0 (some (.int r9)) M 6 P 0 7 [(0, .ref (pV P x0)), (3, .int x3), (4, .int x4), (5, .int x5)] [] M := by
  unfold BJ1_indexOfChar_4cfef_7 at h
  have hX0 := hX
  obtain ⟨X, hr, hlk, hnm⟩ := hX0
  have hx := X.1.1
  have hb := X.1.2.1
  intro H locs ls hM hl
  refine lv_iload (pc := 7) hx hb dJ1_indexOfChar_4cfef_7 (lv_at hl 3 rfl) ?_
  refine lv_iload_n (pc := 9) hx hb dJ1_indexOfChar_4cfef_9 rfl (lv_at hl 1 rfl) ?_
  refine lv_icmp_ge (pc := 10) (tgt := 31) hx hb dJ1_indexOfChar_4cfef_10 (by decide) (fun hc => ?_) (fun hc => ?_)
  · have h := if_t hc h
    refine lv_iconst (pc := 31) (v := (-1 : Int32)) hx hb dJ1_indexOfChar_4cfef_31 (by decide) ?_
    obtain rfl := so1 h
    exact bz_iret (pc := 32) X hM hr hlk dJ1_indexOfChar_4cfef_32 (Nat.le_of_ble_eq_true rfl) (Nat.le_of_ble_eq_true rfl)
  · have h := if_f hc h
    refine lv_aload_n (pc := 13) hx hb dJ1_indexOfChar_4cfef_13 rfl (lv_at hl 0 rfl) ?_
    refine lv_iload (pc := 14) hx hb dJ1_indexOfChar_4cfef_14 (lv_at hl 3 rfl) ?_
    obtain ⟨v1, e2, h⟩ := ob h
    refine bz_sald (pc := 16) X hM e2 dJ1_indexOfChar_4cfef_16 ?_
    refine lv_iload (pc := 17) hx hb dJ1_indexOfChar_4cfef_17 (lv_at hl 2 rfl) ?_
    refine lv_icmp_ne (pc := 19) (tgt := 25) hx hb dJ1_indexOfChar_4cfef_19 (by decide) (fun hc => ?_) (fun hc => ?_)
    · have h := if_f hc h
      refine lv_iinc (pc := 25) (v := (x5 + (1 : Int32))) (lv' := [(5, .int (x5 + (1 : Int32))), (0, .ref (pV P x0)), (3, .int x3), (4, .int x4)]) hx hb dJ1_indexOfChar_4cfef_25 hl (k := 3) rfl rfl (by decide) rfl (fun ls hl => ?_)
      refine lv_goto (pc := 28) (tgt := 7) hx hb dJ1_indexOfChar_4cfef_28 (by decide) ?_
      exact hK7 _ _ _ _ _ h H locs ls hM (lv_sub hl [1, 2, 3, 0] rfl)
    · have h := if_t hc h
      refine lv_iload (pc := 22) hx hb dJ1_indexOfChar_4cfef_22 (lv_at hl 3 rfl) ?_
      obtain rfl := so1 h
      exact bz_iret (pc := 24) X hM hr hlk dJ1_indexOfChar_4cfef_24 (Nat.le_of_ble_eq_true rfl) (Nat.le_of_ble_eq_true rfl)
set_option maxHeartbeats 4000000 in
set_option maxRecDepth 100000 in
theorem wLJ1_indexOfChar_4cfef_7 {p : Program} {l : Launch} {e : Env} {s : State} {m : MethodId} {args : Array Value} {below : List Frame} {meth : Method} {c : Code} {P : PT} {N : Nat}  {r9 : Int32} (hX : Cy p s m args c meth cJ1_indexOfChar_4cfef 6 RJ1 "indexOfChar" (some .int) P)   : ∀ (n : Nat) (M : Mm) (x0 : Nat) (x3 : Int32) (x4 : Int32) (x5 : Int32) , LJ1_indexOfChar_4cfef_7 N n M x0 x3 x4 x5 = some r9 → Wq p l e s m args below meth c 0 0 (some (.int r9)) M 6 P 0 7 [(0, .ref (pV P x0)), (3, .int x3), (4, .int x4), (5, .int x5)] [] M := by
  intro n
  induction n with
  | zero => intro M x0 x3 x4 x5 h; cases h
  | succ n ih => intro M x0 x3 x4 x5 h; exact wBJ1_indexOfChar_4cfef_7 hX ih M x0 x3 x4 x5 h
set_option maxHeartbeats 4000000 in
set_option maxRecDepth 100000 in
theorem wJ1_indexOfChar_4cfef {p : Program} {l : Launch} {e : Env} {s : State} {m : MethodId} {args : Array Value} {below : List Frame} {meth : Method} {c : Code} {P : PT} {N : Nat}  {r9 : Int32} (hX : Cy p s m args c meth cJ1_indexOfChar_4cfef 6 RJ1 "indexOfChar" (some .int) P)  (M : Mm) (a0 : Nat) (a1 : Int32) (a2 : Int32) (a3 : Int32) (h : fJ1_indexOfChar_4cfef N M a0 a1 a2 a3 = some r9) : Wq p l e s m args below meth c 0 0 (some (.int r9)) M 6 P 0 0 [(0, .ref (pV P a0)), (1, .int a1), (2, .int a2), (3, .int a3)] [] M := by
  unfold fJ1_indexOfChar_4cfef at h
  have hX0 := hX
  obtain ⟨X, hr, hlk, hnm⟩ := hX0
  have hx := X.1.1
  have hb := X.1.2.1
  intro H locs ls hM hl
  refine lv_iload_n (pc := 0) hx hb dJ1_indexOfChar_4cfef_0 rfl (lv_at hl 1 rfl) ?_
  refine lv_i2b (pc := 1) (v := ((a1).toInt8.toInt32)) hx hb dJ1_indexOfChar_4cfef_1 rfl ?_
  refine lv_istore (pc := 2) (lv' := [(4, .int ((a1).toInt8.toInt32)), (0, .ref (pV P a0)), (1, .int a1), (2, .int a2), (3, .int a3)]) hx hb dJ1_indexOfChar_4cfef_2 hl (by decide) rfl (fun ls hl => ?_)
  refine lv_iload_n (pc := 4) hx hb dJ1_indexOfChar_4cfef_4 rfl (lv_at hl 3 rfl) ?_
  refine lv_istore (pc := 5) (lv' := [(5, .int a2), (4, .int ((a1).toInt8.toInt32)), (0, .ref (pV P a0)), (1, .int a1), (2, .int a2), (3, .int a3)]) hx hb dJ1_indexOfChar_4cfef_5 hl (by decide) rfl (fun ls hl => ?_)
  exact wLJ1_indexOfChar_4cfef_7 hX _ _ _ _ _ _ h H locs ls hM (lv_sub hl [2, 5, 1, 0] rfl)
theorem ctJ1_indexOfChar_4cfef (l : Launch) {P : PT} {N : Nat} {M : Mm} {a0 : Nat} {a1 : Int32} {a2 : Int32} {a3 : Int32} {r9 : Int32} (h : fJ1_indexOfChar_4cfef N M a0 a1 a2 a3 = some r9) : Ct l yJ1_indexOfChar_4cfef cJ1_indexOfChar_4cfef 6 (some .int) 0 0 P [.ref (pV P a0), .int a1, .int a2, .int a3] M (some (.int r9)) M :=
  Ct.mk (by decide +kernel) (Nat.le_of_ble_eq_true rfl) (fun p e s m args below meth c hX => wJ1_indexOfChar_4cfef hX M a0 a1 a2 a3 h)
set_option maxHeartbeats 4000000 in
set_option maxRecDepth 100000 in
theorem wJ1_indexOf_4cfef {p : Program} {l : Launch} {e : Env} {s : State} {m : MethodId} {args : Array Value} {below : List Frame} {meth : Method} {c : Code} {P : PT} {N : Nat}  {r9 : Int32} (hX : Cy p s m args c meth cJ1_indexOf_4cfef 4 RJ1 "indexOf" (some .int) P)  (M : Mm) (a0 : Nat) (a1 : Int32) (a2 : Int32) (a3 : Int32) (h : fJ1_indexOf_4cfef N M a0 a1 a2 a3 = some r9) : Wq p l e s m args below meth c 1 0 (some (.int r9)) M 4 P 0 0 [(0, .ref (pV P a0)), (1, .int a1), (2, .int a2), (3, .int a3)] [] M := by
  unfold fJ1_indexOf_4cfef at h
  have hX0 := hX
  obtain ⟨X, hr, hlk, hnm⟩ := hX0
  have hx := X.1.1
  have hb := X.1.2.1
  intro H locs ls hM hl
  refine lv_iload_n (pc := 0) hx hb dJ1_indexOf_4cfef_0 rfl (lv_at hl 1 rfl) ?_
  obtain ⟨v2, e1, h⟩ := ob h
  refine bz_callS1 (pc := 1) (As := [.int a1]) (rest := []) X hM hl.1 k_RJ1_88 (ctJ1_canEncode_9a6ad l e1) rfl rfl ⟨(Nat.le_of_ble_eq_true rfl), (Nat.le_of_ble_eq_true rfl)⟩ (Nat.le_of_ble_eq_true rfl) ⟨(Nat.le_of_ble_eq_true rfl), (Nat.le_of_ble_eq_true rfl)⟩ dJ1_indexOf_4cfef_1 (fun H locs hM => ?_)
  refine lv_if_ne (pc := 4) (tgt := 9) hx hb dJ1_indexOf_4cfef_4 (by decide) (fun hc => ?_) (fun hc => ?_)
  · have h := if_f hc h
    refine lv_iload_n (pc := 9) hx hb dJ1_indexOf_4cfef_9 rfl (lv_at hl 2 rfl) ?_
    refine lv_iconst (pc := 10) (v := (0 : Int32)) hx hb dJ1_indexOf_4cfef_10 (by decide) ?_
    obtain ⟨v4, e3, h⟩ := ob h
    refine bz_callS1 (pc := 11) (As := [.int a2, .int (0 : Int32)]) (rest := []) X hM hl.1 k_RJ1_92 (ctJ9_max_7cf53 l e3) rfl rfl ⟨(Nat.le_of_ble_eq_true rfl), (Nat.le_of_ble_eq_true rfl)⟩ (Nat.le_of_ble_eq_true rfl) ⟨(Nat.le_of_ble_eq_true rfl), (Nat.le_of_ble_eq_true rfl)⟩ dJ1_indexOf_4cfef_11 (fun H locs hM => ?_)
    refine lv_istore_n (pc := 14) (lv' := [(2, .int v4), (0, .ref (pV P a0)), (1, .int a1), (3, .int a3)]) hx hb dJ1_indexOf_4cfef_14 rfl hl (by decide) rfl (fun ls hl => ?_)
    refine lv_iload_n (pc := 15) hx hb dJ1_indexOf_4cfef_15 rfl (lv_at hl 3 rfl) ?_
    refine lv_aload_n (pc := 16) hx hb dJ1_indexOf_4cfef_16 rfl (lv_at hl 1 rfl) ?_
    obtain ⟨q5, e6, h⟩ := ob h
    refine bz_slen (pc := 17) X hM e6 dJ1_indexOf_4cfef_17 ?_
    obtain ⟨v8, e7, h⟩ := ob h
    refine bz_callS1 (pc := 18) (As := [.int a3, .int (sLn a0)]) (rest := []) X hM hl.1 k_RJ1_38 (ctJ9_min_7cf53 l e7) rfl rfl ⟨(Nat.le_of_ble_eq_true rfl), (Nat.le_of_ble_eq_true rfl)⟩ (Nat.le_of_ble_eq_true rfl) ⟨(Nat.le_of_ble_eq_true rfl), (Nat.le_of_ble_eq_true rfl)⟩ dJ1_indexOf_4cfef_18 (fun H locs hM => ?_)
    refine lv_istore_n (pc := 21) (lv' := [(3, .int v8), (2, .int v4), (0, .ref (pV P a0)), (1, .int a1)]) hx hb dJ1_indexOf_4cfef_21 rfl hl (by decide) rfl (fun ls hl => ?_)
    refine lv_iload_n (pc := 22) hx hb dJ1_indexOf_4cfef_22 rfl (lv_at hl 1 rfl) ?_
    refine lv_iload_n (pc := 23) hx hb dJ1_indexOf_4cfef_23 rfl (lv_at hl 0 rfl) ?_
    refine lv_icmp_lt (pc := 24) (tgt := 29) hx hb dJ1_indexOf_4cfef_24 (by decide) (fun hc => ?_) (fun hc => ?_)
    · have h := if_t hc h
      refine lv_aload_n (pc := 29) hx hb dJ1_indexOf_4cfef_29 rfl (lv_at hl 2 rfl) ?_
      refine lv_iload_n (pc := 30) hx hb dJ1_indexOf_4cfef_30 rfl (lv_at hl 3 rfl) ?_
      refine lv_iload_n (pc := 31) hx hb dJ1_indexOf_4cfef_31 rfl (lv_at hl 1 rfl) ?_
      refine lv_iload_n (pc := 32) hx hb dJ1_indexOf_4cfef_32 rfl (lv_at hl 0 rfl) ?_
      obtain ⟨v10, e9, h⟩ := ob h
      refine bz_callS1 (pc := 33) (As := [.ref (pV P a0), .int a1, .int v4, .int v8]) (rest := []) X hM hl.1 k_RJ1_95 (ctJ1_indexOfChar_4cfef l e9) rfl rfl ⟨(Nat.le_of_ble_eq_true rfl), (Nat.le_of_ble_eq_true rfl)⟩ (Nat.le_of_ble_eq_true rfl) ⟨(Nat.le_of_ble_eq_true rfl), (Nat.le_of_ble_eq_true rfl)⟩ dJ1_indexOf_4cfef_33 (fun H locs hM => ?_)
      obtain rfl := so1 h
      exact bz_iret (pc := 36) X hM hr hlk dJ1_indexOf_4cfef_36 (Nat.le_of_ble_eq_true rfl) (Nat.le_of_ble_eq_true rfl)
    · have h := if_f hc h
      refine lv_iconst (pc := 27) (v := (-1 : Int32)) hx hb dJ1_indexOf_4cfef_27 (by decide) ?_
      obtain rfl := so1 h
      exact bz_iret (pc := 28) X hM hr hlk dJ1_indexOf_4cfef_28 (Nat.le_of_ble_eq_true rfl) (Nat.le_of_ble_eq_true rfl)
  · have h := if_t hc h
    refine lv_iconst (pc := 7) (v := (-1 : Int32)) hx hb dJ1_indexOf_4cfef_7 (by decide) ?_
    obtain rfl := so1 h
    exact bz_iret (pc := 8) X hM hr hlk dJ1_indexOf_4cfef_8 (Nat.le_of_ble_eq_true rfl) (Nat.le_of_ble_eq_true rfl)
theorem ctJ1_indexOf_4cfef (l : Launch) {P : PT} {N : Nat} {M : Mm} {a0 : Nat} {a1 : Int32} {a2 : Int32} {a3 : Int32} {r9 : Int32} (h : fJ1_indexOf_4cfef N M a0 a1 a2 a3 = some r9) : Ct l yJ1_indexOf_4cfef cJ1_indexOf_4cfef 4 (some .int) 1 0 P [.ref (pV P a0), .int a1, .int a2, .int a3] M (some (.int r9)) M :=
  Ct.mk (by decide +kernel) (Nat.le_of_ble_eq_true rfl) (fun p e s m args below meth c hX => wJ1_indexOf_4cfef hX M a0 a1 a2 a3 h)
set_option maxHeartbeats 4000000 in
set_option maxRecDepth 100000 in
theorem wJ0_indexOf_7cf53 {p : Program} {l : Launch} {e : Env} {s : State} {m : MethodId} {args : Array Value} {below : List Frame} {meth : Method} {c : Code} {P : PT} {N : Nat}  {r9 : Int32} (hX : Cy p s m args c meth cJ0_indexOf_7cf53 3 RJ0 "indexOf" (some .int) P)  (M : Mm) (a0 : Nat) (a1 : Int32) (a2 : Int32) (h : fJ0_indexOf_7cf53 N M a0 a1 a2 = some r9) : Wq p l e s m args below meth c 2 0 (some (.int r9)) M 3 P 0 0 [(0, .ref (pK P a0)), (1, .int a1), (2, .int a2)] [] M := by
  unfold fJ0_indexOf_7cf53 at h
  have hX0 := hX
  obtain ⟨X, hr, hlk, hnm⟩ := hX0
  have hx := X.1.1
  have hb := X.1.2.1
  intro H locs ls hM hl
  refine lv_aload_n (pc := 0) hx hb dJ0_indexOf_7cf53_0 rfl (lv_at hl 0 rfl) ?_
  obtain ⟨q3, e4, h⟩ := ob h
  obtain ⟨v2, e1, h⟩ := ob h
  refine bz_callT1 (pc := 1) (As := []) (rest := []) X hM hl.1 k_RJ0_492 e4 (ctJ0_isLatin1_aae02 l e1) rfl rfl ⟨(Nat.le_of_ble_eq_true rfl), (Nat.le_of_ble_eq_true rfl)⟩ (Nat.le_of_ble_eq_true rfl) ⟨(Nat.le_of_ble_eq_true rfl), (Nat.le_of_ble_eq_true rfl)⟩ dJ0_indexOf_7cf53_1 (fun H locs hM => ?_)
  refine lv_if_eq (pc := 4) (tgt := 23) hx hb dJ0_indexOf_7cf53_4 (by decide) (fun hc => ?_) (fun hc => ?_)
  · have h := if_t hc h
    refine lv_aload_n (pc := 23) hx hb dJ0_indexOf_7cf53_23 rfl (lv_at hl 0 rfl) ?_
    obtain ⟨q5, e6, h⟩ := ob h
    refine bz_sval (pc := 24) X hM g_1749 e6 dJ0_indexOf_7cf53_24 ?_
    refine lv_iload_n (pc := 27) hx hb dJ0_indexOf_7cf53_27 rfl (lv_at hl 1 rfl) ?_
    refine lv_iload_n (pc := 28) hx hb dJ0_indexOf_7cf53_28 rfl (lv_at hl 2 rfl) ?_
    refine lv_aload_n (pc := 29) hx hb dJ0_indexOf_7cf53_29 rfl (lv_at hl 0 rfl) ?_
    obtain ⟨q9, e10, h⟩ := ob h
    obtain ⟨v8, e7, h⟩ := ob h
    refine bz_callT1 (pc := 30) (As := []) (rest := [.int a2, .int a1, .ref (pV P a0)]) X hM hl.1 k_RJ0_505 e10 (ctJ0_length_8abf5 l e7) rfl rfl ⟨(Nat.le_of_ble_eq_true rfl), (Nat.le_of_ble_eq_true rfl)⟩ (Nat.le_of_ble_eq_true rfl) ⟨(Nat.le_of_ble_eq_true rfl), (Nat.le_of_ble_eq_true rfl)⟩ dJ0_indexOf_7cf53_30 (fun H locs hM => ?_)
    cases h
  · have h := if_f hc h
    refine lv_aload_n (pc := 7) hx hb dJ0_indexOf_7cf53_7 rfl (lv_at hl 0 rfl) ?_
    obtain ⟨q11, e12, h⟩ := ob h
    refine bz_sval (pc := 8) X hM g_1749 e12 dJ0_indexOf_7cf53_8 ?_
    refine lv_iload_n (pc := 11) hx hb dJ0_indexOf_7cf53_11 rfl (lv_at hl 1 rfl) ?_
    refine lv_iload_n (pc := 12) hx hb dJ0_indexOf_7cf53_12 rfl (lv_at hl 2 rfl) ?_
    refine lv_aload_n (pc := 13) hx hb dJ0_indexOf_7cf53_13 rfl (lv_at hl 0 rfl) ?_
    obtain ⟨q15, e16, h⟩ := ob h
    obtain ⟨v14, e13, h⟩ := ob h
    refine bz_callT1 (pc := 14) (As := []) (rest := [.int a2, .int a1, .ref (pV P a0)]) X hM hl.1 k_RJ0_505 e16 (ctJ0_length_8abf5 l e13) rfl rfl ⟨(Nat.le_of_ble_eq_true rfl), (Nat.le_of_ble_eq_true rfl)⟩ (Nat.le_of_ble_eq_true rfl) ⟨(Nat.le_of_ble_eq_true rfl), (Nat.le_of_ble_eq_true rfl)⟩ dJ0_indexOf_7cf53_14 (fun H locs hM => ?_)
    obtain ⟨v18, e17, h⟩ := ob h
    refine bz_callS1 (pc := 17) (As := [.ref (pV P a0), .int a1, .int a2, .int v14]) (rest := []) X hM hl.1 k_RJ0_637 (ctJ1_indexOf_4cfef l e17) rfl rfl ⟨(Nat.le_of_ble_eq_true rfl), (Nat.le_of_ble_eq_true rfl)⟩ (Nat.le_of_ble_eq_true rfl) ⟨(Nat.le_of_ble_eq_true rfl), (Nat.le_of_ble_eq_true rfl)⟩ dJ0_indexOf_7cf53_17 (fun H locs hM => ?_)
    refine lv_goto (pc := 20) (tgt := 36) hx hb dJ0_indexOf_7cf53_20 (by decide) ?_
    obtain rfl := so1 h
    exact bz_iret (pc := 36) X hM hr hlk dJ0_indexOf_7cf53_36 (Nat.le_of_ble_eq_true rfl) (Nat.le_of_ble_eq_true rfl)
theorem ctJ0_indexOf_7cf53 (l : Launch) {P : PT} {N : Nat} {M : Mm} {a0 : Nat} {a1 : Int32} {a2 : Int32} {r9 : Int32} (h : fJ0_indexOf_7cf53 N M a0 a1 a2 = some r9) : Ct l yJ0_indexOf_7cf53 cJ0_indexOf_7cf53 3 (some .int) 2 0 P [.ref (pK P a0), .int a1, .int a2] M (some (.int r9)) M :=
  Ct.mk (by decide +kernel) (Nat.le_of_ble_eq_true rfl) (fun p e s m args below meth c hX => wJ0_indexOf_7cf53 hX M a0 a1 a2 h)
set_option maxHeartbeats 4000000 in
set_option maxRecDepth 100000 in
theorem wJ0_indexOf_0f7a4 {p : Program} {l : Launch} {e : Env} {s : State} {m : MethodId} {args : Array Value} {below : List Frame} {meth : Method} {c : Code} {P : PT} {N : Nat}  {r9 : Int32} (hX : Cy p s m args c meth cJ0_indexOf_0f7a4 2 RJ0 "indexOf" (some .int) P)  (M : Mm) (a0 : Nat) (a1 : Int32) (h : fJ0_indexOf_0f7a4 N M a0 a1 = some r9) : Wq p l e s m args below meth c 3 0 (some (.int r9)) M 2 P 0 0 [(0, .ref (pK P a0)), (1, .int a1)] [] M := by
  unfold fJ0_indexOf_0f7a4 at h
  have hX0 := hX
  obtain ⟨X, hr, hlk, hnm⟩ := hX0
  have hx := X.1.1
  have hb := X.1.2.1
  intro H locs ls hM hl
  refine lv_aload_n (pc := 0) hx hb dJ0_indexOf_0f7a4_0 rfl (lv_at hl 0 rfl) ?_
  refine lv_iload_n (pc := 1) hx hb dJ0_indexOf_0f7a4_1 rfl (lv_at hl 1 rfl) ?_
  refine lv_iconst (pc := 2) (v := (0 : Int32)) hx hb dJ0_indexOf_0f7a4_2 (by decide) ?_
  obtain ⟨q3, e4, h⟩ := ob h
  obtain ⟨v2, e1, h⟩ := ob h
  refine bz_callT1 (pc := 3) (As := [.int a1, .int (0 : Int32)]) (rest := []) X hM hl.1 k_RJ0_633 e4 (ctJ0_indexOf_7cf53 l e1) rfl rfl ⟨(Nat.le_of_ble_eq_true rfl), (Nat.le_of_ble_eq_true rfl)⟩ (Nat.le_of_ble_eq_true rfl) ⟨(Nat.le_of_ble_eq_true rfl), (Nat.le_of_ble_eq_true rfl)⟩ dJ0_indexOf_0f7a4_3 (fun H locs hM => ?_)
  obtain rfl := so1 h
  exact bz_iret (pc := 6) X hM hr hlk dJ0_indexOf_0f7a4_6 (Nat.le_of_ble_eq_true rfl) (Nat.le_of_ble_eq_true rfl)
theorem ctJ0_indexOf_0f7a4 (l : Launch) {P : PT} {N : Nat} {M : Mm} {a0 : Nat} {a1 : Int32} {r9 : Int32} (h : fJ0_indexOf_0f7a4 N M a0 a1 = some r9) : Ct l yJ0_indexOf_0f7a4 cJ0_indexOf_0f7a4 2 (some .int) 3 0 P [.ref (pK P a0), .int a1] M (some (.int r9)) M :=
  Ct.mk (by decide +kernel) (Nat.le_of_ble_eq_true rfl) (fun p e s m args below meth c hX => wJ0_indexOf_0f7a4 hX M a0 a1 h)
