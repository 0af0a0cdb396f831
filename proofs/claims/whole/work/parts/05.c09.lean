set_option maxHeartbeats 4000000 in
set_option maxRecDepth 100000 in
theorem wBX11_both_4 {p : Program} {l : Launch} {e : Env} {s : State} {m : MethodId} {args : Array Value} {below : List Frame} {meth : Method} {c : Code} {P : PT} {D : Nat} {q0 : Mm → Nat → Option (Mm)} {q1 : Mm → Nat → Option (Mm)} {q2 : Mm → Nat → Option (Mm)} {q3 : Mm → Nat → Option (Mm)} {q4 : Mm → Nat → Option (Mm)} {q5 : Mm → Nat → Option (Mm)} {N : Nat} {K4 : Mm → Nat → Option (Mm)}  {M9 : Mm} (hX : Cy p s m args c meth cX11_both 1 RX11 "both" none P) (hq0 : ∀ (M : Mm) (a0 : Nat) (M9 : Mm), q0 M a0 = some M9 → Ct l yX11_both cX11_both 1 none (2 + D) 0 P [.ref (pB P + a0)] M none M9) (hp0 : ∀ (M : Mm) (a0 : Nat) (r9 : Mm), q0 M a0 = some r9 → ∃ fs, M[a0]? = some (.inr (11, fs))) (hq1 : ∀ (M : Mm) (a0 : Nat) (M9 : Mm), q1 M a0 = some M9 → Ct l yX11_compared cX11_compared 2 none (2 + D) 0 P [.ref (pB P + a0)] M none M9) (hp1 : ∀ (M : Mm) (a0 : Nat) (r9 : Mm), q1 M a0 = some r9 → ∃ fs, M[a0]? = some (.inr (11, fs))) (hq2 : ∀ (M : Mm) (a0 : Nat) (M9 : Mm), q2 M a0 = some M9 → Ct l yX11_either cX11_either 1 none (2 + D) 0 P [.ref (pB P + a0)] M none M9) (hp2 : ∀ (M : Mm) (a0 : Nat) (r9 : Mm), q2 M a0 = some r9 → ∃ fs, M[a0]? = some (.inr (11, fs))) (hq3 : ∀ (M : Mm) (a0 : Nat) (M9 : Mm), q3 M a0 = some M9 → Ct l yX11_one cX11_one 4 none (2 + D) 0 P [.ref (pB P + a0)] M none M9) (hp3 : ∀ (M : Mm) (a0 : Nat) (r9 : Mm), q3 M a0 = some r9 → ∃ fs, M[a0]? = some (.inr (11, fs))) (hq4 : ∀ (M : Mm) (a0 : Nat) (M9 : Mm), q4 M a0 = some M9 → Ct l yX11_product cX11_product 2 none (2 + D) 0 P [.ref (pB P + a0)] M none M9) (hp4 : ∀ (M : Mm) (a0 : Nat) (r9 : Mm), q4 M a0 = some r9 → ∃ fs, M[a0]? = some (.inr (11, fs))) (hq5 : ∀ (M : Mm) (a0 : Nat) (M9 : Mm), q5 M a0 = some M9 → Ct l yX11_sum cX11_sum 2 none (2 + D) 0 P [.ref (pB P + a0)] M none M9) (hp5 : ∀ (M : Mm) (a0 : Nat) (r9 : Mm), q5 M a0 = some r9 → ∃ fs, M[a0]? = some (.inr (11, fs)))  (hK4 : ∀ (M : Mm) (x0 : Nat), K4 M x0 = some M9 → Wq p l e s m args below meth c (2 + D + 1) 0 none M9 1 P 0 4 [(0, .ref (pB P + x0))] [] M) (M : Mm) (x0 : Nat)  (h : BX11_both_4 q0 q1 q2 q3 q4 q5 N K4 M x0 = some M9) : Wq p l e s m args below meth c (2 + D + 1) 0 none M9 1 P 0 4 [(0, .ref (pB P + x0))] [] M := by
  unfold BX11_both_4 at h
  have hX0 := hX
  obtain ⟨X, hr, hlk, hnm⟩ := hX0
  have hx := X.1.1
  have hb := X.1.2.1
  intro H locs ls hM hl
  refine lv_aload_n (pc := 4) hx hb dX11_both_4 rfl (lv_at hl 0 rfl) ?_
  refine lv_bipush (pc := 5) (v := (38 : Int32)) hx hb dX11_both_5 (by decide) ?_
  obtain ⟨v2, M3, e1, h⟩ := ob2 h
  obtain ⟨fs4, hb5⟩ := (rX11_isHere e1)
  refine bz_callV1 (pc := 7) (As := [.int (38 : Int32)]) (rest := []) X hM hl.1 k_RX11_170 (ctX11_isHere l e1) rfl hb5 rfl rfl (rm_ok (by omega) (Nat.le_of_ble_eq_true rfl)) (Nat.le_of_ble_eq_true rfl) ⟨(Nat.le_of_ble_eq_true rfl), (Nat.le_of_ble_eq_true rfl)⟩ dX11_both_7 (fun H locs hM => ?_)
  refine lv_if_eq (pc := 10) (tgt := 27) hx hb dX11_both_10 (by decide) (fun hc => ?_) (fun hc => ?_)
  · have h := if_t hc h
    obtain rfl := so1 h
    exact bz_vret (pc := 27) X hM hr hlk dX11_both_27 (Nat.le_of_ble_eq_true rfl) (Nat.le_of_ble_eq_true rfl)
  · have h := if_f hc h
    refine lv_aload_n (pc := 13) hx hb dX11_both_13 rfl (lv_at hl 0 rfl) ?_
    obtain ⟨M7, e6, h⟩ := ob h
    obtain ⟨fs8, hb9⟩ := (hp1 _ _ _ e6)
    refine bz_callV0 (pc := 14) (As := []) (rest := []) X hM hl.1 k_RX11_177 (hq1 _ _ _ e6) rfl hb9 rfl rfl (rm_ok (by omega) (Nat.le_of_ble_eq_true rfl)) (Nat.le_of_ble_eq_true rfl) ⟨(Nat.le_of_ble_eq_true rfl), (Nat.le_of_ble_eq_true rfl)⟩ dX11_both_14 (fun H locs hM => ?_)
    refine lv_aload_n (pc := 17) hx hb dX11_both_17 rfl (lv_at hl 0 rfl) ?_
    refine lv_sipush (pc := 18) (v := (20038 : Int32)) hx hb dX11_both_18 (by decide) ?_
    obtain ⟨M11, e10, h⟩ := ob h
    obtain ⟨fs12, hb13⟩ := (rX11_puts e10)
    refine bz_callV0 (pc := 21) (As := [.int (20038 : Int32)]) (rest := []) X hM hl.1 k_RX11_173 (ctX11_puts l e10) rfl hb13 rfl rfl (rm_ok (by omega) (Nat.le_of_ble_eq_true rfl)) (Nat.le_of_ble_eq_true rfl) ⟨(Nat.le_of_ble_eq_true rfl), (Nat.le_of_ble_eq_true rfl)⟩ dX11_both_21 (fun H locs hM => ?_)
    refine lv_goto (pc := 24) (tgt := 4) hx hb dX11_both_24 (by decide) ?_
    exact hK4 _ _ h H locs ls hM (lv_sub hl [0] rfl)
set_option maxHeartbeats 4000000 in
set_option maxRecDepth 100000 in
theorem wLX11_both_4 {p : Program} {l : Launch} {e : Env} {s : State} {m : MethodId} {args : Array Value} {below : List Frame} {meth : Method} {c : Code} {P : PT} {D : Nat} {q0 : Mm → Nat → Option (Mm)} {q1 : Mm → Nat → Option (Mm)} {q2 : Mm → Nat → Option (Mm)} {q3 : Mm → Nat → Option (Mm)} {q4 : Mm → Nat → Option (Mm)} {q5 : Mm → Nat → Option (Mm)} {N : Nat}  {M9 : Mm} (hX : Cy p s m args c meth cX11_both 1 RX11 "both" none P) (hq0 : ∀ (M : Mm) (a0 : Nat) (M9 : Mm), q0 M a0 = some M9 → Ct l yX11_both cX11_both 1 none (2 + D) 0 P [.ref (pB P + a0)] M none M9) (hp0 : ∀ (M : Mm) (a0 : Nat) (r9 : Mm), q0 M a0 = some r9 → ∃ fs, M[a0]? = some (.inr (11, fs))) (hq1 : ∀ (M : Mm) (a0 : Nat) (M9 : Mm), q1 M a0 = some M9 → Ct l yX11_compared cX11_compared 2 none (2 + D) 0 P [.ref (pB P + a0)] M none M9) (hp1 : ∀ (M : Mm) (a0 : Nat) (r9 : Mm), q1 M a0 = some r9 → ∃ fs, M[a0]? = some (.inr (11, fs))) (hq2 : ∀ (M : Mm) (a0 : Nat) (M9 : Mm), q2 M a0 = some M9 → Ct l yX11_either cX11_either 1 none (2 + D) 0 P [.ref (pB P + a0)] M none M9) (hp2 : ∀ (M : Mm) (a0 : Nat) (r9 : Mm), q2 M a0 = some r9 → ∃ fs, M[a0]? = some (.inr (11, fs))) (hq3 : ∀ (M : Mm) (a0 : Nat) (M9 : Mm), q3 M a0 = some M9 → Ct l yX11_one cX11_one 4 none (2 + D) 0 P [.ref (pB P + a0)] M none M9) (hp3 : ∀ (M : Mm) (a0 : Nat) (r9 : Mm), q3 M a0 = some r9 → ∃ fs, M[a0]? = some (.inr (11, fs))) (hq4 : ∀ (M : Mm) (a0 : Nat) (M9 : Mm), q4 M a0 = some M9 → Ct l yX11_product cX11_product 2 none (2 + D) 0 P [.ref (pB P + a0)] M none M9) (hp4 : ∀ (M : Mm) (a0 : Nat) (r9 : Mm), q4 M a0 = some r9 → ∃ fs, M[a0]? = some (.inr (11, fs))) (hq5 : ∀ (M : Mm) (a0 : Nat) (M9 : Mm), q5 M a0 = some M9 → Ct l yX11_sum cX11_sum 2 none (2 + D) 0 P [.ref (pB P + a0)] M none M9) (hp5 : ∀ (M : Mm) (a0 : Nat) (r9 : Mm), q5 M a0 = some r9 → ∃ fs, M[a0]? = some (.inr (11, fs)))   : ∀ (n : Nat) (M : Mm) (x0 : Nat) , LX11_both_4 q0 q1 q2 q3 q4 q5 N n M x0 = some M9 → Wq p l e s m args below meth c (2 + D + 1) 0 none M9 1 P 0 4 [(0, .ref (pB P + x0))] [] M := by
  intro n
  induction n with
  | zero => intro M x0 h; cases h
  | succ n ih => intro M x0 h; exact wBX11_both_4 hX hq0 hp0 hq1 hp1 hq2 hp2 hq3 hp3 hq4 hp4 hq5 hp5 ih M x0 h
set_option maxHeartbeats 4000000 in
set_option maxRecDepth 100000 in
theorem wX11_both {p : Program} {l : Launch} {e : Env} {s : State} {m : MethodId} {args : Array Value} {below : List Frame} {meth : Method} {c : Code} {P : PT} {D : Nat} {q0 : Mm → Nat → Option (Mm)} {q1 : Mm → Nat → Option (Mm)} {q2 : Mm → Nat → Option (Mm)} {q3 : Mm → Nat → Option (Mm)} {q4 : Mm → Nat → Option (Mm)} {q5 : Mm → Nat → Option (Mm)} {N : Nat}  {M9 : Mm} (hX : Cy p s m args c meth cX11_both 1 RX11 "both" none P) (hq0 : ∀ (M : Mm) (a0 : Nat) (M9 : Mm), q0 M a0 = some M9 → Ct l yX11_both cX11_both 1 none (2 + D) 0 P [.ref (pB P + a0)] M none M9) (hp0 : ∀ (M : Mm) (a0 : Nat) (r9 : Mm), q0 M a0 = some r9 → ∃ fs, M[a0]? = some (.inr (11, fs))) (hq1 : ∀ (M : Mm) (a0 : Nat) (M9 : Mm), q1 M a0 = some M9 → Ct l yX11_compared cX11_compared 2 none (2 + D) 0 P [.ref (pB P + a0)] M none M9) (hp1 : ∀ (M : Mm) (a0 : Nat) (r9 : Mm), q1 M a0 = some r9 → ∃ fs, M[a0]? = some (.inr (11, fs))) (hq2 : ∀ (M : Mm) (a0 : Nat) (M9 : Mm), q2 M a0 = some M9 → Ct l yX11_either cX11_either 1 none (2 + D) 0 P [.ref (pB P + a0)] M none M9) (hp2 : ∀ (M : Mm) (a0 : Nat) (r9 : Mm), q2 M a0 = some r9 → ∃ fs, M[a0]? = some (.inr (11, fs))) (hq3 : ∀ (M : Mm) (a0 : Nat) (M9 : Mm), q3 M a0 = some M9 → Ct l yX11_one cX11_one 4 none (2 + D) 0 P [.ref (pB P + a0)] M none M9) (hp3 : ∀ (M : Mm) (a0 : Nat) (r9 : Mm), q3 M a0 = some r9 → ∃ fs, M[a0]? = some (.inr (11, fs))) (hq4 : ∀ (M : Mm) (a0 : Nat) (M9 : Mm), q4 M a0 = some M9 → Ct l yX11_product cX11_product 2 none (2 + D) 0 P [.ref (pB P + a0)] M none M9) (hp4 : ∀ (M : Mm) (a0 : Nat) (r9 : Mm), q4 M a0 = some r9 → ∃ fs, M[a0]? = some (.inr (11, fs))) (hq5 : ∀ (M : Mm) (a0 : Nat) (M9 : Mm), q5 M a0 = some M9 → Ct l yX11_sum cX11_sum 2 none (2 + D) 0 P [.ref (pB P + a0)] M none M9) (hp5 : ∀ (M : Mm) (a0 : Nat) (r9 : Mm), q5 M a0 = some r9 → ∃ fs, M[a0]? = some (.inr (11, fs)))  (M : Mm) (a0 : Nat) (h : FX11_both q0 q1 q2 q3 q4 q5 N M a0 = some M9) : Wq p l e s m args below meth c (2 + D + 1) 0 none M9 1 P 0 0 [(0, .ref (pB P + a0))] [] M := by
  unfold FX11_both at h
  obtain ⟨_, _, h⟩ := ob h
  have hX0 := hX
  obtain ⟨X, hr, hlk, hnm⟩ := hX0
  have hx := X.1.1
  have hb := X.1.2.1
  intro H locs ls hM hl
  refine lv_aload_n (pc := 0) hx hb dX11_both_0 rfl (lv_at hl 0 rfl) ?_
  obtain ⟨M2, e1, h⟩ := ob h
  obtain ⟨fs3, hb4⟩ := (hp1 _ _ _ e1)
  refine bz_callV0 (pc := 1) (As := []) (rest := []) X hM hl.1 k_RX11_177 (hq1 _ _ _ e1) rfl hb4 rfl rfl (rm_ok (by omega) (Nat.le_of_ble_eq_true rfl)) (Nat.le_of_ble_eq_true rfl) ⟨(Nat.le_of_ble_eq_true rfl), (Nat.le_of_ble_eq_true rfl)⟩ dX11_both_1 (fun H locs hM => ?_)
  exact wLX11_both_4 hX hq0 hp0 hq1 hp1 hq2 hp2 hq3 hp3 hq4 hp4 hq5 hp5 _ _ _ h H locs ls hM (lv_sub hl [0] rfl)
theorem rF_X11_both {q0 : Mm → Nat → Option (Mm)} {q1 : Mm → Nat → Option (Mm)} {q2 : Mm → Nat → Option (Mm)} {q3 : Mm → Nat → Option (Mm)} {q4 : Mm → Nat → Option (Mm)} {q5 : Mm → Nat → Option (Mm)} {N : Nat} {M : Mm} {a0 : Nat} {r9 : Mm} (h : FX11_both q0 q1 q2 q3 q4 q5 N M a0 = some r9) : ∃ fs, M[a0]? = some (.inr (11, fs)) := by
  unfold FX11_both at h
  obtain ⟨_, e1, _⟩ := ob h
  exact gC_spec e1
set_option maxHeartbeats 4000000 in
set_option maxRecDepth 100000 in
theorem wjX11_compared_28 {p : Program} {l : Launch} {e : Env} {s : State} {m : MethodId} {args : Array Value} {below : List Frame} {meth : Method} {c : Code} {P : PT} {D : Nat} {q0 : Mm → Nat → Option (Mm)} {q1 : Mm → Nat → Option (Mm)} {q2 : Mm → Nat → Option (Mm)} {q3 : Mm → Nat → Option (Mm)} {q4 : Mm → Nat → Option (Mm)} {q5 : Mm → Nat → Option (Mm)} {N : Nat}  {M9 : Mm} (hX : Cy p s m args c meth cX11_compared 2 RX11 "compared" none P) (hq0 : ∀ (M : Mm) (a0 : Nat) (M9 : Mm), q0 M a0 = some M9 → Ct l yX11_both cX11_both 1 none (2 + D) 0 P [.ref (pB P + a0)] M none M9) (hp0 : ∀ (M : Mm) (a0 : Nat) (r9 : Mm), q0 M a0 = some r9 → ∃ fs, M[a0]? = some (.inr (11, fs))) (hq1 : ∀ (M : Mm) (a0 : Nat) (M9 : Mm), q1 M a0 = some M9 → Ct l yX11_compared cX11_compared 2 none (2 + D) 0 P [.ref (pB P + a0)] M none M9) (hp1 : ∀ (M : Mm) (a0 : Nat) (r9 : Mm), q1 M a0 = some r9 → ∃ fs, M[a0]? = some (.inr (11, fs))) (hq2 : ∀ (M : Mm) (a0 : Nat) (M9 : Mm), q2 M a0 = some M9 → Ct l yX11_either cX11_either 1 none (2 + D) 0 P [.ref (pB P + a0)] M none M9) (hp2 : ∀ (M : Mm) (a0 : Nat) (r9 : Mm), q2 M a0 = some r9 → ∃ fs, M[a0]? = some (.inr (11, fs))) (hq3 : ∀ (M : Mm) (a0 : Nat) (M9 : Mm), q3 M a0 = some M9 → Ct l yX11_one cX11_one 4 none (2 + D) 0 P [.ref (pB P + a0)] M none M9) (hp3 : ∀ (M : Mm) (a0 : Nat) (r9 : Mm), q3 M a0 = some r9 → ∃ fs, M[a0]? = some (.inr (11, fs))) (hq4 : ∀ (M : Mm) (a0 : Nat) (M9 : Mm), q4 M a0 = some M9 → Ct l yX11_product cX11_product 2 none (2 + D) 0 P [.ref (pB P + a0)] M none M9) (hp4 : ∀ (M : Mm) (a0 : Nat) (r9 : Mm), q4 M a0 = some r9 → ∃ fs, M[a0]? = some (.inr (11, fs))) (hq5 : ∀ (M : Mm) (a0 : Nat) (M9 : Mm), q5 M a0 = some M9 → Ct l yX11_sum cX11_sum 2 none (2 + D) 0 P [.ref (pB P + a0)] M none M9) (hp5 : ∀ (M : Mm) (a0 : Nat) (r9 : Mm), q5 M a0 = some r9 → ∃ fs, M[a0]? = some (.inr (11, fs)))   (M : Mm) (x0 : Nat) (x1 : Int32)  (h : jX11_compared_28 q0 q1 q2 q3 q4 q5 N M x0 x1 = some M9) : Wq p l e s m args below meth c (2 + D + 1) 0 none M9 2 P 0 28 [(0, .ref (pB P + x0)), (1, .int x1)] [] M := by
  unfold jX11_compared_28 at h
  have hX0 := hX
  obtain ⟨X, hr, hlk, hnm⟩ := hX0
  have hx := X.1.1
  have hb := X.1.2.1
  intro H locs ls hM hl
  refine lv_aload_n (pc := 28) hx hb dX11_compared_28 rfl (lv_at hl 0 rfl) ?_
  refine lv_dup (pc := 29) hx hb dX11_compared_29 rfl ?_
  obtain ⟨v1, e2, h⟩ := ob h
  refine bz_getI (pc := 30) X hM fl_RX11_156 e2 dX11_compared_30 ?_
  refine lv_iconst (pc := 33) (v := (1 : Int32)) hx hb dX11_compared_33 (by decide) ?_
  refine lv_iadd (pc := 34) hx hb dX11_compared_34 ?_
  obtain ⟨M3, e4, h⟩ := ob h
  refine bz_putI (pc := 35) X hM fp_RX11_156 (Or.inl rfl) e4 dX11_compared_35 (fun H locs hM => ?_)
  refine lv_aload_n (pc := 38) hx hb dX11_compared_38 rfl (lv_at hl 0 rfl) ?_
  obtain ⟨M6, e5, h⟩ := ob h
  obtain ⟨fs7, hb8⟩ := (hp5 _ _ _ e5)
  refine bz_callV0 (pc := 39) (As := []) (rest := []) X hM hl.1 k_RX11_180 (hq5 _ _ _ e5) rfl hb8 rfl rfl (rm_ok (by omega) (Nat.le_of_ble_eq_true rfl)) (Nat.le_of_ble_eq_true rfl) ⟨(Nat.le_of_ble_eq_true rfl), (Nat.le_of_ble_eq_true rfl)⟩ dX11_compared_39 (fun H locs hM => ?_)
  refine lv_aload_n (pc := 42) hx hb dX11_compared_42 rfl (lv_at hl 0 rfl) ?_
  refine lv_sipush (pc := 43) (v := (20000 : Int32)) hx hb dX11_compared_43 (by decide) ?_
  refine lv_iload_n (pc := 46) hx hb dX11_compared_46 rfl (lv_at hl 1 rfl) ?_
  refine lv_iadd (pc := 47) hx hb dX11_compared_47 ?_
  obtain ⟨M10, e9, h⟩ := ob h
  obtain ⟨fs11, hb12⟩ := (rX11_puts e9)
  refine bz_callV0 (pc := 48) (As := [.int ((20000 : Int32) + x1)]) (rest := []) X hM hl.1 k_RX11_173 (ctX11_puts l e9) rfl hb12 rfl rfl (rm_ok (by omega) (Nat.le_of_ble_eq_true rfl)) (Nat.le_of_ble_eq_true rfl) ⟨(Nat.le_of_ble_eq_true rfl), (Nat.le_of_ble_eq_true rfl)⟩ dX11_compared_48 (fun H locs hM => ?_)
  obtain rfl := so1 h
  exact bz_vret (pc := 51) X hM hr hlk dX11_compared_51 (Nat.le_of_ble_eq_true rfl) (Nat.le_of_ble_eq_true rfl)
set_option maxHeartbeats 4000000 in
set_option maxRecDepth 100000 in
theorem wX11_compared {p : Program} {l : Launch} {e : Env} {s : State} {m : MethodId} {args : Array Value} {below : List Frame} {meth : Method} {c : Code} {P : PT} {D : Nat} {q0 : Mm → Nat → Option (Mm)} {q1 : Mm → Nat → Option (Mm)} {q2 : Mm → Nat → Option (Mm)} {q3 : Mm → Nat → Option (Mm)} {q4 : Mm → Nat → Option (Mm)} {q5 : Mm → Nat → Option (Mm)} {N : Nat}  {M9 : Mm} (hX : Cy p s m args c meth cX11_compared 2 RX11 "compared" none P) (hq0 : ∀ (M : Mm) (a0 : Nat) (M9 : Mm), q0 M a0 = some M9 → Ct l yX11_both cX11_both 1 none (2 + D) 0 P [.ref (pB P + a0)] M none M9) (hp0 : ∀ (M : Mm) (a0 : Nat) (r9 : Mm), q0 M a0 = some r9 → ∃ fs, M[a0]? = some (.inr (11, fs))) (hq1 : ∀ (M : Mm) (a0 : Nat) (M9 : Mm), q1 M a0 = some M9 → Ct l yX11_compared cX11_compared 2 none (2 + D) 0 P [.ref (pB P + a0)] M none M9) (hp1 : ∀ (M : Mm) (a0 : Nat) (r9 : Mm), q1 M a0 = some r9 → ∃ fs, M[a0]? = some (.inr (11, fs))) (hq2 : ∀ (M : Mm) (a0 : Nat) (M9 : Mm), q2 M a0 = some M9 → Ct l yX11_either cX11_either 1 none (2 + D) 0 P [.ref (pB P + a0)] M none M9) (hp2 : ∀ (M : Mm) (a0 : Nat) (r9 : Mm), q2 M a0 = some r9 → ∃ fs, M[a0]? = some (.inr (11, fs))) (hq3 : ∀ (M : Mm) (a0 : Nat) (M9 : Mm), q3 M a0 = some M9 → Ct l yX11_one cX11_one 4 none (2 + D) 0 P [.ref (pB P + a0)] M none M9) (hp3 : ∀ (M : Mm) (a0 : Nat) (r9 : Mm), q3 M a0 = some r9 → ∃ fs, M[a0]? = some (.inr (11, fs))) (hq4 : ∀ (M : Mm) (a0 : Nat) (M9 : Mm), q4 M a0 = some M9 → Ct l yX11_product cX11_product 2 none (2 + D) 0 P [.ref (pB P + a0)] M none M9) (hp4 : ∀ (M : Mm) (a0 : Nat) (r9 : Mm), q4 M a0 = some r9 → ∃ fs, M[a0]? = some (.inr (11, fs))) (hq5 : ∀ (M : Mm) (a0 : Nat) (M9 : Mm), q5 M a0 = some M9 → Ct l yX11_sum cX11_sum 2 none (2 + D) 0 P [.ref (pB P + a0)] M none M9) (hp5 : ∀ (M : Mm) (a0 : Nat) (r9 : Mm), q5 M a0 = some r9 → ∃ fs, M[a0]? = some (.inr (11, fs)))  (M : Mm) (a0 : Nat) (h : FX11_compared q0 q1 q2 q3 q4 q5 N M a0 = some M9) : Wq p l e s m args below meth c (2 + D + 1) 0 none M9 2 P 0 0 [(0, .ref (pB P + a0))] [] M := by
  unfold FX11_compared at h
  obtain ⟨_, _, h⟩ := ob h
  have hX0 := hX
  obtain ⟨X, hr, hlk, hnm⟩ := hX0
  have hx := X.1.1
  have hb := X.1.2.1
  intro H locs ls hM hl
  refine lv_aload_n (pc := 0) hx hb dX11_compared_0 rfl (lv_at hl 0 rfl) ?_
  obtain ⟨M2, e1, h⟩ := ob h
  obtain ⟨fs3, hb4⟩ := (hp5 _ _ _ e1)
  refine bz_callV0 (pc := 1) (As := []) (rest := []) X hM hl.1 k_RX11_180 (hq5 _ _ _ e1) rfl hb4 rfl rfl (rm_ok (by omega) (Nat.le_of_ble_eq_true rfl)) (Nat.le_of_ble_eq_true rfl) ⟨(Nat.le_of_ble_eq_true rfl), (Nat.le_of_ble_eq_true rfl)⟩ dX11_compared_1 (fun H locs hM => ?_)
  refine lv_aload_n (pc := 4) hx hb dX11_compared_4 rfl (lv_at hl 0 rfl) ?_
  obtain ⟨v6, e5, h⟩ := ob h
  obtain ⟨fs7, hb8⟩ := (rX11_here e5)
  refine bz_callV1 (pc := 5) (As := []) (rest := []) X hM hl.1 k_RX11_160 (ctX11_here l e5) rfl hb8 rfl rfl (rm_ok (by omega) (Nat.le_of_ble_eq_true rfl)) (Nat.le_of_ble_eq_true rfl) ⟨(Nat.le_of_ble_eq_true rfl), (Nat.le_of_ble_eq_true rfl)⟩ dX11_compared_5 (fun H locs hM => ?_)
  refine lv_istore_n (pc := 8) (lv' := [(1, .int v6), (0, .ref (pB P + a0))]) hx hb dX11_compared_8 rfl hl (by decide) rfl (fun ls hl => ?_)
  refine lv_iload_n (pc := 9) hx hb dX11_compared_9 rfl (lv_at hl 0 rfl) ?_
  refine lv_bipush (pc := 10) (v := (60 : Int32)) hx hb dX11_compared_10 (by decide) ?_
  refine lv_icmp_eq (pc := 12) (tgt := 28) hx hb dX11_compared_12 (by decide) (fun hc => ?_) (fun hc => ?_)
  · have h := if_t hc h
    exact wjX11_compared_28 hX hq0 hp0 hq1 hp1 hq2 hp2 hq3 hp3 hq4 hp4 hq5 hp5 _ _ _ h H locs ls hM (lv_sub hl [1, 0] rfl)
  · have h := if_f hc h
    refine lv_iload_n (pc := 15) hx hb dX11_compared_15 rfl (lv_at hl 0 rfl) ?_
    refine lv_bipush (pc := 16) (v := (61 : Int32)) hx hb dX11_compared_16 (by decide) ?_
    refine lv_icmp_eq (pc := 18) (tgt := 28) hx hb dX11_compared_18 (by decide) (fun hc => ?_) (fun hc => ?_)
    · have h := if_t hc h
      exact wjX11_compared_28 hX hq0 hp0 hq1 hp1 hq2 hp2 hq3 hp3 hq4 hp4 hq5 hp5 _ _ _ h H locs ls hM (lv_sub hl [1, 0] rfl)
    · have h := if_f hc h
      refine lv_iload_n (pc := 21) hx hb dX11_compared_21 rfl (lv_at hl 0 rfl) ?_
      refine lv_bipush (pc := 22) (v := (62 : Int32)) hx hb dX11_compared_22 (by decide) ?_
      refine lv_icmp_eq (pc := 24) (tgt := 28) hx hb dX11_compared_24 (by decide) (fun hc => ?_) (fun hc => ?_)
      · have h := if_t hc h
        exact wjX11_compared_28 hX hq0 hp0 hq1 hp1 hq2 hp2 hq3 hp3 hq4 hp4 hq5 hp5 _ _ _ h H locs ls hM (lv_sub hl [1, 0] rfl)
      · have h := if_f hc h
        obtain rfl := so1 h
        exact bz_vret (pc := 27) X hM hr hlk dX11_compared_27 (Nat.le_of_ble_eq_true rfl) (Nat.le_of_ble_eq_true rfl)
theorem rF_X11_compared {q0 : Mm → Nat → Option (Mm)} {q1 : Mm → Nat → Option (Mm)} {q2 : Mm → Nat → Option (Mm)} {q3 : Mm → Nat → Option (Mm)} {q4 : Mm → Nat → Option (Mm)} {q5 : Mm → Nat → Option (Mm)} {N : Nat} {M : Mm} {a0 : Nat} {r9 : Mm} (h : FX11_compared q0 q1 q2 q3 q4 q5 N M a0 = some r9) : ∃ fs, M[a0]? = some (.inr (11, fs)) := by
  unfold FX11_compared at h
  obtain ⟨_, e1, _⟩ := ob h
  exact gC_spec e1
set_option maxHeartbeats 4000000 in
set_option maxRecDepth 100000 in
theorem wBX11_either_4 {p : Program} {l : Launch} {e : Env} {s : State} {m : MethodId} {args : Array Value} {below : List Frame} {meth : Method} {c : Code} {P : PT} {D : Nat} {q0 : Mm → Nat → Option (Mm)} {q1 : Mm → Nat → Option (Mm)} {q2 : Mm → Nat → Option (Mm)} {q3 : Mm → Nat → Option (Mm)} {q4 : Mm → Nat → Option (Mm)} {q5 : Mm → Nat → Option (Mm)} {N : Nat} {K4 : Mm → Nat → Option (Mm)}  {M9 : Mm} (hX : Cy p s m args c meth cX11_either 1 RX11 "either" none P) (hq0 : ∀ (M : Mm) (a0 : Nat) (M9 : Mm), q0 M a0 = some M9 → Ct l yX11_both cX11_both 1 none (2 + D) 0 P [.ref (pB P + a0)] M none M9) (hp0 : ∀ (M : Mm) (a0 : Nat) (r9 : Mm), q0 M a0 = some r9 → ∃ fs, M[a0]? = some (.inr (11, fs))) (hq1 : ∀ (M : Mm) (a0 : Nat) (M9 : Mm), q1 M a0 = some M9 → Ct l yX11_compared cX11_compared 2 none (2 + D) 0 P [.ref (pB P + a0)] M none M9) (hp1 : ∀ (M : Mm) (a0 : Nat) (r9 : Mm), q1 M a0 = some r9 → ∃ fs, M[a0]? = some (.inr (11, fs))) (hq2 : ∀ (M : Mm) (a0 : Nat) (M9 : Mm), q2 M a0 = some M9 → Ct l yX11_either cX11_either 1 none (2 + D) 0 P [.ref (pB P + a0)] M none M9) (hp2 : ∀ (M : Mm) (a0 : Nat) (r9 : Mm), q2 M a0 = some r9 → ∃ fs, M[a0]? = some (.inr (11, fs))) (hq3 : ∀ (M : Mm) (a0 : Nat) (M9 : Mm), q3 M a0 = some M9 → Ct l yX11_one cX11_one 4 none (2 + D) 0 P [.ref (pB P + a0)] M none M9) (hp3 : ∀ (M : Mm) (a0 : Nat) (r9 : Mm), q3 M a0 = some r9 → ∃ fs, M[a0]? = some (.inr (11, fs))) (hq4 : ∀ (M : Mm) (a0 : Nat) (M9 : Mm), q4 M a0 = some M9 → Ct l yX11_product cX11_product 2 none (2 + D) 0 P [.ref (pB P + a0)] M none M9) (hp4 : ∀ (M : Mm) (a0 : Nat) (r9 : Mm), q4 M a0 = some r9 → ∃ fs, M[a0]? = some (.inr (11, fs))) (hq5 : ∀ (M : Mm) (a0 : Nat) (M9 : Mm), q5 M a0 = some M9 → Ct l yX11_sum cX11_sum 2 none (2 + D) 0 P [.ref (pB P + a0)] M none M9) (hp5 : ∀ (M : Mm) (a0 : Nat) (r9 : Mm), q5 M a0 = some r9 → ∃ fs, M[a0]? = some (.inr (11, fs)))  (hK4 : ∀ (M : Mm) (x0 : Nat), K4 M x0 = some M9 → Wq p l e s m args below meth c (2 + D + 1) 0 none M9 1 P 0 4 [(0, .ref (pB P + x0))] [] M) (M : Mm) (x0 : Nat)  (h : BX11_either_4 q0 q1 q2 q3 q4 q5 N K4 M x0 = some M9) : Wq p l e s m args below meth c (2 + D + 1) 0 none M9 1 P 0 4 [(0, .ref (pB P + x0))] [] M := by
  unfold BX11_either_4 at h
  have hX0 := hX
  obtain ⟨X, hr, hlk, hnm⟩ := hX0
  have hx := X.1.1
  have hb := X.1.2.1
  intro H locs ls hM hl
  refine lv_aload_n (pc := 4) hx hb dX11_either_4 rfl (lv_at hl 0 rfl) ?_
  refine lv_bipush (pc := 5) (v := (124 : Int32)) hx hb dX11_either_5 (by decide) ?_
  obtain ⟨v2, M3, e1, h⟩ := ob2 h
  obtain ⟨fs4, hb5⟩ := (rX11_isHere e1)
  refine bz_callV1 (pc := 7) (As := [.int (124 : Int32)]) (rest := []) X hM hl.1 k_RX11_170 (ctX11_isHere l e1) rfl hb5 rfl rfl (rm_ok (by omega) (Nat.le_of_ble_eq_true rfl)) (Nat.le_of_ble_eq_true rfl) ⟨(Nat.le_of_ble_eq_true rfl), (Nat.le_of_ble_eq_true rfl)⟩ dX11_either_7 (fun H locs hM => ?_)
  refine lv_if_eq (pc := 10) (tgt := 27) hx hb dX11_either_10 (by decide) (fun hc => ?_) (fun hc => ?_)
  · have h := if_t hc h
    obtain rfl := so1 h
    exact bz_vret (pc := 27) X hM hr hlk dX11_either_27 (Nat.le_of_ble_eq_true rfl) (Nat.le_of_ble_eq_true rfl)
  · have h := if_f hc h
    refine lv_aload_n (pc := 13) hx hb dX11_either_13 rfl (lv_at hl 0 rfl) ?_
    obtain ⟨M7, e6, h⟩ := ob h
    obtain ⟨fs8, hb9⟩ := (hp0 _ _ _ e6)
    refine bz_callV0 (pc := 14) (As := []) (rest := []) X hM hl.1 k_RX11_167 (hq0 _ _ _ e6) rfl hb9 rfl rfl (rm_ok (by omega) (Nat.le_of_ble_eq_true rfl)) (Nat.le_of_ble_eq_true rfl) ⟨(Nat.le_of_ble_eq_true rfl), (Nat.le_of_ble_eq_true rfl)⟩ dX11_either_14 (fun H locs hM => ?_)
    refine lv_aload_n (pc := 17) hx hb dX11_either_17 rfl (lv_at hl 0 rfl) ?_
    refine lv_sipush (pc := 18) (v := (20124 : Int32)) hx hb dX11_either_18 (by decide) ?_
    obtain ⟨M11, e10, h⟩ := ob h
    obtain ⟨fs12, hb13⟩ := (rX11_puts e10)
    refine bz_callV0 (pc := 21) (As := [.int (20124 : Int32)]) (rest := []) X hM hl.1 k_RX11_173 (ctX11_puts l e10) rfl hb13 rfl rfl (rm_ok (by omega) (Nat.le_of_ble_eq_true rfl)) (Nat.le_of_ble_eq_true rfl) ⟨(Nat.le_of_ble_eq_true rfl), (Nat.le_of_ble_eq_true rfl)⟩ dX11_either_21 (fun H locs hM => ?_)
    refine lv_goto (pc := 24) (tgt := 4) hx hb dX11_either_24 (by decide) ?_
    exact hK4 _ _ h H locs ls hM (lv_sub hl [0] rfl)
set_option maxHeartbeats 4000000 in
set_option maxRecDepth 100000 in
theorem wLX11_either_4 {p : Program} {l : Launch} {e : Env} {s : State} {m : MethodId} {args : Array Value} {below : List Frame} {meth : Method} {c : Code} {P : PT} {D : Nat} {q0 : Mm → Nat → Option (Mm)} {q1 : Mm → Nat → Option (Mm)} {q2 : Mm → Nat → Option (Mm)} {q3 : Mm → Nat → Option (Mm)} {q4 : Mm → Nat → Option (Mm)} {q5 : Mm → Nat → Option (Mm)} {N : Nat}  {M9 : Mm} (hX : Cy p s m args c meth cX11_either 1 RX11 "either" none P) (hq0 : ∀ (M : Mm) (a0 : Nat) (M9 : Mm), q0 M a0 = some M9 → Ct l yX11_both cX11_both 1 none (2 + D) 0 P [.ref (pB P + a0)] M none M9) (hp0 : ∀ (M : Mm) (a0 : Nat) (r9 : Mm), q0 M a0 = some r9 → ∃ fs, M[a0]? = some (.inr (11, fs))) (hq1 : ∀ (M : Mm) (a0 : Nat) (M9 : Mm), q1 M a0 = some M9 → Ct l yX11_compared cX11_compared 2 none (2 + D) 0 P [.ref (pB P + a0)] M none M9) (hp1 : ∀ (M : Mm) (a0 : Nat) (r9 : Mm), q1 M a0 = some r9 → ∃ fs, M[a0]? = some (.inr (11, fs))) (hq2 : ∀ (M : Mm) (a0 : Nat) (M9 : Mm), q2 M a0 = some M9 → Ct l yX11_either cX11_either 1 none (2 + D) 0 P [.ref (pB P + a0)] M none M9) (hp2 : ∀ (M : Mm) (a0 : Nat) (r9 : Mm), q2 M a0 = some r9 → ∃ fs, M[a0]? = some (.inr (11, fs))) (hq3 : ∀ (M : Mm) (a0 : Nat) (M9 : Mm), q3 M a0 = some M9 → Ct l yX11_one cX11_one 4 none (2 + D) 0 P [.ref (pB P + a0)] M none M9) (hp3 : ∀ (M : Mm) (a0 : Nat) (r9 : Mm), q3 M a0 = some r9 → ∃ fs, M[a0]? = some (.inr (11, fs))) (hq4 : ∀ (M : Mm) (a0 : Nat) (M9 : Mm), q4 M a0 = some M9 → Ct l yX11_product cX11_product 2 none (2 + D) 0 P [.ref (pB P + a0)] M none M9) (hp4 : ∀ (M : Mm) (a0 : Nat) (r9 : Mm), q4 M a0 = some r9 → ∃ fs, M[a0]? = some (.inr (11, fs))) (hq5 : ∀ (M : Mm) (a0 : Nat) (M9 : Mm), q5 M a0 = some M9 → Ct l yX11_sum cX11_sum 2 none (2 + D) 0 P [.ref (pB P + a0)] M none M9) (hp5 : ∀ (M : Mm) (a0 : Nat) (r9 : Mm), q5 M a0 = some r9 → ∃ fs, M[a0]? = some (.inr (11, fs)))   : ∀ (n : Nat) (M : Mm) (x0 : Nat) , LX11_either_4 q0 q1 q2 q3 q4 q5 N n M x0 = some M9 → Wq p l e s m args below meth c (2 + D + 1) 0 none M9 1 P 0 4 [(0, .ref (pB P + x0))] [] M := by
  intro n
  induction n with
  | zero => intro M x0 h; cases h
  | succ n ih => intro M x0 h; exact wBX11_either_4 hX hq0 hp0 hq1 hp1 hq2 hp2 hq3 hp3 hq4 hp4 hq5 hp5 ih M x0 h
set_option maxHeartbeats 4000000 in
set_option maxRecDepth 100000 in
theorem wX11_either {p : Program} {l : Launch} {e : Env} {s : State} {m : MethodId} {args : Array Value} {below : List Frame} {meth : Method} {c : Code} {P : PT} {D : Nat} {q0 : Mm → Nat → Option (Mm)} {q1 : Mm → Nat → Option (Mm)} {q2 : Mm → Nat → Option (Mm)} {q3 : Mm → Nat → Option (Mm)} {q4 : Mm → Nat → Option (Mm)} {q5 : Mm → Nat → Option (Mm)} {N : Nat}  {M9 : Mm} (hX : Cy p s m args c meth cX11_either 1 RX11 "either" none P) (hq0 : ∀ (M : Mm) (a0 : Nat) (M9 : Mm), q0 M a0 = some M9 → Ct l yX11_both cX11_both 1 none (2 + D) 0 P [.ref (pB P + a0)] M none M9) (hp0 : ∀ (M : Mm) (a0 : Nat) (r9 : Mm), q0 M a0 = some r9 → ∃ fs, M[a0]? = some (.inr (11, fs))) (hq1 : ∀ (M : Mm) (a0 : Nat) (M9 : Mm), q1 M a0 = some M9 → Ct l yX11_compared cX11_compared 2 none (2 + D) 0 P [.ref (pB P + a0)] M none M9) (hp1 : ∀ (M : Mm) (a0 : Nat) (r9 : Mm), q1 M a0 = some r9 → ∃ fs, M[a0]? = some (.inr (11, fs))) (hq2 : ∀ (M : Mm) (a0 : Nat) (M9 : Mm), q2 M a0 = some M9 → Ct l yX11_either cX11_either 1 none (2 + D) 0 P [.ref (pB P + a0)] M none M9) (hp2 : ∀ (M : Mm) (a0 : Nat) (r9 : Mm), q2 M a0 = some r9 → ∃ fs, M[a0]? = some (.inr (11, fs))) (hq3 : ∀ (M : Mm) (a0 : Nat) (M9 : Mm), q3 M a0 = some M9 → Ct l yX11_one cX11_one 4 none (2 + D) 0 P [.ref (pB P + a0)] M none M9) (hp3 : ∀ (M : Mm) (a0 : Nat) (r9 : Mm), q3 M a0 = some r9 → ∃ fs, M[a0]? = some (.inr (11, fs))) (hq4 : ∀ (M : Mm) (a0 : Nat) (M9 : Mm), q4 M a0 = some M9 → Ct l yX11_product cX11_product 2 none (2 + D) 0 P [.ref (pB P + a0)] M none M9) (hp4 : ∀ (M : Mm) (a0 : Nat) (r9 : Mm), q4 M a0 = some r9 → ∃ fs, M[a0]? = some (.inr (11, fs))) (hq5 : ∀ (M : Mm) (a0 : Nat) (M9 : Mm), q5 M a0 = some M9 → Ct l yX11_sum cX11_sum 2 none (2 + D) 0 P [.ref (pB P + a0)] M none M9) (hp5 : ∀ (M : Mm) (a0 : Nat) (r9 : Mm), q5 M a0 = some r9 → ∃ fs, M[a0]? = some (.inr (11, fs)))  (M : Mm) (a0 : Nat) (h : FX11_either q0 q1 q2 q3 q4 q5 N M a0 = some M9) : Wq p l e s m args below meth c (2 + D + 1) 0 none M9 1 P 0 0 [(0, .ref (pB P + a0))] [] M := by
  unfold FX11_either at h
  obtain ⟨_, _, h⟩ := ob h
  have hX0 := hX
  obtain ⟨X, hr, hlk, hnm⟩ := hX0
  have hx := X.1.1
  have hb := X.1.2.1
  intro H locs ls hM hl
  refine lv_aload_n (pc := 0) hx hb dX11_either_0 rfl (lv_at hl 0 rfl) ?_
  obtain ⟨M2, e1, h⟩ := ob h
  obtain ⟨fs3, hb4⟩ := (hp0 _ _ _ e1)
  refine bz_callV0 (pc := 1) (As := []) (rest := []) X hM hl.1 k_RX11_167 (hq0 _ _ _ e1) rfl hb4 rfl rfl (rm_ok (by omega) (Nat.le_of_ble_eq_true rfl)) (Nat.le_of_ble_eq_true rfl) ⟨(Nat.le_of_ble_eq_true rfl), (Nat.le_of_ble_eq_true rfl)⟩ dX11_either_1 (fun H locs hM => ?_)
  exact wLX11_either_4 hX hq0 hp0 hq1 hp1 hq2 hp2 hq3 hp3 hq4 hp4 hq5 hp5 _ _ _ h H locs ls hM (lv_sub hl [0] rfl)
theorem rF_X11_either {q0 : Mm → Nat → Option (Mm)} {q1 : Mm → Nat → Option (Mm)} {q2 : Mm → Nat → Option (Mm)} {q3 : Mm → Nat → Option (Mm)} {q4 : Mm → Nat → Option (Mm)} {q5 : Mm → Nat → Option (Mm)} {N : Nat} {M : Mm} {a0 : Nat} {r9 : Mm} (h : FX11_either q0 q1 q2 q3 q4 q5 N M a0 = some r9) : ∃ fs, M[a0]? = some (.inr (11, fs)) := by
  unfold FX11_either at h
  obtain ⟨_, e1, _⟩ := ob h
  exact gC_spec e1
set_option maxHeartbeats 4000000 in
set_option maxRecDepth 100000 in
theorem wjX11_one_204 {p : Program} {l : Launch} {e : Env} {s : State} {m : MethodId} {args : Array Value} {below : List Frame} {meth : Method} {c : Code} {P : PT} {D : Nat} {q0 : Mm → Nat → Option (Mm)} {q1 : Mm → Nat → Option (Mm)} {q2 : Mm → Nat → Option (Mm)} {q3 : Mm → Nat → Option (Mm)} {q4 : Mm → Nat → Option (Mm)} {q5 : Mm → Nat → Option (Mm)} {N : Nat}  {M9 : Mm} (hX : Cy p s m args c meth cX11_one 4 RX11 "one" none P) (hq0 : ∀ (M : Mm) (a0 : Nat) (M9 : Mm), q0 M a0 = some M9 → Ct l yX11_both cX11_both 1 none (2 + D) 0 P [.ref (pB P + a0)] M none M9) (hp0 : ∀ (M : Mm) (a0 : Nat) (r9 : Mm), q0 M a0 = some r9 → ∃ fs, M[a0]? = some (.inr (11, fs))) (hq1 : ∀ (M : Mm) (a0 : Nat) (M9 : Mm), q1 M a0 = some M9 → Ct l yX11_compared cX11_compared 2 none (2 + D) 0 P [.ref (pB P + a0)] M none M9) (hp1 : ∀ (M : Mm) (a0 : Nat) (r9 : Mm), q1 M a0 = some r9 → ∃ fs, M[a0]? = some (.inr (11, fs))) (hq2 : ∀ (M : Mm) (a0 : Nat) (M9 : Mm), q2 M a0 = some M9 → Ct l yX11_either cX11_either 1 none (2 + D) 0 P [.ref (pB P + a0)] M none M9) (hp2 : ∀ (M : Mm) (a0 : Nat) (r9 : Mm), q2 M a0 = some r9 → ∃ fs, M[a0]? = some (.inr (11, fs))) (hq3 : ∀ (M : Mm) (a0 : Nat) (M9 : Mm), q3 M a0 = some M9 → Ct l yX11_one cX11_one 4 none (2 + D) 0 P [.ref (pB P + a0)] M none M9) (hp3 : ∀ (M : Mm) (a0 : Nat) (r9 : Mm), q3 M a0 = some r9 → ∃ fs, M[a0]? = some (.inr (11, fs))) (hq4 : ∀ (M : Mm) (a0 : Nat) (M9 : Mm), q4 M a0 = some M9 → Ct l yX11_product cX11_product 2 none (2 + D) 0 P [.ref (pB P + a0)] M none M9) (hp4 : ∀ (M : Mm) (a0 : Nat) (r9 : Mm), q4 M a0 = some r9 → ∃ fs, M[a0]? = some (.inr (11, fs))) (hq5 : ∀ (M : Mm) (a0 : Nat) (M9 : Mm), q5 M a0 = some M9 → Ct l yX11_sum cX11_sum 2 none (2 + D) 0 P [.ref (pB P + a0)] M none M9) (hp5 : ∀ (M : Mm) (a0 : Nat) (r9 : Mm), q5 M a0 = some r9 → ∃ fs, M[a0]? = some (.inr (11, fs)))   (M : Mm) (x0 : Nat)  (h : jX11_one_204 q0 q1 q2 q3 q4 q5 N M x0 = some M9) : Wq p l e s m args below meth c (2 + D + 1) 0 none M9 4 P 0 204 [(0, .ref (pB P + x0))] [] M := by
  unfold jX11_one_204 at h
  have hX0 := hX
  obtain ⟨X, hr, hlk, hnm⟩ := hX0
  have hx := X.1.1
  have hb := X.1.2.1
  intro H locs ls hM hl
  refine lv_aload_n (pc := 204) hx hb dX11_one_204 rfl (lv_at hl 0 rfl) ?_
  refine lv_dup (pc := 205) hx hb dX11_one_205 rfl ?_
  obtain ⟨v1, e2, h⟩ := ob h
  refine bz_getI (pc := 206) X hM fl_RX11_199 e2 dX11_one_206 ?_
  refine lv_iconst (pc := 209) (v := (1 : Int32)) hx hb dX11_one_209 (by decide) ?_
  refine lv_isub (pc := 210) hx hb dX11_one_210 ?_
  obtain ⟨M3, e4, h⟩ := ob h
  refine bz_putI (pc := 211) X hM fp_RX11_199 (Or.inl rfl) e4 dX11_one_211 (fun H locs hM => ?_)
  refine lv_goto (pc := 214) (tgt := 222) hx hb dX11_one_214 (by decide) ?_
  obtain rfl := so1 h
  exact bz_vret (pc := 222) X hM hr hlk dX11_one_222 (Nat.le_of_ble_eq_true rfl) (Nat.le_of_ble_eq_true rfl)
set_option maxHeartbeats 4000000 in
set_option maxRecDepth 100000 in
theorem wjX11_one_201 {p : Program} {l : Launch} {e : Env} {s : State} {m : MethodId} {args : Array Value} {below : List Frame} {meth : Method} {c : Code} {P : PT} {D : Nat} {q0 : Mm → Nat → Option (Mm)} {q1 : Mm → Nat → Option (Mm)} {q2 : Mm → Nat → Option (Mm)} {q3 : Mm → Nat → Option (Mm)} {q4 : Mm → Nat → Option (Mm)} {q5 : Mm → Nat → Option (Mm)} {N : Nat}  {M9 : Mm} (hX : Cy p s m args c meth cX11_one 4 RX11 "one" none P) (hq0 : ∀ (M : Mm) (a0 : Nat) (M9 : Mm), q0 M a0 = some M9 → Ct l yX11_both cX11_both 1 none (2 + D) 0 P [.ref (pB P + a0)] M none M9) (hp0 : ∀ (M : Mm) (a0 : Nat) (r9 : Mm), q0 M a0 = some r9 → ∃ fs, M[a0]? = some (.inr (11, fs))) (hq1 : ∀ (M : Mm) (a0 : Nat) (M9 : Mm), q1 M a0 = some M9 → Ct l yX11_compared cX11_compared 2 none (2 + D) 0 P [.ref (pB P + a0)] M none M9) (hp1 : ∀ (M : Mm) (a0 : Nat) (r9 : Mm), q1 M a0 = some r9 → ∃ fs, M[a0]? = some (.inr (11, fs))) (hq2 : ∀ (M : Mm) (a0 : Nat) (M9 : Mm), q2 M a0 = some M9 → Ct l yX11_either cX11_either 1 none (2 + D) 0 P [.ref (pB P + a0)] M none M9) (hp2 : ∀ (M : Mm) (a0 : Nat) (r9 : Mm), q2 M a0 = some r9 → ∃ fs, M[a0]? = some (.inr (11, fs))) (hq3 : ∀ (M : Mm) (a0 : Nat) (M9 : Mm), q3 M a0 = some M9 → Ct l yX11_one cX11_one 4 none (2 + D) 0 P [.ref (pB P + a0)] M none M9) (hp3 : ∀ (M : Mm) (a0 : Nat) (r9 : Mm), q3 M a0 = some r9 → ∃ fs, M[a0]? = some (.inr (11, fs))) (hq4 : ∀ (M : Mm) (a0 : Nat) (M9 : Mm), q4 M a0 = some M9 → Ct l yX11_product cX11_product 2 none (2 + D) 0 P [.ref (pB P + a0)] M none M9) (hp4 : ∀ (M : Mm) (a0 : Nat) (r9 : Mm), q4 M a0 = some r9 → ∃ fs, M[a0]? = some (.inr (11, fs))) (hq5 : ∀ (M : Mm) (a0 : Nat) (M9 : Mm), q5 M a0 = some M9 → Ct l yX11_sum cX11_sum 2 none (2 + D) 0 P [.ref (pB P + a0)] M none M9) (hp5 : ∀ (M : Mm) (a0 : Nat) (r9 : Mm), q5 M a0 = some r9 → ∃ fs, M[a0]? = some (.inr (11, fs)))   (M : Mm) (x0 : Nat) (s0 : Nat) (s1 : Int32) (h : jX11_one_201 q0 q1 q2 q3 q4 q5 N M x0 s0 s1 = some M9) : Wq p l e s m args below meth c (2 + D + 1) 0 none M9 4 P 0 201 [(0, .ref (pB P + x0))] [.int s1, .ref (pB P + s0)] M := by
  unfold jX11_one_201 at h
  have hX0 := hX
  obtain ⟨X, hr, hlk, hnm⟩ := hX0
  have hx := X.1.1
  have hb := X.1.2.1
  intro H locs ls hM hl
  obtain ⟨v3, e4, h⟩ := ob h
  obtain ⟨M1, e2, h⟩ := ob h
  refine bz_putZz (pc := 201) X hM fp_RX11_152 (Or.inl rfl) e4 e2 dX11_one_201 (fun H locs hM => ?_)
  exact wjX11_one_204 hX hq0 hp0 hq1 hp1 hq2 hp2 hq3 hp3 hq4 hp4 hq5 hp5 _ _ h H locs ls hM (lv_sub hl [0] rfl)
set_option maxHeartbeats 4000000 in
set_option maxRecDepth 100000 in
theorem wjX11_one_134 {p : Program} {l : Launch} {e : Env} {s : State} {m : MethodId} {args : Array Value} {below : List Frame} {meth : Method} {c : Code} {P : PT} {D : Nat} {q0 : Mm → Nat → Option (Mm)} {q1 : Mm → Nat → Option (Mm)} {q2 : Mm → Nat → Option (Mm)} {q3 : Mm → Nat → Option (Mm)} {q4 : Mm → Nat → Option (Mm)} {q5 : Mm → Nat → Option (Mm)} {N : Nat}  {M9 : Mm} (hX : Cy p s m args c meth cX11_one 4 RX11 "one" none P) (hq0 : ∀ (M : Mm) (a0 : Nat) (M9 : Mm), q0 M a0 = some M9 → Ct l yX11_both cX11_both 1 none (2 + D) 0 P [.ref (pB P + a0)] M none M9) (hp0 : ∀ (M : Mm) (a0 : Nat) (r9 : Mm), q0 M a0 = some r9 → ∃ fs, M[a0]? = some (.inr (11, fs))) (hq1 : ∀ (M : Mm) (a0 : Nat) (M9 : Mm), q1 M a0 = some M9 → Ct l yX11_compared cX11_compared 2 none (2 + D) 0 P [.ref (pB P + a0)] M none M9) (hp1 : ∀ (M : Mm) (a0 : Nat) (r9 : Mm), q1 M a0 = some r9 → ∃ fs, M[a0]? = some (.inr (11, fs))) (hq2 : ∀ (M : Mm) (a0 : Nat) (M9 : Mm), q2 M a0 = some M9 → Ct l yX11_either cX11_either 1 none (2 + D) 0 P [.ref (pB P + a0)] M none M9) (hp2 : ∀ (M : Mm) (a0 : Nat) (r9 : Mm), q2 M a0 = some r9 → ∃ fs, M[a0]? = some (.inr (11, fs))) (hq3 : ∀ (M : Mm) (a0 : Nat) (M9 : Mm), q3 M a0 = some M9 → Ct l yX11_one cX11_one 4 none (2 + D) 0 P [.ref (pB P + a0)] M none M9) (hp3 : ∀ (M : Mm) (a0 : Nat) (r9 : Mm), q3 M a0 = some r9 → ∃ fs, M[a0]? = some (.inr (11, fs))) (hq4 : ∀ (M : Mm) (a0 : Nat) (M9 : Mm), q4 M a0 = some M9 → Ct l yX11_product cX11_product 2 none (2 + D) 0 P [.ref (pB P + a0)] M none M9) (hp4 : ∀ (M : Mm) (a0 : Nat) (r9 : Mm), q4 M a0 = some r9 → ∃ fs, M[a0]? = some (.inr (11, fs))) (hq5 : ∀ (M : Mm) (a0 : Nat) (M9 : Mm), q5 M a0 = some M9 → Ct l yX11_sum cX11_sum 2 none (2 + D) 0 P [.ref (pB P + a0)] M none M9) (hp5 : ∀ (M : Mm) (a0 : Nat) (r9 : Mm), q5 M a0 = some r9 → ∃ fs, M[a0]? = some (.inr (11, fs)))   (M : Mm) (x0 : Nat) (x1 : Int32)  (h : jX11_one_134 q0 q1 q2 q3 q4 q5 N M x0 x1 = some M9) : Wq p l e s m args below meth c (2 + D + 1) 0 none M9 4 P 0 134 [(0, .ref (pB P + x0)), (1, .int x1)] [] M := by
  unfold jX11_one_134 at h
  have hX0 := hX
  obtain ⟨X, hr, hlk, hnm⟩ := hX0
  have hx := X.1.1
  have hb := X.1.2.1
  intro H locs ls hM hl
  refine lv_aload_n (pc := 134) hx hb dX11_one_134 rfl (lv_at hl 0 rfl) ?_
  obtain ⟨v1, e2, h⟩ := ob h
  refine bz_getI (pc := 135) X hM fl_RX11_199 e2 dX11_one_135 ?_
  refine lv_iconst (pc := 138) (v := (5 : Int32)) hx hb dX11_one_138 (by decide) ?_
  refine lv_icmp_ge (pc := 139) (tgt := 217) hx hb dX11_one_139 (by decide) (fun hc => ?_) (fun hc => ?_)
  · have h := if_t hc h
    refine lv_aload_n (pc := 217) hx hb dX11_one_217 rfl (lv_at hl 0 rfl) ?_
    refine lv_iconst (pc := 218) (v := (1 : Int32)) hx hb dX11_one_218 (by decide) ?_
    obtain ⟨M3, e4, h⟩ := ob h
    refine bz_putZ (pc := 219) X hM fp_RX11_152 (Or.inl rfl) (by decide) e4 dX11_one_219 (fun H locs hM => ?_)
    obtain rfl := so1 h
    exact bz_vret (pc := 222) X hM hr hlk dX11_one_222 (Nat.le_of_ble_eq_true rfl) (Nat.le_of_ble_eq_true rfl)
  · have h := if_f hc h
    refine lv_aload_n (pc := 142) hx hb dX11_one_142 rfl (lv_at hl 0 rfl) ?_
    refine lv_dup (pc := 143) hx hb dX11_one_143 rfl ?_
    obtain ⟨v5, e6, h⟩ := ob h
    refine bz_getI (pc := 144) X hM fl_RX11_156 e6 dX11_one_144 ?_
    refine lv_iconst (pc := 147) (v := (1 : Int32)) hx hb dX11_one_147 (by decide) ?_
    refine lv_iadd (pc := 148) hx hb dX11_one_148 ?_
    obtain ⟨M7, e8, h⟩ := ob h
    refine bz_putI (pc := 149) X hM fp_RX11_156 (Or.inl rfl) e8 dX11_one_149 (fun H locs hM => ?_)
    refine lv_aload_n (pc := 152) hx hb dX11_one_152 rfl (lv_at hl 0 rfl) ?_
    refine lv_dup (pc := 153) hx hb dX11_one_153 rfl ?_
    obtain ⟨v9, e10, h⟩ := ob h
    refine bz_getI (pc := 154) X hM fl_RX11_199 e10 dX11_one_154 ?_
    refine lv_iconst (pc := 157) (v := (1 : Int32)) hx hb dX11_one_157 (by decide) ?_
    refine lv_iadd (pc := 158) hx hb dX11_one_158 ?_
    obtain ⟨M11, e12, h⟩ := ob h
    refine bz_putI (pc := 159) X hM fp_RX11_199 (Or.inl rfl) e12 dX11_one_159 (fun H locs hM => ?_)
    refine lv_iload_n (pc := 162) hx hb dX11_one_162 rfl (lv_at hl 1 rfl) ?_
    refine lv_bipush (pc := 163) (v := (33 : Int32)) hx hb dX11_one_163 (by decide) ?_
    refine lv_icmp_ne (pc := 165) (tgt := 182) hx hb dX11_one_165 (by decide) (fun hc => ?_) (fun hc => ?_)
    · have h := if_f hc h
      refine lv_aload_n (pc := 182) hx hb dX11_one_182 rfl (lv_at hl 0 rfl) ?_
      obtain ⟨M14, e13, h⟩ := ob h
      obtain ⟨fs15, hb16⟩ := (hp2 _ _ _ e13)
      refine bz_callV0 (pc := 183) (As := []) (rest := []) X hM hl.1 k_RX11_202 (hq2 _ _ _ e13) rfl hb16 rfl rfl (rm_ok (by omega) (Nat.le_of_ble_eq_true rfl)) (Nat.le_of_ble_eq_true rfl) ⟨(Nat.le_of_ble_eq_true rfl), (Nat.le_of_ble_eq_true rfl)⟩ dX11_one_183 (fun H locs hM => ?_)
      refine lv_aload_n (pc := 186) hx hb dX11_one_186 rfl (lv_at hl 0 rfl) ?_
      refine lv_aload_n (pc := 187) hx hb dX11_one_187 rfl (lv_at hl 0 rfl) ?_
      refine lv_bipush (pc := 188) (v := (41 : Int32)) hx hb dX11_one_188 (by decide) ?_
      obtain ⟨v18, M19, e17, h⟩ := ob2 h
      obtain ⟨fs20, hb21⟩ := (rX11_isHere e17)
      refine bz_callV1 (pc := 190) (As := [.int (41 : Int32)]) (rest := [.ref (pB P + x0)]) X hM hl.1 k_RX11_170 (ctX11_isHere l e17) rfl hb21 rfl rfl (rm_ok (by omega) (Nat.le_of_ble_eq_true rfl)) (Nat.le_of_ble_eq_true rfl) ⟨(Nat.le_of_ble_eq_true rfl), (Nat.le_of_ble_eq_true rfl)⟩ dX11_one_190 (fun H locs hM => ?_)
      refine lv_if_ne (pc := 193) (tgt := 200) hx hb dX11_one_193 (by decide) (fun hc => ?_) (fun hc => ?_)
      · have h := if_f hc h
        refine lv_iconst (pc := 200) (v := (0 : Int32)) hx hb dX11_one_200 (by decide) ?_
        exact wjX11_one_201 hX hq0 hp0 hq1 hp1 hq2 hp2 hq3 hp3 hq4 hp4 hq5 hp5 _ _ _ _ h H locs ls hM (lv_sub hl [0] rfl)
      · have h := if_t hc h
        refine lv_iconst (pc := 196) (v := (1 : Int32)) hx hb dX11_one_196 (by decide) ?_
        refine lv_goto (pc := 197) (tgt := 201) hx hb dX11_one_197 (by decide) ?_
        exact wjX11_one_201 hX hq0 hp0 hq1 hp1 hq2 hp2 hq3 hp3 hq4 hp4 hq5 hp5 _ _ _ _ h H locs ls hM (lv_sub hl [0] rfl)
    · have h := if_t hc h
      refine lv_aload_n (pc := 168) hx hb dX11_one_168 rfl (lv_at hl 0 rfl) ?_
      obtain ⟨M23, e22, h⟩ := ob h
      obtain ⟨fs24, hb25⟩ := (hp3 _ _ _ e22)
      refine bz_callV0 (pc := 169) (As := []) (rest := []) X hM hl.1 k_RX11_186 (hq3 _ _ _ e22) rfl hb25 rfl rfl (rm_ok (by omega) (Nat.le_of_ble_eq_true rfl)) (Nat.le_of_ble_eq_true rfl) ⟨(Nat.le_of_ble_eq_true rfl), (Nat.le_of_ble_eq_true rfl)⟩ dX11_one_169 (fun H locs hM => ?_)
      refine lv_aload_n (pc := 172) hx hb dX11_one_172 rfl (lv_at hl 0 rfl) ?_
      refine lv_sipush (pc := 173) (v := (20033 : Int32)) hx hb dX11_one_173 (by decide) ?_
      obtain ⟨M27, e26, h⟩ := ob h
      obtain ⟨fs28, hb29⟩ := (rX11_puts e26)
      refine bz_callV0 (pc := 176) (As := [.int (20033 : Int32)]) (rest := []) X hM hl.1 k_RX11_173 (ctX11_puts l e26) rfl hb29 rfl rfl (rm_ok (by omega) (Nat.le_of_ble_eq_true rfl)) (Nat.le_of_ble_eq_true rfl) ⟨(Nat.le_of_ble_eq_true rfl), (Nat.le_of_ble_eq_true rfl)⟩ dX11_one_176 (fun H locs hM => ?_)
      refine lv_goto (pc := 179) (tgt := 204) hx hb dX11_one_179 (by decide) ?_
      exact wjX11_one_204 hX hq0 hp0 hq1 hp1 hq2 hp2 hq3 hp3 hq4 hp4 hq5 hp5 _ _ h H locs ls hM (lv_sub hl [0] rfl)
set_option maxHeartbeats 4000000 in
set_option maxRecDepth 100000 in
theorem wjX11_one_74 {p : Program} {l : Launch} {e : Env} {s : State} {m : MethodId} {args : Array Value} {below : List Frame} {meth : Method} {c : Code} {P : PT} {D : Nat} {q0 : Mm → Nat → Option (Mm)} {q1 : Mm → Nat → Option (Mm)} {q2 : Mm → Nat → Option (Mm)} {q3 : Mm → Nat → Option (Mm)} {q4 : Mm → Nat → Option (Mm)} {q5 : Mm → Nat → Option (Mm)} {N : Nat}  {M9 : Mm} (hX : Cy p s m args c meth cX11_one 4 RX11 "one" none P) (hq0 : ∀ (M : Mm) (a0 : Nat) (M9 : Mm), q0 M a0 = some M9 → Ct l yX11_both cX11_both 1 none (2 + D) 0 P [.ref (pB P + a0)] M none M9) (hp0 : ∀ (M : Mm) (a0 : Nat) (r9 : Mm), q0 M a0 = some r9 → ∃ fs, M[a0]? = some (.inr (11, fs))) (hq1 : ∀ (M : Mm) (a0 : Nat) (M9 : Mm), q1 M a0 = some M9 → Ct l yX11_compared cX11_compared 2 none (2 + D) 0 P [.ref (pB P + a0)] M none M9) (hp1 : ∀ (M : Mm) (a0 : Nat) (r9 : Mm), q1 M a0 = some r9 → ∃ fs, M[a0]? = some (.inr (11, fs))) (hq2 : ∀ (M : Mm) (a0 : Nat) (M9 : Mm), q2 M a0 = some M9 → Ct l yX11_either cX11_either 1 none (2 + D) 0 P [.ref (pB P + a0)] M none M9) (hp2 : ∀ (M : Mm) (a0 : Nat) (r9 : Mm), q2 M a0 = some r9 → ∃ fs, M[a0]? = some (.inr (11, fs))) (hq3 : ∀ (M : Mm) (a0 : Nat) (M9 : Mm), q3 M a0 = some M9 → Ct l yX11_one cX11_one 4 none (2 + D) 0 P [.ref (pB P + a0)] M none M9) (hp3 : ∀ (M : Mm) (a0 : Nat) (r9 : Mm), q3 M a0 = some r9 → ∃ fs, M[a0]? = some (.inr (11, fs))) (hq4 : ∀ (M : Mm) (a0 : Nat) (M9 : Mm), q4 M a0 = some M9 → Ct l yX11_product cX11_product 2 none (2 + D) 0 P [.ref (pB P + a0)] M none M9) (hp4 : ∀ (M : Mm) (a0 : Nat) (r9 : Mm), q4 M a0 = some r9 → ∃ fs, M[a0]? = some (.inr (11, fs))) (hq5 : ∀ (M : Mm) (a0 : Nat) (M9 : Mm), q5 M a0 = some M9 → Ct l yX11_sum cX11_sum 2 none (2 + D) 0 P [.ref (pB P + a0)] M none M9) (hp5 : ∀ (M : Mm) (a0 : Nat) (r9 : Mm), q5 M a0 = some r9 → ∃ fs, M[a0]? = some (.inr (11, fs)))   (M : Mm) (x0 : Nat) (x2 : Int32)  (h : jX11_one_74 q0 q1 q2 q3 q4 q5 N M x0 x2 = some M9) : Wq p l e s m args below meth c (2 + D + 1) 0 none M9 4 P 0 74 [(0, .ref (pB P + x0)), (2, .int x2)] [] M := by
  unfold jX11_one_74 at h
  have hX0 := hX
  obtain ⟨X, hr, hlk, hnm⟩ := hX0
  have hx := X.1.1
  have hb := X.1.2.1
  intro H locs ls hM hl
  refine lv_aload_n (pc := 74) hx hb dX11_one_74 rfl (lv_at hl 0 rfl) ?_
  refine lv_iload_n (pc := 75) hx hb dX11_one_75 rfl (lv_at hl 1 rfl) ?_
  obtain ⟨M2, e1, h⟩ := ob h
  obtain ⟨fs3, hb4⟩ := (rX11_puts e1)
  refine bz_callV0 (pc := 76) (As := [.int x2]) (rest := []) X hM hl.1 k_RX11_173 (ctX11_puts l e1) rfl hb4 rfl rfl (rm_ok (by omega) (Nat.le_of_ble_eq_true rfl)) (Nat.le_of_ble_eq_true rfl) ⟨(Nat.le_of_ble_eq_true rfl), (Nat.le_of_ble_eq_true rfl)⟩ dX11_one_76 (fun H locs hM => ?_)
  refine lv_goto (pc := 79) (tgt := 222) hx hb dX11_one_79 (by decide) ?_
  obtain rfl := so1 h
  exact bz_vret (pc := 222) X hM hr hlk dX11_one_222 (Nat.le_of_ble_eq_true rfl) (Nat.le_of_ble_eq_true rfl)
set_option maxHeartbeats 4000000 in
set_option maxRecDepth 100000 in
theorem wBX11_one_23 {p : Program} {l : Launch} {e : Env} {s : State} {m : MethodId} {args : Array Value} {below : List Frame} {meth : Method} {c : Code} {P : PT} {D : Nat} {q0 : Mm → Nat → Option (Mm)} {q1 : Mm → Nat → Option (Mm)} {q2 : Mm → Nat → Option (Mm)} {q3 : Mm → Nat → Option (Mm)} {q4 : Mm → Nat → Option (Mm)} {q5 : Mm → Nat → Option (Mm)} {N : Nat} {K23 : Mm → Nat → Int32 → Int32 → Option (Mm)}  {M9 : Mm} (hX : Cy p s m args c meth cX11_one 4 RX11 "one" none P) (hq0 : ∀ (M : Mm) (a0 : Nat) (M9 : Mm), q0 M a0 = some M9 → Ct l yX11_both cX11_both 1 none (2 + D) 0 P [.ref (pB P + a0)] M none M9) (hp0 : ∀ (M : Mm) (a0 : Nat) (r9 : Mm), q0 M a0 = some r9 → ∃ fs, M[a0]? = some (.inr (11, fs))) (hq1 : ∀ (M : Mm) (a0 : Nat) (M9 : Mm), q1 M a0 = some M9 → Ct l yX11_compared cX11_compared 2 none (2 + D) 0 P [.ref (pB P + a0)] M none M9) (hp1 : ∀ (M : Mm) (a0 : Nat) (r9 : Mm), q1 M a0 = some r9 → ∃ fs, M[a0]? = some (.inr (11, fs))) (hq2 : ∀ (M : Mm) (a0 : Nat) (M9 : Mm), q2 M a0 = some M9 → Ct l yX11_either cX11_either 1 none (2 + D) 0 P [.ref (pB P + a0)] M none M9) (hp2 : ∀ (M : Mm) (a0 : Nat) (r9 : Mm), q2 M a0 = some r9 → ∃ fs, M[a0]? = some (.inr (11, fs))) (hq3 : ∀ (M : Mm) (a0 : Nat) (M9 : Mm), q3 M a0 = some M9 → Ct l yX11_one cX11_one 4 none (2 + D) 0 P [.ref (pB P + a0)] M none M9) (hp3 : ∀ (M : Mm) (a0 : Nat) (r9 : Mm), q3 M a0 = some r9 → ∃ fs, M[a0]? = some (.inr (11, fs))) (hq4 : ∀ (M : Mm) (a0 : Nat) (M9 : Mm), q4 M a0 = some M9 → Ct l yX11_product cX11_product 2 none (2 + D) 0 P [.ref (pB P + a0)] M none M9) (hp4 : ∀ (M : Mm) (a0 : Nat) (r9 : Mm), q4 M a0 = some r9 → ∃ fs, M[a0]? = some (.inr (11, fs))) (hq5 : ∀ (M : Mm) (a0 : Nat) (M9 : Mm), q5 M a0 = some M9 → Ct l yX11_sum cX11_sum 2 none (2 + D) 0 P [.ref (pB P + a0)] M none M9) (hp5 : ∀ (M : Mm) (a0 : Nat) (r9 : Mm), q5 M a0 = some r9 → ∃ fs, M[a0]? = some (.inr (11, fs)))  (hK23 : ∀ (M : Mm) (x0 : Nat) (x2 : Int32) (x3 : Int32), K23 M x0 x2 x3 = some M9 → Wq p l e s m args below meth c (2 + D + 1) 0 none M9 4 P 0 23 [(0, .ref (pB P + x0)), (2, .int x2), (3, .int x3)] [] M) (M : Mm) (x0 : Nat) (x2 : Int32) (x3 : Int32)  (h : BX11_one_23 q0 q1 q2 q3 q4 q5 N K23 M x0 x2 x3 = some M9) : Wq p l e s m args below meth c (2 + D + 1) 0 none M9 4 P 0 23 [(0, .ref (pB P + x0)), (2, .int x2), (3, .int x3)] [] M := by
  unfold BX11_one_23 at h
  have hX0 := hX
  obtain ⟨X, hr, hlk, hnm⟩ := hX0
  have hx := X.1.1
  have hb := X.1.2.1
  intro H locs ls hM hl
  refine lv_iload_n (pc := 23) hx hb dX11_one_23 rfl (lv_at hl 2 rfl) ?_
  refine lv_iconst (pc := 24) (v := (4 : Int32)) hx hb dX11_one_24 (by decide) ?_
  refine lv_icmp_ge (pc := 25) (tgt := 74) hx hb dX11_one_25 (by decide) (fun hc => ?_) (fun hc => ?_)
  · have h := if_t hc h
    exact wjX11_one_74 hX hq0 hp0 hq1 hp1 hq2 hp2 hq3 hp3 hq4 hp4 hq5 hp5 _ _ _ h H locs ls hM (lv_sub hl [0, 1] rfl)
  · have h := if_f hc h
    refine lv_aload_n (pc := 28) hx hb dX11_one_28 rfl (lv_at hl 0 rfl) ?_
    obtain ⟨v2, e1, h⟩ := ob h
    obtain ⟨fs3, hb4⟩ := (rX11_here e1)
    refine bz_callV1 (pc := 29) (As := []) (rest := []) X hM hl.1 k_RX11_160 (ctX11_here l e1) rfl hb4 rfl rfl (rm_ok (by omega) (Nat.le_of_ble_eq_true rfl)) (Nat.le_of_ble_eq_true rfl) ⟨(Nat.le_of_ble_eq_true rfl), (Nat.le_of_ble_eq_true rfl)⟩ dX11_one_29 (fun H locs hM => ?_)
    refine lv_i2l (pc := 32) (v := ((v2).toInt64)) hx hb dX11_one_32 rfl ?_
    refine lv_ldc2 (pc := 33) (v := (48 : Int64)) hx hb X.1.2.2.2.1 (X.1.2.2.2.2 _ g_1431) dX11_one_33 ?_
    refine lv_ldc2 (pc := 36) (v := (57 : Int64)) hx hb X.1.2.2.2.1 (X.1.2.2.2.2 _ g_1432) dX11_one_36 ?_
    obtain ⟨v6, e5, h⟩ := ob h
    refine bz_callS1 (pc := 39) (As := [.long ((v2).toInt64), .long (48 : Int64), .long (57 : Int64)]) (rest := []) X hM hl.1 k_RX11_57 (ctX11_in l e5) rfl rfl (rm_ok (by omega) (Nat.le_of_ble_eq_true rfl)) (Nat.le_of_ble_eq_true rfl) ⟨(Nat.le_of_ble_eq_true rfl), (Nat.le_of_ble_eq_true rfl)⟩ dX11_one_39 (fun H locs hM => ?_)
    refine lv_if_eq (pc := 42) (tgt := 74) hx hb dX11_one_42 (by decide) (fun hc => ?_) (fun hc => ?_)
    · have h := if_t hc h
      exact wjX11_one_74 hX hq0 hp0 hq1 hp1 hq2 hp2 hq3 hp3 hq4 hp4 hq5 hp5 _ _ _ h H locs ls hM (lv_sub hl [0, 1] rfl)
    · have h := if_f hc h
      refine lv_bipush (pc := 45) (v := (10 : Int32)) hx hb dX11_one_45 (by decide) ?_
      refine lv_iload_n (pc := 47) hx hb dX11_one_47 rfl (lv_at hl 1 rfl) ?_
      refine lv_imul (pc := 48) hx hb dX11_one_48 ?_
      refine lv_aload_n (pc := 49) hx hb dX11_one_49 rfl (lv_at hl 0 rfl) ?_
      obtain ⟨v8, e7, h⟩ := ob h
      obtain ⟨fs9, hb10⟩ := (rX11_here e7)
      refine bz_callV1 (pc := 50) (As := []) (rest := [.int ((10 : Int32) * x2)]) X hM hl.1 k_RX11_160 (ctX11_here l e7) rfl hb10 rfl rfl (rm_ok (by omega) (Nat.le_of_ble_eq_true rfl)) (Nat.le_of_ble_eq_true rfl) ⟨(Nat.le_of_ble_eq_true rfl), (Nat.le_of_ble_eq_true rfl)⟩ dX11_one_50 (fun H locs hM => ?_)
      refine lv_iadd (pc := 53) hx hb dX11_one_53 ?_
      refine lv_bipush (pc := 54) (v := (48 : Int32)) hx hb dX11_one_54 (by decide) ?_
      refine lv_isub (pc := 56) hx hb dX11_one_56 ?_
      refine lv_istore_n (pc := 57) (lv' := [(2, .int ((((10 : Int32) * x2) + v8) - (48 : Int32))), (0, .ref (pB P + x0)), (3, .int x3)]) hx hb dX11_one_57 rfl hl (by decide) rfl (fun ls hl => ?_)
      refine lv_aload_n (pc := 58) hx hb dX11_one_58 rfl (lv_at hl 1 rfl) ?_
      refine lv_dup (pc := 59) hx hb dX11_one_59 rfl ?_
      obtain ⟨v11, e12, h⟩ := ob h
      refine bz_getI (pc := 60) X hM fl_RX11_156 e12 dX11_one_60 ?_
      refine lv_iconst (pc := 63) (v := (1 : Int32)) hx hb dX11_one_63 (by decide) ?_
      refine lv_iadd (pc := 64) hx hb dX11_one_64 ?_
      obtain ⟨M13, e14, h⟩ := ob h
      refine bz_putI (pc := 65) X hM fp_RX11_156 (Or.inl rfl) e14 dX11_one_65 (fun H locs hM => ?_)
      refine lv_iinc (pc := 68) (v := (x3 + (1 : Int32))) (lv' := [(3, .int (x3 + (1 : Int32))), (2, .int ((((10 : Int32) * x2) + v8) - (48 : Int32))), (0, .ref (pB P + x0))]) hx hb dX11_one_68 hl (k := 2) rfl rfl (by decide) rfl (fun ls hl => ?_)
      refine lv_goto (pc := 71) (tgt := 23) hx hb dX11_one_71 (by decide) ?_
      exact hK23 _ _ _ _ h H locs ls hM (lv_sub hl [2, 1, 0] rfl)
set_option maxHeartbeats 4000000 in
set_option maxRecDepth 100000 in
theorem wLX11_one_23 {p : Program} {l : Launch} {e : Env} {s : State} {m : MethodId} {args : Array Value} {below : List Frame} {meth : Method} {c : Code} {P : PT} {D : Nat} {q0 : Mm → Nat → Option (Mm)} {q1 : Mm → Nat → Option (Mm)} {q2 : Mm → Nat → Option (Mm)} {q3 : Mm → Nat → Option (Mm)} {q4 : Mm → Nat → Option (Mm)} {q5 : Mm → Nat → Option (Mm)} {N : Nat}  {M9 : Mm} (hX : Cy p s m args c meth cX11_one 4 RX11 "one" none P) (hq0 : ∀ (M : Mm) (a0 : Nat) (M9 : Mm), q0 M a0 = some M9 → Ct l yX11_both cX11_both 1 none (2 + D) 0 P [.ref (pB P + a0)] M none M9) (hp0 : ∀ (M : Mm) (a0 : Nat) (r9 : Mm), q0 M a0 = some r9 → ∃ fs, M[a0]? = some (.inr (11, fs))) (hq1 : ∀ (M : Mm) (a0 : Nat) (M9 : Mm), q1 M a0 = some M9 → Ct l yX11_compared cX11_compared 2 none (2 + D) 0 P [.ref (pB P + a0)] M none M9) (hp1 : ∀ (M : Mm) (a0 : Nat) (r9 : Mm), q1 M a0 = some r9 → ∃ fs, M[a0]? = some (.inr (11, fs))) (hq2 : ∀ (M : Mm) (a0 : Nat) (M9 : Mm), q2 M a0 = some M9 → Ct l yX11_either cX11_either 1 none (2 + D) 0 P [.ref (pB P + a0)] M none M9) (hp2 : ∀ (M : Mm) (a0 : Nat) (r9 : Mm), q2 M a0 = some r9 → ∃ fs, M[a0]? = some (.inr (11, fs))) (hq3 : ∀ (M : Mm) (a0 : Nat) (M9 : Mm), q3 M a0 = some M9 → Ct l yX11_one cX11_one 4 none (2 + D) 0 P [.ref (pB P + a0)] M none M9) (hp3 : ∀ (M : Mm) (a0 : Nat) (r9 : Mm), q3 M a0 = some r9 → ∃ fs, M[a0]? = some (.inr (11, fs))) (hq4 : ∀ (M : Mm) (a0 : Nat) (M9 : Mm), q4 M a0 = some M9 → Ct l yX11_product cX11_product 2 none (2 + D) 0 P [.ref (pB P + a0)] M none M9) (hp4 : ∀ (M : Mm) (a0 : Nat) (r9 : Mm), q4 M a0 = some r9 → ∃ fs, M[a0]? = some (.inr (11, fs))) (hq5 : ∀ (M : Mm) (a0 : Nat) (M9 : Mm), q5 M a0 = some M9 → Ct l yX11_sum cX11_sum 2 none (2 + D) 0 P [.ref (pB P + a0)] M none M9) (hp5 : ∀ (M : Mm) (a0 : Nat) (r9 : Mm), q5 M a0 = some r9 → ∃ fs, M[a0]? = some (.inr (11, fs)))   : ∀ (n : Nat) (M : Mm) (x0 : Nat) (x2 : Int32) (x3 : Int32) , LX11_one_23 q0 q1 q2 q3 q4 q5 N n M x0 x2 x3 = some M9 → Wq p l e s m args below meth c (2 + D + 1) 0 none M9 4 P 0 23 [(0, .ref (pB P + x0)), (2, .int x2), (3, .int x3)] [] M := by
  intro n
  induction n with
  | zero => intro M x0 x2 x3 h; cases h
  | succ n ih => intro M x0 x2 x3 h; exact wBX11_one_23 hX hq0 hp0 hq1 hp1 hq2 hp2 hq3 hp3 hq4 hp4 hq5 hp5 ih M x0 x2 x3 h
set_option maxHeartbeats 4000000 in
set_option maxRecDepth 100000 in
theorem wX11_one {p : Program} {l : Launch} {e : Env} {s : State} {m : MethodId} {args : Array Value} {below : List Frame} {meth : Method} {c : Code} {P : PT} {D : Nat} {q0 : Mm → Nat → Option (Mm)} {q1 : Mm → Nat → Option (Mm)} {q2 : Mm → Nat → Option (Mm)} {q3 : Mm → Nat → Option (Mm)} {q4 : Mm → Nat → Option (Mm)} {q5 : Mm → Nat → Option (Mm)} {N : Nat}  {M9 : Mm} (hX : Cy p s m args c meth cX11_one 4 RX11 "one" none P) (hq0 : ∀ (M : Mm) (a0 : Nat) (M9 : Mm), q0 M a0 = some M9 → Ct l yX11_both cX11_both 1 none (2 + D) 0 P [.ref (pB P + a0)] M none M9) (hp0 : ∀ (M : Mm) (a0 : Nat) (r9 : Mm), q0 M a0 = some r9 → ∃ fs, M[a0]? = some (.inr (11, fs))) (hq1 : ∀ (M : Mm) (a0 : Nat) (M9 : Mm), q1 M a0 = some M9 → Ct l yX11_compared cX11_compared 2 none (2 + D) 0 P [.ref (pB P + a0)] M none M9) (hp1 : ∀ (M : Mm) (a0 : Nat) (r9 : Mm), q1 M a0 = some r9 → ∃ fs, M[a0]? = some (.inr (11, fs))) (hq2 : ∀ (M : Mm) (a0 : Nat) (M9 : Mm), q2 M a0 = some M9 → Ct l yX11_either cX11_either 1 none (2 + D) 0 P [.ref (pB P + a0)] M none M9) (hp2 : ∀ (M : Mm) (a0 : Nat) (r9 : Mm), q2 M a0 = some r9 → ∃ fs, M[a0]? = some (.inr (11, fs))) (hq3 : ∀ (M : Mm) (a0 : Nat) (M9 : Mm), q3 M a0 = some M9 → Ct l yX11_one cX11_one 4 none (2 + D) 0 P [.ref (pB P + a0)] M none M9) (hp3 : ∀ (M : Mm) (a0 : Nat) (r9 : Mm), q3 M a0 = some r9 → ∃ fs, M[a0]? = some (.inr (11, fs))) (hq4 : ∀ (M : Mm) (a0 : Nat) (M9 : Mm), q4 M a0 = some M9 → Ct l yX11_product cX11_product 2 none (2 + D) 0 P [.ref (pB P + a0)] M none M9) (hp4 : ∀ (M : Mm) (a0 : Nat) (r9 : Mm), q4 M a0 = some r9 → ∃ fs, M[a0]? = some (.inr (11, fs))) (hq5 : ∀ (M : Mm) (a0 : Nat) (M9 : Mm), q5 M a0 = some M9 → Ct l yX11_sum cX11_sum 2 none (2 + D) 0 P [.ref (pB P + a0)] M none M9) (hp5 : ∀ (M : Mm) (a0 : Nat) (r9 : Mm), q5 M a0 = some r9 → ∃ fs, M[a0]? = some (.inr (11, fs)))  (M : Mm) (a0 : Nat) (h : FX11_one q0 q1 q2 q3 q4 q5 N M a0 = some M9) : Wq p l e s m args below meth c (2 + D + 1) 0 none M9 4 P 0 0 [(0, .ref (pB P + a0))] [] M := by
  unfold FX11_one at h
  obtain ⟨_, _, h⟩ := ob h
  have hX0 := hX
  obtain ⟨X, hr, hlk, hnm⟩ := hX0
  have hx := X.1.1
  have hb := X.1.2.1
  intro H locs ls hM hl
  refine lv_aload_n (pc := 0) hx hb dX11_one_0 rfl (lv_at hl 0 rfl) ?_
  obtain ⟨v2, e1, h⟩ := ob h
  obtain ⟨fs3, hb4⟩ := (rX11_here e1)
  refine bz_callV1 (pc := 1) (As := []) (rest := []) X hM hl.1 k_RX11_160 (ctX11_here l e1) rfl hb4 rfl rfl (rm_ok (by omega) (Nat.le_of_ble_eq_true rfl)) (Nat.le_of_ble_eq_true rfl) ⟨(Nat.le_of_ble_eq_true rfl), (Nat.le_of_ble_eq_true rfl)⟩ dX11_one_1 (fun H locs hM => ?_)
  refine lv_istore_n (pc := 4) (lv' := [(1, .int v2), (0, .ref (pB P + a0))]) hx hb dX11_one_4 rfl hl (by decide) rfl (fun ls hl => ?_)
  refine lv_iload_n (pc := 5) hx hb dX11_one_5 rfl (lv_at hl 0 rfl) ?_
  refine lv_i2l (pc := 6) (v := ((v2).toInt64)) hx hb dX11_one_6 rfl ?_
  refine lv_ldc2 (pc := 7) (v := (48 : Int64)) hx hb X.1.2.2.2.1 (X.1.2.2.2.2 _ g_1431) dX11_one_7 ?_
  refine lv_ldc2 (pc := 10) (v := (57 : Int64)) hx hb X.1.2.2.2.1 (X.1.2.2.2.2 _ g_1432) dX11_one_10 ?_
  obtain ⟨v6, e5, h⟩ := ob h
  refine bz_callS1 (pc := 13) (As := [.long ((v2).toInt64), .long (48 : Int64), .long (57 : Int64)]) (rest := []) X hM hl.1 k_RX11_57 (ctX11_in l e5) rfl rfl (rm_ok (by omega) (Nat.le_of_ble_eq_true rfl)) (Nat.le_of_ble_eq_true rfl) ⟨(Nat.le_of_ble_eq_true rfl), (Nat.le_of_ble_eq_true rfl)⟩ dX11_one_13 (fun H locs hM => ?_)
  refine lv_if_eq (pc := 16) (tgt := 82) hx hb dX11_one_16 (by decide) (fun hc => ?_) (fun hc => ?_)
  · have h := if_t hc h
    refine lv_aload_n (pc := 82) hx hb dX11_one_82 rfl (lv_at hl 1 rfl) ?_
    obtain ⟨v7, e8, h⟩ := ob h
    refine bz_getI (pc := 83) X hM fl_RX11_193 e8 dX11_one_83 ?_
    refine lv_iload_n (pc := 86) hx hb dX11_one_86 rfl (lv_at hl 0 rfl) ?_
    obtain ⟨v10, e9, h⟩ := ob h
    refine bz_callS1 (pc := 87) (As := [.int v7, .int v2]) (rest := []) X hM hl.1 k_RX11_196 (ctX11_nameOf l e9) rfl rfl (rm_ok (by omega) (Nat.le_of_ble_eq_true rfl)) (Nat.le_of_ble_eq_true rfl) ⟨(Nat.le_of_ble_eq_true rfl), (Nat.le_of_ble_eq_true rfl)⟩ dX11_one_87 (fun H locs hM => ?_)
    refine lv_if_lt (pc := 90) (tgt := 122) hx hb dX11_one_90 (by decide) (fun hc => ?_) (fun hc => ?_)
    · have h := if_t hc h
      refine lv_iload_n (pc := 122) hx hb dX11_one_122 rfl (lv_at hl 0 rfl) ?_
      refine lv_bipush (pc := 123) (v := (33 : Int32)) hx hb dX11_one_123 (by decide) ?_
      refine lv_icmp_eq (pc := 125) (tgt := 134) hx hb dX11_one_125 (by decide) (fun hc => ?_) (fun hc => ?_)
      · have h := if_t hc h
        exact wjX11_one_134 hX hq0 hp0 hq1 hp1 hq2 hp2 hq3 hp3 hq4 hp4 hq5 hp5 _ _ _ h H locs ls hM (lv_sub hl [1, 0] rfl)
      · have h := if_f hc h
        refine lv_iload_n (pc := 128) hx hb dX11_one_128 rfl (lv_at hl 0 rfl) ?_
        refine lv_bipush (pc := 129) (v := (40 : Int32)) hx hb dX11_one_129 (by decide) ?_
        refine lv_icmp_ne (pc := 131) (tgt := 217) hx hb dX11_one_131 (by decide) (fun hc => ?_) (fun hc => ?_)
        · have h := if_f hc h
          refine lv_aload_n (pc := 217) hx hb dX11_one_217 rfl (lv_at hl 1 rfl) ?_
          refine lv_iconst (pc := 218) (v := (1 : Int32)) hx hb dX11_one_218 (by decide) ?_
          obtain ⟨M11, e12, h⟩ := ob h
          refine bz_putZ (pc := 219) X hM fp_RX11_152 (Or.inl rfl) (by decide) e12 dX11_one_219 (fun H locs hM => ?_)
          obtain rfl := so1 h
          exact bz_vret (pc := 222) X hM hr hlk dX11_one_222 (Nat.le_of_ble_eq_true rfl) (Nat.le_of_ble_eq_true rfl)
        · have h := if_t hc h
          exact wjX11_one_134 hX hq0 hp0 hq1 hp1 hq2 hp2 hq3 hp3 hq4 hp4 hq5 hp5 _ _ _ h H locs ls hM (lv_sub hl [1, 0] rfl)
    · have h := if_f hc h
      refine lv_aload_n (pc := 93) hx hb dX11_one_93 rfl (lv_at hl 1 rfl) ?_
      refine lv_dup (pc := 94) hx hb dX11_one_94 rfl ?_
      obtain ⟨v13, e14, h⟩ := ob h
      refine bz_getI (pc := 95) X hM fl_RX11_156 e14 dX11_one_95 ?_
      refine lv_iconst (pc := 98) (v := (1 : Int32)) hx hb dX11_one_98 (by decide) ?_
      refine lv_iadd (pc := 99) hx hb dX11_one_99 ?_
      obtain ⟨M15, e16, h⟩ := ob h
      refine bz_putI (pc := 100) X hM fp_RX11_156 (Or.inl rfl) e16 dX11_one_100 (fun H locs hM => ?_)
      refine lv_aload_n (pc := 103) hx hb dX11_one_103 rfl (lv_at hl 1 rfl) ?_
      refine lv_sipush (pc := 104) (v := (10000 : Int32)) hx hb dX11_one_104 (by decide) ?_
      refine lv_aload_n (pc := 107) hx hb dX11_one_107 rfl (lv_at hl 1 rfl) ?_
      obtain ⟨v17, e18, h⟩ := ob h
      refine bz_getI (pc := 108) X hM fl_RX11_193 e18 dX11_one_108 ?_
      refine lv_iload_n (pc := 111) hx hb dX11_one_111 rfl (lv_at hl 0 rfl) ?_
      obtain ⟨v20, e19, h⟩ := ob h
      refine bz_callS1 (pc := 112) (As := [.int v17, .int v2]) (rest := [.int (10000 : Int32), .ref (pB P + a0)]) X hM hl.1 k_RX11_196 (ctX11_nameOf l e19) rfl rfl (rm_ok (by omega) (Nat.le_of_ble_eq_true rfl)) (Nat.le_of_ble_eq_true rfl) ⟨(Nat.le_of_ble_eq_true rfl), (Nat.le_of_ble_eq_true rfl)⟩ dX11_one_112 (fun H locs hM => ?_)
      refine lv_iadd (pc := 115) hx hb dX11_one_115 ?_
      obtain ⟨M22, e21, h⟩ := ob h
      obtain ⟨fs23, hb24⟩ := (rX11_puts e21)
      refine bz_callV0 (pc := 116) (As := [.int ((10000 : Int32) + v20)]) (rest := []) X hM hl.1 k_RX11_173 (ctX11_puts l e21) rfl hb24 rfl rfl (rm_ok (by omega) (Nat.le_of_ble_eq_true rfl)) (Nat.le_of_ble_eq_true rfl) ⟨(Nat.le_of_ble_eq_true rfl), (Nat.le_of_ble_eq_true rfl)⟩ dX11_one_116 (fun H locs hM => ?_)
      refine lv_goto (pc := 119) (tgt := 222) hx hb dX11_one_119 (by decide) ?_
      obtain rfl := so1 h
      exact bz_vret (pc := 222) X hM hr hlk dX11_one_222 (Nat.le_of_ble_eq_true rfl) (Nat.le_of_ble_eq_true rfl)
  · have h := if_f hc h
    refine lv_iconst (pc := 19) (v := (0 : Int32)) hx hb dX11_one_19 (by decide) ?_
    refine lv_istore_n (pc := 20) (lv' := [(2, .int (0 : Int32)), (1, .int v2), (0, .ref (pB P + a0))]) hx hb dX11_one_20 rfl hl (by decide) rfl (fun ls hl => ?_)
    refine lv_iconst (pc := 21) (v := (0 : Int32)) hx hb dX11_one_21 (by decide) ?_
    refine lv_istore_n (pc := 22) (lv' := [(3, .int (0 : Int32)), (2, .int (0 : Int32)), (1, .int v2), (0, .ref (pB P + a0))]) hx hb dX11_one_22 rfl hl (by decide) rfl (fun ls hl => ?_)
    exact wLX11_one_23 hX hq0 hp0 hq1 hp1 hq2 hp2 hq3 hp3 hq4 hp4 hq5 hp5 _ _ _ _ _ h H locs ls hM (lv_sub hl [3, 1, 0] rfl)
theorem rF_X11_one {q0 : Mm → Nat → Option (Mm)} {q1 : Mm → Nat → Option (Mm)} {q2 : Mm → Nat → Option (Mm)} {q3 : Mm → Nat → Option (Mm)} {q4 : Mm → Nat → Option (Mm)} {q5 : Mm → Nat → Option (Mm)} {N : Nat} {M : Mm} {a0 : Nat} {r9 : Mm} (h : FX11_one q0 q1 q2 q3 q4 q5 N M a0 = some r9) : ∃ fs, M[a0]? = some (.inr (11, fs)) := by
  unfold FX11_one at h
  obtain ⟨_, e1, _⟩ := ob h
  exact gC_spec e1
set_option maxHeartbeats 4000000 in
set_option maxRecDepth 100000 in
theorem wjX11_product_27 {p : Program} {l : Launch} {e : Env} {s : State} {m : MethodId} {args : Array Value} {below : List Frame} {meth : Method} {c : Code} {P : PT} {D : Nat} {q0 : Mm → Nat → Option (Mm)} {q1 : Mm → Nat → Option (Mm)} {q2 : Mm → Nat → Option (Mm)} {q3 : Mm → Nat → Option (Mm)} {q4 : Mm → Nat → Option (Mm)} {q5 : Mm → Nat → Option (Mm)} {N : Nat} {K9 : Mm → Nat → Int32 → Option (Mm)}  {M9 : Mm} (hX : Cy p s m args c meth cX11_product 2 RX11 "product" none P) (hq0 : ∀ (M : Mm) (a0 : Nat) (M9 : Mm), q0 M a0 = some M9 → Ct l yX11_both cX11_both 1 none (2 + D) 0 P [.ref (pB P + a0)] M none M9) (hp0 : ∀ (M : Mm) (a0 : Nat) (r9 : Mm), q0 M a0 = some r9 → ∃ fs, M[a0]? = some (.inr (11, fs))) (hq1 : ∀ (M : Mm) (a0 : Nat) (M9 : Mm), q1 M a0 = some M9 → Ct l yX11_compared cX11_compared 2 none (2 + D) 0 P [.ref (pB P + a0)] M none M9) (hp1 : ∀ (M : Mm) (a0 : Nat) (r9 : Mm), q1 M a0 = some r9 → ∃ fs, M[a0]? = some (.inr (11, fs))) (hq2 : ∀ (M : Mm) (a0 : Nat) (M9 : Mm), q2 M a0 = some M9 → Ct l yX11_either cX11_either 1 none (2 + D) 0 P [.ref (pB P + a0)] M none M9) (hp2 : ∀ (M : Mm) (a0 : Nat) (r9 : Mm), q2 M a0 = some r9 → ∃ fs, M[a0]? = some (.inr (11, fs))) (hq3 : ∀ (M : Mm) (a0 : Nat) (M9 : Mm), q3 M a0 = some M9 → Ct l yX11_one cX11_one 4 none (2 + D) 0 P [.ref (pB P + a0)] M none M9) (hp3 : ∀ (M : Mm) (a0 : Nat) (r9 : Mm), q3 M a0 = some r9 → ∃ fs, M[a0]? = some (.inr (11, fs))) (hq4 : ∀ (M : Mm) (a0 : Nat) (M9 : Mm), q4 M a0 = some M9 → Ct l yX11_product cX11_product 2 none (2 + D) 0 P [.ref (pB P + a0)] M none M9) (hp4 : ∀ (M : Mm) (a0 : Nat) (r9 : Mm), q4 M a0 = some r9 → ∃ fs, M[a0]? = some (.inr (11, fs))) (hq5 : ∀ (M : Mm) (a0 : Nat) (M9 : Mm), q5 M a0 = some M9 → Ct l yX11_sum cX11_sum 2 none (2 + D) 0 P [.ref (pB P + a0)] M none M9) (hp5 : ∀ (M : Mm) (a0 : Nat) (r9 : Mm), q5 M a0 = some r9 → ∃ fs, M[a0]? = some (.inr (11, fs)))  (hK9 : ∀ (M : Mm) (x0 : Nat) (x1 : Int32), K9 M x0 x1 = some M9 → Wq p l e s m args below meth c (2 + D + 1) 0 none M9 2 P 0 9 [(0, .ref (pB P + x0)), (1, .int x1)] [] M) (M : Mm) (x0 : Nat) (x1 : Int32)  (h : jX11_product_27 q0 q1 q2 q3 q4 q5 N K9 M x0 x1 = some M9) : Wq p l e s m args below meth c (2 + D + 1) 0 none M9 2 P 0 27 [(0, .ref (pB P + x0)), (1, .int x1)] [] M := by
  unfold jX11_product_27 at h
  have hX0 := hX
  obtain ⟨X, hr, hlk, hnm⟩ := hX0
  have hx := X.1.1
  have hb := X.1.2.1
  intro H locs ls hM hl
  refine lv_aload_n (pc := 27) hx hb dX11_product_27 rfl (lv_at hl 0 rfl) ?_
  refine lv_dup (pc := 28) hx hb dX11_product_28 rfl ?_
  obtain ⟨v1, e2, h⟩ := ob h
  refine bz_getI (pc := 29) X hM fl_RX11_156 e2 dX11_product_29 ?_
  refine lv_iconst (pc := 32) (v := (1 : Int32)) hx hb dX11_product_32 (by decide) ?_
  refine lv_iadd (pc := 33) hx hb dX11_product_33 ?_
  obtain ⟨M3, e4, h⟩ := ob h
  refine bz_putI (pc := 34) X hM fp_RX11_156 (Or.inl rfl) e4 dX11_product_34 (fun H locs hM => ?_)
  refine lv_aload_n (pc := 37) hx hb dX11_product_37 rfl (lv_at hl 0 rfl) ?_
  obtain ⟨M6, e5, h⟩ := ob h
  obtain ⟨fs7, hb8⟩ := (hp3 _ _ _ e5)
  refine bz_callV0 (pc := 38) (As := []) (rest := []) X hM hl.1 k_RX11_186 (hq3 _ _ _ e5) rfl hb8 rfl rfl (rm_ok (by omega) (Nat.le_of_ble_eq_true rfl)) (Nat.le_of_ble_eq_true rfl) ⟨(Nat.le_of_ble_eq_true rfl), (Nat.le_of_ble_eq_true rfl)⟩ dX11_product_38 (fun H locs hM => ?_)
  refine lv_aload_n (pc := 41) hx hb dX11_product_41 rfl (lv_at hl 0 rfl) ?_
  refine lv_sipush (pc := 42) (v := (20000 : Int32)) hx hb dX11_product_42 (by decide) ?_
  refine lv_iload_n (pc := 45) hx hb dX11_product_45 rfl (lv_at hl 1 rfl) ?_
  refine lv_iadd (pc := 46) hx hb dX11_product_46 ?_
  obtain ⟨M10, e9, h⟩ := ob h
  obtain ⟨fs11, hb12⟩ := (rX11_puts e9)
  refine bz_callV0 (pc := 47) (As := [.int ((20000 : Int32) + x1)]) (rest := []) X hM hl.1 k_RX11_173 (ctX11_puts l e9) rfl hb12 rfl rfl (rm_ok (by omega) (Nat.le_of_ble_eq_true rfl)) (Nat.le_of_ble_eq_true rfl) ⟨(Nat.le_of_ble_eq_true rfl), (Nat.le_of_ble_eq_true rfl)⟩ dX11_product_47 (fun H locs hM => ?_)
  refine lv_aload_n (pc := 50) hx hb dX11_product_50 rfl (lv_at hl 0 rfl) ?_
  obtain ⟨v14, e13, h⟩ := ob h
  obtain ⟨fs15, hb16⟩ := (rX11_here e13)
  refine bz_callV1 (pc := 51) (As := []) (rest := []) X hM hl.1 k_RX11_160 (ctX11_here l e13) rfl hb16 rfl rfl (rm_ok (by omega) (Nat.le_of_ble_eq_true rfl)) (Nat.le_of_ble_eq_true rfl) ⟨(Nat.le_of_ble_eq_true rfl), (Nat.le_of_ble_eq_true rfl)⟩ dX11_product_51 (fun H locs hM => ?_)
  refine lv_istore_n (pc := 54) (lv' := [(1, .int v14), (0, .ref (pB P + x0))]) hx hb dX11_product_54 rfl hl (by decide) rfl (fun ls hl => ?_)
  refine lv_goto (pc := 55) (tgt := 9) hx hb dX11_product_55 (by decide) ?_
  exact hK9 _ _ _ h H locs ls hM (lv_sub hl [1, 0] rfl)
set_option maxHeartbeats 4000000 in
set_option maxRecDepth 100000 in
theorem wBX11_product_9 {p : Program} {l : Launch} {e : Env} {s : State} {m : MethodId} {args : Array Value} {below : List Frame} {meth : Method} {c : Code} {P : PT} {D : Nat} {q0 : Mm → Nat → Option (Mm)} {q1 : Mm → Nat → Option (Mm)} {q2 : Mm → Nat → Option (Mm)} {q3 : Mm → Nat → Option (Mm)} {q4 : Mm → Nat → Option (Mm)} {q5 : Mm → Nat → Option (Mm)} {N : Nat} {K9 : Mm → Nat → Int32 → Option (Mm)}  {M9 : Mm} (hX : Cy p s m args c meth cX11_product 2 RX11 "product" none P) (hq0 : ∀ (M : Mm) (a0 : Nat) (M9 : Mm), q0 M a0 = some M9 → Ct l yX11_both cX11_both 1 none (2 + D) 0 P [.ref (pB P + a0)] M none M9) (hp0 : ∀ (M : Mm) (a0 : Nat) (r9 : Mm), q0 M a0 = some r9 → ∃ fs, M[a0]? = some (.inr (11, fs))) (hq1 : ∀ (M : Mm) (a0 : Nat) (M9 : Mm), q1 M a0 = some M9 → Ct l yX11_compared cX11_compared 2 none (2 + D) 0 P [.ref (pB P + a0)] M none M9) (hp1 : ∀ (M : Mm) (a0 : Nat) (r9 : Mm), q1 M a0 = some r9 → ∃ fs, M[a0]? = some (.inr (11, fs))) (hq2 : ∀ (M : Mm) (a0 : Nat) (M9 : Mm), q2 M a0 = some M9 → Ct l yX11_either cX11_either 1 none (2 + D) 0 P [.ref (pB P + a0)] M none M9) (hp2 : ∀ (M : Mm) (a0 : Nat) (r9 : Mm), q2 M a0 = some r9 → ∃ fs, M[a0]? = some (.inr (11, fs))) (hq3 : ∀ (M : Mm) (a0 : Nat) (M9 : Mm), q3 M a0 = some M9 → Ct l yX11_one cX11_one 4 none (2 + D) 0 P [.ref (pB P + a0)] M none M9) (hp3 : ∀ (M : Mm) (a0 : Nat) (r9 : Mm), q3 M a0 = some r9 → ∃ fs, M[a0]? = some (.inr (11, fs))) (hq4 : ∀ (M : Mm) (a0 : Nat) (M9 : Mm), q4 M a0 = some M9 → Ct l yX11_product cX11_product 2 none (2 + D) 0 P [.ref (pB P + a0)] M none M9) (hp4 : ∀ (M : Mm) (a0 : Nat) (r9 : Mm), q4 M a0 = some r9 → ∃ fs, M[a0]? = some (.inr (11, fs))) (hq5 : ∀ (M : Mm) (a0 : Nat) (M9 : Mm), q5 M a0 = some M9 → Ct l yX11_sum cX11_sum 2 none (2 + D) 0 P [.ref (pB P + a0)] M none M9) (hp5 : ∀ (M : Mm) (a0 : Nat) (r9 : Mm), q5 M a0 = some r9 → ∃ fs, M[a0]? = some (.inr (11, fs)))  (hK9 : ∀ (M : Mm) (x0 : Nat) (x1 : Int32), K9 M x0 x1 = some M9 → Wq p l e s m args below meth c (2 + D + 1) 0 none M9 2 P 0 9 [(0, .ref (pB P + x0)), (1, .int x1)] [] M) (M : Mm) (x0 : Nat) (x1 : Int32)  (h : BX11_product_9 q0 q1 q2 q3 q4 q5 N K9 M x0 x1 = some M9) : Wq p l e s m args below meth c (2 + D + 1) 0 none M9 2 P 0 9 [(0, .ref (pB P + x0)), (1, .int x1)] [] M := by
  unfold BX11_product_9 at h
  have hX0 := hX
  obtain ⟨X, hr, hlk, hnm⟩ := hX0
  have hx := X.1.1
  have hb := X.1.2.1
  intro H locs ls hM hl
  refine lv_iload_n (pc := 9) hx hb dX11_product_9 rfl (lv_at hl 1 rfl) ?_
  refine lv_bipush (pc := 10) (v := (42 : Int32)) hx hb dX11_product_10 (by decide) ?_
  refine lv_icmp_eq (pc := 12) (tgt := 27) hx hb dX11_product_12 (by decide) (fun hc => ?_) (fun hc => ?_)
  · have h := if_t hc h
    exact wjX11_product_27 hX hq0 hp0 hq1 hp1 hq2 hp2 hq3 hp3 hq4 hp4 hq5 hp5 hK9 _ _ _ h H locs ls hM (lv_sub hl [0, 1] rfl)
  · have h := if_f hc h
    refine lv_iload_n (pc := 15) hx hb dX11_product_15 rfl (lv_at hl 1 rfl) ?_
    refine lv_bipush (pc := 16) (v := (47 : Int32)) hx hb dX11_product_16 (by decide) ?_
    refine lv_icmp_eq (pc := 18) (tgt := 27) hx hb dX11_product_18 (by decide) (fun hc => ?_) (fun hc => ?_)
    · have h := if_t hc h
      exact wjX11_product_27 hX hq0 hp0 hq1 hp1 hq2 hp2 hq3 hp3 hq4 hp4 hq5 hp5 hK9 _ _ _ h H locs ls hM (lv_sub hl [0, 1] rfl)
    · have h := if_f hc h
      refine lv_iload_n (pc := 21) hx hb dX11_product_21 rfl (lv_at hl 1 rfl) ?_
      refine lv_bipush (pc := 22) (v := (37 : Int32)) hx hb dX11_product_22 (by decide) ?_
      refine lv_icmp_ne (pc := 24) (tgt := 58) hx hb dX11_product_24 (by decide) (fun hc => ?_) (fun hc => ?_)
      · have h := if_f hc h
        obtain rfl := so1 h
        exact bz_vret (pc := 58) X hM hr hlk dX11_product_58 (Nat.le_of_ble_eq_true rfl) (Nat.le_of_ble_eq_true rfl)
      · have h := if_t hc h
        exact wjX11_product_27 hX hq0 hp0 hq1 hp1 hq2 hp2 hq3 hp3 hq4 hp4 hq5 hp5 hK9 _ _ _ h H locs ls hM (lv_sub hl [0, 1] rfl)
set_option maxHeartbeats 4000000 in
set_option maxRecDepth 100000 in
theorem wLX11_product_9 {p : Program} {l : Launch} {e : Env} {s : State} {m : MethodId} {args : Array Value} {below : List Frame} {meth : Method} {c : Code} {P : PT} {D : Nat} {q0 : Mm → Nat → Option (Mm)} {q1 : Mm → Nat → Option (Mm)} {q2 : Mm → Nat → Option (Mm)} {q3 : Mm → Nat → Option (Mm)} {q4 : Mm → Nat → Option (Mm)} {q5 : Mm → Nat → Option (Mm)} {N : Nat}  {M9 : Mm} (hX : Cy p s m args c meth cX11_product 2 RX11 "product" none P) (hq0 : ∀ (M : Mm) (a0 : Nat) (M9 : Mm), q0 M a0 = some M9 → Ct l yX11_both cX11_both 1 none (2 + D) 0 P [.ref (pB P + a0)] M none M9) (hp0 : ∀ (M : Mm) (a0 : Nat) (r9 : Mm), q0 M a0 = some r9 → ∃ fs, M[a0]? = some (.inr (11, fs))) (hq1 : ∀ (M : Mm) (a0 : Nat) (M9 : Mm), q1 M a0 = some M9 → Ct l yX11_compared cX11_compared 2 none (2 + D) 0 P [.ref (pB P + a0)] M none M9) (hp1 : ∀ (M : Mm) (a0 : Nat) (r9 : Mm), q1 M a0 = some r9 → ∃ fs, M[a0]? = some (.inr (11, fs))) (hq2 : ∀ (M : Mm) (a0 : Nat) (M9 : Mm), q2 M a0 = some M9 → Ct l yX11_either cX11_either 1 none (2 + D) 0 P [.ref (pB P + a0)] M none M9) (hp2 : ∀ (M : Mm) (a0 : Nat) (r9 : Mm), q2 M a0 = some r9 → ∃ fs, M[a0]? = some (.inr (11, fs))) (hq3 : ∀ (M : Mm) (a0 : Nat) (M9 : Mm), q3 M a0 = some M9 → Ct l yX11_one cX11_one 4 none (2 + D) 0 P [.ref (pB P + a0)] M none M9) (hp3 : ∀ (M : Mm) (a0 : Nat) (r9 : Mm), q3 M a0 = some r9 → ∃ fs, M[a0]? = some (.inr (11, fs))) (hq4 : ∀ (M : Mm) (a0 : Nat) (M9 : Mm), q4 M a0 = some M9 → Ct l yX11_product cX11_product 2 none (2 + D) 0 P [.ref (pB P + a0)] M none M9) (hp4 : ∀ (M : Mm) (a0 : Nat) (r9 : Mm), q4 M a0 = some r9 → ∃ fs, M[a0]? = some (.inr (11, fs))) (hq5 : ∀ (M : Mm) (a0 : Nat) (M9 : Mm), q5 M a0 = some M9 → Ct l yX11_sum cX11_sum 2 none (2 + D) 0 P [.ref (pB P + a0)] M none M9) (hp5 : ∀ (M : Mm) (a0 : Nat) (r9 : Mm), q5 M a0 = some r9 → ∃ fs, M[a0]? = some (.inr (11, fs)))   : ∀ (n : Nat) (M : Mm) (x0 : Nat) (x1 : Int32) , LX11_product_9 q0 q1 q2 q3 q4 q5 N n M x0 x1 = some M9 → Wq p l e s m args below meth c (2 + D + 1) 0 none M9 2 P 0 9 [(0, .ref (pB P + x0)), (1, .int x1)] [] M := by
  intro n
  induction n with
  | zero => intro M x0 x1 h; cases h
  | succ n ih => intro M x0 x1 h; exact wBX11_product_9 hX hq0 hp0 hq1 hp1 hq2 hp2 hq3 hp3 hq4 hp4 hq5 hp5 ih M x0 x1 h
set_option maxHeartbeats 4000000 in
set_option maxRecDepth 100000 in
theorem wX11_product {p : Program} {l : Launch} {e : Env} {s : State} {m : MethodId} {args : Array Value} {below : List Frame} {meth : Method} {c : Code} {P : PT} {D : Nat} {q0 : Mm → Nat → Option (Mm)} {q1 : Mm → Nat → Option (Mm)} {q2 : Mm → Nat → Option (Mm)} {q3 : Mm → Nat → Option (Mm)} {q4 : Mm → Nat → Option (Mm)} {q5 : Mm → Nat → Option (Mm)} {N : Nat}  {M9 : Mm} (hX : Cy p s m args c meth cX11_product 2 RX11 "product" none P) (hq0 : ∀ (M : Mm) (a0 : Nat) (M9 : Mm), q0 M a0 = some M9 → Ct l yX11_both cX11_both 1 none (2 + D) 0 P [.ref (pB P + a0)] M none M9) (hp0 : ∀ (M : Mm) (a0 : Nat) (r9 : Mm), q0 M a0 = some r9 → ∃ fs, M[a0]? = some (.inr (11, fs))) (hq1 : ∀ (M : Mm) (a0 : Nat) (M9 : Mm), q1 M a0 = some M9 → Ct l yX11_compared cX11_compared 2 none (2 + D) 0 P [.ref (pB P + a0)] M none M9) (hp1 : ∀ (M : Mm) (a0 : Nat) (r9 : Mm), q1 M a0 = some r9 → ∃ fs, M[a0]? = some (.inr (11, fs))) (hq2 : ∀ (M : Mm) (a0 : Nat) (M9 : Mm), q2 M a0 = some M9 → Ct l yX11_either cX11_either 1 none (2 + D) 0 P [.ref (pB P + a0)] M none M9) (hp2 : ∀ (M : Mm) (a0 : Nat) (r9 : Mm), q2 M a0 = some r9 → ∃ fs, M[a0]? = some (.inr (11, fs))) (hq3 : ∀ (M : Mm) (a0 : Nat) (M9 : Mm), q3 M a0 = some M9 → Ct l yX11_one cX11_one 4 none (2 + D) 0 P [.ref (pB P + a0)] M none M9) (hp3 : ∀ (M : Mm) (a0 : Nat) (r9 : Mm), q3 M a0 = some r9 → ∃ fs, M[a0]? = some (.inr (11, fs))) (hq4 : ∀ (M : Mm) (a0 : Nat) (M9 : Mm), q4 M a0 = some M9 → Ct l yX11_product cX11_product 2 none (2 + D) 0 P [.ref (pB P + a0)] M none M9) (hp4 : ∀ (M : Mm) (a0 : Nat) (r9 : Mm), q4 M a0 = some r9 → ∃ fs, M[a0]? = some (.inr (11, fs))) (hq5 : ∀ (M : Mm) (a0 : Nat) (M9 : Mm), q5 M a0 = some M9 → Ct l yX11_sum cX11_sum 2 none (2 + D) 0 P [.ref (pB P + a0)] M none M9) (hp5 : ∀ (M : Mm) (a0 : Nat) (r9 : Mm), q5 M a0 = some r9 → ∃ fs, M[a0]? = some (.inr (11, fs)))  (M : Mm) (a0 : Nat) (h : FX11_product q0 q1 q2 q3 q4 q5 N M a0 = some M9) : Wq p l e s m args below meth c (2 + D + 1) 0 none M9 2 P 0 0 [(0, .ref (pB P + a0))] [] M := by
  unfold FX11_product at h
  obtain ⟨_, _, h⟩ := ob h
  have hX0 := hX
  obtain ⟨X, hr, hlk, hnm⟩ := hX0
  have hx := X.1.1
  have hb := X.1.2.1
  intro H locs ls hM hl
  refine lv_aload_n (pc := 0) hx hb dX11_product_0 rfl (lv_at hl 0 rfl) ?_
  obtain ⟨M2, e1, h⟩ := ob h
  obtain ⟨fs3, hb4⟩ := (hp3 _ _ _ e1)
  refine bz_callV0 (pc := 1) (As := []) (rest := []) X hM hl.1 k_RX11_186 (hq3 _ _ _ e1) rfl hb4 rfl rfl (rm_ok (by omega) (Nat.le_of_ble_eq_true rfl)) (Nat.le_of_ble_eq_true rfl) ⟨(Nat.le_of_ble_eq_true rfl), (Nat.le_of_ble_eq_true rfl)⟩ dX11_product_1 (fun H locs hM => ?_)
  refine lv_aload_n (pc := 4) hx hb dX11_product_4 rfl (lv_at hl 0 rfl) ?_
  obtain ⟨v6, e5, h⟩ := ob h
  obtain ⟨fs7, hb8⟩ := (rX11_here e5)
  refine bz_callV1 (pc := 5) (As := []) (rest := []) X hM hl.1 k_RX11_160 (ctX11_here l e5) rfl hb8 rfl rfl (rm_ok (by omega) (Nat.le_of_ble_eq_true rfl)) (Nat.le_of_ble_eq_true rfl) ⟨(Nat.le_of_ble_eq_true rfl), (Nat.le_of_ble_eq_true rfl)⟩ dX11_product_5 (fun H locs hM => ?_)
  refine lv_istore_n (pc := 8) (lv' := [(1, .int v6), (0, .ref (pB P + a0))]) hx hb dX11_product_8 rfl hl (by decide) rfl (fun ls hl => ?_)
  exact wLX11_product_9 hX hq0 hp0 hq1 hp1 hq2 hp2 hq3 hp3 hq4 hp4 hq5 hp5 _ _ _ _ h H locs ls hM (lv_sub hl [1, 0] rfl)
theorem rF_X11_product {q0 : Mm → Nat → Option (Mm)} {q1 : Mm → Nat → Option (Mm)} {q2 : Mm → Nat → Option (Mm)} {q3 : Mm → Nat → Option (Mm)} {q4 : Mm → Nat → Option (Mm)} {q5 : Mm → Nat → Option (Mm)} {N : Nat} {M : Mm} {a0 : Nat} {r9 : Mm} (h : FX11_product q0 q1 q2 q3 q4 q5 N M a0 = some r9) : ∃ fs, M[a0]? = some (.inr (11, fs)) := by
  unfold FX11_product at h
  obtain ⟨_, e1, _⟩ := ob h
  exact gC_spec e1
set_option maxHeartbeats 4000000 in
set_option maxRecDepth 100000 in
theorem wjX11_sum_21 {p : Program} {l : Launch} {e : Env} {s : State} {m : MethodId} {args : Array Value} {below : List Frame} {meth : Method} {c : Code} {P : PT} {D : Nat} {q0 : Mm → Nat → Option (Mm)} {q1 : Mm → Nat → Option (Mm)} {q2 : Mm → Nat → Option (Mm)} {q3 : Mm → Nat → Option (Mm)} {q4 : Mm → Nat → Option (Mm)} {q5 : Mm → Nat → Option (Mm)} {N : Nat} {K9 : Mm → Nat → Int32 → Option (Mm)}  {M9 : Mm} (hX : Cy p s m args c meth cX11_sum 2 RX11 "sum" none P) (hq0 : ∀ (M : Mm) (a0 : Nat) (M9 : Mm), q0 M a0 = some M9 → Ct l yX11_both cX11_both 1 none (2 + D) 0 P [.ref (pB P + a0)] M none M9) (hp0 : ∀ (M : Mm) (a0 : Nat) (r9 : Mm), q0 M a0 = some r9 → ∃ fs, M[a0]? = some (.inr (11, fs))) (hq1 : ∀ (M : Mm) (a0 : Nat) (M9 : Mm), q1 M a0 = some M9 → Ct l yX11_compared cX11_compared 2 none (2 + D) 0 P [.ref (pB P + a0)] M none M9) (hp1 : ∀ (M : Mm) (a0 : Nat) (r9 : Mm), q1 M a0 = some r9 → ∃ fs, M[a0]? = some (.inr (11, fs))) (hq2 : ∀ (M : Mm) (a0 : Nat) (M9 : Mm), q2 M a0 = some M9 → Ct l yX11_either cX11_either 1 none (2 + D) 0 P [.ref (pB P + a0)] M none M9) (hp2 : ∀ (M : Mm) (a0 : Nat) (r9 : Mm), q2 M a0 = some r9 → ∃ fs, M[a0]? = some (.inr (11, fs))) (hq3 : ∀ (M : Mm) (a0 : Nat) (M9 : Mm), q3 M a0 = some M9 → Ct l yX11_one cX11_one 4 none (2 + D) 0 P [.ref (pB P + a0)] M none M9) (hp3 : ∀ (M : Mm) (a0 : Nat) (r9 : Mm), q3 M a0 = some r9 → ∃ fs, M[a0]? = some (.inr (11, fs))) (hq4 : ∀ (M : Mm) (a0 : Nat) (M9 : Mm), q4 M a0 = some M9 → Ct l yX11_product cX11_product 2 none (2 + D) 0 P [.ref (pB P + a0)] M none M9) (hp4 : ∀ (M : Mm) (a0 : Nat) (r9 : Mm), q4 M a0 = some r9 → ∃ fs, M[a0]? = some (.inr (11, fs))) (hq5 : ∀ (M : Mm) (a0 : Nat) (M9 : Mm), q5 M a0 = some M9 → Ct l yX11_sum cX11_sum 2 none (2 + D) 0 P [.ref (pB P + a0)] M none M9) (hp5 : ∀ (M : Mm) (a0 : Nat) (r9 : Mm), q5 M a0 = some r9 → ∃ fs, M[a0]? = some (.inr (11, fs)))  (hK9 : ∀ (M : Mm) (x0 : Nat) (x1 : Int32), K9 M x0 x1 = some M9 → Wq p l e s m args below meth c (2 + D + 1) 0 none M9 2 P 0 9 [(0, .ref (pB P + x0)), (1, .int x1)] [] M) (M : Mm) (x0 : Nat) (x1 : Int32)  (h : jX11_sum_21 q0 q1 q2 q3 q4 q5 N K9 M x0 x1 = some M9) : Wq p l e s m args below meth c (2 + D + 1) 0 none M9 2 P 0 21 [(0, .ref (pB P + x0)), (1, .int x1)] [] M := by
  unfold jX11_sum_21 at h
  have hX0 := hX
  obtain ⟨X, hr, hlk, hnm⟩ := hX0
  have hx := X.1.1
  have hb := X.1.2.1
  intro H locs ls hM hl
  refine lv_aload_n (pc := 21) hx hb dX11_sum_21 rfl (lv_at hl 0 rfl) ?_
  refine lv_dup (pc := 22) hx hb dX11_sum_22 rfl ?_
  obtain ⟨v1, e2, h⟩ := ob h
  refine bz_getI (pc := 23) X hM fl_RX11_156 e2 dX11_sum_23 ?_
  refine lv_iconst (pc := 26) (v := (1 : Int32)) hx hb dX11_sum_26 (by decide) ?_
  refine lv_iadd (pc := 27) hx hb dX11_sum_27 ?_
  obtain ⟨M3, e4, h⟩ := ob h
  refine bz_putI (pc := 28) X hM fp_RX11_156 (Or.inl rfl) e4 dX11_sum_28 (fun H locs hM => ?_)
  refine lv_aload_n (pc := 31) hx hb dX11_sum_31 rfl (lv_at hl 0 rfl) ?_
  obtain ⟨M6, e5, h⟩ := ob h
  obtain ⟨fs7, hb8⟩ := (hp4 _ _ _ e5)
  refine bz_callV0 (pc := 32) (As := []) (rest := []) X hM hl.1 k_RX11_183 (hq4 _ _ _ e5) rfl hb8 rfl rfl (rm_ok (by omega) (Nat.le_of_ble_eq_true rfl)) (Nat.le_of_ble_eq_true rfl) ⟨(Nat.le_of_ble_eq_true rfl), (Nat.le_of_ble_eq_true rfl)⟩ dX11_sum_32 (fun H locs hM => ?_)
  refine lv_aload_n (pc := 35) hx hb dX11_sum_35 rfl (lv_at hl 0 rfl) ?_
  refine lv_sipush (pc := 36) (v := (20000 : Int32)) hx hb dX11_sum_36 (by decide) ?_
  refine lv_iload_n (pc := 39) hx hb dX11_sum_39 rfl (lv_at hl 1 rfl) ?_
  refine lv_iadd (pc := 40) hx hb dX11_sum_40 ?_
  obtain ⟨M10, e9, h⟩ := ob h
  obtain ⟨fs11, hb12⟩ := (rX11_puts e9)
  refine bz_callV0 (pc := 41) (As := [.int ((20000 : Int32) + x1)]) (rest := []) X hM hl.1 k_RX11_173 (ctX11_puts l e9) rfl hb12 rfl rfl (rm_ok (by omega) (Nat.le_of_ble_eq_true rfl)) (Nat.le_of_ble_eq_true rfl) ⟨(Nat.le_of_ble_eq_true rfl), (Nat.le_of_ble_eq_true rfl)⟩ dX11_sum_41 (fun H locs hM => ?_)
  refine lv_aload_n (pc := 44) hx hb dX11_sum_44 rfl (lv_at hl 0 rfl) ?_
  obtain ⟨v14, e13, h⟩ := ob h
  obtain ⟨fs15, hb16⟩ := (rX11_here e13)
  refine bz_callV1 (pc := 45) (As := []) (rest := []) X hM hl.1 k_RX11_160 (ctX11_here l e13) rfl hb16 rfl rfl (rm_ok (by omega) (Nat.le_of_ble_eq_true rfl)) (Nat.le_of_ble_eq_true rfl) ⟨(Nat.le_of_ble_eq_true rfl), (Nat.le_of_ble_eq_true rfl)⟩ dX11_sum_45 (fun H locs hM => ?_)
  refine lv_istore_n (pc := 48) (lv' := [(1, .int v14), (0, .ref (pB P + x0))]) hx hb dX11_sum_48 rfl hl (by decide) rfl (fun ls hl => ?_)
  refine lv_goto (pc := 49) (tgt := 9) hx hb dX11_sum_49 (by decide) ?_
  exact hK9 _ _ _ h H locs ls hM (lv_sub hl [1, 0] rfl)
set_option maxHeartbeats 4000000 in
set_option maxRecDepth 100000 in
theorem wBX11_sum_9 {p : Program} {l : Launch} {e : Env} {s : State} {m : MethodId} {args : Array Value} {below : List Frame} {meth : Method} {c : Code} {P : PT} {D : Nat} {q0 : Mm → Nat → Option (Mm)} {q1 : Mm → Nat → Option (Mm)} {q2 : Mm → Nat → Option (Mm)} {q3 : Mm → Nat → Option (Mm)} {q4 : Mm → Nat → Option (Mm)} {q5 : Mm → Nat → Option (Mm)} {N : Nat} {K9 : Mm → Nat → Int32 → Option (Mm)}  {M9 : Mm} (hX : Cy p s m args c meth cX11_sum 2 RX11 "sum" none P) (hq0 : ∀ (M : Mm) (a0 : Nat) (M9 : Mm), q0 M a0 = some M9 → Ct l yX11_both cX11_both 1 none (2 + D) 0 P [.ref (pB P + a0)] M none M9) (hp0 : ∀ (M : Mm) (a0 : Nat) (r9 : Mm), q0 M a0 = some r9 → ∃ fs, M[a0]? = some (.inr (11, fs))) (hq1 : ∀ (M : Mm) (a0 : Nat) (M9 : Mm), q1 M a0 = some M9 → Ct l yX11_compared cX11_compared 2 none (2 + D) 0 P [.ref (pB P + a0)] M none M9) (hp1 : ∀ (M : Mm) (a0 : Nat) (r9 : Mm), q1 M a0 = some r9 → ∃ fs, M[a0]? = some (.inr (11, fs))) (hq2 : ∀ (M : Mm) (a0 : Nat) (M9 : Mm), q2 M a0 = some M9 → Ct l yX11_either cX11_either 1 none (2 + D) 0 P [.ref (pB P + a0)] M none M9) (hp2 : ∀ (M : Mm) (a0 : Nat) (r9 : Mm), q2 M a0 = some r9 → ∃ fs, M[a0]? = some (.inr (11, fs))) (hq3 : ∀ (M : Mm) (a0 : Nat) (M9 : Mm), q3 M a0 = some M9 → Ct l yX11_one cX11_one 4 none (2 + D) 0 P [.ref (pB P + a0)] M none M9) (hp3 : ∀ (M : Mm) (a0 : Nat) (r9 : Mm), q3 M a0 = some r9 → ∃ fs, M[a0]? = some (.inr (11, fs))) (hq4 : ∀ (M : Mm) (a0 : Nat) (M9 : Mm), q4 M a0 = some M9 → Ct l yX11_product cX11_product 2 none (2 + D) 0 P [.ref (pB P + a0)] M none M9) (hp4 : ∀ (M : Mm) (a0 : Nat) (r9 : Mm), q4 M a0 = some r9 → ∃ fs, M[a0]? = some (.inr (11, fs))) (hq5 : ∀ (M : Mm) (a0 : Nat) (M9 : Mm), q5 M a0 = some M9 → Ct l yX11_sum cX11_sum 2 none (2 + D) 0 P [.ref (pB P + a0)] M none M9) (hp5 : ∀ (M : Mm) (a0 : Nat) (r9 : Mm), q5 M a0 = some r9 → ∃ fs, M[a0]? = some (.inr (11, fs)))  (hK9 : ∀ (M : Mm) (x0 : Nat) (x1 : Int32), K9 M x0 x1 = some M9 → Wq p l e s m args below meth c (2 + D + 1) 0 none M9 2 P 0 9 [(0, .ref (pB P + x0)), (1, .int x1)] [] M) (M : Mm) (x0 : Nat) (x1 : Int32)  (h : BX11_sum_9 q0 q1 q2 q3 q4 q5 N K9 M x0 x1 = some M9) : Wq p l e s m args below meth c (2 + D + 1) 0 none M9 2 P 0 9 [(0, .ref (pB P + x0)), (1, .int x1)] [] M := by
  unfold BX11_sum_9 at h
  have hX0 := hX
  obtain ⟨X, hr, hlk, hnm⟩ := hX0
  have hx := X.1.1
  have hb := X.1.2.1
  intro H locs ls hM hl
  refine lv_iload_n (pc := 9) hx hb dX11_sum_9 rfl (lv_at hl 1 rfl) ?_
  refine lv_bipush (pc := 10) (v := (43 : Int32)) hx hb dX11_sum_10 (by decide) ?_
  refine lv_icmp_eq (pc := 12) (tgt := 21) hx hb dX11_sum_12 (by decide) (fun hc => ?_) (fun hc => ?_)
  · have h := if_t hc h
    exact wjX11_sum_21 hX hq0 hp0 hq1 hp1 hq2 hp2 hq3 hp3 hq4 hp4 hq5 hp5 hK9 _ _ _ h H locs ls hM (lv_sub hl [0, 1] rfl)
  · have h := if_f hc h
    refine lv_iload_n (pc := 15) hx hb dX11_sum_15 rfl (lv_at hl 1 rfl) ?_
    refine lv_bipush (pc := 16) (v := (45 : Int32)) hx hb dX11_sum_16 (by decide) ?_
    refine lv_icmp_ne (pc := 18) (tgt := 52) hx hb dX11_sum_18 (by decide) (fun hc => ?_) (fun hc => ?_)
    · have h := if_f hc h
      obtain rfl := so1 h
      exact bz_vret (pc := 52) X hM hr hlk dX11_sum_52 (Nat.le_of_ble_eq_true rfl) (Nat.le_of_ble_eq_true rfl)
    · have h := if_t hc h
      exact wjX11_sum_21 hX hq0 hp0 hq1 hp1 hq2 hp2 hq3 hp3 hq4 hp4 hq5 hp5 hK9 _ _ _ h H locs ls hM (lv_sub hl [0, 1] rfl)
set_option maxHeartbeats 4000000 in
set_option maxRecDepth 100000 in
theorem wLX11_sum_9 {p : Program} {l : Launch} {e : Env} {s : State} {m : MethodId} {args : Array Value} {below : List Frame} {meth : Method} {c : Code} {P : PT} {D : Nat} {q0 : Mm → Nat → Option (Mm)} {q1 : Mm → Nat → Option (Mm)} {q2 : Mm → Nat → Option (Mm)} {q3 : Mm → Nat → Option (Mm)} {q4 : Mm → Nat → Option (Mm)} {q5 : Mm → Nat → Option (Mm)} {N : Nat}  {M9 : Mm} (hX : Cy p s m args c meth cX11_sum 2 RX11 "sum" none P) (hq0 : ∀ (M : Mm) (a0 : Nat) (M9 : Mm), q0 M a0 = some M9 → Ct l yX11_both cX11_both 1 none (2 + D) 0 P [.ref (pB P + a0)] M none M9) (hp0 : ∀ (M : Mm) (a0 : Nat) (r9 : Mm), q0 M a0 = some r9 → ∃ fs, M[a0]? = some (.inr (11, fs))) (hq1 : ∀ (M : Mm) (a0 : Nat) (M9 : Mm), q1 M a0 = some M9 → Ct l yX11_compared cX11_compared 2 none (2 + D) 0 P [.ref (pB P + a0)] M none M9) (hp1 : ∀ (M : Mm) (a0 : Nat) (r9 : Mm), q1 M a0 = some r9 → ∃ fs, M[a0]? = some (.inr (11, fs))) (hq2 : ∀ (M : Mm) (a0 : Nat) (M9 : Mm), q2 M a0 = some M9 → Ct l yX11_either cX11_either 1 none (2 + D) 0 P [.ref (pB P + a0)] M none M9) (hp2 : ∀ (M : Mm) (a0 : Nat) (r9 : Mm), q2 M a0 = some r9 → ∃ fs, M[a0]? = some (.inr (11, fs))) (hq3 : ∀ (M : Mm) (a0 : Nat) (M9 : Mm), q3 M a0 = some M9 → Ct l yX11_one cX11_one 4 none (2 + D) 0 P [.ref (pB P + a0)] M none M9) (hp3 : ∀ (M : Mm) (a0 : Nat) (r9 : Mm), q3 M a0 = some r9 → ∃ fs, M[a0]? = some (.inr (11, fs))) (hq4 : ∀ (M : Mm) (a0 : Nat) (M9 : Mm), q4 M a0 = some M9 → Ct l yX11_product cX11_product 2 none (2 + D) 0 P [.ref (pB P + a0)] M none M9) (hp4 : ∀ (M : Mm) (a0 : Nat) (r9 : Mm), q4 M a0 = some r9 → ∃ fs, M[a0]? = some (.inr (11, fs))) (hq5 : ∀ (M : Mm) (a0 : Nat) (M9 : Mm), q5 M a0 = some M9 → Ct l yX11_sum cX11_sum 2 none (2 + D) 0 P [.ref (pB P + a0)] M none M9) (hp5 : ∀ (M : Mm) (a0 : Nat) (r9 : Mm), q5 M a0 = some r9 → ∃ fs, M[a0]? = some (.inr (11, fs)))   : ∀ (n : Nat) (M : Mm) (x0 : Nat) (x1 : Int32) , LX11_sum_9 q0 q1 q2 q3 q4 q5 N n M x0 x1 = some M9 → Wq p l e s m args below meth c (2 + D + 1) 0 none M9 2 P 0 9 [(0, .ref (pB P + x0)), (1, .int x1)] [] M := by
  intro n
  induction n with
  | zero => intro M x0 x1 h; cases h
  | succ n ih => intro M x0 x1 h; exact wBX11_sum_9 hX hq0 hp0 hq1 hp1 hq2 hp2 hq3 hp3 hq4 hp4 hq5 hp5 ih M x0 x1 h
set_option maxHeartbeats 4000000 in
set_option maxRecDepth 100000 in
theorem wX11_sum {p : Program} {l : Launch} {e : Env} {s : State} {m : MethodId} {args : Array Value} {below : List Frame} {meth : Method} {c : Code} {P : PT} {D : Nat} {q0 : Mm → Nat → Option (Mm)} {q1 : Mm → Nat → Option (Mm)} {q2 : Mm → Nat → Option (Mm)} {q3 : Mm → Nat → Option (Mm)} {q4 : Mm → Nat → Option (Mm)} {q5 : Mm → Nat → Option (Mm)} {N : Nat}  {M9 : Mm} (hX : Cy p s m args c meth cX11_sum 2 RX11 "sum" none P) (hq0 : ∀ (M : Mm) (a0 : Nat) (M9 : Mm), q0 M a0 = some M9 → Ct l yX11_both cX11_both 1 none (2 + D) 0 P [.ref (pB P + a0)] M none M9) (hp0 : ∀ (M : Mm) (a0 : Nat) (r9 : Mm), q0 M a0 = some r9 → ∃ fs, M[a0]? = some (.inr (11, fs))) (hq1 : ∀ (M : Mm) (a0 : Nat) (M9 : Mm), q1 M a0 = some M9 → Ct l yX11_compared cX11_compared 2 none (2 + D) 0 P [.ref (pB P + a0)] M none M9) (hp1 : ∀ (M : Mm) (a0 : Nat) (r9 : Mm), q1 M a0 = some r9 → ∃ fs, M[a0]? = some (.inr (11, fs))) (hq2 : ∀ (M : Mm) (a0 : Nat) (M9 : Mm), q2 M a0 = some M9 → Ct l yX11_either cX11_either 1 none (2 + D) 0 P [.ref (pB P + a0)] M none M9) (hp2 : ∀ (M : Mm) (a0 : Nat) (r9 : Mm), q2 M a0 = some r9 → ∃ fs, M[a0]? = some (.inr (11, fs))) (hq3 : ∀ (M : Mm) (a0 : Nat) (M9 : Mm), q3 M a0 = some M9 → Ct l yX11_one cX11_one 4 none (2 + D) 0 P [.ref (pB P + a0)] M none M9) (hp3 : ∀ (M : Mm) (a0 : Nat) (r9 : Mm), q3 M a0 = some r9 → ∃ fs, M[a0]? = some (.inr (11, fs))) (hq4 : ∀ (M : Mm) (a0 : Nat) (M9 : Mm), q4 M a0 = some M9 → Ct l yX11_product cX11_product 2 none (2 + D) 0 P [.ref (pB P + a0)] M none M9) (hp4 : ∀ (M : Mm) (a0 : Nat) (r9 : Mm), q4 M a0 = some r9 → ∃ fs, M[a0]? = some (.inr (11, fs))) (hq5 : ∀ (M : Mm) (a0 : Nat) (M9 : Mm), q5 M a0 = some M9 → Ct l yX11_sum cX11_sum 2 none (2 + D) 0 P [.ref (pB P + a0)] M none M9) (hp5 : ∀ (M : Mm) (a0 : Nat) (r9 : Mm), q5 M a0 = some r9 → ∃ fs, M[a0]? = some (.inr (11, fs)))  (M : Mm) (a0 : Nat) (h : FX11_sum q0 q1 q2 q3 q4 q5 N M a0 = some M9) : Wq p l e s m args below meth c (2 + D + 1) 0 none M9 2 P 0 0 [(0, .ref (pB P + a0))] [] M := by
  unfold FX11_sum at h
  obtain ⟨_, _, h⟩ := ob h
  have hX0 := hX
  obtain ⟨X, hr, hlk, hnm⟩ := hX0
  have hx := X.1.1
  have hb := X.1.2.1
  intro H locs ls hM hl
  refine lv_aload_n (pc := 0) hx hb dX11_sum_0 rfl (lv_at hl 0 rfl) ?_
  obtain ⟨M2, e1, h⟩ := ob h
  obtain ⟨fs3, hb4⟩ := (hp4 _ _ _ e1)
  refine bz_callV0 (pc := 1) (As := []) (rest := []) X hM hl.1 k_RX11_183 (hq4 _ _ _ e1) rfl hb4 rfl rfl (rm_ok (by omega) (Nat.le_of_ble_eq_true rfl)) (Nat.le_of_ble_eq_true rfl) ⟨(Nat.le_of_ble_eq_true rfl), (Nat.le_of_ble_eq_true rfl)⟩ dX11_sum_1 (fun H locs hM => ?_)
  refine lv_aload_n (pc := 4) hx hb dX11_sum_4 rfl (lv_at hl 0 rfl) ?_
  obtain ⟨v6, e5, h⟩ := ob h
  obtain ⟨fs7, hb8⟩ := (rX11_here e5)
  refine bz_callV1 (pc := 5) (As := []) (rest := []) X hM hl.1 k_RX11_160 (ctX11_here l e5) rfl hb8 rfl rfl (rm_ok (by omega) (Nat.le_of_ble_eq_true rfl)) (Nat.le_of_ble_eq_true rfl) ⟨(Nat.le_of_ble_eq_true rfl), (Nat.le_of_ble_eq_true rfl)⟩ dX11_sum_5 (fun H locs hM => ?_)
  refine lv_istore_n (pc := 8) (lv' := [(1, .int v6), (0, .ref (pB P + a0))]) hx hb dX11_sum_8 rfl hl (by decide) rfl (fun ls hl => ?_)
  exact wLX11_sum_9 hX hq0 hp0 hq1 hp1 hq2 hp2 hq3 hp3 hq4 hp4 hq5 hp5 _ _ _ _ h H locs ls hM (lv_sub hl [1, 0] rfl)
theorem rF_X11_sum {q0 : Mm → Nat → Option (Mm)} {q1 : Mm → Nat → Option (Mm)} {q2 : Mm → Nat → Option (Mm)} {q3 : Mm → Nat → Option (Mm)} {q4 : Mm → Nat → Option (Mm)} {q5 : Mm → Nat → Option (Mm)} {N : Nat} {M : Mm} {a0 : Nat} {r9 : Mm} (h : FX11_sum q0 q1 q2 q3 q4 q5 N M a0 = some r9) : ∃ fs, M[a0]? = some (.inr (11, fs)) := by
  unfold FX11_sum at h
  obtain ⟨_, e1, _⟩ := ob h
  exact gC_spec e1
set_option maxHeartbeats 4000000 in
set_option maxRecDepth 100000 in
theorem rGX11_both (N : Nat) : ∀ n : Nat, (∀ (M : Mm) (a0 : Nat) (r9 : Mm), (GX11_both N n).1 M a0 = some r9 → ∃ fs, M[a0]? = some (.inr (11, fs))) ∧
    (∀ (M : Mm) (a0 : Nat) (r9 : Mm), (GX11_both N n).2.1 M a0 = some r9 → ∃ fs, M[a0]? = some (.inr (11, fs))) ∧
    (∀ (M : Mm) (a0 : Nat) (r9 : Mm), (GX11_both N n).2.2.1 M a0 = some r9 → ∃ fs, M[a0]? = some (.inr (11, fs))) ∧
    (∀ (M : Mm) (a0 : Nat) (r9 : Mm), (GX11_both N n).2.2.2.1 M a0 = some r9 → ∃ fs, M[a0]? = some (.inr (11, fs))) ∧
    (∀ (M : Mm) (a0 : Nat) (r9 : Mm), (GX11_both N n).2.2.2.2.1 M a0 = some r9 → ∃ fs, M[a0]? = some (.inr (11, fs))) ∧
    (∀ (M : Mm) (a0 : Nat) (r9 : Mm), (GX11_both N n).2.2.2.2.2 M a0 = some r9 → ∃ fs, M[a0]? = some (.inr (11, fs))) := by
  intro n
  cases n with
  | zero => exact ⟨(fun _ _ _ h => nomatch h), (fun _ _ _ h => nomatch h), (fun _ _ _ h => nomatch h), (fun _ _ _ h => nomatch h), (fun _ _ _ h => nomatch h), (fun _ _ _ h => nomatch h)⟩
  | succ n => exact ⟨(fun _ _ _ h => rF_X11_both (N := N) (q0 := (GX11_both N n).1) (q1 := (GX11_both N n).2.1) (q2 := (GX11_both N n).2.2.1) (q3 := (GX11_both N n).2.2.2.1) (q4 := (GX11_both N n).2.2.2.2.1) (q5 := (GX11_both N n).2.2.2.2.2) h), (fun _ _ _ h => rF_X11_compared (N := N) (q0 := (GX11_both N n).1) (q1 := (GX11_both N n).2.1) (q2 := (GX11_both N n).2.2.1) (q3 := (GX11_both N n).2.2.2.1) (q4 := (GX11_both N n).2.2.2.2.1) (q5 := (GX11_both N n).2.2.2.2.2) h), (fun _ _ _ h => rF_X11_either (N := N) (q0 := (GX11_both N n).1) (q1 := (GX11_both N n).2.1) (q2 := (GX11_both N n).2.2.1) (q3 := (GX11_both N n).2.2.2.1) (q4 := (GX11_both N n).2.2.2.2.1) (q5 := (GX11_both N n).2.2.2.2.2) h), (fun _ _ _ h => rF_X11_one (N := N) (q0 := (GX11_both N n).1) (q1 := (GX11_both N n).2.1) (q2 := (GX11_both N n).2.2.1) (q3 := (GX11_both N n).2.2.2.1) (q4 := (GX11_both N n).2.2.2.2.1) (q5 := (GX11_both N n).2.2.2.2.2) h), (fun _ _ _ h => rF_X11_product (N := N) (q0 := (GX11_both N n).1) (q1 := (GX11_both N n).2.1) (q2 := (GX11_both N n).2.2.1) (q3 := (GX11_both N n).2.2.2.1) (q4 := (GX11_both N n).2.2.2.2.1) (q5 := (GX11_both N n).2.2.2.2.2) h), (fun _ _ _ h => rF_X11_sum (N := N) (q0 := (GX11_both N n).1) (q1 := (GX11_both N n).2.1) (q2 := (GX11_both N n).2.2.1) (q3 := (GX11_both N n).2.2.2.1) (q4 := (GX11_both N n).2.2.2.2.1) (q5 := (GX11_both N n).2.2.2.2.2) h)⟩
set_option maxHeartbeats 4000000 in
set_option maxRecDepth 100000 in
theorem cGX11_both (l : Launch) {P : PT} (N : Nat) : ∀ n : Nat, (∀ (M : Mm) (a0 : Nat) (M9 : Mm), (GX11_both N n).1 M a0 = some M9 → Ct l yX11_both cX11_both 1 none (2 + n) 0 P [.ref (pB P + a0)] M none M9) ∧
    (∀ (M : Mm) (a0 : Nat) (M9 : Mm), (GX11_both N n).2.1 M a0 = some M9 → Ct l yX11_compared cX11_compared 2 none (2 + n) 0 P [.ref (pB P + a0)] M none M9) ∧
    (∀ (M : Mm) (a0 : Nat) (M9 : Mm), (GX11_both N n).2.2.1 M a0 = some M9 → Ct l yX11_either cX11_either 1 none (2 + n) 0 P [.ref (pB P + a0)] M none M9) ∧
    (∀ (M : Mm) (a0 : Nat) (M9 : Mm), (GX11_both N n).2.2.2.1 M a0 = some M9 → Ct l yX11_one cX11_one 4 none (2 + n) 0 P [.ref (pB P + a0)] M none M9) ∧
    (∀ (M : Mm) (a0 : Nat) (M9 : Mm), (GX11_both N n).2.2.2.2.1 M a0 = some M9 → Ct l yX11_product cX11_product 2 none (2 + n) 0 P [.ref (pB P + a0)] M none M9) ∧
    (∀ (M : Mm) (a0 : Nat) (M9 : Mm), (GX11_both N n).2.2.2.2.2 M a0 = some M9 → Ct l yX11_sum cX11_sum 2 none (2 + n) 0 P [.ref (pB P + a0)] M none M9) := by
  intro n
  induction n with
  | zero => exact ⟨(fun _ _ _ h => nomatch h), (fun _ _ _ h => nomatch h), (fun _ _ _ h => nomatch h), (fun _ _ _ h => nomatch h), (fun _ _ _ h => nomatch h), (fun _ _ _ h => nomatch h)⟩
  | succ n ih =>
    obtain ⟨hq0, hq1, hq2, hq3, hq4, hq5⟩ := ih
    obtain ⟨hp0, hp1, hp2, hp3, hp4, hp5⟩ := rGX11_both N n
    exact ⟨(fun M a0 _ h => Ct.mk (by decide +kernel) (Nat.le_of_ble_eq_true rfl) (fun p e s m args below meth c hX => wX11_both (D := n) (N := N) hX hq0 hp0 hq1 hp1 hq2 hp2 hq3 hp3 hq4 hp4 hq5 hp5 M a0 h)),
      (fun M a0 _ h => Ct.mk (by decide +kernel) (Nat.le_of_ble_eq_true rfl) (fun p e s m args below meth c hX => wX11_compared (D := n) (N := N) hX hq0 hp0 hq1 hp1 hq2 hp2 hq3 hp3 hq4 hp4 hq5 hp5 M a0 h)),
      (fun M a0 _ h => Ct.mk (by decide +kernel) (Nat.le_of_ble_eq_true rfl) (fun p e s m args below meth c hX => wX11_either (D := n) (N := N) hX hq0 hp0 hq1 hp1 hq2 hp2 hq3 hp3 hq4 hp4 hq5 hp5 M a0 h)),
      (fun M a0 _ h => Ct.mk (by decide +kernel) (Nat.le_of_ble_eq_true rfl) (fun p e s m args below meth c hX => wX11_one (D := n) (N := N) hX hq0 hp0 hq1 hp1 hq2 hp2 hq3 hp3 hq4 hp4 hq5 hp5 M a0 h)),
      (fun M a0 _ h => Ct.mk (by decide +kernel) (Nat.le_of_ble_eq_true rfl) (fun p e s m args below meth c hX => wX11_product (D := n) (N := N) hX hq0 hp0 hq1 hp1 hq2 hp2 hq3 hp3 hq4 hp4 hq5 hp5 M a0 h)),
      (fun M a0 _ h => Ct.mk (by decide +kernel) (Nat.le_of_ble_eq_true rfl) (fun p e s m args below meth c hX => wX11_sum (D := n) (N := N) hX hq0 hp0 hq1 hp1 hq2 hp2 hq3 hp3 hq4 hp4 hq5 hp5 M a0 h))⟩
theorem ctX11_both (l : Launch) {P : PT} {N : Nat} {M : Mm} {a0 : Nat} {M9 : Mm} (h : fX11_both N M a0 = some M9) : Ct l yX11_both cX11_both 1 none 102 0 P [.ref (pB P + a0)] M none M9 := (cGX11_both l N 100).1 _ _ _ h
theorem rX11_both {N : Nat} {M : Mm} {a0 : Nat} {r9 : Mm} (h : fX11_both N M a0 = some r9) : ∃ fs, M[a0]? = some (.inr (11, fs)) := (rGX11_both N 100).1 _ _ _ h
theorem ctX11_compared (l : Launch) {P : PT} {N : Nat} {M : Mm} {a0 : Nat} {M9 : Mm} (h : fX11_compared N M a0 = some M9) : Ct l yX11_compared cX11_compared 2 none 102 0 P [.ref (pB P + a0)] M none M9 := (cGX11_both l N 100).2.1 _ _ _ h
theorem rX11_compared {N : Nat} {M : Mm} {a0 : Nat} {r9 : Mm} (h : fX11_compared N M a0 = some r9) : ∃ fs, M[a0]? = some (.inr (11, fs)) := (rGX11_both N 100).2.1 _ _ _ h
theorem ctX11_either (l : Launch) {P : PT} {N : Nat} {M : Mm} {a0 : Nat} {M9 : Mm} (h : fX11_either N M a0 = some M9) : Ct l yX11_either cX11_either 1 none 102 0 P [.ref (pB P + a0)] M none M9 := (cGX11_both l N 100).2.2.1 _ _ _ h
theorem rX11_either {N : Nat} {M : Mm} {a0 : Nat} {r9 : Mm} (h : fX11_either N M a0 = some r9) : ∃ fs, M[a0]? = some (.inr (11, fs)) := (rGX11_both N 100).2.2.1 _ _ _ h
theorem ctX11_one (l : Launch) {P : PT} {N : Nat} {M : Mm} {a0 : Nat} {M9 : Mm} (h : fX11_one N M a0 = some M9) : Ct l yX11_one cX11_one 4 none 102 0 P [.ref (pB P + a0)] M none M9 := (cGX11_both l N 100).2.2.2.1 _ _ _ h
theorem rX11_one {N : Nat} {M : Mm} {a0 : Nat} {r9 : Mm} (h : fX11_one N M a0 = some r9) : ∃ fs, M[a0]? = some (.inr (11, fs)) := (rGX11_both N 100).2.2.2.1 _ _ _ h
theorem ctX11_product (l : Launch) {P : PT} {N : Nat} {M : Mm} {a0 : Nat} {M9 : Mm} (h : fX11_product N M a0 = some M9) : Ct l yX11_product cX11_product 2 none 102 0 P [.ref (pB P + a0)] M none M9 := (cGX11_both l N 100).2.2.2.2.1 _ _ _ h
theorem rX11_product {N : Nat} {M : Mm} {a0 : Nat} {r9 : Mm} (h : fX11_product N M a0 = some r9) : ∃ fs, M[a0]? = some (.inr (11, fs)) := (rGX11_both N 100).2.2.2.2.1 _ _ _ h
theorem ctX11_sum (l : Launch) {P : PT} {N : Nat} {M : Mm} {a0 : Nat} {M9 : Mm} (h : fX11_sum N M a0 = some M9) : Ct l yX11_sum cX11_sum 2 none 102 0 P [.ref (pB P + a0)] M none M9 := (cGX11_both l N 100).2.2.2.2.2 _ _ _ h
theorem rX11_sum {N : Nat} {M : Mm} {a0 : Nat} {r9 : Mm} (h : fX11_sum N M a0 = some r9) : ∃ fs, M[a0]? = some (.inr (11, fs)) := (rGX11_both N 100).2.2.2.2.2 _ _ _ h
