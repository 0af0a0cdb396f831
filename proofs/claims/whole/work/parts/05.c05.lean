set_option maxHeartbeats 4000000 in
set_option maxRecDepth 100000 in
theorem wjX7_hear_88 {p : Program} {l : Launch} {e : Env} {s : State} {m : MethodId} {args : Array Value} {below : List Frame} {meth : Method} {c : Code} {P : PT} {N : Nat} {K29 : Mm → Nat → Int32 → Option Nat → Int32 → Option (Mm)}  {M9 : Mm} (hX : Cy p s m args c meth cX7_hear 5 RX7 "hear" none P)  (hK29 : ∀ (M : Mm) (x0 : Nat) (x2 : Int32) (x3 : Option Nat) (x4 : Int32), K29 M x0 x2 x3 x4 = some M9 → Wq p l e s m args below meth c 4 0 none M9 5 P 0 29 [(0, .ref (pB P + x0)), (2, .int x2), (3, rO P x3), (4, .int x4)] [] M) (M : Mm) (x0 : Nat) (x2 : Int32) (x3 : Option Nat) (x4 : Int32) (s0 : Nat) (s1 : Int32) (h : jX7_hear_88 N K29 M x0 x2 x3 x4 s0 s1 = some M9) : Wq p l e s m args below meth c 4 0 none M9 5 P 0 88 [(0, .ref (pB P + x0)), (2, .int x2), (3, rO P x3), (4, .int x4)] [.int s1, .ref (pB P + s0)] M := by
  unfold jX7_hear_88 at h
  have hX0 := hX
  obtain ⟨X, hr, hlk, hnm⟩ := hX0
  have hx := X.1.1
  have hb := X.1.2.1
  intro H locs ls hM hl
  obtain ⟨v2, M3, e1, h⟩ := ob2 h
  obtain ⟨fs4, hb5⟩ := (rX3_add e1)
  refine bz_callV1 (pc := 88) (As := [.int s1]) (rest := []) X hM hl.1 k_RX7_96 (ctX3_add l e1) rfl hb5 rfl rfl ⟨(Nat.le_of_ble_eq_true rfl), (Nat.le_of_ble_eq_true rfl)⟩ (Nat.le_of_ble_eq_true rfl) ⟨(Nat.le_of_ble_eq_true rfl), (Nat.le_of_ble_eq_true rfl)⟩ dX7_hear_88 (fun H locs hM => ?_)
  refine lv_pop (pc := 91) hx hb dX7_hear_91 rfl ?_
  refine lv_iinc (pc := 92) (v := (x4 + (1 : Int32))) (lv' := [(4, .int (x4 + (1 : Int32))), (0, .ref (pB P + x0)), (2, .int x2), (3, rO P x3)]) hx hb dX7_hear_92 hl (k := 3) rfl rfl (by decide) (by simp [List.filter, rO_cat, vi_cat, vr_cat, vl_cat, vn_cat]) (fun ls hl => ?_)
  refine lv_goto (pc := 95) (tgt := 29) hx hb dX7_hear_95 (by decide) ?_
  exact hK29 _ _ _ _ _ h H locs ls hM (lv_sub hl [1, 2, 3, 0] rfl)
set_option maxHeartbeats 4000000 in
set_option maxRecDepth 100000 in
theorem wBX7_hear_29 {p : Program} {l : Launch} {e : Env} {s : State} {m : MethodId} {args : Array Value} {below : List Frame} {meth : Method} {c : Code} {P : PT} {N : Nat} {K29 : Mm → Nat → Int32 → Option Nat → Int32 → Option (Mm)}  {M9 : Mm} (hX : Cy p s m args c meth cX7_hear 5 RX7 "hear" none P)  (hK29 : ∀ (M : Mm) (x0 : Nat) (x2 : Int32) (x3 : Option Nat) (x4 : Int32), K29 M x0 x2 x3 x4 = some M9 → Wq p l e s m args below meth c 4 0 none M9 5 P 0 29 [(0, .ref (pB P + x0)), (2, .int x2), (3, rO P x3), (4, .int x4)] [] M) (M : Mm) (x0 : Nat) (x2 : Int32) (x3 : Option Nat) (x4 : Int32)  (h : BX7_hear_29 N K29 M x0 x2 x3 x4 = some M9) : Wq p l e s m args below meth c 4 0 none M9 5 P 0 29 [(0, .ref (pB P + x0)), (2, .int x2), (3, rO P x3), (4, .int x4)] [] M := by
  unfold BX7_hear_29 at h
  have hX0 := hX
  obtain ⟨X, hr, hlk, hnm⟩ := hX0
  have hx := X.1.1
  have hb := X.1.2.1
  intro H locs ls hM hl
  refine lv_iload (pc := 29) hx hb dX7_hear_29 (lv_at hl 3 rfl) ?_
  refine lv_aload_n (pc := 31) hx hb dX7_hear_31 rfl (lv_at hl 0 rfl) ?_
  obtain ⟨q1, e2, h⟩ := ob h
  refine bz_getQ (pc := 32) X hM fl_RX7_14 e2 dX7_hear_32 ?_
  obtain ⟨v4, e3, h⟩ := ob h
  obtain ⟨fs5, hb6⟩ := (rX3_size e3)
  refine bz_callV1 (pc := 35) (As := []) (rest := [.int x4]) X hM hl.1 k_RX7_63 (ctX3_size l e3) rfl hb6 rfl rfl ⟨(Nat.le_of_ble_eq_true rfl), (Nat.le_of_ble_eq_true rfl)⟩ (Nat.le_of_ble_eq_true rfl) ⟨(Nat.le_of_ble_eq_true rfl), (Nat.le_of_ble_eq_true rfl)⟩ dX7_hear_35 (fun H locs hM => ?_)
  refine lv_icmp_ge (pc := 38) (tgt := 98) hx hb dX7_hear_38 (by decide) (fun hc => ?_) (fun hc => ?_)
  · have h := if_t hc h
    obtain rfl := so1 h
    exact bz_vret (pc := 98) X hM hr hlk dX7_hear_98 (Nat.le_of_ble_eq_true rfl) (Nat.le_of_ble_eq_true rfl)
  · have h := if_f hc h
    refine lv_aload_n (pc := 41) hx hb dX7_hear_41 rfl (lv_at hl 0 rfl) ?_
    obtain ⟨q7, e8, h⟩ := ob h
    refine bz_getQ (pc := 42) X hM fl_RX7_26 e8 dX7_hear_42 ?_
    refine bz_aload_nO (pc := 45) hx hb dX7_hear_45 rfl (lv_at hl 2 rfl) ?_
    refine bz_ifnonnullO (pc := 46) (tgt := 53) hx hb dX7_hear_46 (by decide) (fun q9 hc => ?_) (fun hc => ?_)
    · subst hc
      have h := om_s rfl h
      have hl : lv_has ls 5 [(0, .ref (pB P + x0)), (2, .int x2), (3, .ref (pB P + q9)), (4, .int x4)] := hl
      refine lv_aload_n (pc := 53) hx hb dX7_hear_53 rfl (lv_at hl 2 rfl) ?_
      refine lv_aload_n (pc := 54) hx hb dX7_hear_54 rfl (lv_at hl 0 rfl) ?_
      obtain ⟨q10, e11, h⟩ := ob h
      refine bz_getQ (pc := 55) X hM fl_RX7_23 e11 dX7_hear_55 ?_
      refine lv_iload (pc := 58) hx hb dX7_hear_58 (lv_at hl 3 rfl) ?_
      obtain ⟨v13, e12, h⟩ := ob h
      obtain ⟨fs14, hb15⟩ := (rX3_at e12)
      refine bz_callV1 (pc := 60) (As := [.int x4]) (rest := [.ref (pB P + q9), .ref (pB P + q7)]) X hM hl.1 k_RX7_49 (ctX3_at l e12) rfl hb15 rfl rfl ⟨(Nat.le_of_ble_eq_true rfl), (Nat.le_of_ble_eq_true rfl)⟩ (Nat.le_of_ble_eq_true rfl) ⟨(Nat.le_of_ble_eq_true rfl), (Nat.le_of_ble_eq_true rfl)⟩ dX7_hear_60 (fun H locs hM => ?_)
      refine lv_aload_n (pc := 63) hx hb dX7_hear_63 rfl (lv_at hl 0 rfl) ?_
      refine lv_iload (pc := 64) hx hb dX7_hear_64 (lv_at hl 3 rfl) ?_
      obtain ⟨v17, e16, h⟩ := ob h
      obtain ⟨fs18, hb19⟩ := (rX7_gapAt e16)
      refine bz_callV1 (pc := 66) (As := [.int x4]) (rest := [.int v13, .ref (pB P + q9), .ref (pB P + q7)]) X hM hl.1 k_RX7_81 (ctX7_gapAt l e16) rfl hb19 rfl rfl ⟨(Nat.le_of_ble_eq_true rfl), (Nat.le_of_ble_eq_true rfl)⟩ (Nat.le_of_ble_eq_true rfl) ⟨(Nat.le_of_ble_eq_true rfl), (Nat.le_of_ble_eq_true rfl)⟩ dX7_hear_66 (fun H locs hM => ?_)
      refine lv_aload_n (pc := 69) hx hb dX7_hear_69 rfl (lv_at hl 0 rfl) ?_
      obtain ⟨q20, e21, h⟩ := ob h
      refine bz_getQ (pc := 70) X hM fl_RX7_20 e21 dX7_hear_70 ?_
      refine lv_iload (pc := 73) hx hb dX7_hear_73 (lv_at hl 3 rfl) ?_
      obtain ⟨v23, e22, h⟩ := ob h
      obtain ⟨fs24, hb25⟩ := (rX3_at e22)
      refine bz_callV1 (pc := 75) (As := [.int x4]) (rest := [.int v17, .int v13, .ref (pB P + q9), .ref (pB P + q7)]) X hM hl.1 k_RX7_49 (ctX3_at l e22) rfl hb25 rfl rfl ⟨(Nat.le_of_ble_eq_true rfl), (Nat.le_of_ble_eq_true rfl)⟩ (Nat.le_of_ble_eq_true rfl) ⟨(Nat.le_of_ble_eq_true rfl), (Nat.le_of_ble_eq_true rfl)⟩ dX7_hear_75 (fun H locs hM => ?_)
      refine lv_sipush (pc := 78) (v := (240 : Int32)) hx hb dX7_hear_78 (by decide) ?_
      obtain ⟨v27, e26, h⟩ := ob h
      refine bz_callS1 (pc := 81) (As := [.int v23, .int (240 : Int32)]) (rest := [.int v17, .int v13, .ref (pB P + q9), .ref (pB P + q7)]) X hM hl.1 k_RX7_84 (ctJ9_floorMod_7cf53 l e26) rfl rfl ⟨(Nat.le_of_ble_eq_true rfl), (Nat.le_of_ble_eq_true rfl)⟩ (Nat.le_of_ble_eq_true rfl) ⟨(Nat.le_of_ble_eq_true rfl), (Nat.le_of_ble_eq_true rfl)⟩ dX7_hear_81 (fun H locs hM => ?_)
      refine lv_iload_n (pc := 84) hx hb dX7_hear_84 rfl (lv_at hl 1 rfl) ?_
      obtain ⟨v29, M30, e28, h⟩ := ob2 h
      obtain ⟨fs31, hb32⟩ := (rX8_value e28)
      refine bz_callV1 (pc := 85) (As := [.int v13, .int v17, .int v27, .int x2]) (rest := [.ref (pB P + q7)]) X hM hl.1 k_RX7_90 (ctX8_value l e28) rfl hb32 rfl rfl ⟨(Nat.le_of_ble_eq_true rfl), (Nat.le_of_ble_eq_true rfl)⟩ (Nat.le_of_ble_eq_true rfl) ⟨(Nat.le_of_ble_eq_true rfl), (Nat.le_of_ble_eq_true rfl)⟩ dX7_hear_85 (fun H locs hM => ?_)
      exact wjX7_hear_88 hX hK29 _ _ _ _ _ _ _ h H locs ls hM (lv_sub hl [0, 1, 2, 3] rfl)
    · subst hc
      have h := om_n rfl h
      have hl : lv_has ls 5 [(0, .ref (pB P + x0)), (2, .int x2), (3, .null), (4, .int x4)] := hl
      refine lv_iconst (pc := 49) (v := (1 : Int32)) hx hb dX7_hear_49 (by decide) ?_
      refine lv_goto (pc := 50) (tgt := 88) hx hb dX7_hear_50 (by decide) ?_
      exact wjX7_hear_88 hX hK29 _ _ _ _ _ _ _ h H locs ls hM (lv_sub hl [0, 1, 2, 3] rfl)
set_option maxHeartbeats 4000000 in
set_option maxRecDepth 100000 in
theorem wLX7_hear_29 {p : Program} {l : Launch} {e : Env} {s : State} {m : MethodId} {args : Array Value} {below : List Frame} {meth : Method} {c : Code} {P : PT} {N : Nat}  {M9 : Mm} (hX : Cy p s m args c meth cX7_hear 5 RX7 "hear" none P)   : ∀ (n : Nat) (M : Mm) (x0 : Nat) (x2 : Int32) (x3 : Option Nat) (x4 : Int32) , LX7_hear_29 N n M x0 x2 x3 x4 = some M9 → Wq p l e s m args below meth c 4 0 none M9 5 P 0 29 [(0, .ref (pB P + x0)), (2, .int x2), (3, rO P x3), (4, .int x4)] [] M := by
  intro n
  induction n with
  | zero => intro M x0 x2 x3 x4 h; cases h
  | succ n ih => intro M x0 x2 x3 x4 h; exact wBX7_hear_29 hX ih M x0 x2 x3 x4 h
set_option maxHeartbeats 4000000 in
set_option maxRecDepth 100000 in
theorem wX7_hear {p : Program} {l : Launch} {e : Env} {s : State} {m : MethodId} {args : Array Value} {below : List Frame} {meth : Method} {c : Code} {P : PT} {N : Nat}  {M9 : Mm} (hX : Cy p s m args c meth cX7_hear 5 RX7 "hear" none P)  (M : Mm) (a0 : Nat) (a1 : Nat) (a2 : Int32) (h : fX7_hear N M a0 a1 a2 = some M9) : Wq p l e s m args below meth c 4 0 none M9 5 P 0 0 [(0, .ref (pB P + a0)), (1, .ref (pB P + a1)), (2, .int a2)] [] M := by
  unfold fX7_hear at h
  obtain ⟨_, _, h⟩ := ob h
  have hX0 := hX
  obtain ⟨X, hr, hlk, hnm⟩ := hX0
  have hx := X.1.1
  have hb := X.1.2.1
  intro H locs ls hM hl
  refine lv_aload_n (pc := 0) hx hb dX7_hear_0 rfl (lv_at hl 0 rfl) ?_
  refine lv_aload_n (pc := 1) hx hb dX7_hear_1 rfl (lv_at hl 1 rfl) ?_
  refine lv_iload_n (pc := 2) hx hb dX7_hear_2 rfl (lv_at hl 2 rfl) ?_
  obtain ⟨M2, e1, h⟩ := ob h
  obtain ⟨fs3, hb4⟩ := (rX7_lay e1)
  refine bz_callV0 (pc := 3) (As := [.ref (pB P + a1), .int a2]) (rest := []) X hM hl.1 k_RX7_70 (ctX7_lay l e1) rfl hb4 rfl rfl ⟨(Nat.le_of_ble_eq_true rfl), (Nat.le_of_ble_eq_true rfl)⟩ (Nat.le_of_ble_eq_true rfl) ⟨(Nat.le_of_ble_eq_true rfl), (Nat.le_of_ble_eq_true rfl)⟩ dX7_hear_3 (fun H locs hM => ?_)
  refine lv_aload_n (pc := 6) hx hb dX7_hear_6 rfl (lv_at hl 0 rfl) ?_
  obtain ⟨q5, e6, h⟩ := ob h
  refine bz_getQ (pc := 7) X hM fl_RX7_26 e6 dX7_hear_7 ?_
  obtain ⟨M8, e7, h⟩ := ob h
  obtain ⟨fs9, hb10⟩ := (rX3_clear e7)
  refine bz_callV0 (pc := 10) (As := []) (rest := []) X hM hl.1 k_RX7_38 (ctX3_clear l e7) rfl hb10 rfl rfl ⟨(Nat.le_of_ble_eq_true rfl), (Nat.le_of_ble_eq_true rfl)⟩ (Nat.le_of_ble_eq_true rfl) ⟨(Nat.le_of_ble_eq_true rfl), (Nat.le_of_ble_eq_true rfl)⟩ dX7_hear_10 (fun H locs hM => ?_)
  refine lv_aload_n (pc := 13) hx hb dX7_hear_13 rfl (lv_at hl 1 rfl) ?_
  refine lv_aload_n (pc := 14) hx hb dX7_hear_14 rfl (lv_at hl 1 rfl) ?_
  obtain ⟨q11, e12, h⟩ := ob h
  refine bz_getQ (pc := 15) X hM fl_RX7_74 e12 dX7_hear_15 ?_
  refine lv_iload_n (pc := 18) hx hb dX7_hear_18 rfl (lv_at hl 2 rfl) ?_
  obtain ⟨v14, e13, h⟩ := ob h
  obtain ⟨fs15, hb16⟩ := (rX3_at e13)
  refine bz_callV1 (pc := 19) (As := [.int a2]) (rest := [.ref (pB P + a1)]) X hM hl.1 k_RX7_49 (ctX3_at l e13) rfl hb16 rfl rfl ⟨(Nat.le_of_ble_eq_true rfl), (Nat.le_of_ble_eq_true rfl)⟩ (Nat.le_of_ble_eq_true rfl) ⟨(Nat.le_of_ble_eq_true rfl), (Nat.le_of_ble_eq_true rfl)⟩ dX7_hear_19 (fun H locs hM => ?_)
  obtain ⟨r18, e17, h⟩ := ob h
  obtain ⟨fs19, hb20⟩ := (rX6_textOf e17)
  refine bz_callV1 (pc := 22) (As := [.int v14]) (rest := []) X hM hl.1 k_RX7_77 (ctX6_textOf l e17) rfl hb20 rfl rfl ⟨(Nat.le_of_ble_eq_true rfl), (Nat.le_of_ble_eq_true rfl)⟩ (Nat.le_of_ble_eq_true rfl) ⟨(Nat.le_of_ble_eq_true rfl), (Nat.le_of_ble_eq_true rfl)⟩ dX7_hear_22 (fun H locs hM => ?_)
  refine bz_astore_nO (pc := 25) (lv' := [(3, rO P r18), (0, .ref (pB P + a0)), (1, .ref (pB P + a1)), (2, .int a2)]) hx hb dX7_hear_25 rfl hl (by decide) rfl (fun ls hl => ?_)
  refine lv_iconst (pc := 26) (v := (0 : Int32)) hx hb dX7_hear_26 (by decide) ?_
  refine lv_istore (pc := 27) (lv' := [(4, .int (0 : Int32)), (3, rO P r18), (0, .ref (pB P + a0)), (1, .ref (pB P + a1)), (2, .int a2)]) hx hb dX7_hear_27 hl (by decide) (by simp [List.filter, rO_cat, vi_cat, vr_cat, vl_cat, vn_cat]) (fun ls hl => ?_)
  exact wLX7_hear_29 hX _ _ _ _ _ _ h H locs ls hM (lv_sub hl [2, 4, 1, 0] rfl)
theorem rX7_hear {N : Nat} {M : Mm} {a0 : Nat} {a1 : Nat} {a2 : Int32} {r9 : Mm} (h : fX7_hear N M a0 a1 a2 = some r9) : ∃ fs, M[a0]? = some (.inr (7, fs)) := by
  unfold fX7_hear at h
  obtain ⟨_, e1, _⟩ := ob h
  exact gC_spec e1
theorem ctX7_hear (l : Launch) {P : PT} {N : Nat} {M : Mm} {a0 : Nat} {a1 : Nat} {a2 : Int32} {M9 : Mm} (h : fX7_hear N M a0 a1 a2 = some M9) : Ct l yX7_hear cX7_hear 5 none 4 0 P [.ref (pB P + a0), .ref (pB P + a1), .int a2] M none M9 :=
  Ct.mk (by decide +kernel) (Nat.le_of_ble_eq_true rfl) (fun p e s m args below meth c hX => wX7_hear hX M a0 a1 a2 h)
set_option maxHeartbeats 4000000 in
set_option maxRecDepth 100000 in
theorem wX7_isCounted {p : Program} {l : Launch} {e : Env} {s : State} {m : MethodId} {args : Array Value} {below : List Frame} {meth : Method} {c : Code} {P : PT}  {r9 : Int32} (hX : Cy p s m args c meth cX7_isCounted 3 RX7 "isCounted" (some .boolean) P)  (M : Mm) (a0 : Nat) (a1 : Int32) (a2 : Int32) (h : fX7_isCounted M a0 a1 a2 = some r9) : Wq p l e s m args below meth c 1 0 (some (.int r9)) M 3 P 0 0 [(0, .ref (pB P + a0)), (1, .int a1), (2, .int a2)] [] M := by
  unfold fX7_isCounted at h
  obtain ⟨_, _, h⟩ := ob h
  have hX0 := hX
  obtain ⟨X, hr, hlk, hnm⟩ := hX0
  have hx := X.1.1
  have hb := X.1.2.1
  intro H locs ls hM hl
  refine lv_aload_n (pc := 0) hx hb dX7_isCounted_0 rfl (lv_at hl 0 rfl) ?_
  obtain ⟨q1, e2, h⟩ := ob h
  refine bz_getQ (pc := 1) X hM fl_RX7_23 e2 dX7_isCounted_1 ?_
  refine lv_iload_n (pc := 4) hx hb dX7_isCounted_4 rfl (lv_at hl 1 rfl) ?_
  obtain ⟨v4, e3, h⟩ := ob h
  obtain ⟨fs5, hb6⟩ := (rX3_at e3)
  refine bz_callV1 (pc := 5) (As := [.int a1]) (rest := []) X hM hl.1 k_RX7_49 (ctX3_at l e3) rfl hb6 rfl rfl ⟨(Nat.le_of_ble_eq_true rfl), (Nat.le_of_ble_eq_true rfl)⟩ (Nat.le_of_ble_eq_true rfl) ⟨(Nat.le_of_ble_eq_true rfl), (Nat.le_of_ble_eq_true rfl)⟩ dX7_isCounted_5 (fun H locs hM => ?_)
  refine lv_iload_n (pc := 8) hx hb dX7_isCounted_8 rfl (lv_at hl 2 rfl) ?_
  refine lv_icmp_le (pc := 9) (tgt := 27) hx hb dX7_isCounted_9 (by decide) (fun hc => ?_) (fun hc => ?_)
  · have h := if_t hc h
    refine lv_iconst (pc := 27) (v := (0 : Int32)) hx hb dX7_isCounted_27 (by decide) ?_
    obtain rfl := so1 h
    exact bz_zret (pc := 28) X hM hr hlk (by decide) dX7_isCounted_28 (Nat.le_of_ble_eq_true rfl) (Nat.le_of_ble_eq_true rfl)
  · have h := if_f hc h
    refine lv_aload_n (pc := 12) hx hb dX7_isCounted_12 rfl (lv_at hl 0 rfl) ?_
    obtain ⟨q7, e8, h⟩ := ob h
    refine bz_getQ (pc := 13) X hM fl_RX7_26 e8 dX7_isCounted_13 ?_
    refine lv_iload_n (pc := 16) hx hb dX7_isCounted_16 rfl (lv_at hl 1 rfl) ?_
    obtain ⟨v10, e9, h⟩ := ob h
    obtain ⟨fs11, hb12⟩ := (rX3_at e9)
    refine bz_callV1 (pc := 17) (As := [.int a1]) (rest := []) X hM hl.1 k_RX7_49 (ctX3_at l e9) rfl hb12 rfl rfl ⟨(Nat.le_of_ble_eq_true rfl), (Nat.le_of_ble_eq_true rfl)⟩ (Nat.le_of_ble_eq_true rfl) ⟨(Nat.le_of_ble_eq_true rfl), (Nat.le_of_ble_eq_true rfl)⟩ dX7_isCounted_17 (fun H locs hM => ?_)
    refine lv_if_eq (pc := 20) (tgt := 27) hx hb dX7_isCounted_20 (by decide) (fun hc => ?_) (fun hc => ?_)
    · have h := if_t hc h
      refine lv_iconst (pc := 27) (v := (0 : Int32)) hx hb dX7_isCounted_27 (by decide) ?_
      obtain rfl := so1 h
      exact bz_zret (pc := 28) X hM hr hlk (by decide) dX7_isCounted_28 (Nat.le_of_ble_eq_true rfl) (Nat.le_of_ble_eq_true rfl)
    · have h := if_f hc h
      refine lv_iconst (pc := 23) (v := (1 : Int32)) hx hb dX7_isCounted_23 (by decide) ?_
      refine lv_goto (pc := 24) (tgt := 28) hx hb dX7_isCounted_24 (by decide) ?_
      obtain rfl := so1 h
      exact bz_zret (pc := 28) X hM hr hlk (by decide) dX7_isCounted_28 (Nat.le_of_ble_eq_true rfl) (Nat.le_of_ble_eq_true rfl)
theorem rX7_isCounted {M : Mm} {a0 : Nat} {a1 : Int32} {a2 : Int32} {r9 : Int32} (h : fX7_isCounted M a0 a1 a2 = some r9) : ∃ fs, M[a0]? = some (.inr (7, fs)) := by
  unfold fX7_isCounted at h
  obtain ⟨_, e1, _⟩ := ob h
  exact gC_spec e1
theorem ctX7_isCounted (l : Launch) {P : PT} {M : Mm} {a0 : Nat} {a1 : Int32} {a2 : Int32} {r9 : Int32} (h : fX7_isCounted M a0 a1 a2 = some r9) : Ct l yX7_isCounted cX7_isCounted 3 (some .boolean) 1 0 P [.ref (pB P + a0), .int a1, .int a2] M (some (.int r9)) M :=
  Ct.mk (by decide +kernel) (Nat.le_of_ble_eq_true rfl) (fun p e s m args below meth c hX => wX7_isCounted hX M a0 a1 a2 h)
set_option maxHeartbeats 4000000 in
set_option maxRecDepth 100000 in
theorem wjX10_counts_15 {p : Program} {l : Launch} {e : Env} {s : State} {m : MethodId} {args : Array Value} {below : List Frame} {meth : Method} {c : Code} {P : PT} {N : Nat}  {r9 : Int32} {M9 : Mm} (hX : Cy p s m args c meth cX10_counts 3 RX10 "counts" (some .int) P)   (M : Mm) (x0 : Nat)  (h : jX10_counts_15 N M x0 = some (r9, M9)) : Wq p l e s m args below meth c 5 0 (some (.int r9)) M9 3 P 0 15 [(0, .ref (pB P + x0))] [] M := by
  unfold jX10_counts_15 at h
  have hX0 := hX
  obtain ⟨X, hr, hlk, hnm⟩ := hX0
  have hx := X.1.1
  have hb := X.1.2.1
  intro H locs ls hM hl
  refine lv_aload_n (pc := 15) hx hb dX10_counts_15 rfl (lv_at hl 0 rfl) ?_
  refine lv_iconst (pc := 16) (v := (1 : Int32)) hx hb dX10_counts_16 (by decide) ?_
  obtain ⟨v2, M3, e1, h⟩ := ob2 h
  obtain ⟨fs4, hb5⟩ := (rX10_error e1)
  refine bz_callV1 (pc := 17) (As := [.int (1 : Int32)]) (rest := []) X hM hl.1 k_RX10_78 (ctX10_error l e1) rfl hb5 rfl rfl ⟨(Nat.le_of_ble_eq_true rfl), (Nat.le_of_ble_eq_true rfl)⟩ (Nat.le_of_ble_eq_true rfl) ⟨(Nat.le_of_ble_eq_true rfl), (Nat.le_of_ble_eq_true rfl)⟩ dX10_counts_17 (fun H locs hM => ?_)
  obtain ⟨rfl, rfl⟩ := so2 h
  exact bz_iret (pc := 20) X hM hr hlk dX10_counts_20 (Nat.le_of_ble_eq_true rfl) (Nat.le_of_ble_eq_true rfl)
set_option maxHeartbeats 4000000 in
set_option maxRecDepth 100000 in
theorem wX10_counts {p : Program} {l : Launch} {e : Env} {s : State} {m : MethodId} {args : Array Value} {below : List Frame} {meth : Method} {c : Code} {P : PT} {N : Nat}  {r9 : Int32} {M9 : Mm} (hX : Cy p s m args c meth cX10_counts 3 RX10 "counts" (some .int) P)  (M : Mm) (a0 : Nat) (a1 : Int32) (a2 : Int32) (h : fX10_counts N M a0 a1 a2 = some (r9, M9)) : Wq p l e s m args below meth c 5 0 (some (.int r9)) M9 3 P 0 0 [(0, .ref (pB P + a0)), (1, .int a1), (2, .int a2)] [] M := by
  unfold fX10_counts at h
  obtain ⟨_, _, h⟩ := ob h
  have hX0 := hX
  obtain ⟨X, hr, hlk, hnm⟩ := hX0
  have hx := X.1.1
  have hb := X.1.2.1
  intro H locs ls hM hl
  refine lv_aload_n (pc := 0) hx hb dX10_counts_0 rfl (lv_at hl 0 rfl) ?_
  refine lv_iload_n (pc := 1) hx hb dX10_counts_1 rfl (lv_at hl 1 rfl) ?_
  obtain ⟨v2, e1, h⟩ := ob h
  obtain ⟨fs3, hb4⟩ := (rX10_isRing e1)
  refine bz_callV1 (pc := 2) (As := [.int a1]) (rest := []) X hM hl.1 k_RX10_115 (ctX10_isRing l e1) rfl hb4 rfl rfl ⟨(Nat.le_of_ble_eq_true rfl), (Nat.le_of_ble_eq_true rfl)⟩ (Nat.le_of_ble_eq_true rfl) ⟨(Nat.le_of_ble_eq_true rfl), (Nat.le_of_ble_eq_true rfl)⟩ dX10_counts_2 (fun H locs hM => ?_)
  refine lv_if_eq (pc := 5) (tgt := 15) hx hb dX10_counts_5 (by decide) (fun hc => ?_) (fun hc => ?_)
  · have h := if_t hc h
    exact wjX10_counts_15 hX _ _ h H locs ls hM (lv_sub hl [0] rfl)
  · have h := if_f hc h
    refine lv_iload_n (pc := 8) hx hb dX10_counts_8 rfl (lv_at hl 2 rfl) ?_
    obtain ⟨v6, e5, h⟩ := ob h
    refine bz_callS1 (pc := 9) (As := [.int a2]) (rest := []) X hM hl.1 k_RX10_145 (ctX10_isLine l e5) rfl rfl ⟨(Nat.le_of_ble_eq_true rfl), (Nat.le_of_ble_eq_true rfl)⟩ (Nat.le_of_ble_eq_true rfl) ⟨(Nat.le_of_ble_eq_true rfl), (Nat.le_of_ble_eq_true rfl)⟩ dX10_counts_9 (fun H locs hM => ?_)
    refine lv_if_ne (pc := 12) (tgt := 21) hx hb dX10_counts_12 (by decide) (fun hc => ?_) (fun hc => ?_)
    · have h := if_f hc h
      refine lv_aload_n (pc := 21) hx hb dX10_counts_21 rfl (lv_at hl 0 rfl) ?_
      obtain ⟨q7, e8, h⟩ := ob h
      refine bz_getQ (pc := 22) X hM fl_RX10_49 e8 dX10_counts_22 ?_
      refine lv_aload_n (pc := 25) hx hb dX10_counts_25 rfl (lv_at hl 0 rfl) ?_
      obtain ⟨q9, e10, h⟩ := ob h
      refine bz_getQ (pc := 26) X hM fl_RX10_10 e10 dX10_counts_26 ?_
      refine lv_aload_n (pc := 29) hx hb dX10_counts_29 rfl (lv_at hl 0 rfl) ?_
      obtain ⟨q11, e12, h⟩ := ob h
      refine bz_getQ (pc := 30) X hM fl_RX10_10 e12 dX10_counts_30 ?_
      obtain ⟨q13, e14, h⟩ := ob h
      refine bz_getQ (pc := 33) X hM fl_RX10_118 e14 dX10_counts_33 ?_
      refine lv_iload_n (pc := 36) hx hb dX10_counts_36 rfl (lv_at hl 1 rfl) ?_
      obtain ⟨v16, e15, h⟩ := ob h
      obtain ⟨fs17, hb18⟩ := (rX3_at e15)
      refine bz_callV1 (pc := 37) (As := [.int a1]) (rest := [.ref (pB P + q9), .ref (pB P + q7)]) X hM hl.1 k_RX10_121 (ctX3_at l e15) rfl hb18 rfl rfl ⟨(Nat.le_of_ble_eq_true rfl), (Nat.le_of_ble_eq_true rfl)⟩ (Nat.le_of_ble_eq_true rfl) ⟨(Nat.le_of_ble_eq_true rfl), (Nat.le_of_ble_eq_true rfl)⟩ dX10_counts_37 (fun H locs hM => ?_)
      obtain ⟨M20, e19, h⟩ := ob h
      obtain ⟨fs21, hb22⟩ := (rX7_hear e19)
      refine bz_callV0 (pc := 40) (As := [.ref (pB P + q9), .int v16]) (rest := []) X hM hl.1 k_RX10_148 (ctX7_hear l e19) rfl hb22 rfl rfl ⟨(Nat.le_of_ble_eq_true rfl), (Nat.le_of_ble_eq_true rfl)⟩ (Nat.le_of_ble_eq_true rfl) ⟨(Nat.le_of_ble_eq_true rfl), (Nat.le_of_ble_eq_true rfl)⟩ dX10_counts_40 (fun H locs hM => ?_)
      refine lv_aload_n (pc := 43) hx hb dX10_counts_43 rfl (lv_at hl 0 rfl) ?_
      obtain ⟨q23, e24, h⟩ := ob h
      refine bz_getQ (pc := 44) X hM fl_RX10_49 e24 dX10_counts_44 ?_
      refine lv_aload_n (pc := 47) hx hb dX10_counts_47 rfl (lv_at hl 0 rfl) ?_
      obtain ⟨q25, e26, h⟩ := ob h
      refine bz_getQ (pc := 48) X hM fl_RX10_49 e26 dX10_counts_48 ?_
      refine lv_iload_n (pc := 51) hx hb dX10_counts_51 rfl (lv_at hl 1 rfl) ?_
      obtain ⟨v28, e27, h⟩ := ob h
      obtain ⟨fs29, hb30⟩ := (rX7_placeOf e27)
      refine bz_callV1 (pc := 52) (As := [.int a1]) (rest := [.ref (pB P + q23)]) X hM hl.1 k_RX10_137 (ctX7_placeOf l e27) rfl hb30 rfl rfl ⟨(Nat.le_of_ble_eq_true rfl), (Nat.le_of_ble_eq_true rfl)⟩ (Nat.le_of_ble_eq_true rfl) ⟨(Nat.le_of_ble_eq_true rfl), (Nat.le_of_ble_eq_true rfl)⟩ dX10_counts_52 (fun H locs hM => ?_)
      refine lv_iload_n (pc := 55) hx hb dX10_counts_55 rfl (lv_at hl 2 rfl) ?_
      obtain ⟨v32, e31, h⟩ := ob h
      obtain ⟨fs33, hb34⟩ := (rX7_isCounted e31)
      refine bz_callV1 (pc := 56) (As := [.int v28, .int a2]) (rest := []) X hM hl.1 k_RX10_151 (ctX7_isCounted l e31) rfl hb34 rfl rfl ⟨(Nat.le_of_ble_eq_true rfl), (Nat.le_of_ble_eq_true rfl)⟩ (Nat.le_of_ble_eq_true rfl) ⟨(Nat.le_of_ble_eq_true rfl), (Nat.le_of_ble_eq_true rfl)⟩ dX10_counts_56 (fun H locs hM => ?_)
      refine lv_if_eq (pc := 59) (tgt := 66) hx hb dX10_counts_59 (by decide) (fun hc => ?_) (fun hc => ?_)
      · have h := if_t hc h
        refine lv_iconst (pc := 66) (v := (0 : Int32)) hx hb dX10_counts_66 (by decide) ?_
        obtain ⟨rfl, rfl⟩ := so2 h
        exact bz_iret (pc := 67) X hM hr hlk dX10_counts_67 (Nat.le_of_ble_eq_true rfl) (Nat.le_of_ble_eq_true rfl)
      · have h := if_f hc h
        refine lv_iconst (pc := 62) (v := (1 : Int32)) hx hb dX10_counts_62 (by decide) ?_
        refine lv_goto (pc := 63) (tgt := 67) hx hb dX10_counts_63 (by decide) ?_
        obtain ⟨rfl, rfl⟩ := so2 h
        exact bz_iret (pc := 67) X hM hr hlk dX10_counts_67 (Nat.le_of_ble_eq_true rfl) (Nat.le_of_ble_eq_true rfl)
    · have h := if_t hc h
      exact wjX10_counts_15 hX _ _ h H locs ls hM (lv_sub hl [0] rfl)
theorem rX10_counts {N : Nat} {M : Mm} {a0 : Nat} {a1 : Int32} {a2 : Int32} {r9 : Int32 × Mm} (h : fX10_counts N M a0 a1 a2 = some r9) : ∃ fs, M[a0]? = some (.inr (10, fs)) := by
  unfold fX10_counts at h
  obtain ⟨_, e1, _⟩ := ob h
  exact gC_spec e1
theorem ctX10_counts (l : Launch) {P : PT} {N : Nat} {M : Mm} {a0 : Nat} {a1 : Int32} {a2 : Int32} {r9 : Int32} {M9 : Mm} (h : fX10_counts N M a0 a1 a2 = some (r9, M9)) : Ct l yX10_counts cX10_counts 3 (some .int) 5 0 P [.ref (pB P + a0), .int a1, .int a2] M (some (.int r9)) M9 :=
  Ct.mk (by decide +kernel) (Nat.le_of_ble_eq_true rfl) (fun p e s m args below meth c hX => wX10_counts hX M a0 a1 a2 h)
set_option maxHeartbeats 4000000 in
set_option maxRecDepth 100000 in
theorem wX11_isLine {p : Program} {l : Launch} {e : Env} {s : State} {m : MethodId} {args : Array Value} {below : List Frame} {meth : Method} {c : Code} {P : PT}  {r9 : Int32} (hX : Cy p s m args c meth cX11_isLine 1 RX11 "isLine" (some .boolean) P)  (M : Mm) (a0 : Int32) (h : fX11_isLine M a0 = some r9) : Wq p l e s m args below meth c 1 0 (some (.int r9)) M 1 P 0 0 [(0, .int a0)] [] M := by
  unfold fX11_isLine at h
  have hX0 := hX
  obtain ⟨X, hr, hlk, hnm⟩ := hX0
  have hx := X.1.1
  have hb := X.1.2.1
  intro H locs ls hM hl
  refine lv_iload_n (pc := 0) hx hb dX11_isLine_0 rfl (lv_at hl 0 rfl) ?_
  refine lv_i2l (pc := 1) (v := ((a0).toInt64)) hx hb dX11_isLine_1 rfl ?_
  refine lv_lconst (pc := 2) (v := (0 : Int64)) hx hb dX11_isLine_2 (by decide) ?_
  refine lv_ldc2 (pc := 3) (v := (999 : Int64)) hx hb X.1.2.2.2.1 (X.1.2.2.2.2 _ g_1276) dX11_isLine_3 ?_
  obtain ⟨v2, e1, h⟩ := ob h
  refine bz_callS1 (pc := 6) (As := [.long ((a0).toInt64), .long (0 : Int64), .long (999 : Int64)]) (rest := []) X hM hl.1 k_RX11_57 (ctX11_in l e1) rfl rfl ⟨(Nat.le_of_ble_eq_true rfl), (Nat.le_of_ble_eq_true rfl)⟩ (Nat.le_of_ble_eq_true rfl) ⟨(Nat.le_of_ble_eq_true rfl), (Nat.le_of_ble_eq_true rfl)⟩ dX11_isLine_6 (fun H locs hM => ?_)
  obtain ⟨v3, e4, h⟩ := ob h
  obtain rfl := so1 h
  exact bz_zretz (pc := 9) X hM hr hlk e4 dX11_isLine_9 (Nat.le_of_ble_eq_true rfl) (Nat.le_of_ble_eq_true rfl)
theorem ctX11_isLine (l : Launch) {P : PT} {M : Mm} {a0 : Int32} {r9 : Int32} (h : fX11_isLine M a0 = some r9) : Ct l yX11_isLine cX11_isLine 1 (some .boolean) 1 0 P [.int a0] M (some (.int r9)) M :=
  Ct.mk (by decide +kernel) (Nat.le_of_ble_eq_true rfl) (fun p e s m args below meth c hX => wX11_isLine hX M a0 h)
set_option maxHeartbeats 4000000 in
set_option maxRecDepth 100000 in
theorem wX11_rest {p : Program} {l : Launch} {e : Env} {s : State} {m : MethodId} {args : Array Value} {below : List Frame} {meth : Method} {c : Code} {P : PT}  {r9 : Int32} (hX : Cy p s m args c meth cX11_rest 3 RX11 "rest" (some .int) P)  (M : Mm) (a0 : Int32) (a1 : Int32) (h : fX11_rest M a0 a1 = some r9) : Wq p l e s m args below meth c 0 0 (some (.int r9)) M 3 P 0 0 [(0, .int a0), (1, .int a1)] [] M := by
  unfold fX11_rest at h
  have hX0 := hX
  obtain ⟨X, hr, hlk, hnm⟩ := hX0
  have hx := X.1.1
  have hb := X.1.2.1
  intro H locs ls hM hl
  refine lv_iload_n (pc := 0) hx hb dX11_rest_0 rfl (lv_at hl 0 rfl) ?_
  refine lv_iload_n (pc := 1) hx hb dX11_rest_1 rfl (lv_at hl 1 rfl) ?_
  obtain ⟨v1, e2, h⟩ := ob h
  refine bz_imod (pc := 2) hx hb e2 dX11_rest_2 ?_
  refine lv_istore_n (pc := 3) (lv' := [(2, .int v1), (0, .int a0), (1, .int a1)]) hx hb dX11_rest_3 rfl hl (by decide) rfl (fun ls hl => ?_)
  refine lv_iload_n (pc := 4) hx hb dX11_rest_4 rfl (lv_at hl 0 rfl) ?_
  refine lv_if_ge (pc := 5) (tgt := 14) hx hb dX11_rest_5 (by decide) (fun hc => ?_) (fun hc => ?_)
  · have h := if_t hc h
    refine lv_iload_n (pc := 14) hx hb dX11_rest_14 rfl (lv_at hl 0 rfl) ?_
    obtain rfl := so1 h
    exact bz_iret (pc := 15) X hM hr hlk dX11_rest_15 (Nat.le_of_ble_eq_true rfl) (Nat.le_of_ble_eq_true rfl)
  · have h := if_f hc h
    refine lv_iload_n (pc := 8) hx hb dX11_rest_8 rfl (lv_at hl 0 rfl) ?_
    refine lv_iload_n (pc := 9) hx hb dX11_rest_9 rfl (lv_at hl 2 rfl) ?_
    refine lv_iadd (pc := 10) hx hb dX11_rest_10 ?_
    refine lv_goto (pc := 11) (tgt := 15) hx hb dX11_rest_11 (by decide) ?_
    obtain rfl := so1 h
    exact bz_iret (pc := 15) X hM hr hlk dX11_rest_15 (Nat.le_of_ble_eq_true rfl) (Nat.le_of_ble_eq_true rfl)
theorem ctX11_rest (l : Launch) {P : PT} {M : Mm} {a0 : Int32} {a1 : Int32} {r9 : Int32} (h : fX11_rest M a0 a1 = some r9) : Ct l yX11_rest cX11_rest 3 (some .int) 0 0 P [.int a0, .int a1] M (some (.int r9)) M :=
  Ct.mk (by decide +kernel) (Nat.le_of_ble_eq_true rfl) (fun p e s m args below meth c hX => wX11_rest hX M a0 a1 h)
set_option maxHeartbeats 4000000 in
set_option maxRecDepth 100000 in
theorem wX11_worked {p : Program} {l : Launch} {e : Env} {s : State} {m : MethodId} {args : Array Value} {below : List Frame} {meth : Method} {c : Code} {P : PT}  {r9 : Int32} (hX : Cy p s m args c meth cX11_worked 3 RX11 "worked" (some .int) P)  (M : Mm) (a0 : Int32) (a1 : Int32) (a2 : Int32) (h : fX11_worked M a0 a1 a2 = some r9) : Wq p l e s m args below meth c 0 0 (some (.int r9)) M 3 P 0 0 [(0, .int a0), (1, .int a1), (2, .int a2)] [] M := by
  unfold fX11_worked at h
  have hX0 := hX
  obtain ⟨X, hr, hlk, hnm⟩ := hX0
  have hx := X.1.1
  have hb := X.1.2.1
  intro H locs ls hM hl
  refine lv_iload_n (pc := 0) hx hb dX11_worked_0 rfl (lv_at hl 0 rfl) ?_
  by_cases hs38 : a0 = (38 : Int32)
  · have h := if_t hs38 h
    refine lv_lookup (pc := 1) (off := 97) (tgt := 98) hx hb dX11_worked_1 (by decide) (by rw [hs38]; decide) (by decide) ?_
    refine lv_iload_n (pc := 98) hx hb dX11_worked_98 rfl (lv_at hl 1 rfl) ?_
    refine lv_if_eq (pc := 99) (tgt := 110) hx hb dX11_worked_99 (by decide) (fun hc => ?_) (fun hc => ?_)
    · have h := if_t hc h
      refine lv_iconst (pc := 110) (v := (0 : Int32)) hx hb dX11_worked_110 (by decide) ?_
      obtain rfl := so1 h
      exact bz_iret (pc := 111) X hM hr hlk dX11_worked_111 (Nat.le_of_ble_eq_true rfl) (Nat.le_of_ble_eq_true rfl)
    · have h := if_f hc h
      refine lv_iload_n (pc := 102) hx hb dX11_worked_102 rfl (lv_at hl 2 rfl) ?_
      refine lv_if_eq (pc := 103) (tgt := 110) hx hb dX11_worked_103 (by decide) (fun hc => ?_) (fun hc => ?_)
      · have h := if_t hc h
        refine lv_iconst (pc := 110) (v := (0 : Int32)) hx hb dX11_worked_110 (by decide) ?_
        obtain rfl := so1 h
        exact bz_iret (pc := 111) X hM hr hlk dX11_worked_111 (Nat.le_of_ble_eq_true rfl) (Nat.le_of_ble_eq_true rfl)
      · have h := if_f hc h
        refine lv_iconst (pc := 106) (v := (1 : Int32)) hx hb dX11_worked_106 (by decide) ?_
        refine lv_goto (pc := 107) (tgt := 111) hx hb dX11_worked_107 (by decide) ?_
        obtain rfl := so1 h
        exact bz_iret (pc := 111) X hM hr hlk dX11_worked_111 (Nat.le_of_ble_eq_true rfl) (Nat.le_of_ble_eq_true rfl)
  have h := if_f hs38 h
  by_cases hs42 : a0 = (42 : Int32)
  · have h := if_t hs42 h
    refine lv_lookup (pc := 1) (off := 152) (tgt := 153) hx hb dX11_worked_1 (by decide) (by rw [hs42]; decide) (by decide) ?_
    refine lv_iload_n (pc := 153) hx hb dX11_worked_153 rfl (lv_at hl 1 rfl) ?_
    refine lv_iload_n (pc := 154) hx hb dX11_worked_154 rfl (lv_at hl 2 rfl) ?_
    refine lv_imul (pc := 155) hx hb dX11_worked_155 ?_
    obtain rfl := so1 h
    exact bz_iret (pc := 156) X hM hr hlk dX11_worked_156 (Nat.le_of_ble_eq_true rfl) (Nat.le_of_ble_eq_true rfl)
  have h := if_f hs42 h
  by_cases hs43 : a0 = (43 : Int32)
  · have h := if_t hs43 h
    refine lv_lookup (pc := 1) (off := 144) (tgt := 145) hx hb dX11_worked_1 (by decide) (by rw [hs43]; decide) (by decide) ?_
    refine lv_iload_n (pc := 145) hx hb dX11_worked_145 rfl (lv_at hl 1 rfl) ?_
    refine lv_iload_n (pc := 146) hx hb dX11_worked_146 rfl (lv_at hl 2 rfl) ?_
    refine lv_iadd (pc := 147) hx hb dX11_worked_147 ?_
    obtain rfl := so1 h
    exact bz_iret (pc := 148) X hM hr hlk dX11_worked_148 (Nat.le_of_ble_eq_true rfl) (Nat.le_of_ble_eq_true rfl)
  have h := if_f hs43 h
  by_cases hs45 : a0 = (45 : Int32)
  · have h := if_t hs45 h
    refine lv_lookup (pc := 1) (off := 148) (tgt := 149) hx hb dX11_worked_1 (by decide) (by rw [hs45]; decide) (by decide) ?_
    refine lv_iload_n (pc := 149) hx hb dX11_worked_149 rfl (lv_at hl 1 rfl) ?_
    refine lv_iload_n (pc := 150) hx hb dX11_worked_150 rfl (lv_at hl 2 rfl) ?_
    refine lv_isub (pc := 151) hx hb dX11_worked_151 ?_
    obtain rfl := so1 h
    exact bz_iret (pc := 152) X hM hr hlk dX11_worked_152 (Nat.le_of_ble_eq_true rfl) (Nat.le_of_ble_eq_true rfl)
  have h := if_f hs45 h
  by_cases hs47 : a0 = (47 : Int32)
  · have h := if_t hs47 h
    refine lv_lookup (pc := 1) (off := 156) (tgt := 157) hx hb dX11_worked_1 (by decide) (by rw [hs47]; decide) (by decide) ?_
    refine lv_iload_n (pc := 157) hx hb dX11_worked_157 rfl (lv_at hl 2 rfl) ?_
    refine lv_if_ne (pc := 158) (tgt := 165) hx hb dX11_worked_158 (by decide) (fun hc => ?_) (fun hc => ?_)
    · have h := if_f hc h
      refine lv_iload_n (pc := 165) hx hb dX11_worked_165 rfl (lv_at hl 1 rfl) ?_
      refine lv_iload_n (pc := 166) hx hb dX11_worked_166 rfl (lv_at hl 2 rfl) ?_
      obtain ⟨v1, e2, h⟩ := ob h
      refine bz_idiv (pc := 167) hx hb e2 dX11_worked_167 ?_
      obtain rfl := so1 h
      exact bz_iret (pc := 168) X hM hr hlk dX11_worked_168 (Nat.le_of_ble_eq_true rfl) (Nat.le_of_ble_eq_true rfl)
    · have h := if_t hc h
      refine lv_iconst (pc := 161) (v := (0 : Int32)) hx hb dX11_worked_161 (by decide) ?_
      refine lv_goto (pc := 162) (tgt := 168) hx hb dX11_worked_162 (by decide) ?_
      obtain rfl := so1 h
      exact bz_iret (pc := 168) X hM hr hlk dX11_worked_168 (Nat.le_of_ble_eq_true rfl) (Nat.le_of_ble_eq_true rfl)
  have h := if_f hs47 h
  by_cases hs60 : a0 = (60 : Int32)
  · have h := if_t hs60 h
    refine lv_lookup (pc := 1) (off := 111) (tgt := 112) hx hb dX11_worked_1 (by decide) (by rw [hs60]; decide) (by decide) ?_
    refine lv_iload_n (pc := 112) hx hb dX11_worked_112 rfl (lv_at hl 1 rfl) ?_
    refine lv_iload_n (pc := 113) hx hb dX11_worked_113 rfl (lv_at hl 2 rfl) ?_
    refine lv_icmp_ge (pc := 114) (tgt := 121) hx hb dX11_worked_114 (by decide) (fun hc => ?_) (fun hc => ?_)
    · have h := if_t hc h
      refine lv_iconst (pc := 121) (v := (0 : Int32)) hx hb dX11_worked_121 (by decide) ?_
      obtain rfl := so1 h
      exact bz_iret (pc := 122) X hM hr hlk dX11_worked_122 (Nat.le_of_ble_eq_true rfl) (Nat.le_of_ble_eq_true rfl)
    · have h := if_f hc h
      refine lv_iconst (pc := 117) (v := (1 : Int32)) hx hb dX11_worked_117 (by decide) ?_
      refine lv_goto (pc := 118) (tgt := 122) hx hb dX11_worked_118 (by decide) ?_
      obtain rfl := so1 h
      exact bz_iret (pc := 122) X hM hr hlk dX11_worked_122 (Nat.le_of_ble_eq_true rfl) (Nat.le_of_ble_eq_true rfl)
  have h := if_f hs60 h
  by_cases hs61 : a0 = (61 : Int32)
  · have h := if_t hs61 h
    refine lv_lookup (pc := 1) (off := 122) (tgt := 123) hx hb dX11_worked_1 (by decide) (by rw [hs61]; decide) (by decide) ?_
    refine lv_iload_n (pc := 123) hx hb dX11_worked_123 rfl (lv_at hl 1 rfl) ?_
    refine lv_iload_n (pc := 124) hx hb dX11_worked_124 rfl (lv_at hl 2 rfl) ?_
    refine lv_icmp_ne (pc := 125) (tgt := 132) hx hb dX11_worked_125 (by decide) (fun hc => ?_) (fun hc => ?_)
    · have h := if_f hc h
      refine lv_iconst (pc := 132) (v := (0 : Int32)) hx hb dX11_worked_132 (by decide) ?_
      obtain rfl := so1 h
      exact bz_iret (pc := 133) X hM hr hlk dX11_worked_133 (Nat.le_of_ble_eq_true rfl) (Nat.le_of_ble_eq_true rfl)
    · have h := if_t hc h
      refine lv_iconst (pc := 128) (v := (1 : Int32)) hx hb dX11_worked_128 (by decide) ?_
      refine lv_goto (pc := 129) (tgt := 133) hx hb dX11_worked_129 (by decide) ?_
      obtain rfl := so1 h
      exact bz_iret (pc := 133) X hM hr hlk dX11_worked_133 (Nat.le_of_ble_eq_true rfl) (Nat.le_of_ble_eq_true rfl)
  have h := if_f hs61 h
  by_cases hs62 : a0 = (62 : Int32)
  · have h := if_t hs62 h
    refine lv_lookup (pc := 1) (off := 133) (tgt := 134) hx hb dX11_worked_1 (by decide) (by rw [hs62]; decide) (by decide) ?_
    refine lv_iload_n (pc := 134) hx hb dX11_worked_134 rfl (lv_at hl 1 rfl) ?_
    refine lv_iload_n (pc := 135) hx hb dX11_worked_135 rfl (lv_at hl 2 rfl) ?_
    refine lv_icmp_le (pc := 136) (tgt := 143) hx hb dX11_worked_136 (by decide) (fun hc => ?_) (fun hc => ?_)
    · have h := if_t hc h
      refine lv_iconst (pc := 143) (v := (0 : Int32)) hx hb dX11_worked_143 (by decide) ?_
      obtain rfl := so1 h
      exact bz_iret (pc := 144) X hM hr hlk dX11_worked_144 (Nat.le_of_ble_eq_true rfl) (Nat.le_of_ble_eq_true rfl)
    · have h := if_f hc h
      refine lv_iconst (pc := 139) (v := (1 : Int32)) hx hb dX11_worked_139 (by decide) ?_
      refine lv_goto (pc := 140) (tgt := 144) hx hb dX11_worked_140 (by decide) ?_
      obtain rfl := so1 h
      exact bz_iret (pc := 144) X hM hr hlk dX11_worked_144 (Nat.le_of_ble_eq_true rfl) (Nat.le_of_ble_eq_true rfl)
  have h := if_f hs62 h
  by_cases hs124 : a0 = (124 : Int32)
  · have h := if_t hs124 h
    refine lv_lookup (pc := 1) (off := 83) (tgt := 84) hx hb dX11_worked_1 (by decide) (by rw [hs124]; decide) (by decide) ?_
    refine lv_iload_n (pc := 84) hx hb dX11_worked_84 rfl (lv_at hl 1 rfl) ?_
    refine lv_if_ne (pc := 85) (tgt := 92) hx hb dX11_worked_85 (by decide) (fun hc => ?_) (fun hc => ?_)
    · have h := if_f hc h
      refine lv_iconst (pc := 92) (v := (1 : Int32)) hx hb dX11_worked_92 (by decide) ?_
      refine lv_goto (pc := 93) (tgt := 97) hx hb dX11_worked_93 (by decide) ?_
      obtain rfl := so1 h
      exact bz_iret (pc := 97) X hM hr hlk dX11_worked_97 (Nat.le_of_ble_eq_true rfl) (Nat.le_of_ble_eq_true rfl)
    · have h := if_t hc h
      refine lv_iload_n (pc := 88) hx hb dX11_worked_88 rfl (lv_at hl 2 rfl) ?_
      refine lv_if_eq (pc := 89) (tgt := 96) hx hb dX11_worked_89 (by decide) (fun hc => ?_) (fun hc => ?_)
      · have h := if_t hc h
        refine lv_iconst (pc := 96) (v := (0 : Int32)) hx hb dX11_worked_96 (by decide) ?_
        obtain rfl := so1 h
        exact bz_iret (pc := 97) X hM hr hlk dX11_worked_97 (Nat.le_of_ble_eq_true rfl) (Nat.le_of_ble_eq_true rfl)
      · have h := if_f hc h
        refine lv_iconst (pc := 92) (v := (1 : Int32)) hx hb dX11_worked_92 (by decide) ?_
        refine lv_goto (pc := 93) (tgt := 97) hx hb dX11_worked_93 (by decide) ?_
        obtain rfl := so1 h
        exact bz_iret (pc := 97) X hM hr hlk dX11_worked_97 (Nat.le_of_ble_eq_true rfl) (Nat.le_of_ble_eq_true rfl)
  have h := if_f hs124 h
  refine lv_lookup (pc := 1) (off := 168) (tgt := 169) hx hb dX11_worked_1 (by decide) (by show Op.lookupswitch.offset [(38, 97), (42, 152), (43, 144), (45, 148), (47, 156), (60, 111), (61, 122), (62, 133), (124, 83)] _ _ = _; rw [lv_osw hs38 (by decide), lv_osw hs42 (by decide), lv_osw hs43 (by decide), lv_osw hs45 (by decide), lv_osw hs47 (by decide), lv_osw hs60 (by decide), lv_osw hs61 (by decide), lv_osw hs62 (by decide), lv_osw hs124 (by decide)]; rfl) (by decide) ?_
  refine lv_iload_n (pc := 169) hx hb dX11_worked_169 rfl (lv_at hl 2 rfl) ?_
  refine lv_if_ne (pc := 170) (tgt := 177) hx hb dX11_worked_170 (by decide) (fun hc => ?_) (fun hc => ?_)
  · have h := if_f hc h
    refine lv_iload_n (pc := 177) hx hb dX11_worked_177 rfl (lv_at hl 1 rfl) ?_
    refine lv_iload_n (pc := 178) hx hb dX11_worked_178 rfl (lv_at hl 2 rfl) ?_
    obtain ⟨v3, e4, h⟩ := ob h
    refine bz_imod (pc := 179) hx hb e4 dX11_worked_179 ?_
    obtain rfl := so1 h
    exact bz_iret (pc := 180) X hM hr hlk dX11_worked_180 (Nat.le_of_ble_eq_true rfl) (Nat.le_of_ble_eq_true rfl)
  · have h := if_t hc h
    refine lv_iconst (pc := 173) (v := (0 : Int32)) hx hb dX11_worked_173 (by decide) ?_
    refine lv_goto (pc := 174) (tgt := 180) hx hb dX11_worked_174 (by decide) ?_
    obtain rfl := so1 h
    exact bz_iret (pc := 180) X hM hr hlk dX11_worked_180 (Nat.le_of_ble_eq_true rfl) (Nat.le_of_ble_eq_true rfl)
theorem ctX11_worked (l : Launch) {P : PT} {M : Mm} {a0 : Int32} {a1 : Int32} {a2 : Int32} {r9 : Int32} (h : fX11_worked M a0 a1 a2 = some r9) : Ct l yX11_worked cX11_worked 3 (some .int) 0 0 P [.int a0, .int a1, .int a2] M (some (.int r9)) M :=
  Ct.mk (by decide +kernel) (Nat.le_of_ble_eq_true rfl) (fun p e s m args below meth c hX => wX11_worked hX M a0 a1 a2 h)
set_option maxHeartbeats 4000000 in
set_option maxRecDepth 100000 in
theorem wBX11_says_14 {p : Program} {l : Launch} {e : Env} {s : State} {m : MethodId} {args : Array Value} {below : List Frame} {meth : Method} {c : Code} {P : PT} {N : Nat} {K14 : Mm → Nat → Int32 → Int32 → Int32 → Option (Int32 × Mm)}  {r9 : Int32} {M9 : Mm} (hX : Cy p s m args c meth cX11_says 6 RX11 "says" (some .int) P)  (hK14 : ∀ (M : Mm) (x0 : Nat) (x2 : Int32) (x3 : Int32) (x4 : Int32), K14 M x0 x2 x3 x4 = some (r9, M9) → Wq p l e s m args below meth c 1 0 (some (.int r9)) M9 6 P 0 14 [(0, .ref (pB P + x0)), (2, .int x2), (3, .int x3), (4, .int x4)] [] M) (M : Mm) (x0 : Nat) (x2 : Int32) (x3 : Int32) (x4 : Int32)  (h : BX11_says_14 N K14 M x0 x2 x3 x4 = some (r9, M9)) : Wq p l e s m args below meth c 1 0 (some (.int r9)) M9 6 P 0 14 [(0, .ref (pB P + x0)), (2, .int x2), (3, .int x3), (4, .int x4)] [] M := by
  unfold BX11_says_14 at h
  have hX0 := hX
  obtain ⟨X, hr, hlk, hnm⟩ := hX0
  have hx := X.1.1
  have hb := X.1.2.1
  intro H locs ls hM hl
  refine lv_iload (pc := 14) hx hb dX11_says_14 (lv_at hl 3 rfl) ?_
  refine lv_aload_n (pc := 16) hx hb dX11_says_16 rfl (lv_at hl 0 rfl) ?_
  obtain ⟨q1, e2, h⟩ := ob h
  refine bz_getQ (pc := 17) X hM fl_RX11_9 e2 dX11_says_17 ?_
  refine lv_iload_n (pc := 20) hx hb dX11_says_20 rfl (lv_at hl 1 rfl) ?_
  refine lv_iconst (pc := 21) (v := (1 : Int32)) hx hb dX11_says_21 (by decide) ?_
  refine lv_iadd (pc := 22) hx hb dX11_says_22 ?_
  obtain ⟨v3, e4, h⟩ := ob h
  refine bz_iald (pc := 23) X hM e4 dX11_says_23 ?_
  refine lv_icmp_ge (pc := 24) (tgt := 159) hx hb dX11_says_24 (by decide) (fun hc => ?_) (fun hc => ?_)
  · have h := if_t hc h
    refine lv_aload_n (pc := 159) hx hb dX11_says_159 rfl (lv_at hl 0 rfl) ?_
    obtain ⟨q5, e6, h⟩ := ob h
    refine bz_getQ (pc := 160) X hM fl_RX11_41 e6 dX11_says_160 ?_
    refine lv_iconst (pc := 163) (v := (0 : Int32)) hx hb dX11_says_163 (by decide) ?_
    obtain ⟨v7, e8, h⟩ := ob h
    refine bz_iald (pc := 164) X hM e8 dX11_says_164 ?_
    obtain ⟨rfl, rfl⟩ := so2 h
    exact bz_iret (pc := 165) X hM hr hlk dX11_says_165 (Nat.le_of_ble_eq_true rfl) (Nat.le_of_ble_eq_true rfl)
  · have h := if_f hc h
    refine lv_aload_n (pc := 27) hx hb dX11_says_27 rfl (lv_at hl 0 rfl) ?_
    obtain ⟨q9, e10, h⟩ := ob h
    refine bz_getQ (pc := 28) X hM fl_RX11_9 e10 dX11_says_28 ?_
    refine lv_iload_n (pc := 31) hx hb dX11_says_31 rfl (lv_at hl 1 rfl) ?_
    refine lv_iconst (pc := 32) (v := (2 : Int32)) hx hb dX11_says_32 (by decide) ?_
    refine lv_iadd (pc := 33) hx hb dX11_says_33 ?_
    refine lv_iload (pc := 34) hx hb dX11_says_34 (lv_at hl 3 rfl) ?_
    refine lv_iadd (pc := 36) hx hb dX11_says_36 ?_
    obtain ⟨v11, e12, h⟩ := ob h
    refine bz_iald (pc := 37) X hM e12 dX11_says_37 ?_
    refine lv_istore (pc := 38) (lv' := [(5, .int v11), (0, .ref (pB P + x0)), (2, .int x2), (3, .int x3), (4, .int x4)]) hx hb dX11_says_38 hl (by decide) rfl (fun ls hl => ?_)
    refine lv_iload (pc := 40) hx hb dX11_says_40 (lv_at hl 0 rfl) ?_
    refine lv_sipush (pc := 42) (v := (20000 : Int32)) hx hb dX11_says_42 (by decide) ?_
    refine lv_icmp_ge (pc := 45) (tgt := 84) hx hb dX11_says_45 (by decide) (fun hc => ?_) (fun hc => ?_)
    · have h := if_t hc h
      refine lv_iload (pc := 84) hx hb dX11_says_84 (lv_at hl 0 rfl) ?_
      refine lv_sipush (pc := 86) (v := (20033 : Int32)) hx hb dX11_says_86 (by decide) ?_
      refine lv_icmp_ne (pc := 89) (tgt := 119) hx hb dX11_says_89 (by decide) (fun hc => ?_) (fun hc => ?_)
      · have h := if_f hc h
        refine lv_iinc (pc := 119) (v := (x3 + (-1 : Int32))) (lv' := [(3, .int (x3 + (-1 : Int32))), (5, .int v11), (0, .ref (pB P + x0)), (2, .int x2), (4, .int x4)]) hx hb dX11_says_119 hl (k := 3) rfl rfl (by decide) rfl (fun ls hl => ?_)
        refine lv_aload_n (pc := 122) hx hb dX11_says_122 rfl (lv_at hl 2 rfl) ?_
        obtain ⟨q13, e14, h⟩ := ob h
        refine bz_getQ (pc := 123) X hM fl_RX11_41 e14 dX11_says_123 ?_
        refine lv_iload_n (pc := 126) hx hb dX11_says_126 rfl (lv_at hl 0 rfl) ?_
        refine lv_iconst (pc := 127) (v := (1 : Int32)) hx hb dX11_says_127 (by decide) ?_
        refine lv_isub (pc := 128) hx hb dX11_says_128 ?_
        refine lv_iload (pc := 129) hx hb dX11_says_129 (lv_at hl 1 rfl) ?_
        refine lv_sipush (pc := 131) (v := (20000 : Int32)) hx hb dX11_says_131 (by decide) ?_
        refine lv_isub (pc := 134) hx hb dX11_says_134 ?_
        refine lv_aload_n (pc := 135) hx hb dX11_says_135 rfl (lv_at hl 2 rfl) ?_
        obtain ⟨q15, e16, h⟩ := ob h
        refine bz_getQ (pc := 136) X hM fl_RX11_41 e16 dX11_says_136 ?_
        refine lv_iload_n (pc := 139) hx hb dX11_says_139 rfl (lv_at hl 0 rfl) ?_
        refine lv_iconst (pc := 140) (v := (1 : Int32)) hx hb dX11_says_140 (by decide) ?_
        refine lv_isub (pc := 141) hx hb dX11_says_141 ?_
        obtain ⟨v17, e18, h⟩ := ob h
        refine bz_iald (pc := 142) X hM e18 dX11_says_142 ?_
        refine lv_aload_n (pc := 143) hx hb dX11_says_143 rfl (lv_at hl 2 rfl) ?_
        obtain ⟨q19, e20, h⟩ := ob h
        refine bz_getQ (pc := 144) X hM fl_RX11_41 e20 dX11_says_144 ?_
        refine lv_iload_n (pc := 147) hx hb dX11_says_147 rfl (lv_at hl 0 rfl) ?_
        obtain ⟨v21, e22, h⟩ := ob h
        refine bz_iald (pc := 148) X hM e22 dX11_says_148 ?_
        obtain ⟨v24, e23, h⟩ := ob h
        refine bz_callS1 (pc := 149) (As := [.int (v11 - (20000 : Int32)), .int v17, .int v21]) (rest := [.int ((x3 + (-1 : Int32)) - (1 : Int32)), .ref (pB P + q13)]) X hM hl.1 k_RX11_205 (ctX11_worked l e23) rfl rfl ⟨(Nat.le_of_ble_eq_true rfl), (Nat.le_of_ble_eq_true rfl)⟩ (Nat.le_of_ble_eq_true rfl) ⟨(Nat.le_of_ble_eq_true rfl), (Nat.le_of_ble_eq_true rfl)⟩ dX11_says_149 (fun H locs hM => ?_)
        obtain ⟨M25, e26, h⟩ := ob h
        refine bz_iast (pc := 152) X hM e26 dX11_says_152 (fun H locs hM => ?_)
        refine lv_iinc (pc := 153) (v := (x4 + (1 : Int32))) (lv' := [(4, .int (x4 + (1 : Int32))), (3, .int (x3 + (-1 : Int32))), (5, .int v11), (0, .ref (pB P + x0)), (2, .int x2)]) hx hb dX11_says_153 hl (k := 4) rfl rfl (by decide) rfl (fun ls hl => ?_)
        refine lv_goto (pc := 156) (tgt := 14) hx hb dX11_says_156 (by decide) ?_
        exact hK14 _ _ _ _ _ h H locs ls hM (lv_sub hl [3, 4, 1, 0] rfl)
      · have h := if_t hc h
        refine lv_aload_n (pc := 92) hx hb dX11_says_92 rfl (lv_at hl 1 rfl) ?_
        obtain ⟨q27, e28, h⟩ := ob h
        refine bz_getQ (pc := 93) X hM fl_RX11_41 e28 dX11_says_93 ?_
        refine lv_iload_n (pc := 96) hx hb dX11_says_96 rfl (lv_at hl 3 rfl) ?_
        refine lv_iconst (pc := 97) (v := (1 : Int32)) hx hb dX11_says_97 (by decide) ?_
        refine lv_isub (pc := 98) hx hb dX11_says_98 ?_
        refine lv_aload_n (pc := 99) hx hb dX11_says_99 rfl (lv_at hl 1 rfl) ?_
        obtain ⟨q29, e30, h⟩ := ob h
        refine bz_getQ (pc := 100) X hM fl_RX11_41 e30 dX11_says_100 ?_
        refine lv_iload_n (pc := 103) hx hb dX11_says_103 rfl (lv_at hl 3 rfl) ?_
        refine lv_iconst (pc := 104) (v := (1 : Int32)) hx hb dX11_says_104 (by decide) ?_
        refine lv_isub (pc := 105) hx hb dX11_says_105 ?_
        obtain ⟨v31, e32, h⟩ := ob h
        refine bz_iald (pc := 106) X hM e32 dX11_says_106 ?_
        refine lv_if_ne (pc := 107) (tgt := 114) hx hb dX11_says_107 (by decide) (fun hc => ?_) (fun hc => ?_)
        · have h := if_f hc h
          refine lv_iconst (pc := 114) (v := (0 : Int32)) hx hb dX11_says_114 (by decide) ?_
          obtain ⟨M33, e34, h⟩ := ob h
          refine bz_iast (pc := 115) X hM e34 dX11_says_115 (fun H locs hM => ?_)
          refine lv_goto (pc := 116) (tgt := 153) hx hb dX11_says_116 (by decide) ?_
          refine lv_iinc (pc := 153) (v := (x4 + (1 : Int32))) (lv' := [(4, .int (x4 + (1 : Int32))), (5, .int v11), (0, .ref (pB P + x0)), (2, .int x2), (3, .int x3)]) hx hb dX11_says_153 hl (k := 4) rfl rfl (by decide) rfl (fun ls hl => ?_)
          refine lv_goto (pc := 156) (tgt := 14) hx hb dX11_says_156 (by decide) ?_
          exact hK14 _ _ _ _ _ h H locs ls hM (lv_sub hl [2, 3, 4, 0] rfl)
        · have h := if_t hc h
          refine lv_iconst (pc := 110) (v := (1 : Int32)) hx hb dX11_says_110 (by decide) ?_
          refine lv_goto (pc := 111) (tgt := 115) hx hb dX11_says_111 (by decide) ?_
          obtain ⟨M35, e36, h⟩ := ob h
          refine bz_iast (pc := 115) X hM e36 dX11_says_115 (fun H locs hM => ?_)
          refine lv_goto (pc := 116) (tgt := 153) hx hb dX11_says_116 (by decide) ?_
          refine lv_iinc (pc := 153) (v := (x4 + (1 : Int32))) (lv' := [(4, .int (x4 + (1 : Int32))), (5, .int v11), (0, .ref (pB P + x0)), (2, .int x2), (3, .int x3)]) hx hb dX11_says_153 hl (k := 4) rfl rfl (by decide) rfl (fun ls hl => ?_)
          refine lv_goto (pc := 156) (tgt := 14) hx hb dX11_says_156 (by decide) ?_
          exact hK14 _ _ _ _ _ h H locs ls hM (lv_sub hl [2, 3, 4, 0] rfl)
    · have h := if_f hc h
      refine lv_aload_n (pc := 48) hx hb dX11_says_48 rfl (lv_at hl 1 rfl) ?_
      obtain ⟨q37, e38, h⟩ := ob h
      refine bz_getQ (pc := 49) X hM fl_RX11_41 e38 dX11_says_49 ?_
      refine lv_iload_n (pc := 52) hx hb dX11_says_52 rfl (lv_at hl 3 rfl) ?_
      refine lv_iload (pc := 53) hx hb dX11_says_53 (lv_at hl 0 rfl) ?_
      refine lv_sipush (pc := 55) (v := (10000 : Int32)) hx hb dX11_says_55 (by decide) ?_
      refine lv_icmp_ge (pc := 58) (tgt := 66) hx hb dX11_says_58 (by decide) (fun hc => ?_) (fun hc => ?_)
      · have h := if_t hc h
        refine lv_aload_n (pc := 66) hx hb dX11_says_66 rfl (lv_at hl 1 rfl) ?_
        obtain ⟨q39, e40, h⟩ := ob h
        refine bz_getQ (pc := 67) X hM fl_RX11_38 e40 dX11_says_67 ?_
        refine lv_iload (pc := 70) hx hb dX11_says_70 (lv_at hl 0 rfl) ?_
        refine lv_sipush (pc := 72) (v := (10000 : Int32)) hx hb dX11_says_72 (by decide) ?_
        refine lv_isub (pc := 75) hx hb dX11_says_75 ?_
        obtain ⟨v41, e42, h⟩ := ob h
        refine bz_iald (pc := 76) X hM e42 dX11_says_76 ?_
        obtain ⟨M43, e44, h⟩ := ob h
        refine bz_iast (pc := 77) X hM e44 dX11_says_77 (fun H locs hM => ?_)
        refine lv_iinc (pc := 78) (v := (x3 + (1 : Int32))) (lv' := [(3, .int (x3 + (1 : Int32))), (5, .int v11), (0, .ref (pB P + x0)), (2, .int x2), (4, .int x4)]) hx hb dX11_says_78 hl (k := 3) rfl rfl (by decide) rfl (fun ls hl => ?_)
        refine lv_goto (pc := 81) (tgt := 153) hx hb dX11_says_81 (by decide) ?_
        refine lv_iinc (pc := 153) (v := (x4 + (1 : Int32))) (lv' := [(4, .int (x4 + (1 : Int32))), (3, .int (x3 + (1 : Int32))), (5, .int v11), (0, .ref (pB P + x0)), (2, .int x2)]) hx hb dX11_says_153 hl (k := 4) rfl rfl (by decide) rfl (fun ls hl => ?_)
        refine lv_goto (pc := 156) (tgt := 14) hx hb dX11_says_156 (by decide) ?_
        exact hK14 _ _ _ _ _ h H locs ls hM (lv_sub hl [3, 4, 1, 0] rfl)
      · have h := if_f hc h
        refine lv_iload (pc := 61) hx hb dX11_says_61 (lv_at hl 0 rfl) ?_
        refine lv_goto (pc := 63) (tgt := 77) hx hb dX11_says_63 (by decide) ?_
        obtain ⟨M45, e46, h⟩ := ob h
        refine bz_iast (pc := 77) X hM e46 dX11_says_77 (fun H locs hM => ?_)
        refine lv_iinc (pc := 78) (v := (x3 + (1 : Int32))) (lv' := [(3, .int (x3 + (1 : Int32))), (5, .int v11), (0, .ref (pB P + x0)), (2, .int x2), (4, .int x4)]) hx hb dX11_says_78 hl (k := 3) rfl rfl (by decide) rfl (fun ls hl => ?_)
        refine lv_goto (pc := 81) (tgt := 153) hx hb dX11_says_81 (by decide) ?_
        refine lv_iinc (pc := 153) (v := (x4 + (1 : Int32))) (lv' := [(4, .int (x4 + (1 : Int32))), (3, .int (x3 + (1 : Int32))), (5, .int v11), (0, .ref (pB P + x0)), (2, .int x2)]) hx hb dX11_says_153 hl (k := 4) rfl rfl (by decide) rfl (fun ls hl => ?_)
        refine lv_goto (pc := 156) (tgt := 14) hx hb dX11_says_156 (by decide) ?_
        exact hK14 _ _ _ _ _ h H locs ls hM (lv_sub hl [3, 4, 1, 0] rfl)
set_option maxHeartbeats 4000000 in
set_option maxRecDepth 100000 in
theorem wLX11_says_14 {p : Program} {l : Launch} {e : Env} {s : State} {m : MethodId} {args : Array Value} {below : List Frame} {meth : Method} {c : Code} {P : PT} {N : Nat}  {r9 : Int32} {M9 : Mm} (hX : Cy p s m args c meth cX11_says 6 RX11 "says" (some .int) P)   : ∀ (n : Nat) (M : Mm) (x0 : Nat) (x2 : Int32) (x3 : Int32) (x4 : Int32) , LX11_says_14 N n M x0 x2 x3 x4 = some (r9, M9) → Wq p l e s m args below meth c 1 0 (some (.int r9)) M9 6 P 0 14 [(0, .ref (pB P + x0)), (2, .int x2), (3, .int x3), (4, .int x4)] [] M := by
  intro n
  induction n with
  | zero => intro M x0 x2 x3 x4 h; cases h
  | succ n ih => intro M x0 x2 x3 x4 h; exact wBX11_says_14 hX ih M x0 x2 x3 x4 h
set_option maxHeartbeats 4000000 in
set_option maxRecDepth 100000 in
theorem wX11_says {p : Program} {l : Launch} {e : Env} {s : State} {m : MethodId} {args : Array Value} {below : List Frame} {meth : Method} {c : Code} {P : PT} {N : Nat}  {r9 : Int32} {M9 : Mm} (hX : Cy p s m args c meth cX11_says 6 RX11 "says" (some .int) P)  (M : Mm) (a0 : Nat) (a1 : Int32) (h : fX11_says N M a0 a1 = some (r9, M9)) : Wq p l e s m args below meth c 1 0 (some (.int r9)) M9 6 P 0 0 [(0, .ref (pB P + a0)), (1, .int a1)] [] M := by
  unfold fX11_says at h
  obtain ⟨_, _, h⟩ := ob h
  have hX0 := hX
  obtain ⟨X, hr, hlk, hnm⟩ := hX0
  have hx := X.1.1
  have hb := X.1.2.1
  intro H locs ls hM hl
  refine lv_sipush (pc := 0) (v := (482 : Int32)) hx hb dX11_says_0 (by decide) ?_
  refine lv_bipush (pc := 3) (v := (52 : Int32)) hx hb dX11_says_3 (by decide) ?_
  refine lv_iload_n (pc := 5) hx hb dX11_says_5 rfl (lv_at hl 1 rfl) ?_
  refine lv_imul (pc := 6) hx hb dX11_says_6 ?_
  refine lv_iadd (pc := 7) hx hb dX11_says_7 ?_
  refine lv_istore_n (pc := 8) (lv' := [(2, .int ((482 : Int32) + ((52 : Int32) * a1))), (0, .ref (pB P + a0)), (1, .int a1)]) hx hb dX11_says_8 rfl hl (by decide) rfl (fun ls hl => ?_)
  refine lv_iconst (pc := 9) (v := (0 : Int32)) hx hb dX11_says_9 (by decide) ?_
  refine lv_istore_n (pc := 10) (lv' := [(3, .int (0 : Int32)), (2, .int ((482 : Int32) + ((52 : Int32) * a1))), (0, .ref (pB P + a0)), (1, .int a1)]) hx hb dX11_says_10 rfl hl (by decide) rfl (fun ls hl => ?_)
  refine lv_iconst (pc := 11) (v := (0 : Int32)) hx hb dX11_says_11 (by decide) ?_
  refine lv_istore (pc := 12) (lv' := [(4, .int (0 : Int32)), (3, .int (0 : Int32)), (2, .int ((482 : Int32) + ((52 : Int32) * a1))), (0, .ref (pB P + a0)), (1, .int a1)]) hx hb dX11_says_12 hl (by decide) rfl (fun ls hl => ?_)
  exact wLX11_says_14 hX _ _ _ _ _ _ h H locs ls hM (lv_sub hl [3, 2, 1, 0] rfl)
theorem rX11_says {N : Nat} {M : Mm} {a0 : Nat} {a1 : Int32} {r9 : Int32 × Mm} (h : fX11_says N M a0 a1 = some r9) : ∃ fs, M[a0]? = some (.inr (11, fs)) := by
  unfold fX11_says at h
  obtain ⟨_, e1, _⟩ := ob h
  exact gC_spec e1
theorem ctX11_says (l : Launch) {P : PT} {N : Nat} {M : Mm} {a0 : Nat} {a1 : Int32} {r9 : Int32} {M9 : Mm} (h : fX11_says N M a0 a1 = some (r9, M9)) : Ct l yX11_says cX11_says 6 (some .int) 1 0 P [.ref (pB P + a0), .int a1] M (some (.int r9)) M9 :=
  Ct.mk (by decide +kernel) (Nat.le_of_ble_eq_true rfl) (fun p e s m args below meth c hX => wX11_says hX M a0 a1 h)
set_option maxHeartbeats 4000000 in
set_option maxRecDepth 100000 in
theorem wBX11_readAll_2 {p : Program} {l : Launch} {e : Env} {s : State} {m : MethodId} {args : Array Value} {below : List Frame} {meth : Method} {c : Code} {P : PT} {N : Nat} {K2 : Mm → Nat → Int32 → Option (Mm)}  {M9 : Mm} (hX : Cy p s m args c meth cX11_readAll 4 RX11 "readAll" none P)  (hK2 : ∀ (M : Mm) (x0 : Nat) (x1 : Int32), K2 M x0 x1 = some M9 → Wq p l e s m args below meth c 3 0 none M9 4 P 0 2 [(0, .ref (pB P + x0)), (1, .int x1)] [] M) (M : Mm) (x0 : Nat) (x1 : Int32)  (h : BX11_readAll_2 N K2 M x0 x1 = some M9) : Wq p l e s m args below meth c 3 0 none M9 4 P 0 2 [(0, .ref (pB P + x0)), (1, .int x1)] [] M := by
  unfold BX11_readAll_2 at h
  have hX0 := hX
  obtain ⟨X, hr, hlk, hnm⟩ := hX0
  have hx := X.1.1
  have hb := X.1.2.1
  intro H locs ls hM hl
  refine lv_iload_n (pc := 2) hx hb dX11_readAll_2 rfl (lv_at hl 1 rfl) ?_
  refine lv_aload_n (pc := 3) hx hb dX11_readAll_3 rfl (lv_at hl 0 rfl) ?_
  obtain ⟨q1, e2, h⟩ := ob h
  refine bz_getQ (pc := 4) X hM fl_RX11_9 e2 dX11_readAll_4 ?_
  refine lv_iconst (pc := 7) (v := (1 : Int32)) hx hb dX11_readAll_7 (by decide) ?_
  obtain ⟨v3, e4, h⟩ := ob h
  refine bz_iald (pc := 8) X hM e4 dX11_readAll_8 ?_
  refine lv_icmp_ge (pc := 9) (tgt := 139) hx hb dX11_readAll_9 (by decide) (fun hc => ?_) (fun hc => ?_)
  · have h := if_t hc h
    obtain rfl := so1 h
    exact bz_vret (pc := 139) X hM hr hlk dX11_readAll_139 (Nat.le_of_ble_eq_true rfl) (Nat.le_of_ble_eq_true rfl)
  · have h := if_f hc h
    refine lv_aload_n (pc := 12) hx hb dX11_readAll_12 rfl (lv_at hl 0 rfl) ?_
    refine lv_iload_n (pc := 13) hx hb dX11_readAll_13 rfl (lv_at hl 1 rfl) ?_
    refine lv_iconst (pc := 14) (v := (0 : Int32)) hx hb dX11_readAll_14 (by decide) ?_
    obtain ⟨v6, e5, h⟩ := ob h
    obtain ⟨fs7, hb8⟩ := (rX11_ring e5)
    refine bz_callV1 (pc := 15) (As := [.int x1, .int (0 : Int32)]) (rest := []) X hM hl.1 k_RX11_87 (ctX11_ring l e5) rfl hb8 rfl rfl ⟨(Nat.le_of_ble_eq_true rfl), (Nat.le_of_ble_eq_true rfl)⟩ (Nat.le_of_ble_eq_true rfl) ⟨(Nat.le_of_ble_eq_true rfl), (Nat.le_of_ble_eq_true rfl)⟩ dX11_readAll_15 (fun H locs hM => ?_)
    refine lv_istore_n (pc := 18) (lv' := [(2, .int v6), (0, .ref (pB P + x0)), (1, .int x1)]) hx hb dX11_readAll_18 rfl hl (by decide) rfl (fun ls hl => ?_)
    refine lv_aload_n (pc := 19) hx hb dX11_readAll_19 rfl (lv_at hl 1 rfl) ?_
    obtain ⟨q9, e10, h⟩ := ob h
    refine bz_getQ (pc := 20) X hM fl_RX11_19 e10 dX11_readAll_20 ?_
    refine lv_iload_n (pc := 23) hx hb dX11_readAll_23 rfl (lv_at hl 2 rfl) ?_
    refine lv_aload_n (pc := 24) hx hb dX11_readAll_24 rfl (lv_at hl 1 rfl) ?_
    refine lv_iload_n (pc := 25) hx hb dX11_readAll_25 rfl (lv_at hl 2 rfl) ?_
    obtain ⟨v12, e11, h⟩ := ob h
    obtain ⟨fs13, hb14⟩ := (rX11_shownOf e11)
    refine bz_callV1 (pc := 26) (As := [.int x1]) (rest := [.int x1, .ref (pB P + q9)]) X hM hl.1 k_RX11_102 (ctX11_shownOf l e11) rfl hb14 rfl rfl ⟨(Nat.le_of_ble_eq_true rfl), (Nat.le_of_ble_eq_true rfl)⟩ (Nat.le_of_ble_eq_true rfl) ⟨(Nat.le_of_ble_eq_true rfl), (Nat.le_of_ble_eq_true rfl)⟩ dX11_readAll_26 (fun H locs hM => ?_)
    obtain ⟨M15, e16, h⟩ := ob h
    refine bz_iast (pc := 29) X hM e16 dX11_readAll_29 (fun H locs hM => ?_)
    refine lv_aload_n (pc := 30) hx hb dX11_readAll_30 rfl (lv_at hl 1 rfl) ?_
    obtain ⟨q17, e18, h⟩ := ob h
    refine bz_getQ (pc := 31) X hM fl_RX11_9 e18 dX11_readAll_31 ?_
    refine lv_bipush (pc := 34) (v := (12 : Int32)) hx hb dX11_readAll_34 (by decide) ?_
    refine lv_iload_n (pc := 36) hx hb dX11_readAll_36 rfl (lv_at hl 0 rfl) ?_
    refine lv_iadd (pc := 37) hx hb dX11_readAll_37 ?_
    obtain ⟨v19, e20, h⟩ := ob h
    refine bz_iald (pc := 38) X hM e20 dX11_readAll_38 ?_
    refine lv_istore_n (pc := 39) (lv' := [(3, .int v19), (2, .int v6), (0, .ref (pB P + x0)), (1, .int x1)]) hx hb dX11_readAll_39 rfl hl (by decide) rfl (fun ls hl => ?_)
    refine lv_aload_n (pc := 40) hx hb dX11_readAll_40 rfl (lv_at hl 2 rfl) ?_
    obtain ⟨q21, e22, h⟩ := ob h
    refine bz_getQ (pc := 41) X hM fl_RX11_22 e22 dX11_readAll_41 ?_
    refine lv_iload_n (pc := 44) hx hb dX11_readAll_44 rfl (lv_at hl 3 rfl) ?_
    refine lv_iconst (pc := 45) (v := (1 : Int32)) hx hb dX11_readAll_45 (by decide) ?_
    obtain ⟨M23, e24, h⟩ := ob h
    refine bz_zast (pc := 46) X hM (by decide) e24 dX11_readAll_46 (fun H locs hM => ?_)
    refine lv_aload_n (pc := 47) hx hb dX11_readAll_47 rfl (lv_at hl 2 rfl) ?_
    obtain ⟨q25, e26, h⟩ := ob h
    refine bz_getQ (pc := 48) X hM fl_RX11_9 e26 dX11_readAll_48 ?_
    refine lv_sipush (pc := 51) (v := (482 : Int32)) hx hb dX11_readAll_51 (by decide) ?_
    refine lv_bipush (pc := 54) (v := (52 : Int32)) hx hb dX11_readAll_54 (by decide) ?_
    refine lv_iload_n (pc := 56) hx hb dX11_readAll_56 rfl (lv_at hl 0 rfl) ?_
    refine lv_imul (pc := 57) hx hb dX11_readAll_57 ?_
    refine lv_iadd (pc := 58) hx hb dX11_readAll_58 ?_
    obtain ⟨v27, e28, h⟩ := ob h
    refine bz_iald (pc := 59) X hM e28 dX11_readAll_59 ?_
    refine lv_if_ne (pc := 60) (tgt := 66) hx hb dX11_readAll_60 (by decide) (fun hc => ?_) (fun hc => ?_)
    · have h := if_f hc h
      refine lv_aload_n (pc := 66) hx hb dX11_readAll_66 rfl (lv_at hl 2 rfl) ?_
      obtain ⟨q29, e30, h⟩ := ob h
      refine bz_getQ (pc := 67) X hM fl_RX11_38 e30 dX11_readAll_67 ?_
      refine lv_iconst (pc := 70) (v := (0 : Int32)) hx hb dX11_readAll_70 (by decide) ?_
      refine lv_aload_n (pc := 71) hx hb dX11_readAll_71 rfl (lv_at hl 2 rfl) ?_
      refine lv_iload_n (pc := 72) hx hb dX11_readAll_72 rfl (lv_at hl 3 rfl) ?_
      refine lv_iconst (pc := 73) (v := (2 : Int32)) hx hb dX11_readAll_73 (by decide) ?_
      obtain ⟨v32, e31, h⟩ := ob h
      obtain ⟨fs33, hb34⟩ := (rX11_ring e31)
      refine bz_callV1 (pc := 74) (As := [.int x1, .int (2 : Int32)]) (rest := [.int (0 : Int32), .ref (pB P + q29)]) X hM hl.1 k_RX11_87 (ctX11_ring l e31) rfl hb34 rfl rfl ⟨(Nat.le_of_ble_eq_true rfl), (Nat.le_of_ble_eq_true rfl)⟩ (Nat.le_of_ble_eq_true rfl) ⟨(Nat.le_of_ble_eq_true rfl), (Nat.le_of_ble_eq_true rfl)⟩ dX11_readAll_74 (fun H locs hM => ?_)
      obtain ⟨M35, e36, h⟩ := ob h
      refine bz_iast (pc := 77) X hM e36 dX11_readAll_77 (fun H locs hM => ?_)
      refine lv_aload_n (pc := 78) hx hb dX11_readAll_78 rfl (lv_at hl 2 rfl) ?_
      obtain ⟨q37, e38, h⟩ := ob h
      refine bz_getQ (pc := 79) X hM fl_RX11_38 e38 dX11_readAll_79 ?_
      refine lv_iconst (pc := 82) (v := (1 : Int32)) hx hb dX11_readAll_82 (by decide) ?_
      refine lv_aload_n (pc := 83) hx hb dX11_readAll_83 rfl (lv_at hl 2 rfl) ?_
      refine lv_iload_n (pc := 84) hx hb dX11_readAll_84 rfl (lv_at hl 3 rfl) ?_
      obtain ⟨v40, e39, h⟩ := ob h
      obtain ⟨fs41, hb42⟩ := (rX11_gapOf e39)
      refine bz_callV1 (pc := 85) (As := [.int x1]) (rest := [.int (1 : Int32), .ref (pB P + q37)]) X hM hl.1 k_RX11_105 (ctX11_gapOf l e39) rfl hb42 rfl rfl ⟨(Nat.le_of_ble_eq_true rfl), (Nat.le_of_ble_eq_true rfl)⟩ (Nat.le_of_ble_eq_true rfl) ⟨(Nat.le_of_ble_eq_true rfl), (Nat.le_of_ble_eq_true rfl)⟩ dX11_readAll_85 (fun H locs hM => ?_)
      obtain ⟨M43, e44, h⟩ := ob h
      refine bz_iast (pc := 88) X hM e44 dX11_readAll_88 (fun H locs hM => ?_)
      refine lv_aload_n (pc := 89) hx hb dX11_readAll_89 rfl (lv_at hl 2 rfl) ?_
      obtain ⟨q45, e46, h⟩ := ob h
      refine bz_getQ (pc := 90) X hM fl_RX11_38 e46 dX11_readAll_90 ?_
      refine lv_iconst (pc := 93) (v := (2 : Int32)) hx hb dX11_readAll_93 (by decide) ?_
      refine lv_aload_n (pc := 94) hx hb dX11_readAll_94 rfl (lv_at hl 2 rfl) ?_
      obtain ⟨q47, e48, h⟩ := ob h
      refine bz_getQ (pc := 95) X hM fl_RX11_19 e48 dX11_readAll_95 ?_
      refine lv_iload_n (pc := 98) hx hb dX11_readAll_98 rfl (lv_at hl 3 rfl) ?_
      obtain ⟨v49, e50, h⟩ := ob h
      refine bz_iald (pc := 99) X hM e50 dX11_readAll_99 ?_
      refine lv_sipush (pc := 100) (v := (240 : Int32)) hx hb dX11_readAll_100 (by decide) ?_
      obtain ⟨v52, e51, h⟩ := ob h
      refine bz_callS1 (pc := 103) (As := [.int v49, .int (240 : Int32)]) (rest := [.int (2 : Int32), .ref (pB P + q45)]) X hM hl.1 k_RX11_111 (ctX11_rest l e51) rfl rfl ⟨(Nat.le_of_ble_eq_true rfl), (Nat.le_of_ble_eq_true rfl)⟩ (Nat.le_of_ble_eq_true rfl) ⟨(Nat.le_of_ble_eq_true rfl), (Nat.le_of_ble_eq_true rfl)⟩ dX11_readAll_103 (fun H locs hM => ?_)
      obtain ⟨M53, e54, h⟩ := ob h
      refine bz_iast (pc := 106) X hM e54 dX11_readAll_106 (fun H locs hM => ?_)
      refine lv_aload_n (pc := 107) hx hb dX11_readAll_107 rfl (lv_at hl 2 rfl) ?_
      obtain ⟨q55, e56, h⟩ := ob h
      refine bz_getQ (pc := 108) X hM fl_RX11_38 e56 dX11_readAll_108 ?_
      refine lv_iconst (pc := 111) (v := (3 : Int32)) hx hb dX11_readAll_111 (by decide) ?_
      refine lv_iload_n (pc := 112) hx hb dX11_readAll_112 rfl (lv_at hl 1 rfl) ?_
      obtain ⟨M57, e58, h⟩ := ob h
      refine bz_iast (pc := 113) X hM e58 dX11_readAll_113 (fun H locs hM => ?_)
      refine lv_aload_n (pc := 114) hx hb dX11_readAll_114 rfl (lv_at hl 2 rfl) ?_
      obtain ⟨q59, e60, h⟩ := ob h
      refine bz_getQ (pc := 115) X hM fl_RX11_22 e60 dX11_readAll_115 ?_
      refine lv_iload_n (pc := 118) hx hb dX11_readAll_118 rfl (lv_at hl 3 rfl) ?_
      refine lv_aload_n (pc := 119) hx hb dX11_readAll_119 rfl (lv_at hl 2 rfl) ?_
      refine lv_iload_n (pc := 120) hx hb dX11_readAll_120 rfl (lv_at hl 0 rfl) ?_
      obtain ⟨v62, M63, e61, h⟩ := ob2 h
      obtain ⟨fs64, hb65⟩ := (rX11_says e61)
      refine bz_callV1 (pc := 121) (As := [.int v19]) (rest := [.int x1, .ref (pB P + q59)]) X hM hl.1 k_RX11_114 (ctX11_says l e61) rfl hb65 rfl rfl ⟨(Nat.le_of_ble_eq_true rfl), (Nat.le_of_ble_eq_true rfl)⟩ (Nat.le_of_ble_eq_true rfl) ⟨(Nat.le_of_ble_eq_true rfl), (Nat.le_of_ble_eq_true rfl)⟩ dX11_readAll_121 (fun H locs hM => ?_)
      refine lv_if_eq (pc := 124) (tgt := 131) hx hb dX11_readAll_124 (by decide) (fun hc => ?_) (fun hc => ?_)
      · have h := if_t hc h
        refine lv_iconst (pc := 131) (v := (0 : Int32)) hx hb dX11_readAll_131 (by decide) ?_
        obtain ⟨M66, e67, h⟩ := ob h
        refine bz_zast (pc := 132) X hM (by decide) e67 dX11_readAll_132 (fun H locs hM => ?_)
        refine lv_iinc (pc := 133) (v := (x1 + (1 : Int32))) (lv' := [(1, .int (x1 + (1 : Int32))), (3, .int v19), (2, .int v6), (0, .ref (pB P + x0))]) hx hb dX11_readAll_133 hl (k := 3) rfl rfl (by decide) rfl (fun ls hl => ?_)
        refine lv_goto (pc := 136) (tgt := 2) hx hb dX11_readAll_136 (by decide) ?_
        exact hK2 _ _ _ h H locs ls hM (lv_sub hl [3, 0] rfl)
      · have h := if_f hc h
        refine lv_iconst (pc := 127) (v := (1 : Int32)) hx hb dX11_readAll_127 (by decide) ?_
        refine lv_goto (pc := 128) (tgt := 132) hx hb dX11_readAll_128 (by decide) ?_
        obtain ⟨M68, e69, h⟩ := ob h
        refine bz_zast (pc := 132) X hM (by decide) e69 dX11_readAll_132 (fun H locs hM => ?_)
        refine lv_iinc (pc := 133) (v := (x1 + (1 : Int32))) (lv' := [(1, .int (x1 + (1 : Int32))), (3, .int v19), (2, .int v6), (0, .ref (pB P + x0))]) hx hb dX11_readAll_133 hl (k := 3) rfl rfl (by decide) rfl (fun ls hl => ?_)
        refine lv_goto (pc := 136) (tgt := 2) hx hb dX11_readAll_136 (by decide) ?_
        exact hK2 _ _ _ h H locs ls hM (lv_sub hl [3, 0] rfl)
    · have h := if_t hc h
      refine lv_goto (pc := 63) (tgt := 133) hx hb dX11_readAll_63 (by decide) ?_
      refine lv_iinc (pc := 133) (v := (x1 + (1 : Int32))) (lv' := [(1, .int (x1 + (1 : Int32))), (3, .int v19), (2, .int v6), (0, .ref (pB P + x0))]) hx hb dX11_readAll_133 hl (k := 3) rfl rfl (by decide) rfl (fun ls hl => ?_)
      refine lv_goto (pc := 136) (tgt := 2) hx hb dX11_readAll_136 (by decide) ?_
      exact hK2 _ _ _ h H locs ls hM (lv_sub hl [3, 0] rfl)
set_option maxHeartbeats 4000000 in
set_option maxRecDepth 100000 in
theorem wLX11_readAll_2 {p : Program} {l : Launch} {e : Env} {s : State} {m : MethodId} {args : Array Value} {below : List Frame} {meth : Method} {c : Code} {P : PT} {N : Nat}  {M9 : Mm} (hX : Cy p s m args c meth cX11_readAll 4 RX11 "readAll" none P)   : ∀ (n : Nat) (M : Mm) (x0 : Nat) (x1 : Int32) , LX11_readAll_2 N n M x0 x1 = some M9 → Wq p l e s m args below meth c 3 0 none M9 4 P 0 2 [(0, .ref (pB P + x0)), (1, .int x1)] [] M := by
  intro n
  induction n with
  | zero => intro M x0 x1 h; cases h
  | succ n ih => intro M x0 x1 h; exact wBX11_readAll_2 hX ih M x0 x1 h
set_option maxHeartbeats 4000000 in
set_option maxRecDepth 100000 in
theorem wX11_readAll {p : Program} {l : Launch} {e : Env} {s : State} {m : MethodId} {args : Array Value} {below : List Frame} {meth : Method} {c : Code} {P : PT} {N : Nat}  {M9 : Mm} (hX : Cy p s m args c meth cX11_readAll 4 RX11 "readAll" none P)  (M : Mm) (a0 : Nat) (h : fX11_readAll N M a0 = some M9) : Wq p l e s m args below meth c 3 0 none M9 4 P 0 0 [(0, .ref (pB P + a0))] [] M := by
  unfold fX11_readAll at h
  obtain ⟨_, _, h⟩ := ob h
  have hX0 := hX
  obtain ⟨X, hr, hlk, hnm⟩ := hX0
  have hx := X.1.1
  have hb := X.1.2.1
  intro H locs ls hM hl
  refine lv_iconst (pc := 0) (v := (0 : Int32)) hx hb dX11_readAll_0 (by decide) ?_
  refine lv_istore_n (pc := 1) (lv' := [(1, .int (0 : Int32)), (0, .ref (pB P + a0))]) hx hb dX11_readAll_1 rfl hl (by decide) rfl (fun ls hl => ?_)
  exact wLX11_readAll_2 hX _ _ _ _ h H locs ls hM (lv_sub hl [1, 0] rfl)
theorem rX11_readAll {N : Nat} {M : Mm} {a0 : Nat} {r9 : Mm} (h : fX11_readAll N M a0 = some r9) : ∃ fs, M[a0]? = some (.inr (11, fs)) := by
  unfold fX11_readAll at h
  obtain ⟨_, e1, _⟩ := ob h
  exact gC_spec e1
theorem ctX11_readAll (l : Launch) {P : PT} {N : Nat} {M : Mm} {a0 : Nat} {M9 : Mm} (h : fX11_readAll N M a0 = some M9) : Ct l yX11_readAll cX11_readAll 4 none 3 0 P [.ref (pB P + a0)] M none M9 :=
  Ct.mk (by decide +kernel) (Nat.le_of_ble_eq_true rfl) (fun p e s m args below meth c hX => wX11_readAll hX M a0 h)
set_option maxHeartbeats 4000000 in
set_option maxRecDepth 100000 in
theorem wX11_isCounted {p : Program} {l : Launch} {e : Env} {s : State} {m : MethodId} {args : Array Value} {below : List Frame} {meth : Method} {c : Code} {P : PT}  {r9 : Int32} (hX : Cy p s m args c meth cX11_isCounted 4 RX11 "isCounted" (some .boolean) P)  (M : Mm) (a0 : Nat) (a1 : Int32) (a2 : Int32) (a3 : Int32) (h : fX11_isCounted M a0 a1 a2 a3 = some r9) : Wq p l e s m args below meth c 1 0 (some (.int r9)) M 4 P 0 0 [(0, .ref (pB P + a0)), (1, .int a1), (2, .int a2), (3, .int a3)] [] M := by
  unfold fX11_isCounted at h
  obtain ⟨_, _, h⟩ := ob h
  have hX0 := hX
  obtain ⟨X, hr, hlk, hnm⟩ := hX0
  have hx := X.1.1
  have hb := X.1.2.1
  intro H locs ls hM hl
  refine lv_aload_n (pc := 0) hx hb dX11_isCounted_0 rfl (lv_at hl 0 rfl) ?_
  refine lv_iload_n (pc := 1) hx hb dX11_isCounted_1 rfl (lv_at hl 1 rfl) ?_
  refine lv_iconst (pc := 2) (v := (0 : Int32)) hx hb dX11_isCounted_2 (by decide) ?_
  obtain ⟨v2, e1, h⟩ := ob h
  obtain ⟨fs3, hb4⟩ := (rX11_ring e1)
  refine bz_callV1 (pc := 3) (As := [.int a1, .int (0 : Int32)]) (rest := []) X hM hl.1 k_RX11_87 (ctX11_ring l e1) rfl hb4 rfl rfl ⟨(Nat.le_of_ble_eq_true rfl), (Nat.le_of_ble_eq_true rfl)⟩ (Nat.le_of_ble_eq_true rfl) ⟨(Nat.le_of_ble_eq_true rfl), (Nat.le_of_ble_eq_true rfl)⟩ dX11_isCounted_3 (fun H locs hM => ?_)
  refine lv_iload_n (pc := 6) hx hb dX11_isCounted_6 rfl (lv_at hl 2 rfl) ?_
  refine lv_icmp_ne (pc := 7) (tgt := 33) hx hb dX11_isCounted_7 (by decide) (fun hc => ?_) (fun hc => ?_)
  · have h := if_f hc h
    refine lv_iconst (pc := 33) (v := (0 : Int32)) hx hb dX11_isCounted_33 (by decide) ?_
    obtain rfl := so1 h
    exact bz_zret (pc := 34) X hM hr hlk (by decide) dX11_isCounted_34 (Nat.le_of_ble_eq_true rfl) (Nat.le_of_ble_eq_true rfl)
  · have h := if_t hc h
    refine lv_aload_n (pc := 10) hx hb dX11_isCounted_10 rfl (lv_at hl 0 rfl) ?_
    refine lv_iload_n (pc := 11) hx hb dX11_isCounted_11 rfl (lv_at hl 1 rfl) ?_
    refine lv_iconst (pc := 12) (v := (2 : Int32)) hx hb dX11_isCounted_12 (by decide) ?_
    obtain ⟨v6, e5, h⟩ := ob h
    obtain ⟨fs7, hb8⟩ := (rX11_ring e5)
    refine bz_callV1 (pc := 13) (As := [.int a1, .int (2 : Int32)]) (rest := []) X hM hl.1 k_RX11_87 (ctX11_ring l e5) rfl hb8 rfl rfl ⟨(Nat.le_of_ble_eq_true rfl), (Nat.le_of_ble_eq_true rfl)⟩ (Nat.le_of_ble_eq_true rfl) ⟨(Nat.le_of_ble_eq_true rfl), (Nat.le_of_ble_eq_true rfl)⟩ dX11_isCounted_13 (fun H locs hM => ?_)
    refine lv_iload_n (pc := 16) hx hb dX11_isCounted_16 rfl (lv_at hl 3 rfl) ?_
    refine lv_icmp_le (pc := 17) (tgt := 33) hx hb dX11_isCounted_17 (by decide) (fun hc => ?_) (fun hc => ?_)
    · have h := if_t hc h
      refine lv_iconst (pc := 33) (v := (0 : Int32)) hx hb dX11_isCounted_33 (by decide) ?_
      obtain rfl := so1 h
      exact bz_zret (pc := 34) X hM hr hlk (by decide) dX11_isCounted_34 (Nat.le_of_ble_eq_true rfl) (Nat.le_of_ble_eq_true rfl)
    · have h := if_f hc h
      refine lv_aload_n (pc := 20) hx hb dX11_isCounted_20 rfl (lv_at hl 0 rfl) ?_
      obtain ⟨q9, e10, h⟩ := ob h
      refine bz_getQ (pc := 21) X hM fl_RX11_22 e10 dX11_isCounted_21 ?_
      refine lv_iload_n (pc := 24) hx hb dX11_isCounted_24 rfl (lv_at hl 1 rfl) ?_
      obtain ⟨v11, e12, h⟩ := ob h
      refine bz_zald (pc := 25) X hM e12 dX11_isCounted_25 ?_
      refine lv_if_eq (pc := 26) (tgt := 33) hx hb dX11_isCounted_26 (by decide) (fun hc => ?_) (fun hc => ?_)
      · have h := if_t hc h
        refine lv_iconst (pc := 33) (v := (0 : Int32)) hx hb dX11_isCounted_33 (by decide) ?_
        obtain rfl := so1 h
        exact bz_zret (pc := 34) X hM hr hlk (by decide) dX11_isCounted_34 (Nat.le_of_ble_eq_true rfl) (Nat.le_of_ble_eq_true rfl)
      · have h := if_f hc h
        refine lv_iconst (pc := 29) (v := (1 : Int32)) hx hb dX11_isCounted_29 (by decide) ?_
        refine lv_goto (pc := 30) (tgt := 34) hx hb dX11_isCounted_30 (by decide) ?_
        obtain rfl := so1 h
        exact bz_zret (pc := 34) X hM hr hlk (by decide) dX11_isCounted_34 (Nat.le_of_ble_eq_true rfl) (Nat.le_of_ble_eq_true rfl)
theorem rX11_isCounted {M : Mm} {a0 : Nat} {a1 : Int32} {a2 : Int32} {a3 : Int32} {r9 : Int32} (h : fX11_isCounted M a0 a1 a2 a3 = some r9) : ∃ fs, M[a0]? = some (.inr (11, fs)) := by
  unfold fX11_isCounted at h
  obtain ⟨_, e1, _⟩ := ob h
  exact gC_spec e1
theorem ctX11_isCounted (l : Launch) {P : PT} {M : Mm} {a0 : Nat} {a1 : Int32} {a2 : Int32} {a3 : Int32} {r9 : Int32} (h : fX11_isCounted M a0 a1 a2 a3 = some r9) : Ct l yX11_isCounted cX11_isCounted 4 (some .boolean) 1 0 P [.ref (pB P + a0), .int a1, .int a2, .int a3] M (some (.int r9)) M :=
  Ct.mk (by decide +kernel) (Nat.le_of_ble_eq_true rfl) (fun p e s m args below meth c hX => wX11_isCounted hX M a0 a1 a2 a3 h)
set_option maxHeartbeats 4000000 in
set_option maxRecDepth 100000 in
theorem wjX11_counts_15 {p : Program} {l : Launch} {e : Env} {s : State} {m : MethodId} {args : Array Value} {below : List Frame} {meth : Method} {c : Code} {P : PT} {N : Nat}  {r9 : Int32} {M9 : Mm} (hX : Cy p s m args c meth cX11_counts 3 RX11 "counts" (some .int) P)   (M : Mm) (x0 : Nat)  (h : jX11_counts_15 N M x0 = some (r9, M9)) : Wq p l e s m args below meth c 4 0 (some (.int r9)) M9 3 P 0 15 [(0, .ref (pB P + x0))] [] M := by
  unfold jX11_counts_15 at h
  have hX0 := hX
  obtain ⟨X, hr, hlk, hnm⟩ := hX0
  have hx := X.1.1
  have hb := X.1.2.1
  intro H locs ls hM hl
  refine lv_aload_n (pc := 15) hx hb dX11_counts_15 rfl (lv_at hl 0 rfl) ?_
  refine lv_iconst (pc := 16) (v := (1 : Int32)) hx hb dX11_counts_16 (by decide) ?_
  obtain ⟨v2, M3, e1, h⟩ := ob2 h
  obtain ⟨fs4, hb5⟩ := (rX11_error e1)
  refine bz_callV1 (pc := 17) (As := [.int (1 : Int32)]) (rest := []) X hM hl.1 k_RX11_73 (ctX11_error l e1) rfl hb5 rfl rfl ⟨(Nat.le_of_ble_eq_true rfl), (Nat.le_of_ble_eq_true rfl)⟩ (Nat.le_of_ble_eq_true rfl) ⟨(Nat.le_of_ble_eq_true rfl), (Nat.le_of_ble_eq_true rfl)⟩ dX11_counts_17 (fun H locs hM => ?_)
  obtain ⟨rfl, rfl⟩ := so2 h
  exact bz_iret (pc := 20) X hM hr hlk dX11_counts_20 (Nat.le_of_ble_eq_true rfl) (Nat.le_of_ble_eq_true rfl)
set_option maxHeartbeats 4000000 in
set_option maxRecDepth 100000 in
theorem wX11_counts {p : Program} {l : Launch} {e : Env} {s : State} {m : MethodId} {args : Array Value} {below : List Frame} {meth : Method} {c : Code} {P : PT} {N : Nat}  {r9 : Int32} {M9 : Mm} (hX : Cy p s m args c meth cX11_counts 3 RX11 "counts" (some .int) P)  (M : Mm) (a0 : Nat) (a1 : Int32) (a2 : Int32) (h : fX11_counts N M a0 a1 a2 = some (r9, M9)) : Wq p l e s m args below meth c 4 0 (some (.int r9)) M9 3 P 0 0 [(0, .ref (pB P + a0)), (1, .int a1), (2, .int a2)] [] M := by
  unfold fX11_counts at h
  obtain ⟨_, _, h⟩ := ob h
  have hX0 := hX
  obtain ⟨X, hr, hlk, hnm⟩ := hX0
  have hx := X.1.1
  have hb := X.1.2.1
  intro H locs ls hM hl
  refine lv_aload_n (pc := 0) hx hb dX11_counts_0 rfl (lv_at hl 0 rfl) ?_
  refine lv_iload_n (pc := 1) hx hb dX11_counts_1 rfl (lv_at hl 1 rfl) ?_
  obtain ⟨v2, e1, h⟩ := ob h
  obtain ⟨fs3, hb4⟩ := (rX11_isRing e1)
  refine bz_callV1 (pc := 2) (As := [.int a1]) (rest := []) X hM hl.1 k_RX11_97 (ctX11_isRing l e1) rfl hb4 rfl rfl ⟨(Nat.le_of_ble_eq_true rfl), (Nat.le_of_ble_eq_true rfl)⟩ (Nat.le_of_ble_eq_true rfl) ⟨(Nat.le_of_ble_eq_true rfl), (Nat.le_of_ble_eq_true rfl)⟩ dX11_counts_2 (fun H locs hM => ?_)
  refine lv_if_eq (pc := 5) (tgt := 15) hx hb dX11_counts_5 (by decide) (fun hc => ?_) (fun hc => ?_)
  · have h := if_t hc h
    exact wjX11_counts_15 hX _ _ h H locs ls hM (lv_sub hl [0] rfl)
  · have h := if_f hc h
    refine lv_iload_n (pc := 8) hx hb dX11_counts_8 rfl (lv_at hl 2 rfl) ?_
    obtain ⟨v6, e5, h⟩ := ob h
    refine bz_callS1 (pc := 9) (As := [.int a2]) (rest := []) X hM hl.1 k_RX11_117 (ctX11_isLine l e5) rfl rfl ⟨(Nat.le_of_ble_eq_true rfl), (Nat.le_of_ble_eq_true rfl)⟩ (Nat.le_of_ble_eq_true rfl) ⟨(Nat.le_of_ble_eq_true rfl), (Nat.le_of_ble_eq_true rfl)⟩ dX11_counts_9 (fun H locs hM => ?_)
    refine lv_if_ne (pc := 12) (tgt := 21) hx hb dX11_counts_12 (by decide) (fun hc => ?_) (fun hc => ?_)
    · have h := if_f hc h
      refine lv_aload_n (pc := 21) hx hb dX11_counts_21 rfl (lv_at hl 0 rfl) ?_
      obtain ⟨M8, e7, h⟩ := ob h
      obtain ⟨fs9, hb10⟩ := (rX11_readAll e7)
      refine bz_callV0 (pc := 22) (As := []) (rest := []) X hM hl.1 k_RX11_120 (ctX11_readAll l e7) rfl hb10 rfl rfl ⟨(Nat.le_of_ble_eq_true rfl), (Nat.le_of_ble_eq_true rfl)⟩ (Nat.le_of_ble_eq_true rfl) ⟨(Nat.le_of_ble_eq_true rfl), (Nat.le_of_ble_eq_true rfl)⟩ dX11_counts_22 (fun H locs hM => ?_)
      refine lv_aload_n (pc := 25) hx hb dX11_counts_25 rfl (lv_at hl 0 rfl) ?_
      refine lv_iload_n (pc := 26) hx hb dX11_counts_26 rfl (lv_at hl 1 rfl) ?_
      refine lv_aload_n (pc := 27) hx hb dX11_counts_27 rfl (lv_at hl 0 rfl) ?_
      refine lv_iload_n (pc := 28) hx hb dX11_counts_28 rfl (lv_at hl 1 rfl) ?_
      refine lv_iconst (pc := 29) (v := (0 : Int32)) hx hb dX11_counts_29 (by decide) ?_
      obtain ⟨v12, e11, h⟩ := ob h
      obtain ⟨fs13, hb14⟩ := (rX11_ring e11)
      refine bz_callV1 (pc := 30) (As := [.int a1, .int (0 : Int32)]) (rest := [.int a1, .ref (pB P + a0)]) X hM hl.1 k_RX11_87 (ctX11_ring l e11) rfl hb14 rfl rfl ⟨(Nat.le_of_ble_eq_true rfl), (Nat.le_of_ble_eq_true rfl)⟩ (Nat.le_of_ble_eq_true rfl) ⟨(Nat.le_of_ble_eq_true rfl), (Nat.le_of_ble_eq_true rfl)⟩ dX11_counts_30 (fun H locs hM => ?_)
      refine lv_iload_n (pc := 33) hx hb dX11_counts_33 rfl (lv_at hl 2 rfl) ?_
      obtain ⟨v16, e15, h⟩ := ob h
      obtain ⟨fs17, hb18⟩ := (rX11_isCounted e15)
      refine bz_callV1 (pc := 34) (As := [.int a1, .int v12, .int a2]) (rest := []) X hM hl.1 k_RX11_123 (ctX11_isCounted l e15) rfl hb18 rfl rfl ⟨(Nat.le_of_ble_eq_true rfl), (Nat.le_of_ble_eq_true rfl)⟩ (Nat.le_of_ble_eq_true rfl) ⟨(Nat.le_of_ble_eq_true rfl), (Nat.le_of_ble_eq_true rfl)⟩ dX11_counts_34 (fun H locs hM => ?_)
      refine lv_if_eq (pc := 37) (tgt := 44) hx hb dX11_counts_37 (by decide) (fun hc => ?_) (fun hc => ?_)
      · have h := if_t hc h
        refine lv_iconst (pc := 44) (v := (0 : Int32)) hx hb dX11_counts_44 (by decide) ?_
        obtain ⟨rfl, rfl⟩ := so2 h
        exact bz_iret (pc := 45) X hM hr hlk dX11_counts_45 (Nat.le_of_ble_eq_true rfl) (Nat.le_of_ble_eq_true rfl)
      · have h := if_f hc h
        refine lv_iconst (pc := 40) (v := (1 : Int32)) hx hb dX11_counts_40 (by decide) ?_
        refine lv_goto (pc := 41) (tgt := 45) hx hb dX11_counts_41 (by decide) ?_
        obtain ⟨rfl, rfl⟩ := so2 h
        exact bz_iret (pc := 45) X hM hr hlk dX11_counts_45 (Nat.le_of_ble_eq_true rfl) (Nat.le_of_ble_eq_true rfl)
    · have h := if_t hc h
      exact wjX11_counts_15 hX _ _ h H locs ls hM (lv_sub hl [0] rfl)
theorem rX11_counts {N : Nat} {M : Mm} {a0 : Nat} {a1 : Int32} {a2 : Int32} {r9 : Int32 × Mm} (h : fX11_counts N M a0 a1 a2 = some r9) : ∃ fs, M[a0]? = some (.inr (11, fs)) := by
  unfold fX11_counts at h
  obtain ⟨_, e1, _⟩ := ob h
  exact gC_spec e1
theorem ctX11_counts (l : Launch) {P : PT} {N : Nat} {M : Mm} {a0 : Nat} {a1 : Int32} {a2 : Int32} {r9 : Int32} {M9 : Mm} (h : fX11_counts N M a0 a1 a2 = some (r9, M9)) : Ct l yX11_counts cX11_counts 3 (some .int) 4 0 P [.ref (pB P + a0), .int a1, .int a2] M (some (.int r9)) M9 :=
  Ct.mk (by decide +kernel) (Nat.le_of_ble_eq_true rfl) (fun p e s m args below meth c hX => wX11_counts hX M a0 a1 a2 h)
set_option maxHeartbeats 4000000 in
set_option maxRecDepth 100000 in
theorem wX10_sheetAt {p : Program} {l : Launch} {e : Env} {s : State} {m : MethodId} {args : Array Value} {below : List Frame} {meth : Method} {c : Code} {P : PT}  {r9 : Option Nat} (hX : Cy p s m args c meth cX10_sheetAt 2 RX10 "sheetAt" (some (.object "BarsTogether$Sheet")) P)  (M : Mm) (a0 : Nat) (a1 : Int32) (h : fX10_sheetAt M a0 a1 = some r9) : Wq p l e s m args below meth c 1 0 (some (rO P r9)) M 2 P 0 0 [(0, .ref (pB P + a0)), (1, .int a1)] [] M := by
  unfold fX10_sheetAt at h
  obtain ⟨_, _, h⟩ := ob h
  have hX0 := hX
  obtain ⟨X, hr, hlk, hnm⟩ := hX0
  have hx := X.1.1
  have hb := X.1.2.1
  intro H locs ls hM hl
  refine lv_iload_n (pc := 0) hx hb dX10_sheetAt_0 rfl (lv_at hl 1 rfl) ?_
  refine lv_iconst (pc := 1) (v := (0 : Int32)) hx hb dX10_sheetAt_1 (by decide) ?_
  refine lv_aload_n (pc := 2) hx hb dX10_sheetAt_2 rfl (lv_at hl 0 rfl) ?_
  obtain ⟨q1, e2, h⟩ := ob h
  refine bz_getQ (pc := 3) X hM fl_RX10_34 e2 dX10_sheetAt_3 ?_
  obtain ⟨v3, e4, h⟩ := ob h
  refine bz_alen (pc := 6) X hM e4 dX10_sheetAt_6 ?_
  refine lv_iconst (pc := 7) (v := (1 : Int32)) hx hb dX10_sheetAt_7 (by decide) ?_
  refine lv_isub (pc := 8) hx hb dX10_sheetAt_8 ?_
  obtain ⟨v6, e5, h⟩ := ob h
  refine bz_callS1 (pc := 9) (As := [.int a1, .int (0 : Int32), .int (v3 - (1 : Int32))]) (rest := []) X hM hl.1 k_RX10_74 (ctX10_within l e5) rfl rfl ⟨(Nat.le_of_ble_eq_true rfl), (Nat.le_of_ble_eq_true rfl)⟩ (Nat.le_of_ble_eq_true rfl) ⟨(Nat.le_of_ble_eq_true rfl), (Nat.le_of_ble_eq_true rfl)⟩ dX10_sheetAt_9 (fun H locs hM => ?_)
  refine lv_if_eq (pc := 12) (tgt := 24) hx hb dX10_sheetAt_12 (by decide) (fun hc => ?_) (fun hc => ?_)
  · have h := if_t hc h
    refine lv_null (pc := 24) hx hb dX10_sheetAt_24 ?_
    obtain rfl := so1 h
    exact bz_aret (pc := 25) (r := none) X hM hr hlk dX10_sheetAt_25 (Nat.le_of_ble_eq_true rfl) (Nat.le_of_ble_eq_true rfl)
  · have h := if_f hc h
    refine lv_aload_n (pc := 15) hx hb dX10_sheetAt_15 rfl (lv_at hl 0 rfl) ?_
    obtain ⟨q7, e8, h⟩ := ob h
    refine bz_getQ (pc := 16) X hM fl_RX10_34 e8 dX10_sheetAt_16 ?_
    refine lv_iload_n (pc := 19) hx hb dX10_sheetAt_19 rfl (lv_at hl 1 rfl) ?_
    obtain ⟨r9, e10, h⟩ := ob h
    refine bz_aald (pc := 20) (t := 4) X hM (by decide) e10 dX10_sheetAt_20 ?_
    refine lv_goto (pc := 21) (tgt := 25) hx hb dX10_sheetAt_21 (by decide) ?_
    obtain rfl := so1 h
    exact bz_aret (pc := 25) X hM hr hlk dX10_sheetAt_25 (Nat.le_of_ble_eq_true rfl) (Nat.le_of_ble_eq_true rfl)
theorem rX10_sheetAt {M : Mm} {a0 : Nat} {a1 : Int32} {r9 : Option Nat} (h : fX10_sheetAt M a0 a1 = some r9) : ∃ fs, M[a0]? = some (.inr (10, fs)) := by
  unfold fX10_sheetAt at h
  obtain ⟨_, e1, _⟩ := ob h
  exact gC_spec e1
theorem ctX10_sheetAt (l : Launch) {P : PT} {M : Mm} {a0 : Nat} {a1 : Int32} {r9 : Option Nat} (h : fX10_sheetAt M a0 a1 = some r9) : Ct l yX10_sheetAt cX10_sheetAt 2 (some (.object "BarsTogether$Sheet")) 1 0 P [.ref (pB P + a0), .int a1] M (some (rO P r9)) M :=
  Ct.mk (by decide +kernel) (Nat.le_of_ble_eq_true rfl) (fun p e s m args below meth c hX => wX10_sheetAt hX M a0 a1 h)
set_option maxHeartbeats 4000000 in
set_option maxRecDepth 100000 in
theorem wX4_isMissing {p : Program} {l : Launch} {e : Env} {s : State} {m : MethodId} {args : Array Value} {below : List Frame} {meth : Method} {c : Code} {P : PT}  {r9 : Int32} (hX : Cy p s m args c meth cX4_isMissing 1 RX4 "isMissing" (some .boolean) P)  (M : Mm) (a0 : Nat) (h : fX4_isMissing M a0 = some r9) : Wq p l e s m args below meth c 0 0 (some (.int r9)) M 1 P 0 0 [(0, .ref (pB P + a0))] [] M := by
  unfold fX4_isMissing at h
  obtain ⟨_, _, h⟩ := ob h
  have hX0 := hX
  obtain ⟨X, hr, hlk, hnm⟩ := hX0
  have hx := X.1.1
  have hb := X.1.2.1
  intro H locs ls hM hl
  refine lv_aload_n (pc := 0) hx hb dX4_isMissing_0 rfl (lv_at hl 0 rfl) ?_
  obtain ⟨v1, e2, h⟩ := ob h
  refine bz_getI (pc := 1) X hM fl_RX4_20 e2 dX4_isMissing_1 ?_
  refine lv_if_ne (pc := 4) (tgt := 11) hx hb dX4_isMissing_4 (by decide) (fun hc => ?_) (fun hc => ?_)
  · have h := if_f hc h
    refine lv_iconst (pc := 11) (v := (0 : Int32)) hx hb dX4_isMissing_11 (by decide) ?_
    obtain rfl := so1 h
    exact bz_zret (pc := 12) X hM hr hlk (by decide) dX4_isMissing_12 (Nat.le_of_ble_eq_true rfl) (Nat.le_of_ble_eq_true rfl)
  · have h := if_t hc h
    refine lv_iconst (pc := 7) (v := (1 : Int32)) hx hb dX4_isMissing_7 (by decide) ?_
    refine lv_goto (pc := 8) (tgt := 12) hx hb dX4_isMissing_8 (by decide) ?_
    obtain rfl := so1 h
    exact bz_zret (pc := 12) X hM hr hlk (by decide) dX4_isMissing_12 (Nat.le_of_ble_eq_true rfl) (Nat.le_of_ble_eq_true rfl)
theorem rX4_isMissing {M : Mm} {a0 : Nat} {r9 : Int32} (h : fX4_isMissing M a0 = some r9) : ∃ fs, M[a0]? = some (.inr (4, fs)) := by
  unfold fX4_isMissing at h
  obtain ⟨_, e1, _⟩ := ob h
  exact gC_spec e1
theorem ctX4_isMissing (l : Launch) {P : PT} {M : Mm} {a0 : Nat} {r9 : Int32} (h : fX4_isMissing M a0 = some r9) : Ct l yX4_isMissing cX4_isMissing 1 (some .boolean) 0 0 P [.ref (pB P + a0)] M (some (.int r9)) M :=
  Ct.mk (by decide +kernel) (Nat.le_of_ble_eq_true rfl) (fun p e s m args below meth c hX => wX4_isMissing hX M a0 h)
set_option maxHeartbeats 4000000 in
set_option maxRecDepth 100000 in
theorem wX4_hasNumber {p : Program} {l : Launch} {e : Env} {s : State} {m : MethodId} {args : Array Value} {below : List Frame} {meth : Method} {c : Code} {P : PT}  {r9 : Int32} (hX : Cy p s m args c meth cX4_hasNumber 2 RX4 "hasNumber" (some .boolean) P)  (M : Mm) (a0 : Nat) (a1 : Int32) (h : fX4_hasNumber M a0 a1 = some r9) : Wq p l e s m args below meth c 1 0 (some (.int r9)) M 2 P 0 0 [(0, .ref (pB P + a0)), (1, .int a1)] [] M := by
  unfold fX4_hasNumber at h
  obtain ⟨_, _, h⟩ := ob h
  have hX0 := hX
  obtain ⟨X, hr, hlk, hnm⟩ := hX0
  have hx := X.1.1
  have hb := X.1.2.1
  intro H locs ls hM hl
  refine lv_aload_n (pc := 0) hx hb dX4_hasNumber_0 rfl (lv_at hl 0 rfl) ?_
  obtain ⟨q1, e2, h⟩ := ob h
  refine bz_getQ (pc := 1) X hM fl_RX4_14 e2 dX4_hasNumber_1 ?_
  refine lv_iload_n (pc := 4) hx hb dX4_hasNumber_4 rfl (lv_at hl 1 rfl) ?_
  obtain ⟨v4, e3, h⟩ := ob h
  obtain ⟨fs5, hb6⟩ := (rX3_has e3)
  refine bz_callV1 (pc := 5) (As := [.int a1]) (rest := []) X hM hl.1 k_RX4_28 (ctX3_has l e3) rfl hb6 rfl rfl ⟨(Nat.le_of_ble_eq_true rfl), (Nat.le_of_ble_eq_true rfl)⟩ (Nat.le_of_ble_eq_true rfl) ⟨(Nat.le_of_ble_eq_true rfl), (Nat.le_of_ble_eq_true rfl)⟩ dX4_hasNumber_5 (fun H locs hM => ?_)
  obtain ⟨v7, e8, h⟩ := ob h
  obtain rfl := so1 h
  exact bz_zretz (pc := 8) X hM hr hlk e8 dX4_hasNumber_8 (Nat.le_of_ble_eq_true rfl) (Nat.le_of_ble_eq_true rfl)
theorem rX4_hasNumber {M : Mm} {a0 : Nat} {a1 : Int32} {r9 : Int32} (h : fX4_hasNumber M a0 a1 = some r9) : ∃ fs, M[a0]? = some (.inr (4, fs)) := by
  unfold fX4_hasNumber at h
  obtain ⟨_, e1, _⟩ := ob h
  exact gC_spec e1
theorem ctX4_hasNumber (l : Launch) {P : PT} {M : Mm} {a0 : Nat} {a1 : Int32} {r9 : Int32} (h : fX4_hasNumber M a0 a1 = some r9) : Ct l yX4_hasNumber cX4_hasNumber 2 (some .boolean) 1 0 P [.ref (pB P + a0), .int a1] M (some (.int r9)) M :=
  Ct.mk (by decide +kernel) (Nat.le_of_ble_eq_true rfl) (fun p e s m args below meth c hX => wX4_hasNumber hX M a0 a1 h)
set_option maxHeartbeats 4000000 in
set_option maxRecDepth 100000 in
theorem wX4_numberAt {p : Program} {l : Launch} {e : Env} {s : State} {m : MethodId} {args : Array Value} {below : List Frame} {meth : Method} {c : Code} {P : PT}  {r9 : Int32} (hX : Cy p s m args c meth cX4_numberAt 2 RX4 "numberAt" (some .int) P)  (M : Mm) (a0 : Nat) (a1 : Int32) (h : fX4_numberAt M a0 a1 = some r9) : Wq p l e s m args below meth c 1 0 (some (.int r9)) M 2 P 0 0 [(0, .ref (pB P + a0)), (1, .int a1)] [] M := by
  unfold fX4_numberAt at h
  obtain ⟨_, _, h⟩ := ob h
  have hX0 := hX
  obtain ⟨X, hr, hlk, hnm⟩ := hX0
  have hx := X.1.1
  have hb := X.1.2.1
  intro H locs ls hM hl
  refine lv_aload_n (pc := 0) hx hb dX4_numberAt_0 rfl (lv_at hl 0 rfl) ?_
  obtain ⟨q1, e2, h⟩ := ob h
  refine bz_getQ (pc := 1) X hM fl_RX4_14 e2 dX4_numberAt_1 ?_
  refine lv_iload_n (pc := 4) hx hb dX4_numberAt_4 rfl (lv_at hl 1 rfl) ?_
  obtain ⟨v4, e3, h⟩ := ob h
  obtain ⟨fs5, hb6⟩ := (rX3_at e3)
  refine bz_callV1 (pc := 5) (As := [.int a1]) (rest := []) X hM hl.1 k_RX4_36 (ctX3_at l e3) rfl hb6 rfl rfl ⟨(Nat.le_of_ble_eq_true rfl), (Nat.le_of_ble_eq_true rfl)⟩ (Nat.le_of_ble_eq_true rfl) ⟨(Nat.le_of_ble_eq_true rfl), (Nat.le_of_ble_eq_true rfl)⟩ dX4_numberAt_5 (fun H locs hM => ?_)
  obtain rfl := so1 h
  exact bz_iret (pc := 8) X hM hr hlk dX4_numberAt_8 (Nat.le_of_ble_eq_true rfl) (Nat.le_of_ble_eq_true rfl)
theorem rX4_numberAt {M : Mm} {a0 : Nat} {a1 : Int32} {r9 : Int32} (h : fX4_numberAt M a0 a1 = some r9) : ∃ fs, M[a0]? = some (.inr (4, fs)) := by
  unfold fX4_numberAt at h
  obtain ⟨_, e1, _⟩ := ob h
  exact gC_spec e1
theorem ctX4_numberAt (l : Launch) {P : PT} {M : Mm} {a0 : Nat} {a1 : Int32} {r9 : Int32} (h : fX4_numberAt M a0 a1 = some r9) : Ct l yX4_numberAt cX4_numberAt 2 (some .int) 1 0 P [.ref (pB P + a0), .int a1] M (some (.int r9)) M :=
  Ct.mk (by decide +kernel) (Nat.le_of_ble_eq_true rfl) (fun p e s m args below meth c hX => wX4_numberAt hX M a0 a1 h)
