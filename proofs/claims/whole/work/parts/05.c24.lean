set_option maxHeartbeats 4000000 in
set_option maxRecDepth 100000 in
theorem wjX10_move_94 {p : Program} {l : Launch} {e : Env} {s : State} {m : MethodId} {args : Array Value} {below : List Frame} {meth : Method} {c : Code} {P : PT}  {r9 : Int32} {M9 : Mm} (hX : Cy p s m args c meth cX10_move 8 RX10 "move" (some .int) P)   (M : Mm) (x0 : Nat)  (h : jX10_move_94 M x0 = some (r9, M9)) : Wq p l e s m args below meth c 3 0 (some (.int r9)) M9 8 P 0 94 [(0, .ref (pB P + x0))] [] M := by
  unfold jX10_move_94 at h
  have hX0 := hX
  obtain ⟨X, hr, hlk, hnm⟩ := hX0
  have hx := X.1.1
  have hb := X.1.2.1
  intro H locs ls hM hl
  refine lv_aload_n (pc := 94) hx hb dX10_move_94 rfl (lv_at hl 0 rfl) ?_
  refine lv_iconst (pc := 95) (v := (1 : Int32)) hx hb dX10_move_95 (by decide) ?_
  obtain ⟨v2, M3, e1, h⟩ := ob2 h
  obtain ⟨fs4, hb5⟩ := (rX10_error e1)
  refine bz_callV1 (pc := 96) (As := [.int (1 : Int32)]) (rest := []) X hM hl.1 k_RX10_78 (ctX10_error l e1) rfl hb5 rfl rfl ⟨(Nat.le_of_ble_eq_true rfl), (Nat.le_of_ble_eq_true rfl)⟩ (Nat.le_of_ble_eq_true rfl) ⟨(Nat.le_of_ble_eq_true rfl), (Nat.le_of_ble_eq_true rfl)⟩ dX10_move_96 (fun H locs hM => ?_)
  obtain ⟨rfl, rfl⟩ := so2 h
  exact bz_iret (pc := 99) X hM hr hlk dX10_move_99 (Nat.le_of_ble_eq_true rfl) (Nat.le_of_ble_eq_true rfl)
set_option maxHeartbeats 4000000 in
set_option maxRecDepth 100000 in
theorem wjX10_move_46 {p : Program} {l : Launch} {e : Env} {s : State} {m : MethodId} {args : Array Value} {below : List Frame} {meth : Method} {c : Code} {P : PT}  {r9 : Int32} {M9 : Mm} (hX : Cy p s m args c meth cX10_move 8 RX10 "move" (some .int) P)   (M : Mm) (x0 : Nat)  (h : jX10_move_46 M x0 = some (r9, M9)) : Wq p l e s m args below meth c 3 0 (some (.int r9)) M9 8 P 0 46 [(0, .ref (pB P + x0))] [] M := by
  unfold jX10_move_46 at h
  have hX0 := hX
  obtain ⟨X, hr, hlk, hnm⟩ := hX0
  have hx := X.1.1
  have hb := X.1.2.1
  intro H locs ls hM hl
  refine lv_aload_n (pc := 46) hx hb dX10_move_46 rfl (lv_at hl 0 rfl) ?_
  refine lv_iconst (pc := 47) (v := (2 : Int32)) hx hb dX10_move_47 (by decide) ?_
  obtain ⟨v2, M3, e1, h⟩ := ob2 h
  obtain ⟨fs4, hb5⟩ := (rX10_error e1)
  refine bz_callV1 (pc := 48) (As := [.int (2 : Int32)]) (rest := []) X hM hl.1 k_RX10_78 (ctX10_error l e1) rfl hb5 rfl rfl ⟨(Nat.le_of_ble_eq_true rfl), (Nat.le_of_ble_eq_true rfl)⟩ (Nat.le_of_ble_eq_true rfl) ⟨(Nat.le_of_ble_eq_true rfl), (Nat.le_of_ble_eq_true rfl)⟩ dX10_move_48 (fun H locs hM => ?_)
  obtain ⟨rfl, rfl⟩ := so2 h
  exact bz_iret (pc := 51) X hM hr hlk dX10_move_51 (Nat.le_of_ble_eq_true rfl) (Nat.le_of_ble_eq_true rfl)
set_option maxHeartbeats 4000000 in
set_option maxRecDepth 100000 in
theorem wjX10_move_24 {p : Program} {l : Launch} {e : Env} {s : State} {m : MethodId} {args : Array Value} {below : List Frame} {meth : Method} {c : Code} {P : PT}  {r9 : Int32} {M9 : Mm} (hX : Cy p s m args c meth cX10_move 8 RX10 "move" (some .int) P)   (M : Mm) (x0 : Nat)  (h : jX10_move_24 M x0 = some (r9, M9)) : Wq p l e s m args below meth c 3 0 (some (.int r9)) M9 8 P 0 24 [(0, .ref (pB P + x0))] [] M := by
  unfold jX10_move_24 at h
  have hX0 := hX
  obtain ⟨X, hr, hlk, hnm⟩ := hX0
  have hx := X.1.1
  have hb := X.1.2.1
  intro H locs ls hM hl
  refine lv_aload_n (pc := 24) hx hb dX10_move_24 rfl (lv_at hl 0 rfl) ?_
  refine lv_iconst (pc := 25) (v := (1 : Int32)) hx hb dX10_move_25 (by decide) ?_
  obtain ⟨v2, M3, e1, h⟩ := ob2 h
  obtain ⟨fs4, hb5⟩ := (rX10_error e1)
  refine bz_callV1 (pc := 26) (As := [.int (1 : Int32)]) (rest := []) X hM hl.1 k_RX10_78 (ctX10_error l e1) rfl hb5 rfl rfl ⟨(Nat.le_of_ble_eq_true rfl), (Nat.le_of_ble_eq_true rfl)⟩ (Nat.le_of_ble_eq_true rfl) ⟨(Nat.le_of_ble_eq_true rfl), (Nat.le_of_ble_eq_true rfl)⟩ dX10_move_26 (fun H locs hM => ?_)
  obtain ⟨rfl, rfl⟩ := so2 h
  exact bz_iret (pc := 29) X hM hr hlk dX10_move_29 (Nat.le_of_ble_eq_true rfl) (Nat.le_of_ble_eq_true rfl)
set_option maxHeartbeats 4000000 in
set_option maxRecDepth 100000 in
theorem wX10_move {p : Program} {l : Launch} {e : Env} {s : State} {m : MethodId} {args : Array Value} {below : List Frame} {meth : Method} {c : Code} {P : PT}  {r9 : Int32} {M9 : Mm} (hX : Cy p s m args c meth cX10_move 8 RX10 "move" (some .int) P)  (M : Mm) (a0 : Nat) (a1 : Int32) (a2 : Int32) (a3 : Int32) (a4 : Int32) (a5 : Int32) (h : fX10_move M a0 a1 a2 a3 a4 a5 = some (r9, M9)) : Wq p l e s m args below meth c 3 0 (some (.int r9)) M9 8 P 0 0 [(0, .ref (pB P + a0)), (1, .int a1), (2, .int a2), (3, .int a3), (4, .int a4), (5, .int a5)] [] M := by
  unfold fX10_move at h
  obtain ⟨_, _, h⟩ := ob h
  have hX0 := hX
  obtain ⟨X, hr, hlk, hnm⟩ := hX0
  have hx := X.1.1
  have hb := X.1.2.1
  intro H locs ls hM hl
  refine lv_aload_n (pc := 0) hx hb dX10_move_0 rfl (lv_at hl 0 rfl) ?_
  refine lv_iload_n (pc := 1) hx hb dX10_move_1 rfl (lv_at hl 1 rfl) ?_
  obtain ⟨r2, e1, h⟩ := ob h
  obtain ⟨fs3, hb4⟩ := (rX10_sheetAt e1)
  refine bz_callV1 (pc := 2) (As := [.int a1]) (rest := []) X hM hl.1 k_RX10_155 (ctX10_sheetAt l e1) rfl hb4 rfl rfl ⟨(Nat.le_of_ble_eq_true rfl), (Nat.le_of_ble_eq_true rfl)⟩ (Nat.le_of_ble_eq_true rfl) ⟨(Nat.le_of_ble_eq_true rfl), (Nat.le_of_ble_eq_true rfl)⟩ dX10_move_2 (fun H locs hM => ?_)
  refine bz_astoreO (pc := 5) (lv' := [(6, rO P r2), (0, .ref (pB P + a0)), (1, .int a1), (2, .int a2), (3, .int a3), (4, .int a4), (5, .int a5)]) hx hb dX10_move_5 hl (by decide) rfl (fun ls hl => ?_)
  refine lv_aload_n (pc := 7) hx hb dX10_move_7 rfl (lv_at hl 1 rfl) ?_
  refine lv_iload_n (pc := 8) hx hb dX10_move_8 rfl (lv_at hl 4 rfl) ?_
  obtain ⟨r6, e5, h⟩ := ob h
  obtain ⟨fs7, hb8⟩ := (rX10_sheetAt e5)
  refine bz_callV1 (pc := 9) (As := [.int a3]) (rest := []) X hM hl.1 k_RX10_155 (ctX10_sheetAt l e5) rfl hb8 rfl rfl ⟨(Nat.le_of_ble_eq_true rfl), (Nat.le_of_ble_eq_true rfl)⟩ (Nat.le_of_ble_eq_true rfl) ⟨(Nat.le_of_ble_eq_true rfl), (Nat.le_of_ble_eq_true rfl)⟩ dX10_move_9 (fun H locs hM => ?_)
  refine bz_astoreO (pc := 12) (lv' := [(7, rO P r6), (6, rO P r2), (0, .ref (pB P + a0)), (1, .int a1), (2, .int a2), (3, .int a3), (4, .int a4), (5, .int a5)]) hx hb dX10_move_12 hl (by decide) (by simp [List.filter, rO_cat, vi_cat, vr_cat, vl_cat, vn_cat]) (fun ls hl => ?_)
  refine bz_aloadO (pc := 14) hx hb dX10_move_14 (lv_at hl 1 rfl) ?_
  refine bz_ifnullO (pc := 16) (tgt := 24) hx hb dX10_move_16 (by decide) (fun hc => ?_) (fun q9 hc => ?_)
  · subst hc
    have h := om_n rfl h
    have hl : lv_has ls 8 [(7, rO P r6), (6, .null), (0, .ref (pB P + a0)), (1, .int a1), (2, .int a2), (3, .int a3), (4, .int a4), (5, .int a5)] := hl
    exact wjX10_move_24 hX _ _ h H locs ls hM (lv_sub hl [2] rfl)
  · subst hc
    have h := om_s rfl h
    have hl : lv_has ls 8 [(7, rO P r6), (6, .ref (pB P + q9)), (0, .ref (pB P + a0)), (1, .int a1), (2, .int a2), (3, .int a3), (4, .int a4), (5, .int a5)] := hl
    refine bz_aloadO (pc := 19) hx hb dX10_move_19 (lv_at hl 0 rfl) ?_
    refine bz_ifnonnullO (pc := 21) (tgt := 30) hx hb dX10_move_21 (by decide) (fun q10 hc => ?_) (fun hc => ?_)
    · subst hc
      have h := om_s rfl h
      have hl : lv_has ls 8 [(7, .ref (pB P + q10)), (6, .ref (pB P + q9)), (0, .ref (pB P + a0)), (1, .int a1), (2, .int a2), (3, .int a3), (4, .int a4), (5, .int a5)] := hl
      refine lv_aload (pc := 30) hx hb dX10_move_30 (lv_at hl 1 rfl) ?_
      obtain ⟨v12, e11, h⟩ := ob h
      obtain ⟨fs13, hb14⟩ := (rX4_isMissing e11)
      refine bz_callV1 (pc := 32) (As := []) (rest := []) X hM hl.1 k_RX10_159 (ctX4_isMissing l e11) rfl hb14 rfl rfl ⟨(Nat.le_of_ble_eq_true rfl), (Nat.le_of_ble_eq_true rfl)⟩ (Nat.le_of_ble_eq_true rfl) ⟨(Nat.le_of_ble_eq_true rfl), (Nat.le_of_ble_eq_true rfl)⟩ dX10_move_32 (fun H locs hM => ?_)
      refine lv_if_ne (pc := 35) (tgt := 46) hx hb dX10_move_35 (by decide) (fun hc => ?_) (fun hc => ?_)
      · have h := if_f hc h
        exact wjX10_move_46 hX _ _ h H locs ls hM (lv_sub hl [2] rfl)
      · have h := if_t hc h
        refine lv_aload (pc := 38) hx hb dX10_move_38 (lv_at hl 0 rfl) ?_
        obtain ⟨v16, e15, h⟩ := ob h
        obtain ⟨fs17, hb18⟩ := (rX4_isMissing e15)
        refine bz_callV1 (pc := 40) (As := []) (rest := []) X hM hl.1 k_RX10_159 (ctX4_isMissing l e15) rfl hb18 rfl rfl ⟨(Nat.le_of_ble_eq_true rfl), (Nat.le_of_ble_eq_true rfl)⟩ (Nat.le_of_ble_eq_true rfl) ⟨(Nat.le_of_ble_eq_true rfl), (Nat.le_of_ble_eq_true rfl)⟩ dX10_move_40 (fun H locs hM => ?_)
        refine lv_if_eq (pc := 43) (tgt := 52) hx hb dX10_move_43 (by decide) (fun hc => ?_) (fun hc => ?_)
        · have h := if_t hc h
          refine lv_aload (pc := 52) hx hb dX10_move_52 (lv_at hl 1 rfl) ?_
          obtain ⟨v19, e20, h⟩ := ob h
          refine bz_getI (pc := 54) X hM fl_RX10_378 e20 dX10_move_54 ?_
          refine lv_aload (pc := 57) hx hb dX10_move_57 (lv_at hl 0 rfl) ?_
          obtain ⟨v21, e22, h⟩ := ob h
          refine bz_getI (pc := 59) X hM fl_RX10_378 e22 dX10_move_59 ?_
          refine lv_icmp_eq (pc := 62) (tgt := 71) hx hb dX10_move_62 (by decide) (fun hc => ?_) (fun hc => ?_)
          · have h := if_t hc h
            refine lv_aload (pc := 71) hx hb dX10_move_71 (lv_at hl 1 rfl) ?_
            refine lv_iload_n (pc := 73) hx hb dX10_move_73 rfl (lv_at hl 4 rfl) ?_
            refine lv_iload (pc := 74) hx hb dX10_move_74 (lv_at hl 7 rfl) ?_
            obtain ⟨v24, e23, h⟩ := ob h
            obtain ⟨fs25, hb26⟩ := (rX4_hasNumbers e23)
            refine bz_callV1 (pc := 76) (As := [.int a2, .int a5]) (rest := []) X hM hl.1 k_RX10_381 (ctX4_hasNumbers l e23) rfl hb26 rfl rfl ⟨(Nat.le_of_ble_eq_true rfl), (Nat.le_of_ble_eq_true rfl)⟩ (Nat.le_of_ble_eq_true rfl) ⟨(Nat.le_of_ble_eq_true rfl), (Nat.le_of_ble_eq_true rfl)⟩ dX10_move_76 (fun H locs hM => ?_)
            refine lv_if_eq (pc := 79) (tgt := 94) hx hb dX10_move_79 (by decide) (fun hc => ?_) (fun hc => ?_)
            · have h := if_t hc h
              exact wjX10_move_94 hX _ _ h H locs ls hM (lv_sub hl [2] rfl)
            · have h := if_f hc h
              refine lv_aload (pc := 82) hx hb dX10_move_82 (lv_at hl 0 rfl) ?_
              refine lv_iload (pc := 84) hx hb dX10_move_84 (lv_at hl 6 rfl) ?_
              refine lv_iload (pc := 86) hx hb dX10_move_86 (lv_at hl 7 rfl) ?_
              obtain ⟨v28, e27, h⟩ := ob h
              obtain ⟨fs29, hb30⟩ := (rX4_hasNumbers e27)
              refine bz_callV1 (pc := 88) (As := [.int a4, .int a5]) (rest := []) X hM hl.1 k_RX10_381 (ctX4_hasNumbers l e27) rfl hb30 rfl rfl ⟨(Nat.le_of_ble_eq_true rfl), (Nat.le_of_ble_eq_true rfl)⟩ (Nat.le_of_ble_eq_true rfl) ⟨(Nat.le_of_ble_eq_true rfl), (Nat.le_of_ble_eq_true rfl)⟩ dX10_move_88 (fun H locs hM => ?_)
              refine lv_if_ne (pc := 91) (tgt := 100) hx hb dX10_move_91 (by decide) (fun hc => ?_) (fun hc => ?_)
              · have h := if_f hc h
                refine lv_aload (pc := 100) hx hb dX10_move_100 (lv_at hl 0 rfl) ?_
                obtain ⟨q31, e32, h⟩ := ob h
                refine bz_getQ (pc := 102) X hM fl_RX10_384 e32 dX10_move_102 ?_
                refine lv_aload (pc := 105) hx hb dX10_move_105 (lv_at hl 1 rfl) ?_
                obtain ⟨q33, e34, h⟩ := ob h
                refine bz_getQ (pc := 107) X hM fl_RX10_384 e34 dX10_move_107 ?_
                refine lv_iload_n (pc := 110) hx hb dX10_move_110 rfl (lv_at hl 4 rfl) ?_
                refine lv_iload (pc := 111) hx hb dX10_move_111 (lv_at hl 6 rfl) ?_
                refine lv_iload (pc := 113) hx hb dX10_move_113 (lv_at hl 7 rfl) ?_
                obtain ⟨M36, e35, h⟩ := ob h
                obtain ⟨fs37, hb38⟩ := (rX3_takeFrom e35)
                refine bz_callV0 (pc := 115) (As := [.ref (pB P + q33), .int a2, .int a4, .int a5]) (rest := []) X hM hl.1 k_RX10_387 (ctX3_takeFrom l e35) rfl hb38 rfl rfl ⟨(Nat.le_of_ble_eq_true rfl), (Nat.le_of_ble_eq_true rfl)⟩ (Nat.le_of_ble_eq_true rfl) ⟨(Nat.le_of_ble_eq_true rfl), (Nat.le_of_ble_eq_true rfl)⟩ dX10_move_115 (fun H locs hM => ?_)
                refine lv_iload (pc := 118) hx hb dX10_move_118 (lv_at hl 7 rfl) ?_
                obtain ⟨rfl, rfl⟩ := so2 h
                exact bz_iret (pc := 120) X hM hr hlk dX10_move_120 (Nat.le_of_ble_eq_true rfl) (Nat.le_of_ble_eq_true rfl)
              · have h := if_t hc h
                exact wjX10_move_94 hX _ _ h H locs ls hM (lv_sub hl [2] rfl)
          · have h := if_f hc h
            refine lv_aload_n (pc := 65) hx hb dX10_move_65 rfl (lv_at hl 2 rfl) ?_
            refine lv_iconst (pc := 66) (v := (5 : Int32)) hx hb dX10_move_66 (by decide) ?_
            obtain ⟨v40, M41, e39, h⟩ := ob2 h
            obtain ⟨fs42, hb43⟩ := (rX10_error e39)
            refine bz_callV1 (pc := 67) (As := [.int (5 : Int32)]) (rest := []) X hM hl.1 k_RX10_78 (ctX10_error l e39) rfl hb43 rfl rfl ⟨(Nat.le_of_ble_eq_true rfl), (Nat.le_of_ble_eq_true rfl)⟩ (Nat.le_of_ble_eq_true rfl) ⟨(Nat.le_of_ble_eq_true rfl), (Nat.le_of_ble_eq_true rfl)⟩ dX10_move_67 (fun H locs hM => ?_)
            obtain ⟨rfl, rfl⟩ := so2 h
            exact bz_iret (pc := 70) X hM hr hlk dX10_move_70 (Nat.le_of_ble_eq_true rfl) (Nat.le_of_ble_eq_true rfl)
        · have h := if_f hc h
          exact wjX10_move_46 hX _ _ h H locs ls hM (lv_sub hl [2] rfl)
    · subst hc
      have h := om_n rfl h
      have hl : lv_has ls 8 [(7, .null), (6, .ref (pB P + q9)), (0, .ref (pB P + a0)), (1, .int a1), (2, .int a2), (3, .int a3), (4, .int a4), (5, .int a5)] := hl
      exact wjX10_move_24 hX _ _ h H locs ls hM (lv_sub hl [2] rfl)
theorem rX10_move {M : Mm} {a0 : Nat} {a1 : Int32} {a2 : Int32} {a3 : Int32} {a4 : Int32} {a5 : Int32} {r9 : Int32 × Mm} (h : fX10_move M a0 a1 a2 a3 a4 a5 = some r9) : ∃ fs, M[a0]? = some (.inr (10, fs)) := by
  unfold fX10_move at h
  obtain ⟨_, e1, _⟩ := ob h
  exact gC_spec e1
theorem ctX10_move (l : Launch) {P : PT} {M : Mm} {a0 : Nat} {a1 : Int32} {a2 : Int32} {a3 : Int32} {a4 : Int32} {a5 : Int32} {r9 : Int32} {M9 : Mm} (h : fX10_move M a0 a1 a2 a3 a4 a5 = some (r9, M9)) : Ct l yX10_move cX10_move 8 (some .int) 3 0 P [.ref (pB P + a0), .int a1, .int a2, .int a3, .int a4, .int a5] M (some (.int r9)) M9 :=
  Ct.mk (by decide +kernel) (Nat.le_of_ble_eq_true rfl) (fun p e s m args below meth c hX => wX10_move hX M a0 a1 a2 a3 a4 a5 h)
set_option maxHeartbeats 4000000 in
set_option maxRecDepth 100000 in
theorem wjX11_move_157 {p : Program} {l : Launch} {e : Env} {s : State} {m : MethodId} {args : Array Value} {below : List Frame} {meth : Method} {c : Code} {P : PT} {N : Nat} {K133 : Mm → Nat → Int32 → Int32 → Int32 → Int32 → Int32 → Int32 → Int32 → Option (Int32 × Mm)}  {r9 : Int32} {M9 : Mm} (hX : Cy p s m args c meth cX11_move 9 RX11 "move" (some .int) P)  (hK133 : ∀ (M : Mm) (x0 : Nat) (x1 : Int32) (x2 : Int32) (x3 : Int32) (x4 : Int32) (x5 : Int32) (x6 : Int32) (x7 : Int32), K133 M x0 x1 x2 x3 x4 x5 x6 x7 = some (r9, M9) → Wq p l e s m args below meth c 2 0 (some (.int r9)) M9 9 P 0 133 [(0, .ref (pB P + x0)), (1, .int x1), (2, .int x2), (3, .int x3), (4, .int x4), (5, .int x5), (6, .int x6), (7, .int x7)] [] M) (M : Mm) (x0 : Nat) (x1 : Int32) (x2 : Int32) (x3 : Int32) (x4 : Int32) (x5 : Int32) (x6 : Int32) (x7 : Int32) (s0 : Int32) (h : jX11_move_157 N K133 M x0 x1 x2 x3 x4 x5 x6 x7 s0 = some (r9, M9)) : Wq p l e s m args below meth c 2 0 (some (.int r9)) M9 9 P 0 157 [(0, .ref (pB P + x0)), (1, .int x1), (2, .int x2), (3, .int x3), (4, .int x4), (5, .int x5), (6, .int x6), (7, .int x7)] [.int s0] M := by
  unfold jX11_move_157 at h
  have hX0 := hX
  obtain ⟨X, hr, hlk, hnm⟩ := hX0
  have hx := X.1.1
  have hb := X.1.2.1
  intro H locs ls hM hl
  refine lv_istore (pc := 157) (lv' := [(8, .int s0), (0, .ref (pB P + x0)), (1, .int x1), (2, .int x2), (3, .int x3), (4, .int x4), (5, .int x5), (6, .int x6), (7, .int x7)]) hx hb dX11_move_157 hl (by decide) rfl (fun ls hl => ?_)
  refine lv_aload_n (pc := 159) hx hb dX11_move_159 rfl (lv_at hl 1 rfl) ?_
  obtain ⟨q1, e2, h⟩ := ob h
  refine bz_getQ (pc := 160) X hM fl_RX11_32 e2 dX11_move_160 ?_
  refine lv_bipush (pc := 163) (v := (40 : Int32)) hx hb dX11_move_163 (by decide) ?_
  refine lv_iload_n (pc := 165) hx hb dX11_move_165 rfl (lv_at hl 4 rfl) ?_
  refine lv_imul (pc := 166) hx hb dX11_move_166 ?_
  refine lv_iload (pc := 167) hx hb dX11_move_167 (lv_at hl 5 rfl) ?_
  refine lv_iadd (pc := 169) hx hb dX11_move_169 ?_
  refine lv_iload (pc := 170) hx hb dX11_move_170 (lv_at hl 0 rfl) ?_
  refine lv_iadd (pc := 172) hx hb dX11_move_172 ?_
  refine lv_aload_n (pc := 173) hx hb dX11_move_173 rfl (lv_at hl 1 rfl) ?_
  obtain ⟨q3, e4, h⟩ := ob h
  refine bz_getQ (pc := 174) X hM fl_RX11_32 e4 dX11_move_174 ?_
  refine lv_bipush (pc := 177) (v := (40 : Int32)) hx hb dX11_move_177 (by decide) ?_
  refine lv_iload_n (pc := 179) hx hb dX11_move_179 rfl (lv_at hl 2 rfl) ?_
  refine lv_imul (pc := 180) hx hb dX11_move_180 ?_
  refine lv_iload_n (pc := 181) hx hb dX11_move_181 rfl (lv_at hl 3 rfl) ?_
  refine lv_iadd (pc := 182) hx hb dX11_move_182 ?_
  refine lv_iload (pc := 183) hx hb dX11_move_183 (lv_at hl 0 rfl) ?_
  refine lv_iadd (pc := 185) hx hb dX11_move_185 ?_
  obtain ⟨v5, e6, h⟩ := ob h
  refine bz_iald (pc := 186) X hM e6 dX11_move_186 ?_
  obtain ⟨M7, e8, h⟩ := ob h
  refine bz_iast (pc := 187) X hM e8 dX11_move_187 (fun H locs hM => ?_)
  refine lv_iinc (pc := 188) (v := (x7 + (1 : Int32))) (lv' := [(7, .int (x7 + (1 : Int32))), (8, .int s0), (0, .ref (pB P + x0)), (1, .int x1), (2, .int x2), (3, .int x3), (4, .int x4), (5, .int x5), (6, .int x6)]) hx hb dX11_move_188 hl (k := 8) rfl rfl (by decide) rfl (fun ls hl => ?_)
  refine lv_goto (pc := 191) (tgt := 133) hx hb dX11_move_191 (by decide) ?_
  exact hK133 _ _ _ _ _ _ _ _ _ h H locs ls hM (lv_sub hl [2, 3, 4, 5, 6, 7, 8, 0] rfl)
set_option maxHeartbeats 4000000 in
set_option maxRecDepth 100000 in
theorem wBX11_move_133 {p : Program} {l : Launch} {e : Env} {s : State} {m : MethodId} {args : Array Value} {below : List Frame} {meth : Method} {c : Code} {P : PT} {N : Nat} {K133 : Mm → Nat → Int32 → Int32 → Int32 → Int32 → Int32 → Int32 → Int32 → Option (Int32 × Mm)}  {r9 : Int32} {M9 : Mm} (hX : Cy p s m args c meth cX11_move 9 RX11 "move" (some .int) P)  (hK133 : ∀ (M : Mm) (x0 : Nat) (x1 : Int32) (x2 : Int32) (x3 : Int32) (x4 : Int32) (x5 : Int32) (x6 : Int32) (x7 : Int32), K133 M x0 x1 x2 x3 x4 x5 x6 x7 = some (r9, M9) → Wq p l e s m args below meth c 2 0 (some (.int r9)) M9 9 P 0 133 [(0, .ref (pB P + x0)), (1, .int x1), (2, .int x2), (3, .int x3), (4, .int x4), (5, .int x5), (6, .int x6), (7, .int x7)] [] M) (M : Mm) (x0 : Nat) (x1 : Int32) (x2 : Int32) (x3 : Int32) (x4 : Int32) (x5 : Int32) (x6 : Int32) (x7 : Int32)  (h : BX11_move_133 N K133 M x0 x1 x2 x3 x4 x5 x6 x7 = some (r9, M9)) : Wq p l e s m args below meth c 2 0 (some (.int r9)) M9 9 P 0 133 [(0, .ref (pB P + x0)), (1, .int x1), (2, .int x2), (3, .int x3), (4, .int x4), (5, .int x5), (6, .int x6), (7, .int x7)] [] M := by
  unfold BX11_move_133 at h
  have hX0 := hX
  obtain ⟨X, hr, hlk, hnm⟩ := hX0
  have hx := X.1.1
  have hb := X.1.2.1
  intro H locs ls hM hl
  refine lv_iload (pc := 133) hx hb dX11_move_133 (lv_at hl 7 rfl) ?_
  refine lv_iload (pc := 135) hx hb dX11_move_135 (lv_at hl 5 rfl) ?_
  refine lv_icmp_ge (pc := 137) (tgt := 194) hx hb dX11_move_137 (by decide) (fun hc => ?_) (fun hc => ?_)
  · have h := if_t hc h
    refine lv_iload (pc := 194) hx hb dX11_move_194 (lv_at hl 5 rfl) ?_
    obtain ⟨rfl, rfl⟩ := so2 h
    exact bz_iret (pc := 196) X hM hr hlk dX11_move_196 (Nat.le_of_ble_eq_true rfl) (Nat.le_of_ble_eq_true rfl)
  · have h := if_f hc h
    refine lv_iload (pc := 140) hx hb dX11_move_140 (lv_at hl 6 rfl) ?_
    refine lv_if_eq (pc := 142) (tgt := 155) hx hb dX11_move_142 (by decide) (fun hc => ?_) (fun hc => ?_)
    · have h := if_t hc h
      refine lv_iload (pc := 155) hx hb dX11_move_155 (lv_at hl 7 rfl) ?_
      exact wjX11_move_157 hX hK133 _ _ _ _ _ _ _ _ _ _ h H locs ls hM (lv_sub hl [0, 1, 2, 3, 4, 5, 6, 7] rfl)
    · have h := if_f hc h
      refine lv_iload (pc := 145) hx hb dX11_move_145 (lv_at hl 5 rfl) ?_
      refine lv_iconst (pc := 147) (v := (1 : Int32)) hx hb dX11_move_147 (by decide) ?_
      refine lv_isub (pc := 148) hx hb dX11_move_148 ?_
      refine lv_iload (pc := 149) hx hb dX11_move_149 (lv_at hl 7 rfl) ?_
      refine lv_isub (pc := 151) hx hb dX11_move_151 ?_
      refine lv_goto (pc := 152) (tgt := 157) hx hb dX11_move_152 (by decide) ?_
      exact wjX11_move_157 hX hK133 _ _ _ _ _ _ _ _ _ _ h H locs ls hM (lv_sub hl [0, 1, 2, 3, 4, 5, 6, 7] rfl)
set_option maxHeartbeats 4000000 in
set_option maxRecDepth 100000 in
theorem wLX11_move_133 {p : Program} {l : Launch} {e : Env} {s : State} {m : MethodId} {args : Array Value} {below : List Frame} {meth : Method} {c : Code} {P : PT} {N : Nat}  {r9 : Int32} {M9 : Mm} (hX : Cy p s m args c meth cX11_move 9 RX11 "move" (some .int) P)   : ∀ (n : Nat) (M : Mm) (x0 : Nat) (x1 : Int32) (x2 : Int32) (x3 : Int32) (x4 : Int32) (x5 : Int32) (x6 : Int32) (x7 : Int32) , LX11_move_133 N n M x0 x1 x2 x3 x4 x5 x6 x7 = some (r9, M9) → Wq p l e s m args below meth c 2 0 (some (.int r9)) M9 9 P 0 133 [(0, .ref (pB P + x0)), (1, .int x1), (2, .int x2), (3, .int x3), (4, .int x4), (5, .int x5), (6, .int x6), (7, .int x7)] [] M := by
  intro n
  induction n with
  | zero => intro M x0 x1 x2 x3 x4 x5 x6 x7 h; cases h
  | succ n ih => intro M x0 x1 x2 x3 x4 x5 x6 x7 h; exact wBX11_move_133 hX ih M x0 x1 x2 x3 x4 x5 x6 x7 h
set_option maxHeartbeats 4000000 in
set_option maxRecDepth 100000 in
theorem wjX11_move_106 {p : Program} {l : Launch} {e : Env} {s : State} {m : MethodId} {args : Array Value} {below : List Frame} {meth : Method} {c : Code} {P : PT} {N : Nat}  {r9 : Int32} {M9 : Mm} (hX : Cy p s m args c meth cX11_move 9 RX11 "move" (some .int) P)   (M : Mm) (x0 : Nat)  (h : jX11_move_106 N M x0 = some (r9, M9)) : Wq p l e s m args below meth c 2 0 (some (.int r9)) M9 9 P 0 106 [(0, .ref (pB P + x0))] [] M := by
  unfold jX11_move_106 at h
  have hX0 := hX
  obtain ⟨X, hr, hlk, hnm⟩ := hX0
  have hx := X.1.1
  have hb := X.1.2.1
  intro H locs ls hM hl
  refine lv_aload_n (pc := 106) hx hb dX11_move_106 rfl (lv_at hl 0 rfl) ?_
  refine lv_iconst (pc := 107) (v := (1 : Int32)) hx hb dX11_move_107 (by decide) ?_
  obtain ⟨v2, M3, e1, h⟩ := ob2 h
  obtain ⟨fs4, hb5⟩ := (rX11_error e1)
  refine bz_callV1 (pc := 108) (As := [.int (1 : Int32)]) (rest := []) X hM hl.1 k_RX11_73 (ctX11_error l e1) rfl hb5 rfl rfl ⟨(Nat.le_of_ble_eq_true rfl), (Nat.le_of_ble_eq_true rfl)⟩ (Nat.le_of_ble_eq_true rfl) ⟨(Nat.le_of_ble_eq_true rfl), (Nat.le_of_ble_eq_true rfl)⟩ dX11_move_108 (fun H locs hM => ?_)
  obtain ⟨rfl, rfl⟩ := so2 h
  exact bz_iret (pc := 111) X hM hr hlk dX11_move_111 (Nat.le_of_ble_eq_true rfl) (Nat.le_of_ble_eq_true rfl)
set_option maxHeartbeats 4000000 in
set_option maxRecDepth 100000 in
theorem wjX11_move_38 {p : Program} {l : Launch} {e : Env} {s : State} {m : MethodId} {args : Array Value} {below : List Frame} {meth : Method} {c : Code} {P : PT} {N : Nat}  {r9 : Int32} {M9 : Mm} (hX : Cy p s m args c meth cX11_move 9 RX11 "move" (some .int) P)   (M : Mm) (x0 : Nat)  (h : jX11_move_38 N M x0 = some (r9, M9)) : Wq p l e s m args below meth c 2 0 (some (.int r9)) M9 9 P 0 38 [(0, .ref (pB P + x0))] [] M := by
  unfold jX11_move_38 at h
  have hX0 := hX
  obtain ⟨X, hr, hlk, hnm⟩ := hX0
  have hx := X.1.1
  have hb := X.1.2.1
  intro H locs ls hM hl
  refine lv_aload_n (pc := 38) hx hb dX11_move_38 rfl (lv_at hl 0 rfl) ?_
  refine lv_iconst (pc := 39) (v := (2 : Int32)) hx hb dX11_move_39 (by decide) ?_
  obtain ⟨v2, M3, e1, h⟩ := ob2 h
  obtain ⟨fs4, hb5⟩ := (rX11_error e1)
  refine bz_callV1 (pc := 40) (As := [.int (2 : Int32)]) (rest := []) X hM hl.1 k_RX11_73 (ctX11_error l e1) rfl hb5 rfl rfl ⟨(Nat.le_of_ble_eq_true rfl), (Nat.le_of_ble_eq_true rfl)⟩ (Nat.le_of_ble_eq_true rfl) ⟨(Nat.le_of_ble_eq_true rfl), (Nat.le_of_ble_eq_true rfl)⟩ dX11_move_40 (fun H locs hM => ?_)
  obtain ⟨rfl, rfl⟩ := so2 h
  exact bz_iret (pc := 43) X hM hr hlk dX11_move_43 (Nat.le_of_ble_eq_true rfl) (Nat.le_of_ble_eq_true rfl)
set_option maxHeartbeats 4000000 in
set_option maxRecDepth 100000 in
theorem wjX11_move_14 {p : Program} {l : Launch} {e : Env} {s : State} {m : MethodId} {args : Array Value} {below : List Frame} {meth : Method} {c : Code} {P : PT} {N : Nat}  {r9 : Int32} {M9 : Mm} (hX : Cy p s m args c meth cX11_move 9 RX11 "move" (some .int) P)   (M : Mm) (x0 : Nat)  (h : jX11_move_14 N M x0 = some (r9, M9)) : Wq p l e s m args below meth c 2 0 (some (.int r9)) M9 9 P 0 14 [(0, .ref (pB P + x0))] [] M := by
  unfold jX11_move_14 at h
  have hX0 := hX
  obtain ⟨X, hr, hlk, hnm⟩ := hX0
  have hx := X.1.1
  have hb := X.1.2.1
  intro H locs ls hM hl
  refine lv_aload_n (pc := 14) hx hb dX11_move_14 rfl (lv_at hl 0 rfl) ?_
  refine lv_iconst (pc := 15) (v := (1 : Int32)) hx hb dX11_move_15 (by decide) ?_
  obtain ⟨v2, M3, e1, h⟩ := ob2 h
  obtain ⟨fs4, hb5⟩ := (rX11_error e1)
  refine bz_callV1 (pc := 16) (As := [.int (1 : Int32)]) (rest := []) X hM hl.1 k_RX11_73 (ctX11_error l e1) rfl hb5 rfl rfl ⟨(Nat.le_of_ble_eq_true rfl), (Nat.le_of_ble_eq_true rfl)⟩ (Nat.le_of_ble_eq_true rfl) ⟨(Nat.le_of_ble_eq_true rfl), (Nat.le_of_ble_eq_true rfl)⟩ dX11_move_16 (fun H locs hM => ?_)
  obtain ⟨rfl, rfl⟩ := so2 h
  exact bz_iret (pc := 19) X hM hr hlk dX11_move_19 (Nat.le_of_ble_eq_true rfl) (Nat.le_of_ble_eq_true rfl)
set_option maxHeartbeats 4000000 in
set_option maxRecDepth 100000 in
theorem wX11_move {p : Program} {l : Launch} {e : Env} {s : State} {m : MethodId} {args : Array Value} {below : List Frame} {meth : Method} {c : Code} {P : PT} {N : Nat}  {r9 : Int32} {M9 : Mm} (hX : Cy p s m args c meth cX11_move 9 RX11 "move" (some .int) P)  (M : Mm) (a0 : Nat) (a1 : Int32) (a2 : Int32) (a3 : Int32) (a4 : Int32) (a5 : Int32) (h : fX11_move N M a0 a1 a2 a3 a4 a5 = some (r9, M9)) : Wq p l e s m args below meth c 2 0 (some (.int r9)) M9 9 P 0 0 [(0, .ref (pB P + a0)), (1, .int a1), (2, .int a2), (3, .int a3), (4, .int a4), (5, .int a5)] [] M := by
  unfold fX11_move at h
  obtain ⟨_, _, h⟩ := ob h
  have hX0 := hX
  obtain ⟨X, hr, hlk, hnm⟩ := hX0
  have hx := X.1.1
  have hb := X.1.2.1
  intro H locs ls hM hl
  refine lv_iload_n (pc := 0) hx hb dX11_move_0 rfl (lv_at hl 1 rfl) ?_
  obtain ⟨v2, e1, h⟩ := ob h
  refine bz_callS1 (pc := 1) (As := [.int a1]) (rest := []) X hM hl.1 k_RX11_145 (ctX11_isSheet l e1) rfl rfl ⟨(Nat.le_of_ble_eq_true rfl), (Nat.le_of_ble_eq_true rfl)⟩ (Nat.le_of_ble_eq_true rfl) ⟨(Nat.le_of_ble_eq_true rfl), (Nat.le_of_ble_eq_true rfl)⟩ dX11_move_1 (fun H locs hM => ?_)
  refine lv_if_eq (pc := 4) (tgt := 14) hx hb dX11_move_4 (by decide) (fun hc => ?_) (fun hc => ?_)
  · have h := if_t hc h
    exact wjX11_move_14 hX _ _ h H locs ls hM (lv_sub hl [0] rfl)
  · have h := if_f hc h
    refine lv_iload_n (pc := 7) hx hb dX11_move_7 rfl (lv_at hl 3 rfl) ?_
    obtain ⟨v4, e3, h⟩ := ob h
    refine bz_callS1 (pc := 8) (As := [.int a3]) (rest := []) X hM hl.1 k_RX11_145 (ctX11_isSheet l e3) rfl rfl ⟨(Nat.le_of_ble_eq_true rfl), (Nat.le_of_ble_eq_true rfl)⟩ (Nat.le_of_ble_eq_true rfl) ⟨(Nat.le_of_ble_eq_true rfl), (Nat.le_of_ble_eq_true rfl)⟩ dX11_move_8 (fun H locs hM => ?_)
    refine lv_if_ne (pc := 11) (tgt := 20) hx hb dX11_move_11 (by decide) (fun hc => ?_) (fun hc => ?_)
    · have h := if_f hc h
      refine lv_aload_n (pc := 20) hx hb dX11_move_20 rfl (lv_at hl 0 rfl) ?_
      obtain ⟨q5, e6, h⟩ := ob h
      refine bz_getQ (pc := 21) X hM fl_RX11_26 e6 dX11_move_21 ?_
      refine lv_iload_n (pc := 24) hx hb dX11_move_24 rfl (lv_at hl 1 rfl) ?_
      obtain ⟨v7, e8, h⟩ := ob h
      refine bz_iald (pc := 25) X hM e8 dX11_move_25 ?_
      refine lv_if_eq (pc := 26) (tgt := 38) hx hb dX11_move_26 (by decide) (fun hc => ?_) (fun hc => ?_)
      · have h := if_t hc h
        exact wjX11_move_38 hX _ _ h H locs ls hM (lv_sub hl [0] rfl)
      · have h := if_f hc h
        refine lv_aload_n (pc := 29) hx hb dX11_move_29 rfl (lv_at hl 0 rfl) ?_
        obtain ⟨q9, e10, h⟩ := ob h
        refine bz_getQ (pc := 30) X hM fl_RX11_26 e10 dX11_move_30 ?_
        refine lv_iload_n (pc := 33) hx hb dX11_move_33 rfl (lv_at hl 3 rfl) ?_
        obtain ⟨v11, e12, h⟩ := ob h
        refine bz_iald (pc := 34) X hM e12 dX11_move_34 ?_
        refine lv_if_ne (pc := 35) (tgt := 44) hx hb dX11_move_35 (by decide) (fun hc => ?_) (fun hc => ?_)
        · have h := if_f hc h
          refine lv_aload_n (pc := 44) hx hb dX11_move_44 rfl (lv_at hl 0 rfl) ?_
          obtain ⟨q13, e14, h⟩ := ob h
          refine bz_getQ (pc := 45) X hM fl_RX11_26 e14 dX11_move_45 ?_
          refine lv_iload_n (pc := 48) hx hb dX11_move_48 rfl (lv_at hl 1 rfl) ?_
          obtain ⟨v15, e16, h⟩ := ob h
          refine bz_iald (pc := 49) X hM e16 dX11_move_49 ?_
          refine lv_aload_n (pc := 50) hx hb dX11_move_50 rfl (lv_at hl 0 rfl) ?_
          obtain ⟨q17, e18, h⟩ := ob h
          refine bz_getQ (pc := 51) X hM fl_RX11_26 e18 dX11_move_51 ?_
          refine lv_iload_n (pc := 54) hx hb dX11_move_54 rfl (lv_at hl 3 rfl) ?_
          obtain ⟨v19, e20, h⟩ := ob h
          refine bz_iald (pc := 55) X hM e20 dX11_move_55 ?_
          refine lv_icmp_eq (pc := 56) (tgt := 65) hx hb dX11_move_56 (by decide) (fun hc => ?_) (fun hc => ?_)
          · have h := if_t hc h
            refine lv_iload (pc := 65) hx hb dX11_move_65 (lv_at hl 5 rfl) ?_
            refine lv_if_lt (pc := 67) (tgt := 106) hx hb dX11_move_67 (by decide) (fun hc => ?_) (fun hc => ?_)
            · have h := if_t hc h
              exact wjX11_move_106 hX _ _ h H locs ls hM (lv_sub hl [0] rfl)
            · have h := if_f hc h
              refine lv_iload_n (pc := 70) hx hb dX11_move_70 rfl (lv_at hl 2 rfl) ?_
              refine lv_if_lt (pc := 71) (tgt := 106) hx hb dX11_move_71 (by decide) (fun hc => ?_) (fun hc => ?_)
              · have h := if_t hc h
                exact wjX11_move_106 hX _ _ h H locs ls hM (lv_sub hl [0] rfl)
              · have h := if_f hc h
                refine lv_iload (pc := 74) hx hb dX11_move_74 (lv_at hl 4 rfl) ?_
                refine lv_if_lt (pc := 76) (tgt := 106) hx hb dX11_move_76 (by decide) (fun hc => ?_) (fun hc => ?_)
                · have h := if_t hc h
                  exact wjX11_move_106 hX _ _ h H locs ls hM (lv_sub hl [0] rfl)
                · have h := if_f hc h
                  refine lv_iload (pc := 79) hx hb dX11_move_79 (lv_at hl 5 rfl) ?_
                  refine lv_aload_n (pc := 81) hx hb dX11_move_81 rfl (lv_at hl 0 rfl) ?_
                  obtain ⟨q21, e22, h⟩ := ob h
                  refine bz_getQ (pc := 82) X hM fl_RX11_29 e22 dX11_move_82 ?_
                  refine lv_iload_n (pc := 85) hx hb dX11_move_85 rfl (lv_at hl 1 rfl) ?_
                  obtain ⟨v23, e24, h⟩ := ob h
                  refine bz_iald (pc := 86) X hM e24 dX11_move_86 ?_
                  refine lv_iload_n (pc := 87) hx hb dX11_move_87 rfl (lv_at hl 2 rfl) ?_
                  refine lv_isub (pc := 88) hx hb dX11_move_88 ?_
                  refine lv_icmp_gt (pc := 89) (tgt := 106) hx hb dX11_move_89 (by decide) (fun hc => ?_) (fun hc => ?_)
                  · have h := if_t hc h
                    exact wjX11_move_106 hX _ _ h H locs ls hM (lv_sub hl [0] rfl)
                  · have h := if_f hc h
                    refine lv_iload (pc := 92) hx hb dX11_move_92 (lv_at hl 5 rfl) ?_
                    refine lv_aload_n (pc := 94) hx hb dX11_move_94 rfl (lv_at hl 0 rfl) ?_
                    obtain ⟨q25, e26, h⟩ := ob h
                    refine bz_getQ (pc := 95) X hM fl_RX11_29 e26 dX11_move_95 ?_
                    refine lv_iload_n (pc := 98) hx hb dX11_move_98 rfl (lv_at hl 3 rfl) ?_
                    obtain ⟨v27, e28, h⟩ := ob h
                    refine bz_iald (pc := 99) X hM e28 dX11_move_99 ?_
                    refine lv_iload (pc := 100) hx hb dX11_move_100 (lv_at hl 4 rfl) ?_
                    refine lv_isub (pc := 102) hx hb dX11_move_102 ?_
                    refine lv_icmp_le (pc := 103) (tgt := 112) hx hb dX11_move_103 (by decide) (fun hc => ?_) (fun hc => ?_)
                    · have h := if_t hc h
                      refine lv_iload_n (pc := 112) hx hb dX11_move_112 rfl (lv_at hl 1 rfl) ?_
                      refine lv_iload_n (pc := 113) hx hb dX11_move_113 rfl (lv_at hl 3 rfl) ?_
                      refine lv_icmp_ne (pc := 114) (tgt := 127) hx hb dX11_move_114 (by decide) (fun hc => ?_) (fun hc => ?_)
                      · have h := if_f hc h
                        refine lv_iconst (pc := 127) (v := (0 : Int32)) hx hb dX11_move_127 (by decide) ?_
                        refine lv_istore (pc := 128) (lv' := [(6, .int (0 : Int32)), (0, .ref (pB P + a0)), (1, .int a1), (2, .int a2), (3, .int a3), (4, .int a4), (5, .int a5)]) hx hb dX11_move_128 hl (by decide) rfl (fun ls hl => ?_)
                        refine lv_iconst (pc := 130) (v := (0 : Int32)) hx hb dX11_move_130 (by decide) ?_
                        refine lv_istore (pc := 131) (lv' := [(7, .int (0 : Int32)), (6, .int (0 : Int32)), (0, .ref (pB P + a0)), (1, .int a1), (2, .int a2), (3, .int a3), (4, .int a4), (5, .int a5)]) hx hb dX11_move_131 hl (by decide) rfl (fun ls hl => ?_)
                        exact wLX11_move_133 hX _ _ _ _ _ _ _ _ _ _ h H locs ls hM (lv_sub hl [2, 3, 4, 5, 6, 7, 1, 0] rfl)
                      · have h := if_t hc h
                        refine lv_iload_n (pc := 117) hx hb dX11_move_117 rfl (lv_at hl 2 rfl) ?_
                        refine lv_iload (pc := 118) hx hb dX11_move_118 (lv_at hl 4 rfl) ?_
                        refine lv_icmp_ge (pc := 120) (tgt := 127) hx hb dX11_move_120 (by decide) (fun hc => ?_) (fun hc => ?_)
                        · have h := if_t hc h
                          refine lv_iconst (pc := 127) (v := (0 : Int32)) hx hb dX11_move_127 (by decide) ?_
                          refine lv_istore (pc := 128) (lv' := [(6, .int (0 : Int32)), (0, .ref (pB P + a0)), (1, .int a1), (2, .int a2), (3, .int a3), (4, .int a4), (5, .int a5)]) hx hb dX11_move_128 hl (by decide) rfl (fun ls hl => ?_)
                          refine lv_iconst (pc := 130) (v := (0 : Int32)) hx hb dX11_move_130 (by decide) ?_
                          refine lv_istore (pc := 131) (lv' := [(7, .int (0 : Int32)), (6, .int (0 : Int32)), (0, .ref (pB P + a0)), (1, .int a1), (2, .int a2), (3, .int a3), (4, .int a4), (5, .int a5)]) hx hb dX11_move_131 hl (by decide) rfl (fun ls hl => ?_)
                          exact wLX11_move_133 hX _ _ _ _ _ _ _ _ _ _ h H locs ls hM (lv_sub hl [2, 3, 4, 5, 6, 7, 1, 0] rfl)
                        · have h := if_f hc h
                          refine lv_iconst (pc := 123) (v := (1 : Int32)) hx hb dX11_move_123 (by decide) ?_
                          refine lv_goto (pc := 124) (tgt := 128) hx hb dX11_move_124 (by decide) ?_
                          refine lv_istore (pc := 128) (lv' := [(6, .int (1 : Int32)), (0, .ref (pB P + a0)), (1, .int a1), (2, .int a2), (3, .int a3), (4, .int a4), (5, .int a5)]) hx hb dX11_move_128 hl (by decide) rfl (fun ls hl => ?_)
                          refine lv_iconst (pc := 130) (v := (0 : Int32)) hx hb dX11_move_130 (by decide) ?_
                          refine lv_istore (pc := 131) (lv' := [(7, .int (0 : Int32)), (6, .int (1 : Int32)), (0, .ref (pB P + a0)), (1, .int a1), (2, .int a2), (3, .int a3), (4, .int a4), (5, .int a5)]) hx hb dX11_move_131 hl (by decide) rfl (fun ls hl => ?_)
                          exact wLX11_move_133 hX _ _ _ _ _ _ _ _ _ _ h H locs ls hM (lv_sub hl [2, 3, 4, 5, 6, 7, 1, 0] rfl)
                    · have h := if_f hc h
                      exact wjX11_move_106 hX _ _ h H locs ls hM (lv_sub hl [0] rfl)
          · have h := if_f hc h
            refine lv_aload_n (pc := 59) hx hb dX11_move_59 rfl (lv_at hl 0 rfl) ?_
            refine lv_iconst (pc := 60) (v := (5 : Int32)) hx hb dX11_move_60 (by decide) ?_
            obtain ⟨v30, M31, e29, h⟩ := ob2 h
            obtain ⟨fs32, hb33⟩ := (rX11_error e29)
            refine bz_callV1 (pc := 61) (As := [.int (5 : Int32)]) (rest := []) X hM hl.1 k_RX11_73 (ctX11_error l e29) rfl hb33 rfl rfl ⟨(Nat.le_of_ble_eq_true rfl), (Nat.le_of_ble_eq_true rfl)⟩ (Nat.le_of_ble_eq_true rfl) ⟨(Nat.le_of_ble_eq_true rfl), (Nat.le_of_ble_eq_true rfl)⟩ dX11_move_61 (fun H locs hM => ?_)
            obtain ⟨rfl, rfl⟩ := so2 h
            exact bz_iret (pc := 64) X hM hr hlk dX11_move_64 (Nat.le_of_ble_eq_true rfl) (Nat.le_of_ble_eq_true rfl)
        · have h := if_t hc h
          exact wjX11_move_38 hX _ _ h H locs ls hM (lv_sub hl [0] rfl)
    · have h := if_t hc h
      exact wjX11_move_14 hX _ _ h H locs ls hM (lv_sub hl [0] rfl)
theorem rX11_move {N : Nat} {M : Mm} {a0 : Nat} {a1 : Int32} {a2 : Int32} {a3 : Int32} {a4 : Int32} {a5 : Int32} {r9 : Int32 × Mm} (h : fX11_move N M a0 a1 a2 a3 a4 a5 = some r9) : ∃ fs, M[a0]? = some (.inr (11, fs)) := by
  unfold fX11_move at h
  obtain ⟨_, e1, _⟩ := ob h
  exact gC_spec e1
theorem ctX11_move (l : Launch) {P : PT} {N : Nat} {M : Mm} {a0 : Nat} {a1 : Int32} {a2 : Int32} {a3 : Int32} {a4 : Int32} {a5 : Int32} {r9 : Int32} {M9 : Mm} (h : fX11_move N M a0 a1 a2 a3 a4 a5 = some (r9, M9)) : Ct l yX11_move cX11_move 9 (some .int) 2 0 P [.ref (pB P + a0), .int a1, .int a2, .int a3, .int a4, .int a5] M (some (.int r9)) M9 :=
  Ct.mk (by decide +kernel) (Nat.le_of_ble_eq_true rfl) (fun p e s m args below meth c hX => wX11_move hX M a0 a1 a2 a3 a4 a5 h)
set_option maxHeartbeats 4000000 in
set_option maxRecDepth 100000 in
theorem wjX6_become_142 {p : Program} {l : Launch} {e : Env} {s : State} {m : MethodId} {args : Array Value} {below : List Frame} {meth : Method} {c : Code} {P : PT} {N : Nat}  {M9 : Mm} (hX : Cy p s m args c meth cX6_become 3 RX6 "become" none P)   (M : Mm) (x0 : Nat) (x1 : Nat)  (h : jX6_become_142 N M x0 x1 = some M9) : Wq p l e s m args below meth c 2 0 none M9 3 P 0 142 [(0, .ref (pB P + x0)), (1, .ref (pB P + x1))] [] M := by
  unfold jX6_become_142 at h
  have hX0 := hX
  obtain ⟨X, hr, hlk, hnm⟩ := hX0
  have hx := X.1.1
  have hb := X.1.2.1
  intro H locs ls hM hl
  refine lv_aload_n (pc := 142) hx hb dX6_become_142 rfl (lv_at hl 0 rfl) ?_
  refine lv_aload_n (pc := 143) hx hb dX6_become_143 rfl (lv_at hl 1 rfl) ?_
  obtain ⟨v1, e2, h⟩ := ob h
  refine bz_getI (pc := 144) X hM fl_RX6_80 e2 dX6_become_144 ?_
  obtain ⟨M3, e4, h⟩ := ob h
  refine bz_putI (pc := 147) X hM fp_RX6_80 (Or.inl rfl) e4 dX6_become_147 (fun H locs hM => ?_)
  refine lv_aload_n (pc := 150) hx hb dX6_become_150 rfl (lv_at hl 0 rfl) ?_
  obtain ⟨q5, e6, h⟩ := ob h
  refine bz_getQ (pc := 151) X hM fl_RX6_47 e6 dX6_become_151 ?_
  refine lv_aload_n (pc := 154) hx hb dX6_become_154 rfl (lv_at hl 1 rfl) ?_
  obtain ⟨q7, e8, h⟩ := ob h
  refine bz_getQ (pc := 155) X hM fl_RX6_47 e8 dX6_become_155 ?_
  obtain ⟨M10, e9, h⟩ := ob h
  obtain ⟨fs11, hb12⟩ := (rX3_become e9)
  refine bz_callV0 (pc := 158) (As := [.ref (pB P + q7)]) (rest := []) X hM hl.1 k_RX6_76 (ctX3_become l e9) rfl hb12 rfl rfl ⟨(Nat.le_of_ble_eq_true rfl), (Nat.le_of_ble_eq_true rfl)⟩ (Nat.le_of_ble_eq_true rfl) ⟨(Nat.le_of_ble_eq_true rfl), (Nat.le_of_ble_eq_true rfl)⟩ dX6_become_158 (fun H locs hM => ?_)
  refine lv_aload_n (pc := 161) hx hb dX6_become_161 rfl (lv_at hl 0 rfl) ?_
  obtain ⟨q13, e14, h⟩ := ob h
  refine bz_getQ (pc := 162) X hM fl_RX6_50 e14 dX6_become_162 ?_
  refine lv_aload_n (pc := 165) hx hb dX6_become_165 rfl (lv_at hl 1 rfl) ?_
  obtain ⟨q15, e16, h⟩ := ob h
  refine bz_getQ (pc := 166) X hM fl_RX6_50 e16 dX6_become_166 ?_
  obtain ⟨M18, e17, h⟩ := ob h
  obtain ⟨fs19, hb20⟩ := (rX3_become e17)
  refine bz_callV0 (pc := 169) (As := [.ref (pB P + q15)]) (rest := []) X hM hl.1 k_RX6_76 (ctX3_become l e17) rfl hb20 rfl rfl ⟨(Nat.le_of_ble_eq_true rfl), (Nat.le_of_ble_eq_true rfl)⟩ (Nat.le_of_ble_eq_true rfl) ⟨(Nat.le_of_ble_eq_true rfl), (Nat.le_of_ble_eq_true rfl)⟩ dX6_become_169 (fun H locs hM => ?_)
  refine lv_aload_n (pc := 172) hx hb dX6_become_172 rfl (lv_at hl 0 rfl) ?_
  obtain ⟨q21, e22, h⟩ := ob h
  refine bz_getQ (pc := 173) X hM fl_RX6_53 e22 dX6_become_173 ?_
  refine lv_aload_n (pc := 176) hx hb dX6_become_176 rfl (lv_at hl 1 rfl) ?_
  obtain ⟨q23, e24, h⟩ := ob h
  refine bz_getQ (pc := 177) X hM fl_RX6_53 e24 dX6_become_177 ?_
  obtain ⟨M26, e25, h⟩ := ob h
  obtain ⟨fs27, hb28⟩ := (rX3_become e25)
  refine bz_callV0 (pc := 180) (As := [.ref (pB P + q23)]) (rest := []) X hM hl.1 k_RX6_76 (ctX3_become l e25) rfl hb28 rfl rfl ⟨(Nat.le_of_ble_eq_true rfl), (Nat.le_of_ble_eq_true rfl)⟩ (Nat.le_of_ble_eq_true rfl) ⟨(Nat.le_of_ble_eq_true rfl), (Nat.le_of_ble_eq_true rfl)⟩ dX6_become_180 (fun H locs hM => ?_)
  refine lv_aload_n (pc := 183) hx hb dX6_become_183 rfl (lv_at hl 0 rfl) ?_
  obtain ⟨q29, e30, h⟩ := ob h
  refine bz_getQ (pc := 184) X hM fl_RX6_56 e30 dX6_become_184 ?_
  refine lv_aload_n (pc := 187) hx hb dX6_become_187 rfl (lv_at hl 1 rfl) ?_
  obtain ⟨q31, e32, h⟩ := ob h
  refine bz_getQ (pc := 188) X hM fl_RX6_56 e32 dX6_become_188 ?_
  obtain ⟨M34, e33, h⟩ := ob h
  obtain ⟨fs35, hb36⟩ := (rX3_become e33)
  refine bz_callV0 (pc := 191) (As := [.ref (pB P + q31)]) (rest := []) X hM hl.1 k_RX6_76 (ctX3_become l e33) rfl hb36 rfl rfl ⟨(Nat.le_of_ble_eq_true rfl), (Nat.le_of_ble_eq_true rfl)⟩ (Nat.le_of_ble_eq_true rfl) ⟨(Nat.le_of_ble_eq_true rfl), (Nat.le_of_ble_eq_true rfl)⟩ dX6_become_191 (fun H locs hM => ?_)
  refine lv_aload_n (pc := 194) hx hb dX6_become_194 rfl (lv_at hl 0 rfl) ?_
  obtain ⟨q37, e38, h⟩ := ob h
  refine bz_getQ (pc := 195) X hM fl_RX6_59 e38 dX6_become_195 ?_
  refine lv_aload_n (pc := 198) hx hb dX6_become_198 rfl (lv_at hl 1 rfl) ?_
  obtain ⟨q39, e40, h⟩ := ob h
  refine bz_getQ (pc := 199) X hM fl_RX6_59 e40 dX6_become_199 ?_
  obtain ⟨M42, e41, h⟩ := ob h
  obtain ⟨fs43, hb44⟩ := (rX3_become e41)
  refine bz_callV0 (pc := 202) (As := [.ref (pB P + q39)]) (rest := []) X hM hl.1 k_RX6_76 (ctX3_become l e41) rfl hb44 rfl rfl ⟨(Nat.le_of_ble_eq_true rfl), (Nat.le_of_ble_eq_true rfl)⟩ (Nat.le_of_ble_eq_true rfl) ⟨(Nat.le_of_ble_eq_true rfl), (Nat.le_of_ble_eq_true rfl)⟩ dX6_become_202 (fun H locs hM => ?_)
  refine lv_aload_n (pc := 205) hx hb dX6_become_205 rfl (lv_at hl 0 rfl) ?_
  obtain ⟨q45, e46, h⟩ := ob h
  refine bz_getQ (pc := 206) X hM fl_RX6_62 e46 dX6_become_206 ?_
  refine lv_aload_n (pc := 209) hx hb dX6_become_209 rfl (lv_at hl 1 rfl) ?_
  obtain ⟨q47, e48, h⟩ := ob h
  refine bz_getQ (pc := 210) X hM fl_RX6_62 e48 dX6_become_210 ?_
  obtain ⟨M50, e49, h⟩ := ob h
  obtain ⟨fs51, hb52⟩ := (rX3_become e49)
  refine bz_callV0 (pc := 213) (As := [.ref (pB P + q47)]) (rest := []) X hM hl.1 k_RX6_76 (ctX3_become l e49) rfl hb52 rfl rfl ⟨(Nat.le_of_ble_eq_true rfl), (Nat.le_of_ble_eq_true rfl)⟩ (Nat.le_of_ble_eq_true rfl) ⟨(Nat.le_of_ble_eq_true rfl), (Nat.le_of_ble_eq_true rfl)⟩ dX6_become_213 (fun H locs hM => ?_)
  refine lv_aload_n (pc := 216) hx hb dX6_become_216 rfl (lv_at hl 0 rfl) ?_
  obtain ⟨q53, e54, h⟩ := ob h
  refine bz_getQ (pc := 217) X hM fl_RX6_65 e54 dX6_become_217 ?_
  refine lv_aload_n (pc := 220) hx hb dX6_become_220 rfl (lv_at hl 1 rfl) ?_
  obtain ⟨q55, e56, h⟩ := ob h
  refine bz_getQ (pc := 221) X hM fl_RX6_65 e56 dX6_become_221 ?_
  obtain ⟨M58, e57, h⟩ := ob h
  obtain ⟨fs59, hb60⟩ := (rX3_become e57)
  refine bz_callV0 (pc := 224) (As := [.ref (pB P + q55)]) (rest := []) X hM hl.1 k_RX6_76 (ctX3_become l e57) rfl hb60 rfl rfl ⟨(Nat.le_of_ble_eq_true rfl), (Nat.le_of_ble_eq_true rfl)⟩ (Nat.le_of_ble_eq_true rfl) ⟨(Nat.le_of_ble_eq_true rfl), (Nat.le_of_ble_eq_true rfl)⟩ dX6_become_224 (fun H locs hM => ?_)
  refine lv_aload_n (pc := 227) hx hb dX6_become_227 rfl (lv_at hl 0 rfl) ?_
  refine lv_aload_n (pc := 228) hx hb dX6_become_228 rfl (lv_at hl 1 rfl) ?_
  obtain ⟨v61, e62, h⟩ := ob h
  refine bz_getI (pc := 229) X hM fl_RX6_68 e62 dX6_become_229 ?_
  obtain ⟨M63, e64, h⟩ := ob h
  refine bz_putI (pc := 232) X hM fp_RX6_68 (Or.inl rfl) e64 dX6_become_232 (fun H locs hM => ?_)
  obtain rfl := so1 h
  exact bz_vret (pc := 235) X hM hr hlk dX6_become_235 (Nat.le_of_ble_eq_true rfl) (Nat.le_of_ble_eq_true rfl)
set_option maxHeartbeats 4000000 in
set_option maxRecDepth 100000 in
theorem wBX6_become_106 {p : Program} {l : Launch} {e : Env} {s : State} {m : MethodId} {args : Array Value} {below : List Frame} {meth : Method} {c : Code} {P : PT} {N : Nat} {K106 : Mm → Nat → Nat → Int32 → Option (Mm)}  {M9 : Mm} (hX : Cy p s m args c meth cX6_become 3 RX6 "become" none P)  (hK106 : ∀ (M : Mm) (x0 : Nat) (x1 : Nat) (x2 : Int32), K106 M x0 x1 x2 = some M9 → Wq p l e s m args below meth c 2 0 none M9 3 P 0 106 [(0, .ref (pB P + x0)), (1, .ref (pB P + x1)), (2, .int x2)] [] M) (M : Mm) (x0 : Nat) (x1 : Nat) (x2 : Int32)  (h : BX6_become_106 N K106 M x0 x1 x2 = some M9) : Wq p l e s m args below meth c 2 0 none M9 3 P 0 106 [(0, .ref (pB P + x0)), (1, .ref (pB P + x1)), (2, .int x2)] [] M := by
  unfold BX6_become_106 at h
  have hX0 := hX
  obtain ⟨X, hr, hlk, hnm⟩ := hX0
  have hx := X.1.1
  have hb := X.1.2.1
  intro H locs ls hM hl
  refine lv_iload_n (pc := 106) hx hb dX6_become_106 rfl (lv_at hl 2 rfl) ?_
  refine lv_aload_n (pc := 107) hx hb dX6_become_107 rfl (lv_at hl 0 rfl) ?_
  obtain ⟨q1, e2, h⟩ := ob h
  refine bz_getQ (pc := 108) X hM fl_RX6_43 e2 dX6_become_108 ?_
  obtain ⟨v3, e4, h⟩ := ob h
  refine bz_alen (pc := 111) X hM e4 dX6_become_111 ?_
  refine lv_icmp_ge (pc := 112) (tgt := 142) hx hb dX6_become_112 (by decide) (fun hc => ?_) (fun hc => ?_)
  · have h := if_t hc h
    exact wjX6_become_142 hX _ _ _ h H locs ls hM (lv_sub hl [0, 1] rfl)
  · have h := if_f hc h
    refine lv_iload_n (pc := 115) hx hb dX6_become_115 rfl (lv_at hl 2 rfl) ?_
    refine lv_aload_n (pc := 116) hx hb dX6_become_116 rfl (lv_at hl 1 rfl) ?_
    obtain ⟨q5, e6, h⟩ := ob h
    refine bz_getQ (pc := 117) X hM fl_RX6_43 e6 dX6_become_117 ?_
    obtain ⟨v7, e8, h⟩ := ob h
    refine bz_alen (pc := 120) X hM e8 dX6_become_120 ?_
    refine lv_icmp_ge (pc := 121) (tgt := 142) hx hb dX6_become_121 (by decide) (fun hc => ?_) (fun hc => ?_)
    · have h := if_t hc h
      exact wjX6_become_142 hX _ _ _ h H locs ls hM (lv_sub hl [0, 1] rfl)
    · have h := if_f hc h
      refine lv_aload_n (pc := 124) hx hb dX6_become_124 rfl (lv_at hl 0 rfl) ?_
      obtain ⟨q9, e10, h⟩ := ob h
      refine bz_getQ (pc := 125) X hM fl_RX6_43 e10 dX6_become_125 ?_
      refine lv_iload_n (pc := 128) hx hb dX6_become_128 rfl (lv_at hl 2 rfl) ?_
      refine lv_aload_n (pc := 129) hx hb dX6_become_129 rfl (lv_at hl 1 rfl) ?_
      obtain ⟨q11, e12, h⟩ := ob h
      refine bz_getQ (pc := 130) X hM fl_RX6_43 e12 dX6_become_130 ?_
      refine lv_iload_n (pc := 133) hx hb dX6_become_133 rfl (lv_at hl 2 rfl) ?_
      obtain ⟨r13, e14, h⟩ := ob h
      refine bz_aald (pc := 134) (t := 3) X hM (by decide) e14 dX6_become_134 ?_
      obtain ⟨M15, e16, h⟩ := ob h
      refine bz_aast (pc := 135) (t := 3) (ci := 0) (r := r13) X hM ⟨by decide, rfl, rfl⟩ e16 dX6_become_135 (fun H locs hM => ?_)
      refine lv_iinc (pc := 136) (v := (x2 + (1 : Int32))) (lv' := [(2, .int (x2 + (1 : Int32))), (0, .ref (pB P + x0)), (1, .ref (pB P + x1))]) hx hb dX6_become_136 hl (k := 2) rfl rfl (by decide) rfl (fun ls hl => ?_)
      refine lv_goto (pc := 139) (tgt := 106) hx hb dX6_become_139 (by decide) ?_
      exact hK106 _ _ _ _ h H locs ls hM (lv_sub hl [1, 2, 0] rfl)
set_option maxHeartbeats 4000000 in
set_option maxRecDepth 100000 in
theorem wLX6_become_106 {p : Program} {l : Launch} {e : Env} {s : State} {m : MethodId} {args : Array Value} {below : List Frame} {meth : Method} {c : Code} {P : PT} {N : Nat}  {M9 : Mm} (hX : Cy p s m args c meth cX6_become 3 RX6 "become" none P)   : ∀ (n : Nat) (M : Mm) (x0 : Nat) (x1 : Nat) (x2 : Int32) , LX6_become_106 N n M x0 x1 x2 = some M9 → Wq p l e s m args below meth c 2 0 none M9 3 P 0 106 [(0, .ref (pB P + x0)), (1, .ref (pB P + x1)), (2, .int x2)] [] M := by
  intro n
  induction n with
  | zero => intro M x0 x1 x2 h; cases h
  | succ n ih => intro M x0 x1 x2 h; exact wBX6_become_106 hX ih M x0 x1 x2 h
set_option maxHeartbeats 4000000 in
set_option maxRecDepth 100000 in
theorem wBX6_become_68 {p : Program} {l : Launch} {e : Env} {s : State} {m : MethodId} {args : Array Value} {below : List Frame} {meth : Method} {c : Code} {P : PT} {N : Nat} {K68 : Mm → Nat → Nat → Int32 → Option (Mm)}  {M9 : Mm} (hX : Cy p s m args c meth cX6_become 3 RX6 "become" none P)  (hK68 : ∀ (M : Mm) (x0 : Nat) (x1 : Nat) (x2 : Int32), K68 M x0 x1 x2 = some M9 → Wq p l e s m args below meth c 2 0 none M9 3 P 0 68 [(0, .ref (pB P + x0)), (1, .ref (pB P + x1)), (2, .int x2)] [] M) (M : Mm) (x0 : Nat) (x1 : Nat) (x2 : Int32)  (h : BX6_become_68 N K68 M x0 x1 x2 = some M9) : Wq p l e s m args below meth c 2 0 none M9 3 P 0 68 [(0, .ref (pB P + x0)), (1, .ref (pB P + x1)), (2, .int x2)] [] M := by
  unfold BX6_become_68 at h
  have hX0 := hX
  obtain ⟨X, hr, hlk, hnm⟩ := hX0
  have hx := X.1.1
  have hb := X.1.2.1
  intro H locs ls hM hl
  refine lv_iload_n (pc := 68) hx hb dX6_become_68 rfl (lv_at hl 2 rfl) ?_
  refine lv_aload_n (pc := 69) hx hb dX6_become_69 rfl (lv_at hl 0 rfl) ?_
  obtain ⟨q1, e2, h⟩ := ob h
  refine bz_getQ (pc := 70) X hM fl_RX6_37 e2 dX6_become_70 ?_
  obtain ⟨v3, e4, h⟩ := ob h
  refine bz_alen (pc := 73) X hM e4 dX6_become_73 ?_
  refine lv_icmp_ge (pc := 74) (tgt := 104) hx hb dX6_become_74 (by decide) (fun hc => ?_) (fun hc => ?_)
  · have h := if_t hc h
    refine lv_iconst (pc := 104) (v := (0 : Int32)) hx hb dX6_become_104 (by decide) ?_
    refine lv_istore_n (pc := 105) (lv' := [(2, .int (0 : Int32)), (0, .ref (pB P + x0)), (1, .ref (pB P + x1))]) hx hb dX6_become_105 rfl hl (by decide) rfl (fun ls hl => ?_)
    exact wLX6_become_106 hX _ _ _ _ _ h H locs ls hM (lv_sub hl [1, 2, 0] rfl)
  · have h := if_f hc h
    refine lv_iload_n (pc := 77) hx hb dX6_become_77 rfl (lv_at hl 2 rfl) ?_
    refine lv_aload_n (pc := 78) hx hb dX6_become_78 rfl (lv_at hl 1 rfl) ?_
    obtain ⟨q5, e6, h⟩ := ob h
    refine bz_getQ (pc := 79) X hM fl_RX6_37 e6 dX6_become_79 ?_
    obtain ⟨v7, e8, h⟩ := ob h
    refine bz_alen (pc := 82) X hM e8 dX6_become_82 ?_
    refine lv_icmp_ge (pc := 83) (tgt := 104) hx hb dX6_become_83 (by decide) (fun hc => ?_) (fun hc => ?_)
    · have h := if_t hc h
      refine lv_iconst (pc := 104) (v := (0 : Int32)) hx hb dX6_become_104 (by decide) ?_
      refine lv_istore_n (pc := 105) (lv' := [(2, .int (0 : Int32)), (0, .ref (pB P + x0)), (1, .ref (pB P + x1))]) hx hb dX6_become_105 rfl hl (by decide) rfl (fun ls hl => ?_)
      exact wLX6_become_106 hX _ _ _ _ _ h H locs ls hM (lv_sub hl [1, 2, 0] rfl)
    · have h := if_f hc h
      refine lv_aload_n (pc := 86) hx hb dX6_become_86 rfl (lv_at hl 0 rfl) ?_
      obtain ⟨q9, e10, h⟩ := ob h
      refine bz_getQ (pc := 87) X hM fl_RX6_37 e10 dX6_become_87 ?_
      refine lv_iload_n (pc := 90) hx hb dX6_become_90 rfl (lv_at hl 2 rfl) ?_
      refine lv_aload_n (pc := 91) hx hb dX6_become_91 rfl (lv_at hl 1 rfl) ?_
      obtain ⟨q11, e12, h⟩ := ob h
      refine bz_getQ (pc := 92) X hM fl_RX6_37 e12 dX6_become_92 ?_
      refine lv_iload_n (pc := 95) hx hb dX6_become_95 rfl (lv_at hl 2 rfl) ?_
      obtain ⟨r13, e14, h⟩ := ob h
      refine bz_aald (pc := 96) (t := 2) X hM (by decide) e14 dX6_become_96 ?_
      obtain ⟨M15, e16, h⟩ := ob h
      refine bz_aast (pc := 97) (t := 2) (ci := 8) (r := r13) X hM ⟨by decide, rfl, rfl⟩ e16 dX6_become_97 (fun H locs hM => ?_)
      refine lv_iinc (pc := 98) (v := (x2 + (1 : Int32))) (lv' := [(2, .int (x2 + (1 : Int32))), (0, .ref (pB P + x0)), (1, .ref (pB P + x1))]) hx hb dX6_become_98 hl (k := 2) rfl rfl (by decide) rfl (fun ls hl => ?_)
      refine lv_goto (pc := 101) (tgt := 68) hx hb dX6_become_101 (by decide) ?_
      exact hK68 _ _ _ _ h H locs ls hM (lv_sub hl [1, 2, 0] rfl)
set_option maxHeartbeats 4000000 in
set_option maxRecDepth 100000 in
theorem wLX6_become_68 {p : Program} {l : Launch} {e : Env} {s : State} {m : MethodId} {args : Array Value} {below : List Frame} {meth : Method} {c : Code} {P : PT} {N : Nat}  {M9 : Mm} (hX : Cy p s m args c meth cX6_become 3 RX6 "become" none P)   : ∀ (n : Nat) (M : Mm) (x0 : Nat) (x1 : Nat) (x2 : Int32) , LX6_become_68 N n M x0 x1 x2 = some M9 → Wq p l e s m args below meth c 2 0 none M9 3 P 0 68 [(0, .ref (pB P + x0)), (1, .ref (pB P + x1)), (2, .int x2)] [] M := by
  intro n
  induction n with
  | zero => intro M x0 x1 x2 h; cases h
  | succ n ih => intro M x0 x1 x2 h; exact wBX6_become_68 hX ih M x0 x1 x2 h
set_option maxHeartbeats 4000000 in
set_option maxRecDepth 100000 in
theorem wX6_become {p : Program} {l : Launch} {e : Env} {s : State} {m : MethodId} {args : Array Value} {below : List Frame} {meth : Method} {c : Code} {P : PT} {N : Nat}  {M9 : Mm} (hX : Cy p s m args c meth cX6_become 3 RX6 "become" none P)  (M : Mm) (a0 : Nat) (a1 : Nat) (h : fX6_become N M a0 a1 = some M9) : Wq p l e s m args below meth c 2 0 none M9 3 P 0 0 [(0, .ref (pB P + a0)), (1, .ref (pB P + a1))] [] M := by
  unfold fX6_become at h
  obtain ⟨_, _, h⟩ := ob h
  have hX0 := hX
  obtain ⟨X, hr, hlk, hnm⟩ := hX0
  have hx := X.1.1
  have hb := X.1.2.1
  intro H locs ls hM hl
  refine lv_aload_n (pc := 0) hx hb dX6_become_0 rfl (lv_at hl 0 rfl) ?_
  obtain ⟨q1, e2, h⟩ := ob h
  refine bz_getQ (pc := 1) X hM fl_RX6_14 e2 dX6_become_1 ?_
  refine lv_aload_n (pc := 4) hx hb dX6_become_4 rfl (lv_at hl 1 rfl) ?_
  obtain ⟨q3, e4, h⟩ := ob h
  refine bz_getQ (pc := 5) X hM fl_RX6_14 e4 dX6_become_5 ?_
  obtain ⟨M6, e5, h⟩ := ob h
  obtain ⟨fs7, hb8⟩ := (rX3_become e5)
  refine bz_callV0 (pc := 8) (As := [.ref (pB P + q3)]) (rest := []) X hM hl.1 k_RX6_76 (ctX3_become l e5) rfl hb8 rfl rfl ⟨(Nat.le_of_ble_eq_true rfl), (Nat.le_of_ble_eq_true rfl)⟩ (Nat.le_of_ble_eq_true rfl) ⟨(Nat.le_of_ble_eq_true rfl), (Nat.le_of_ble_eq_true rfl)⟩ dX6_become_8 (fun H locs hM => ?_)
  refine lv_aload_n (pc := 11) hx hb dX6_become_11 rfl (lv_at hl 0 rfl) ?_
  obtain ⟨q9, e10, h⟩ := ob h
  refine bz_getQ (pc := 12) X hM fl_RX6_20 e10 dX6_become_12 ?_
  refine lv_aload_n (pc := 15) hx hb dX6_become_15 rfl (lv_at hl 1 rfl) ?_
  obtain ⟨q11, e12, h⟩ := ob h
  refine bz_getQ (pc := 16) X hM fl_RX6_20 e12 dX6_become_16 ?_
  obtain ⟨M14, e13, h⟩ := ob h
  obtain ⟨fs15, hb16⟩ := (rX3_become e13)
  refine bz_callV0 (pc := 19) (As := [.ref (pB P + q11)]) (rest := []) X hM hl.1 k_RX6_76 (ctX3_become l e13) rfl hb16 rfl rfl ⟨(Nat.le_of_ble_eq_true rfl), (Nat.le_of_ble_eq_true rfl)⟩ (Nat.le_of_ble_eq_true rfl) ⟨(Nat.le_of_ble_eq_true rfl), (Nat.le_of_ble_eq_true rfl)⟩ dX6_become_19 (fun H locs hM => ?_)
  refine lv_aload_n (pc := 22) hx hb dX6_become_22 rfl (lv_at hl 0 rfl) ?_
  obtain ⟨q17, e18, h⟩ := ob h
  refine bz_getQ (pc := 23) X hM fl_RX6_23 e18 dX6_become_23 ?_
  refine lv_aload_n (pc := 26) hx hb dX6_become_26 rfl (lv_at hl 1 rfl) ?_
  obtain ⟨q19, e20, h⟩ := ob h
  refine bz_getQ (pc := 27) X hM fl_RX6_23 e20 dX6_become_27 ?_
  obtain ⟨M22, e21, h⟩ := ob h
  obtain ⟨fs23, hb24⟩ := (rX3_become e21)
  refine bz_callV0 (pc := 30) (As := [.ref (pB P + q19)]) (rest := []) X hM hl.1 k_RX6_76 (ctX3_become l e21) rfl hb24 rfl rfl ⟨(Nat.le_of_ble_eq_true rfl), (Nat.le_of_ble_eq_true rfl)⟩ (Nat.le_of_ble_eq_true rfl) ⟨(Nat.le_of_ble_eq_true rfl), (Nat.le_of_ble_eq_true rfl)⟩ dX6_become_30 (fun H locs hM => ?_)
  refine lv_aload_n (pc := 33) hx hb dX6_become_33 rfl (lv_at hl 0 rfl) ?_
  obtain ⟨q25, e26, h⟩ := ob h
  refine bz_getQ (pc := 34) X hM fl_RX6_26 e26 dX6_become_34 ?_
  refine lv_aload_n (pc := 37) hx hb dX6_become_37 rfl (lv_at hl 1 rfl) ?_
  obtain ⟨q27, e28, h⟩ := ob h
  refine bz_getQ (pc := 38) X hM fl_RX6_26 e28 dX6_become_38 ?_
  obtain ⟨M30, e29, h⟩ := ob h
  obtain ⟨fs31, hb32⟩ := (rX3_become e29)
  refine bz_callV0 (pc := 41) (As := [.ref (pB P + q27)]) (rest := []) X hM hl.1 k_RX6_76 (ctX3_become l e29) rfl hb32 rfl rfl ⟨(Nat.le_of_ble_eq_true rfl), (Nat.le_of_ble_eq_true rfl)⟩ (Nat.le_of_ble_eq_true rfl) ⟨(Nat.le_of_ble_eq_true rfl), (Nat.le_of_ble_eq_true rfl)⟩ dX6_become_41 (fun H locs hM => ?_)
  refine lv_aload_n (pc := 44) hx hb dX6_become_44 rfl (lv_at hl 0 rfl) ?_
  obtain ⟨q33, e34, h⟩ := ob h
  refine bz_getQ (pc := 45) X hM fl_RX6_29 e34 dX6_become_45 ?_
  refine lv_aload_n (pc := 48) hx hb dX6_become_48 rfl (lv_at hl 1 rfl) ?_
  obtain ⟨q35, e36, h⟩ := ob h
  refine bz_getQ (pc := 49) X hM fl_RX6_29 e36 dX6_become_49 ?_
  obtain ⟨M38, e37, h⟩ := ob h
  obtain ⟨fs39, hb40⟩ := (rX3_become e37)
  refine bz_callV0 (pc := 52) (As := [.ref (pB P + q35)]) (rest := []) X hM hl.1 k_RX6_76 (ctX3_become l e37) rfl hb40 rfl rfl ⟨(Nat.le_of_ble_eq_true rfl), (Nat.le_of_ble_eq_true rfl)⟩ (Nat.le_of_ble_eq_true rfl) ⟨(Nat.le_of_ble_eq_true rfl), (Nat.le_of_ble_eq_true rfl)⟩ dX6_become_52 (fun H locs hM => ?_)
  refine lv_aload_n (pc := 55) hx hb dX6_become_55 rfl (lv_at hl 0 rfl) ?_
  obtain ⟨q41, e42, h⟩ := ob h
  refine bz_getQ (pc := 56) X hM fl_RX6_32 e42 dX6_become_56 ?_
  refine lv_aload_n (pc := 59) hx hb dX6_become_59 rfl (lv_at hl 1 rfl) ?_
  obtain ⟨q43, e44, h⟩ := ob h
  refine bz_getQ (pc := 60) X hM fl_RX6_32 e44 dX6_become_60 ?_
  obtain ⟨M46, e45, h⟩ := ob h
  obtain ⟨fs47, hb48⟩ := (rX3_become e45)
  refine bz_callV0 (pc := 63) (As := [.ref (pB P + q43)]) (rest := []) X hM hl.1 k_RX6_76 (ctX3_become l e45) rfl hb48 rfl rfl ⟨(Nat.le_of_ble_eq_true rfl), (Nat.le_of_ble_eq_true rfl)⟩ (Nat.le_of_ble_eq_true rfl) ⟨(Nat.le_of_ble_eq_true rfl), (Nat.le_of_ble_eq_true rfl)⟩ dX6_become_63 (fun H locs hM => ?_)
  refine lv_iconst (pc := 66) (v := (0 : Int32)) hx hb dX6_become_66 (by decide) ?_
  refine lv_istore_n (pc := 67) (lv' := [(2, .int (0 : Int32)), (0, .ref (pB P + a0)), (1, .ref (pB P + a1))]) hx hb dX6_become_67 rfl hl (by decide) rfl (fun ls hl => ?_)
  exact wLX6_become_68 hX _ _ _ _ _ h H locs ls hM (lv_sub hl [1, 2, 0] rfl)
theorem rX6_become {N : Nat} {M : Mm} {a0 : Nat} {a1 : Nat} {r9 : Mm} (h : fX6_become N M a0 a1 = some r9) : ∃ fs, M[a0]? = some (.inr (6, fs)) := by
  unfold fX6_become at h
  obtain ⟨_, e1, _⟩ := ob h
  exact gC_spec e1
theorem ctX6_become (l : Launch) {P : PT} {N : Nat} {M : Mm} {a0 : Nat} {a1 : Nat} {M9 : Mm} (h : fX6_become N M a0 a1 = some M9) : Ct l yX6_become cX6_become 3 none 2 0 P [.ref (pB P + a0), .ref (pB P + a1)] M none M9 :=
  Ct.mk (by decide +kernel) (Nat.le_of_ble_eq_true rfl) (fun p e s m args below meth c hX => wX6_become hX M a0 a1 h)
set_option maxHeartbeats 4000000 in
set_option maxRecDepth 100000 in
theorem wX10_image {p : Program} {l : Launch} {e : Env} {s : State} {m : MethodId} {args : Array Value} {below : List Frame} {meth : Method} {c : Code} {P : PT} {N : Nat}  {r9 : Int32} {M9 : Mm} (hX : Cy p s m args c meth cX10_image 1 RX10 "image" (some .int) P)  (M : Mm) (a0 : Nat) (h : fX10_image N M a0 = some (r9, M9)) : Wq p l e s m args below meth c 3 0 (some (.int r9)) M9 1 P 0 0 [(0, .ref (pB P + a0))] [] M := by
  unfold fX10_image at h
  obtain ⟨_, _, h⟩ := ob h
  have hX0 := hX
  obtain ⟨X, hr, hlk, hnm⟩ := hX0
  have hx := X.1.1
  have hb := X.1.2.1
  intro H locs ls hM hl
  refine lv_aload_n (pc := 0) hx hb dX10_image_0 rfl (lv_at hl 0 rfl) ?_
  obtain ⟨q1, e2, h⟩ := ob h
  refine bz_getQ (pc := 1) X hM fl_RX10_16 e2 dX10_image_1 ?_
  refine lv_aload_n (pc := 4) hx hb dX10_image_4 rfl (lv_at hl 0 rfl) ?_
  obtain ⟨q3, e4, h⟩ := ob h
  refine bz_getQ (pc := 5) X hM fl_RX10_10 e4 dX10_image_5 ?_
  obtain ⟨M6, e5, h⟩ := ob h
  obtain ⟨fs7, hb8⟩ := (rX6_become e5)
  refine bz_callV0 (pc := 8) (As := [.ref (pB P + q3)]) (rest := []) X hM hl.1 k_RX10_391 (ctX6_become l e5) rfl hb8 rfl rfl ⟨(Nat.le_of_ble_eq_true rfl), (Nat.le_of_ble_eq_true rfl)⟩ (Nat.le_of_ble_eq_true rfl) ⟨(Nat.le_of_ble_eq_true rfl), (Nat.le_of_ble_eq_true rfl)⟩ dX10_image_8 (fun H locs hM => ?_)
  refine lv_aload_n (pc := 11) hx hb dX10_image_11 rfl (lv_at hl 0 rfl) ?_
  refine lv_dup (pc := 12) hx hb dX10_image_12 rfl ?_
  obtain ⟨v9, e10, h⟩ := ob h
  refine bz_getI (pc := 13) X hM fl_RX10_394 e10 dX10_image_13 ?_
  refine lv_iconst (pc := 16) (v := (1 : Int32)) hx hb dX10_image_16 (by decide) ?_
  refine lv_iadd (pc := 17) hx hb dX10_image_17 ?_
  obtain ⟨M11, e12, h⟩ := ob h
  refine bz_putI (pc := 18) X hM fp_RX10_394 (Or.inl rfl) e12 dX10_image_18 (fun H locs hM => ?_)
  refine lv_aload_n (pc := 21) hx hb dX10_image_21 rfl (lv_at hl 0 rfl) ?_
  obtain ⟨v13, e14, h⟩ := ob h
  refine bz_getI (pc := 22) X hM fl_RX10_394 e14 dX10_image_22 ?_
  obtain ⟨rfl, rfl⟩ := so2 h
  exact bz_iret (pc := 25) X hM hr hlk dX10_image_25 (Nat.le_of_ble_eq_true rfl) (Nat.le_of_ble_eq_true rfl)
theorem rX10_image {N : Nat} {M : Mm} {a0 : Nat} {r9 : Int32 × Mm} (h : fX10_image N M a0 = some r9) : ∃ fs, M[a0]? = some (.inr (10, fs)) := by
  unfold fX10_image at h
  obtain ⟨_, e1, _⟩ := ob h
  exact gC_spec e1
theorem ctX10_image (l : Launch) {P : PT} {N : Nat} {M : Mm} {a0 : Nat} {r9 : Int32} {M9 : Mm} (h : fX10_image N M a0 = some (r9, M9)) : Ct l yX10_image cX10_image 1 (some .int) 3 0 P [.ref (pB P + a0)] M (some (.int r9)) M9 :=
  Ct.mk (by decide +kernel) (Nat.le_of_ble_eq_true rfl) (fun p e s m args below meth c hX => wX10_image hX M a0 h)
set_option maxHeartbeats 4000000 in
set_option maxRecDepth 100000 in
theorem wBX11_image_2 {p : Program} {l : Launch} {e : Env} {s : State} {m : MethodId} {args : Array Value} {below : List Frame} {meth : Method} {c : Code} {P : PT} {N : Nat} {K2 : Mm → Nat → Int32 → Option (Int32 × Mm)}  {r9 : Int32} {M9 : Mm} (hX : Cy p s m args c meth cX11_image 2 RX11 "image" (some .int) P)  (hK2 : ∀ (M : Mm) (x0 : Nat) (x1 : Int32), K2 M x0 x1 = some (r9, M9) → Wq p l e s m args below meth c 0 0 (some (.int r9)) M9 2 P 0 2 [(0, .ref (pB P + x0)), (1, .int x1)] [] M) (M : Mm) (x0 : Nat) (x1 : Int32)  (h : BX11_image_2 N K2 M x0 x1 = some (r9, M9)) : Wq p l e s m args below meth c 0 0 (some (.int r9)) M9 2 P 0 2 [(0, .ref (pB P + x0)), (1, .int x1)] [] M := by
  unfold BX11_image_2 at h
  have hX0 := hX
  obtain ⟨X, hr, hlk, hnm⟩ := hX0
  have hx := X.1.1
  have hb := X.1.2.1
  intro H locs ls hM hl
  refine lv_iload_n (pc := 2) hx hb dX11_image_2 rfl (lv_at hl 1 rfl) ?_
  refine lv_sipush (pc := 3) (v := (950 : Int32)) hx hb dX11_image_3 (by decide) ?_
  refine lv_icmp_ge (pc := 6) (tgt := 27) hx hb dX11_image_6 (by decide) (fun hc => ?_) (fun hc => ?_)
  · have h := if_t hc h
    refine lv_aload_n (pc := 27) hx hb dX11_image_27 rfl (lv_at hl 0 rfl) ?_
    refine lv_dup (pc := 28) hx hb dX11_image_28 rfl ?_
    obtain ⟨v1, e2, h⟩ := ob h
    refine bz_getI (pc := 29) X hM fl_RX11_360 e2 dX11_image_29 ?_
    refine lv_iconst (pc := 32) (v := (1 : Int32)) hx hb dX11_image_32 (by decide) ?_
    refine lv_iadd (pc := 33) hx hb dX11_image_33 ?_
    obtain ⟨M3, e4, h⟩ := ob h
    refine bz_putI (pc := 34) X hM fp_RX11_360 (Or.inl rfl) e4 dX11_image_34 (fun H locs hM => ?_)
    refine lv_aload_n (pc := 37) hx hb dX11_image_37 rfl (lv_at hl 0 rfl) ?_
    obtain ⟨v5, e6, h⟩ := ob h
    refine bz_getI (pc := 38) X hM fl_RX11_360 e6 dX11_image_38 ?_
    obtain ⟨rfl, rfl⟩ := so2 h
    exact bz_iret (pc := 41) X hM hr hlk dX11_image_41 (Nat.le_of_ble_eq_true rfl) (Nat.le_of_ble_eq_true rfl)
  · have h := if_f hc h
    refine lv_aload_n (pc := 9) hx hb dX11_image_9 rfl (lv_at hl 0 rfl) ?_
    obtain ⟨q7, e8, h⟩ := ob h
    refine bz_getQ (pc := 10) X hM fl_RX11_13 e8 dX11_image_10 ?_
    refine lv_iload_n (pc := 13) hx hb dX11_image_13 rfl (lv_at hl 1 rfl) ?_
    refine lv_aload_n (pc := 14) hx hb dX11_image_14 rfl (lv_at hl 0 rfl) ?_
    obtain ⟨q9, e10, h⟩ := ob h
    refine bz_getQ (pc := 15) X hM fl_RX11_9 e10 dX11_image_15 ?_
    refine lv_iload_n (pc := 18) hx hb dX11_image_18 rfl (lv_at hl 1 rfl) ?_
    obtain ⟨v11, e12, h⟩ := ob h
    refine bz_iald (pc := 19) X hM e12 dX11_image_19 ?_
    obtain ⟨M13, e14, h⟩ := ob h
    refine bz_iast (pc := 20) X hM e14 dX11_image_20 (fun H locs hM => ?_)
    refine lv_iinc (pc := 21) (v := (x1 + (1 : Int32))) (lv' := [(1, .int (x1 + (1 : Int32))), (0, .ref (pB P + x0))]) hx hb dX11_image_21 hl (k := 1) rfl rfl (by decide) rfl (fun ls hl => ?_)
    refine lv_goto (pc := 24) (tgt := 2) hx hb dX11_image_24 (by decide) ?_
    exact hK2 _ _ _ h H locs ls hM (lv_sub hl [1, 0] rfl)
set_option maxHeartbeats 4000000 in
set_option maxRecDepth 100000 in
theorem wLX11_image_2 {p : Program} {l : Launch} {e : Env} {s : State} {m : MethodId} {args : Array Value} {below : List Frame} {meth : Method} {c : Code} {P : PT} {N : Nat}  {r9 : Int32} {M9 : Mm} (hX : Cy p s m args c meth cX11_image 2 RX11 "image" (some .int) P)   : ∀ (n : Nat) (M : Mm) (x0 : Nat) (x1 : Int32) , LX11_image_2 N n M x0 x1 = some (r9, M9) → Wq p l e s m args below meth c 0 0 (some (.int r9)) M9 2 P 0 2 [(0, .ref (pB P + x0)), (1, .int x1)] [] M := by
  intro n
  induction n with
  | zero => intro M x0 x1 h; cases h
  | succ n ih => intro M x0 x1 h; exact wBX11_image_2 hX ih M x0 x1 h
set_option maxHeartbeats 4000000 in
set_option maxRecDepth 100000 in
theorem wX11_image {p : Program} {l : Launch} {e : Env} {s : State} {m : MethodId} {args : Array Value} {below : List Frame} {meth : Method} {c : Code} {P : PT} {N : Nat}  {r9 : Int32} {M9 : Mm} (hX : Cy p s m args c meth cX11_image 2 RX11 "image" (some .int) P)  (M : Mm) (a0 : Nat) (h : fX11_image N M a0 = some (r9, M9)) : Wq p l e s m args below meth c 0 0 (some (.int r9)) M9 2 P 0 0 [(0, .ref (pB P + a0))] [] M := by
  unfold fX11_image at h
  obtain ⟨_, _, h⟩ := ob h
  have hX0 := hX
  obtain ⟨X, hr, hlk, hnm⟩ := hX0
  have hx := X.1.1
  have hb := X.1.2.1
  intro H locs ls hM hl
  refine lv_iconst (pc := 0) (v := (0 : Int32)) hx hb dX11_image_0 (by decide) ?_
  refine lv_istore_n (pc := 1) (lv' := [(1, .int (0 : Int32)), (0, .ref (pB P + a0))]) hx hb dX11_image_1 rfl hl (by decide) rfl (fun ls hl => ?_)
  exact wLX11_image_2 hX _ _ _ _ h H locs ls hM (lv_sub hl [1, 0] rfl)
theorem rX11_image {N : Nat} {M : Mm} {a0 : Nat} {r9 : Int32 × Mm} (h : fX11_image N M a0 = some r9) : ∃ fs, M[a0]? = some (.inr (11, fs)) := by
  unfold fX11_image at h
  obtain ⟨_, e1, _⟩ := ob h
  exact gC_spec e1
theorem ctX11_image (l : Launch) {P : PT} {N : Nat} {M : Mm} {a0 : Nat} {r9 : Int32} {M9 : Mm} (h : fX11_image N M a0 = some (r9, M9)) : Ct l yX11_image cX11_image 2 (some .int) 0 0 P [.ref (pB P + a0)] M (some (.int r9)) M9 :=
  Ct.mk (by decide +kernel) (Nat.le_of_ble_eq_true rfl) (fun p e s m args below meth c hX => wX11_image hX M a0 h)
set_option maxHeartbeats 4000000 in
set_option maxRecDepth 100000 in
theorem wX10_restore {p : Program} {l : Launch} {e : Env} {s : State} {m : MethodId} {args : Array Value} {below : List Frame} {meth : Method} {c : Code} {P : PT} {N : Nat}  {r9 : Int32} {M9 : Mm} (hX : Cy p s m args c meth cX10_restore 1 RX10 "restore" (some .int) P)  (M : Mm) (a0 : Nat) (h : fX10_restore N M a0 = some (r9, M9)) : Wq p l e s m args below meth c 3 0 (some (.int r9)) M9 1 P 0 0 [(0, .ref (pB P + a0))] [] M := by
  unfold fX10_restore at h
  obtain ⟨_, _, h⟩ := ob h
  have hX0 := hX
  obtain ⟨X, hr, hlk, hnm⟩ := hX0
  have hx := X.1.1
  have hb := X.1.2.1
  intro H locs ls hM hl
  refine lv_aload_n (pc := 0) hx hb dX10_restore_0 rfl (lv_at hl 0 rfl) ?_
  obtain ⟨v1, e2, h⟩ := ob h
  refine bz_getI (pc := 1) X hM fl_RX10_394 e2 dX10_restore_1 ?_
  refine lv_if_ne (pc := 4) (tgt := 13) hx hb dX10_restore_4 (by decide) (fun hc => ?_) (fun hc => ?_)
  · have h := if_f hc h
    refine lv_aload_n (pc := 13) hx hb dX10_restore_13 rfl (lv_at hl 0 rfl) ?_
    obtain ⟨q3, e4, h⟩ := ob h
    refine bz_getQ (pc := 14) X hM fl_RX10_10 e4 dX10_restore_14 ?_
    refine lv_aload_n (pc := 17) hx hb dX10_restore_17 rfl (lv_at hl 0 rfl) ?_
    obtain ⟨q5, e6, h⟩ := ob h
    refine bz_getQ (pc := 18) X hM fl_RX10_16 e6 dX10_restore_18 ?_
    obtain ⟨M8, e7, h⟩ := ob h
    obtain ⟨fs9, hb10⟩ := (rX6_become e7)
    refine bz_callV0 (pc := 21) (As := [.ref (pB P + q5)]) (rest := []) X hM hl.1 k_RX10_391 (ctX6_become l e7) rfl hb10 rfl rfl ⟨(Nat.le_of_ble_eq_true rfl), (Nat.le_of_ble_eq_true rfl)⟩ (Nat.le_of_ble_eq_true rfl) ⟨(Nat.le_of_ble_eq_true rfl), (Nat.le_of_ble_eq_true rfl)⟩ dX10_restore_21 (fun H locs hM => ?_)
    refine lv_aload_n (pc := 24) hx hb dX10_restore_24 rfl (lv_at hl 0 rfl) ?_
    obtain ⟨q11, e12, h⟩ := ob h
    refine bz_getQ (pc := 25) X hM fl_RX10_10 e12 dX10_restore_25 ?_
    obtain ⟨v14, e13, h⟩ := ob h
    obtain ⟨fs15, hb16⟩ := (rX6_rings e13)
    refine bz_callV1 (pc := 28) (As := []) (rest := []) X hM hl.1 k_RX10_112 (ctX6_rings l e13) rfl hb16 rfl rfl ⟨(Nat.le_of_ble_eq_true rfl), (Nat.le_of_ble_eq_true rfl)⟩ (Nat.le_of_ble_eq_true rfl) ⟨(Nat.le_of_ble_eq_true rfl), (Nat.le_of_ble_eq_true rfl)⟩ dX10_restore_28 (fun H locs hM => ?_)
    obtain ⟨rfl, rfl⟩ := so2 h
    exact bz_iret (pc := 31) X hM hr hlk dX10_restore_31 (Nat.le_of_ble_eq_true rfl) (Nat.le_of_ble_eq_true rfl)
  · have h := if_t hc h
    refine lv_aload_n (pc := 7) hx hb dX10_restore_7 rfl (lv_at hl 0 rfl) ?_
    refine lv_iconst (pc := 8) (v := (2 : Int32)) hx hb dX10_restore_8 (by decide) ?_
    obtain ⟨v18, M19, e17, h⟩ := ob2 h
    obtain ⟨fs20, hb21⟩ := (rX10_error e17)
    refine bz_callV1 (pc := 9) (As := [.int (2 : Int32)]) (rest := []) X hM hl.1 k_RX10_78 (ctX10_error l e17) rfl hb21 rfl rfl ⟨(Nat.le_of_ble_eq_true rfl), (Nat.le_of_ble_eq_true rfl)⟩ (Nat.le_of_ble_eq_true rfl) ⟨(Nat.le_of_ble_eq_true rfl), (Nat.le_of_ble_eq_true rfl)⟩ dX10_restore_9 (fun H locs hM => ?_)
    obtain ⟨rfl, rfl⟩ := so2 h
    exact bz_iret (pc := 12) X hM hr hlk dX10_restore_12 (Nat.le_of_ble_eq_true rfl) (Nat.le_of_ble_eq_true rfl)
theorem rX10_restore {N : Nat} {M : Mm} {a0 : Nat} {r9 : Int32 × Mm} (h : fX10_restore N M a0 = some r9) : ∃ fs, M[a0]? = some (.inr (10, fs)) := by
  unfold fX10_restore at h
  obtain ⟨_, e1, _⟩ := ob h
  exact gC_spec e1
theorem ctX10_restore (l : Launch) {P : PT} {N : Nat} {M : Mm} {a0 : Nat} {r9 : Int32} {M9 : Mm} (h : fX10_restore N M a0 = some (r9, M9)) : Ct l yX10_restore cX10_restore 1 (some .int) 3 0 P [.ref (pB P + a0)] M (some (.int r9)) M9 :=
  Ct.mk (by decide +kernel) (Nat.le_of_ble_eq_true rfl) (fun p e s m args below meth c hX => wX10_restore hX M a0 h)
set_option maxHeartbeats 4000000 in
set_option maxRecDepth 100000 in
theorem wBX11_restore_15 {p : Program} {l : Launch} {e : Env} {s : State} {m : MethodId} {args : Array Value} {below : List Frame} {meth : Method} {c : Code} {P : PT} {N : Nat} {K15 : Mm → Nat → Int32 → Option (Int32 × Mm)}  {r9 : Int32} {M9 : Mm} (hX : Cy p s m args c meth cX11_restore 2 RX11 "restore" (some .int) P)  (hK15 : ∀ (M : Mm) (x0 : Nat) (x1 : Int32), K15 M x0 x1 = some (r9, M9) → Wq p l e s m args below meth c 1 0 (some (.int r9)) M9 2 P 0 15 [(0, .ref (pB P + x0)), (1, .int x1)] [] M) (M : Mm) (x0 : Nat) (x1 : Int32)  (h : BX11_restore_15 N K15 M x0 x1 = some (r9, M9)) : Wq p l e s m args below meth c 1 0 (some (.int r9)) M9 2 P 0 15 [(0, .ref (pB P + x0)), (1, .int x1)] [] M := by
  unfold BX11_restore_15 at h
  have hX0 := hX
  obtain ⟨X, hr, hlk, hnm⟩ := hX0
  have hx := X.1.1
  have hb := X.1.2.1
  intro H locs ls hM hl
  refine lv_iload_n (pc := 15) hx hb dX11_restore_15 rfl (lv_at hl 1 rfl) ?_
  refine lv_sipush (pc := 16) (v := (950 : Int32)) hx hb dX11_restore_16 (by decide) ?_
  refine lv_icmp_ge (pc := 19) (tgt := 40) hx hb dX11_restore_19 (by decide) (fun hc => ?_) (fun hc => ?_)
  · have h := if_t hc h
    refine lv_aload_n (pc := 40) hx hb dX11_restore_40 rfl (lv_at hl 0 rfl) ?_
    obtain ⟨q1, e2, h⟩ := ob h
    refine bz_getQ (pc := 41) X hM fl_RX11_9 e2 dX11_restore_41 ?_
    refine lv_iconst (pc := 44) (v := (1 : Int32)) hx hb dX11_restore_44 (by decide) ?_
    obtain ⟨v3, e4, h⟩ := ob h
    refine bz_iald (pc := 45) X hM e4 dX11_restore_45 ?_
    obtain ⟨rfl, rfl⟩ := so2 h
    exact bz_iret (pc := 46) X hM hr hlk dX11_restore_46 (Nat.le_of_ble_eq_true rfl) (Nat.le_of_ble_eq_true rfl)
  · have h := if_f hc h
    refine lv_aload_n (pc := 22) hx hb dX11_restore_22 rfl (lv_at hl 0 rfl) ?_
    obtain ⟨q5, e6, h⟩ := ob h
    refine bz_getQ (pc := 23) X hM fl_RX11_9 e6 dX11_restore_23 ?_
    refine lv_iload_n (pc := 26) hx hb dX11_restore_26 rfl (lv_at hl 1 rfl) ?_
    refine lv_aload_n (pc := 27) hx hb dX11_restore_27 rfl (lv_at hl 0 rfl) ?_
    obtain ⟨q7, e8, h⟩ := ob h
    refine bz_getQ (pc := 28) X hM fl_RX11_13 e8 dX11_restore_28 ?_
    refine lv_iload_n (pc := 31) hx hb dX11_restore_31 rfl (lv_at hl 1 rfl) ?_
    obtain ⟨v9, e10, h⟩ := ob h
    refine bz_iald (pc := 32) X hM e10 dX11_restore_32 ?_
    obtain ⟨M11, e12, h⟩ := ob h
    refine bz_iast (pc := 33) X hM e12 dX11_restore_33 (fun H locs hM => ?_)
    refine lv_iinc (pc := 34) (v := (x1 + (1 : Int32))) (lv' := [(1, .int (x1 + (1 : Int32))), (0, .ref (pB P + x0))]) hx hb dX11_restore_34 hl (k := 1) rfl rfl (by decide) rfl (fun ls hl => ?_)
    refine lv_goto (pc := 37) (tgt := 15) hx hb dX11_restore_37 (by decide) ?_
    exact hK15 _ _ _ h H locs ls hM (lv_sub hl [1, 0] rfl)
set_option maxHeartbeats 4000000 in
set_option maxRecDepth 100000 in
theorem wLX11_restore_15 {p : Program} {l : Launch} {e : Env} {s : State} {m : MethodId} {args : Array Value} {below : List Frame} {meth : Method} {c : Code} {P : PT} {N : Nat}  {r9 : Int32} {M9 : Mm} (hX : Cy p s m args c meth cX11_restore 2 RX11 "restore" (some .int) P)   : ∀ (n : Nat) (M : Mm) (x0 : Nat) (x1 : Int32) , LX11_restore_15 N n M x0 x1 = some (r9, M9) → Wq p l e s m args below meth c 1 0 (some (.int r9)) M9 2 P 0 15 [(0, .ref (pB P + x0)), (1, .int x1)] [] M := by
  intro n
  induction n with
  | zero => intro M x0 x1 h; cases h
  | succ n ih => intro M x0 x1 h; exact wBX11_restore_15 hX ih M x0 x1 h
set_option maxHeartbeats 4000000 in
set_option maxRecDepth 100000 in
theorem wX11_restore {p : Program} {l : Launch} {e : Env} {s : State} {m : MethodId} {args : Array Value} {below : List Frame} {meth : Method} {c : Code} {P : PT} {N : Nat}  {r9 : Int32} {M9 : Mm} (hX : Cy p s m args c meth cX11_restore 2 RX11 "restore" (some .int) P)  (M : Mm) (a0 : Nat) (h : fX11_restore N M a0 = some (r9, M9)) : Wq p l e s m args below meth c 1 0 (some (.int r9)) M9 2 P 0 0 [(0, .ref (pB P + a0))] [] M := by
  unfold fX11_restore at h
  obtain ⟨_, _, h⟩ := ob h
  have hX0 := hX
  obtain ⟨X, hr, hlk, hnm⟩ := hX0
  have hx := X.1.1
  have hb := X.1.2.1
  intro H locs ls hM hl
  refine lv_aload_n (pc := 0) hx hb dX11_restore_0 rfl (lv_at hl 0 rfl) ?_
  obtain ⟨v1, e2, h⟩ := ob h
  refine bz_getI (pc := 1) X hM fl_RX11_360 e2 dX11_restore_1 ?_
  refine lv_if_ne (pc := 4) (tgt := 13) hx hb dX11_restore_4 (by decide) (fun hc => ?_) (fun hc => ?_)
  · have h := if_f hc h
    refine lv_iconst (pc := 13) (v := (0 : Int32)) hx hb dX11_restore_13 (by decide) ?_
    refine lv_istore_n (pc := 14) (lv' := [(1, .int (0 : Int32)), (0, .ref (pB P + a0))]) hx hb dX11_restore_14 rfl hl (by decide) rfl (fun ls hl => ?_)
    exact wLX11_restore_15 hX _ _ _ _ h H locs ls hM (lv_sub hl [1, 0] rfl)
  · have h := if_t hc h
    refine lv_aload_n (pc := 7) hx hb dX11_restore_7 rfl (lv_at hl 0 rfl) ?_
    refine lv_iconst (pc := 8) (v := (2 : Int32)) hx hb dX11_restore_8 (by decide) ?_
    obtain ⟨v4, M5, e3, h⟩ := ob2 h
    obtain ⟨fs6, hb7⟩ := (rX11_error e3)
    refine bz_callV1 (pc := 9) (As := [.int (2 : Int32)]) (rest := []) X hM hl.1 k_RX11_73 (ctX11_error l e3) rfl hb7 rfl rfl ⟨(Nat.le_of_ble_eq_true rfl), (Nat.le_of_ble_eq_true rfl)⟩ (Nat.le_of_ble_eq_true rfl) ⟨(Nat.le_of_ble_eq_true rfl), (Nat.le_of_ble_eq_true rfl)⟩ dX11_restore_9 (fun H locs hM => ?_)
    obtain ⟨rfl, rfl⟩ := so2 h
    exact bz_iret (pc := 12) X hM hr hlk dX11_restore_12 (Nat.le_of_ble_eq_true rfl) (Nat.le_of_ble_eq_true rfl)
theorem rX11_restore {N : Nat} {M : Mm} {a0 : Nat} {r9 : Int32 × Mm} (h : fX11_restore N M a0 = some r9) : ∃ fs, M[a0]? = some (.inr (11, fs)) := by
  unfold fX11_restore at h
  obtain ⟨_, e1, _⟩ := ob h
  exact gC_spec e1
theorem ctX11_restore (l : Launch) {P : PT} {N : Nat} {M : Mm} {a0 : Nat} {r9 : Int32} {M9 : Mm} (h : fX11_restore N M a0 = some (r9, M9)) : Ct l yX11_restore cX11_restore 2 (some .int) 1 0 P [.ref (pB P + a0)] M (some (.int r9)) M9 :=
  Ct.mk (by decide +kernel) (Nat.le_of_ble_eq_true rfl) (fun p e s m args below meth c hX => wX11_restore hX M a0 h)
set_option maxHeartbeats 4000000 in
set_option maxRecDepth 100000 in
theorem wX10_tell {p : Program} {l : Launch} {e : Env} {s : State} {m : MethodId} {args : Array Value} {below : List Frame} {meth : Method} {c : Code} {P : PT}  {r9 : Int32} {M9 : Mm} (hX : Cy p s m args c meth cX10_tell 2 RX10 "tell" (some .int) P)  (M : Mm) (a0 : Nat) (a1 : Int32) (h : fX10_tell M a0 a1 = some (r9, M9)) : Wq p l e s m args below meth c 3 0 (some (.int r9)) M9 2 P 0 0 [(0, .ref (pB P + a0)), (1, .int a1)] [] M := by
  unfold fX10_tell at h
  obtain ⟨_, _, h⟩ := ob h
  have hX0 := hX
  obtain ⟨X, hr, hlk, hnm⟩ := hX0
  have hx := X.1.1
  have hb := X.1.2.1
  intro H locs ls hM hl
  refine lv_aload_n (pc := 0) hx hb dX10_tell_0 rfl (lv_at hl 0 rfl) ?_
  obtain ⟨q1, e2, h⟩ := ob h
  refine bz_getQ (pc := 1) X hM fl_RX10_10 e2 dX10_tell_1 ?_
  obtain ⟨q3, e4, h⟩ := ob h
  refine bz_getQ (pc := 4) X hM fl_RX10_397 e4 dX10_tell_4 ?_
  refine lv_iload_n (pc := 7) hx hb dX10_tell_7 rfl (lv_at hl 1 rfl) ?_
  obtain ⟨v6, M7, e5, h⟩ := ob2 h
  obtain ⟨fs8, hb9⟩ := (rX3_add e5)
  refine bz_callV1 (pc := 8) (As := [.int a1]) (rest := []) X hM hl.1 k_RX10_92 (ctX3_add l e5) rfl hb9 rfl rfl ⟨(Nat.le_of_ble_eq_true rfl), (Nat.le_of_ble_eq_true rfl)⟩ (Nat.le_of_ble_eq_true rfl) ⟨(Nat.le_of_ble_eq_true rfl), (Nat.le_of_ble_eq_true rfl)⟩ dX10_tell_8 (fun H locs hM => ?_)
  refine lv_if_ne (pc := 11) (tgt := 20) hx hb dX10_tell_11 (by decide) (fun hc => ?_) (fun hc => ?_)
  · have h := if_f hc h
    refine lv_aload_n (pc := 20) hx hb dX10_tell_20 rfl (lv_at hl 0 rfl) ?_
    obtain ⟨q10, e11, h⟩ := ob h
    refine bz_getQ (pc := 21) X hM fl_RX10_10 e11 dX10_tell_21 ?_
    obtain ⟨q12, e13, h⟩ := ob h
    refine bz_getQ (pc := 24) X hM fl_RX10_397 e13 dX10_tell_24 ?_
    obtain ⟨v15, e14, h⟩ := ob h
    obtain ⟨fs16, hb17⟩ := (rX3_size e14)
    refine bz_callV1 (pc := 27) (As := []) (rest := []) X hM hl.1 k_RX10_96 (ctX3_size l e14) rfl hb17 rfl rfl ⟨(Nat.le_of_ble_eq_true rfl), (Nat.le_of_ble_eq_true rfl)⟩ (Nat.le_of_ble_eq_true rfl) ⟨(Nat.le_of_ble_eq_true rfl), (Nat.le_of_ble_eq_true rfl)⟩ dX10_tell_27 (fun H locs hM => ?_)
    obtain ⟨rfl, rfl⟩ := so2 h
    exact bz_iret (pc := 30) X hM hr hlk dX10_tell_30 (Nat.le_of_ble_eq_true rfl) (Nat.le_of_ble_eq_true rfl)
  · have h := if_t hc h
    refine lv_aload_n (pc := 14) hx hb dX10_tell_14 rfl (lv_at hl 0 rfl) ?_
    refine lv_iconst (pc := 15) (v := (4 : Int32)) hx hb dX10_tell_15 (by decide) ?_
    obtain ⟨v19, M20, e18, h⟩ := ob2 h
    obtain ⟨fs21, hb22⟩ := (rX10_error e18)
    refine bz_callV1 (pc := 16) (As := [.int (4 : Int32)]) (rest := []) X hM hl.1 k_RX10_78 (ctX10_error l e18) rfl hb22 rfl rfl ⟨(Nat.le_of_ble_eq_true rfl), (Nat.le_of_ble_eq_true rfl)⟩ (Nat.le_of_ble_eq_true rfl) ⟨(Nat.le_of_ble_eq_true rfl), (Nat.le_of_ble_eq_true rfl)⟩ dX10_tell_16 (fun H locs hM => ?_)
    obtain ⟨rfl, rfl⟩ := so2 h
    exact bz_iret (pc := 19) X hM hr hlk dX10_tell_19 (Nat.le_of_ble_eq_true rfl) (Nat.le_of_ble_eq_true rfl)
theorem rX10_tell {M : Mm} {a0 : Nat} {a1 : Int32} {r9 : Int32 × Mm} (h : fX10_tell M a0 a1 = some r9) : ∃ fs, M[a0]? = some (.inr (10, fs)) := by
  unfold fX10_tell at h
  obtain ⟨_, e1, _⟩ := ob h
  exact gC_spec e1
theorem ctX10_tell (l : Launch) {P : PT} {M : Mm} {a0 : Nat} {a1 : Int32} {r9 : Int32} {M9 : Mm} (h : fX10_tell M a0 a1 = some (r9, M9)) : Ct l yX10_tell cX10_tell 2 (some .int) 3 0 P [.ref (pB P + a0), .int a1] M (some (.int r9)) M9 :=
  Ct.mk (by decide +kernel) (Nat.le_of_ble_eq_true rfl) (fun p e s m args below meth c hX => wX10_tell hX M a0 a1 h)
set_option maxHeartbeats 4000000 in
set_option maxRecDepth 100000 in
theorem wX11_tell {p : Program} {l : Launch} {e : Env} {s : State} {m : MethodId} {args : Array Value} {below : List Frame} {meth : Method} {c : Code} {P : PT}  {r9 : Int32} {M9 : Mm} (hX : Cy p s m args c meth cX11_tell 2 RX11 "tell" (some .int) P)  (M : Mm) (a0 : Nat) (a1 : Int32) (h : fX11_tell M a0 a1 = some (r9, M9)) : Wq p l e s m args below meth c 1 0 (some (.int r9)) M9 2 P 0 0 [(0, .ref (pB P + a0)), (1, .int a1)] [] M := by
  unfold fX11_tell at h
  obtain ⟨_, _, h⟩ := ob h
  have hX0 := hX
  obtain ⟨X, hr, hlk, hnm⟩ := hX0
  have hx := X.1.1
  have hb := X.1.2.1
  intro H locs ls hM hl
  refine lv_aload_n (pc := 0) hx hb dX11_tell_0 rfl (lv_at hl 0 rfl) ?_
  obtain ⟨q1, e2, h⟩ := ob h
  refine bz_getQ (pc := 1) X hM fl_RX11_9 e2 dX11_tell_1 ?_
  refine lv_bipush (pc := 4) (v := (7 : Int32)) hx hb dX11_tell_4 (by decide) ?_
  obtain ⟨v3, e4, h⟩ := ob h
  refine bz_iald (pc := 6) X hM e4 dX11_tell_6 ?_
  refine lv_bipush (pc := 7) (v := (20 : Int32)) hx hb dX11_tell_7 (by decide) ?_
  refine lv_icmp_ne (pc := 9) (tgt := 18) hx hb dX11_tell_9 (by decide) (fun hc => ?_) (fun hc => ?_)
  · have h := if_f hc h
    refine lv_aload_n (pc := 18) hx hb dX11_tell_18 rfl (lv_at hl 0 rfl) ?_
    obtain ⟨q5, e6, h⟩ := ob h
    refine bz_getQ (pc := 19) X hM fl_RX11_9 e6 dX11_tell_19 ?_
    refine lv_sipush (pc := 22) (v := (462 : Int32)) hx hb dX11_tell_22 (by decide) ?_
    refine lv_aload_n (pc := 25) hx hb dX11_tell_25 rfl (lv_at hl 0 rfl) ?_
    obtain ⟨q7, e8, h⟩ := ob h
    refine bz_getQ (pc := 26) X hM fl_RX11_9 e8 dX11_tell_26 ?_
    refine lv_bipush (pc := 29) (v := (7 : Int32)) hx hb dX11_tell_29 (by decide) ?_
    obtain ⟨v9, e10, h⟩ := ob h
    refine bz_iald (pc := 31) X hM e10 dX11_tell_31 ?_
    refine lv_iadd (pc := 32) hx hb dX11_tell_32 ?_
    refine lv_iload_n (pc := 33) hx hb dX11_tell_33 rfl (lv_at hl 1 rfl) ?_
    obtain ⟨M11, e12, h⟩ := ob h
    refine bz_iast (pc := 34) X hM e12 dX11_tell_34 (fun H locs hM => ?_)
    refine lv_aload_n (pc := 35) hx hb dX11_tell_35 rfl (lv_at hl 0 rfl) ?_
    obtain ⟨q13, e14, h⟩ := ob h
    refine bz_getQ (pc := 36) X hM fl_RX11_9 e14 dX11_tell_36 ?_
    refine lv_bipush (pc := 39) (v := (7 : Int32)) hx hb dX11_tell_39 (by decide) ?_
    refine lv_dup2_11 (pc := 41) hx hb dX11_tell_41 rfl rfl ?_
    obtain ⟨v15, e16, h⟩ := ob h
    refine bz_iald (pc := 42) X hM e16 dX11_tell_42 ?_
    refine lv_iconst (pc := 43) (v := (1 : Int32)) hx hb dX11_tell_43 (by decide) ?_
    refine lv_iadd (pc := 44) hx hb dX11_tell_44 ?_
    obtain ⟨M17, e18, h⟩ := ob h
    refine bz_iast (pc := 45) X hM e18 dX11_tell_45 (fun H locs hM => ?_)
    refine lv_aload_n (pc := 46) hx hb dX11_tell_46 rfl (lv_at hl 0 rfl) ?_
    obtain ⟨q19, e20, h⟩ := ob h
    refine bz_getQ (pc := 47) X hM fl_RX11_9 e20 dX11_tell_47 ?_
    refine lv_bipush (pc := 50) (v := (7 : Int32)) hx hb dX11_tell_50 (by decide) ?_
    obtain ⟨v21, e22, h⟩ := ob h
    refine bz_iald (pc := 52) X hM e22 dX11_tell_52 ?_
    obtain ⟨rfl, rfl⟩ := so2 h
    exact bz_iret (pc := 53) X hM hr hlk dX11_tell_53 (Nat.le_of_ble_eq_true rfl) (Nat.le_of_ble_eq_true rfl)
  · have h := if_t hc h
    refine lv_aload_n (pc := 12) hx hb dX11_tell_12 rfl (lv_at hl 0 rfl) ?_
    refine lv_iconst (pc := 13) (v := (4 : Int32)) hx hb dX11_tell_13 (by decide) ?_
    obtain ⟨v24, M25, e23, h⟩ := ob2 h
    obtain ⟨fs26, hb27⟩ := (rX11_error e23)
    refine bz_callV1 (pc := 14) (As := [.int (4 : Int32)]) (rest := []) X hM hl.1 k_RX11_73 (ctX11_error l e23) rfl hb27 rfl rfl ⟨(Nat.le_of_ble_eq_true rfl), (Nat.le_of_ble_eq_true rfl)⟩ (Nat.le_of_ble_eq_true rfl) ⟨(Nat.le_of_ble_eq_true rfl), (Nat.le_of_ble_eq_true rfl)⟩ dX11_tell_14 (fun H locs hM => ?_)
    obtain ⟨rfl, rfl⟩ := so2 h
    exact bz_iret (pc := 17) X hM hr hlk dX11_tell_17 (Nat.le_of_ble_eq_true rfl) (Nat.le_of_ble_eq_true rfl)
theorem rX11_tell {M : Mm} {a0 : Nat} {a1 : Int32} {r9 : Int32 × Mm} (h : fX11_tell M a0 a1 = some r9) : ∃ fs, M[a0]? = some (.inr (11, fs)) := by
  unfold fX11_tell at h
  obtain ⟨_, e1, _⟩ := ob h
  exact gC_spec e1
theorem ctX11_tell (l : Launch) {P : PT} {M : Mm} {a0 : Nat} {a1 : Int32} {r9 : Int32} {M9 : Mm} (h : fX11_tell M a0 a1 = some (r9, M9)) : Ct l yX11_tell cX11_tell 2 (some .int) 1 0 P [.ref (pB P + a0), .int a1] M (some (.int r9)) M9 :=
  Ct.mk (by decide +kernel) (Nat.le_of_ble_eq_true rfl) (fun p e s m args below meth c hX => wX11_tell hX M a0 a1 h)
