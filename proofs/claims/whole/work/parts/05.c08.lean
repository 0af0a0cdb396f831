set_option maxHeartbeats 4000000 in
set_option maxRecDepth 100000 in
theorem wX11_nameOf {p : Program} {l : Launch} {e : Env} {s : State} {m : MethodId} {args : Array Value} {below : List Frame} {meth : Method} {c : Code} {P : PT}  {r9 : Int32} (hX : Cy p s m args c meth cX11_nameOf 2 RX11 "nameOf" (some .int) P)  (M : Mm) (a0 : Int32) (a1 : Int32) (h : fX11_nameOf M a0 a1 = some r9) : Wq p l e s m args below meth c 0 0 (some (.int r9)) M 2 P 0 0 [(0, .int a0), (1, .int a1)] [] M := by
  unfold fX11_nameOf at h
  have hX0 := hX
  obtain ⟨X, hr, hlk, hnm⟩ := hX0
  have hx := X.1.1
  have hb := X.1.2.1
  intro H locs ls hM hl
  refine lv_iload_n (pc := 0) hx hb dX11_nameOf_0 rfl (lv_at hl 0 rfl) ?_
  refine lv_iconst (pc := 1) (v := (2 : Int32)) hx hb dX11_nameOf_1 (by decide) ?_
  refine lv_icmp_le (pc := 2) (tgt := 27) hx hb dX11_nameOf_2 (by decide) (fun hc => ?_) (fun hc => ?_)
  · have h := if_t hc h
    refine lv_iload_n (pc := 27) hx hb dX11_nameOf_27 rfl (lv_at hl 1 rfl) ?_
    refine lv_bipush (pc := 28) (v := (104 : Int32)) hx hb dX11_nameOf_28 (by decide) ?_
    refine lv_icmp_ne (pc := 30) (tgt := 37) hx hb dX11_nameOf_30 (by decide) (fun hc => ?_) (fun hc => ?_)
    · have h := if_f hc h
      refine lv_iload_n (pc := 37) hx hb dX11_nameOf_37 rfl (lv_at hl 1 rfl) ?_
      refine lv_bipush (pc := 38) (v := (103 : Int32)) hx hb dX11_nameOf_38 (by decide) ?_
      refine lv_icmp_ne (pc := 40) (tgt := 47) hx hb dX11_nameOf_40 (by decide) (fun hc => ?_) (fun hc => ?_)
      · have h := if_f hc h
        refine lv_iload_n (pc := 47) hx hb dX11_nameOf_47 rfl (lv_at hl 1 rfl) ?_
        refine lv_bipush (pc := 48) (v := (116 : Int32)) hx hb dX11_nameOf_48 (by decide) ?_
        refine lv_icmp_ne (pc := 50) (tgt := 57) hx hb dX11_nameOf_50 (by decide) (fun hc => ?_) (fun hc => ?_)
        · have h := if_f hc h
          refine lv_iload_n (pc := 57) hx hb dX11_nameOf_57 rfl (lv_at hl 1 rfl) ?_
          refine lv_bipush (pc := 58) (v := (98 : Int32)) hx hb dX11_nameOf_58 (by decide) ?_
          refine lv_icmp_ne (pc := 60) (tgt := 67) hx hb dX11_nameOf_60 (by decide) (fun hc => ?_) (fun hc => ?_)
          · have h := if_f hc h
            refine lv_iconst (pc := 67) (v := (-1 : Int32)) hx hb dX11_nameOf_67 (by decide) ?_
            obtain rfl := so1 h
            exact bz_iret (pc := 68) X hM hr hlk dX11_nameOf_68 (Nat.le_of_ble_eq_true rfl) (Nat.le_of_ble_eq_true rfl)
          · have h := if_t hc h
            refine lv_iconst (pc := 63) (v := (3 : Int32)) hx hb dX11_nameOf_63 (by decide) ?_
            refine lv_goto (pc := 64) (tgt := 68) hx hb dX11_nameOf_64 (by decide) ?_
            obtain rfl := so1 h
            exact bz_iret (pc := 68) X hM hr hlk dX11_nameOf_68 (Nat.le_of_ble_eq_true rfl) (Nat.le_of_ble_eq_true rfl)
        · have h := if_t hc h
          refine lv_iconst (pc := 53) (v := (2 : Int32)) hx hb dX11_nameOf_53 (by decide) ?_
          refine lv_goto (pc := 54) (tgt := 68) hx hb dX11_nameOf_54 (by decide) ?_
          obtain rfl := so1 h
          exact bz_iret (pc := 68) X hM hr hlk dX11_nameOf_68 (Nat.le_of_ble_eq_true rfl) (Nat.le_of_ble_eq_true rfl)
      · have h := if_t hc h
        refine lv_iconst (pc := 43) (v := (1 : Int32)) hx hb dX11_nameOf_43 (by decide) ?_
        refine lv_goto (pc := 44) (tgt := 68) hx hb dX11_nameOf_44 (by decide) ?_
        obtain rfl := so1 h
        exact bz_iret (pc := 68) X hM hr hlk dX11_nameOf_68 (Nat.le_of_ble_eq_true rfl) (Nat.le_of_ble_eq_true rfl)
    · have h := if_t hc h
      refine lv_iconst (pc := 33) (v := (0 : Int32)) hx hb dX11_nameOf_33 (by decide) ?_
      refine lv_goto (pc := 34) (tgt := 68) hx hb dX11_nameOf_34 (by decide) ?_
      obtain rfl := so1 h
      exact bz_iret (pc := 68) X hM hr hlk dX11_nameOf_68 (Nat.le_of_ble_eq_true rfl) (Nat.le_of_ble_eq_true rfl)
  · have h := if_f hc h
    refine lv_iload_n (pc := 5) hx hb dX11_nameOf_5 rfl (lv_at hl 1 rfl) ?_
    refine lv_bipush (pc := 6) (v := (110 : Int32)) hx hb dX11_nameOf_6 (by decide) ?_
    refine lv_icmp_ne (pc := 8) (tgt := 15) hx hb dX11_nameOf_8 (by decide) (fun hc => ?_) (fun hc => ?_)
    · have h := if_f hc h
      refine lv_iload_n (pc := 15) hx hb dX11_nameOf_15 rfl (lv_at hl 1 rfl) ?_
      refine lv_bipush (pc := 16) (v := (121 : Int32)) hx hb dX11_nameOf_16 (by decide) ?_
      refine lv_icmp_ne (pc := 18) (tgt := 25) hx hb dX11_nameOf_18 (by decide) (fun hc => ?_) (fun hc => ?_)
      · have h := if_f hc h
        refine lv_iconst (pc := 25) (v := (-1 : Int32)) hx hb dX11_nameOf_25 (by decide) ?_
        obtain rfl := so1 h
        exact bz_iret (pc := 26) X hM hr hlk dX11_nameOf_26 (Nat.le_of_ble_eq_true rfl) (Nat.le_of_ble_eq_true rfl)
      · have h := if_t hc h
        refine lv_iconst (pc := 21) (v := (1 : Int32)) hx hb dX11_nameOf_21 (by decide) ?_
        refine lv_goto (pc := 22) (tgt := 26) hx hb dX11_nameOf_22 (by decide) ?_
        obtain rfl := so1 h
        exact bz_iret (pc := 26) X hM hr hlk dX11_nameOf_26 (Nat.le_of_ble_eq_true rfl) (Nat.le_of_ble_eq_true rfl)
    · have h := if_t hc h
      refine lv_iconst (pc := 11) (v := (0 : Int32)) hx hb dX11_nameOf_11 (by decide) ?_
      refine lv_goto (pc := 12) (tgt := 26) hx hb dX11_nameOf_12 (by decide) ?_
      obtain rfl := so1 h
      exact bz_iret (pc := 26) X hM hr hlk dX11_nameOf_26 (Nat.le_of_ble_eq_true rfl) (Nat.le_of_ble_eq_true rfl)
theorem ctX11_nameOf (l : Launch) {P : PT} {M : Mm} {a0 : Int32} {a1 : Int32} {r9 : Int32} (h : fX11_nameOf M a0 a1 = some r9) : Ct l yX11_nameOf cX11_nameOf 2 (some .int) 0 0 P [.int a0, .int a1] M (some (.int r9)) M :=
  Ct.mk (by decide +kernel) (Nat.le_of_ble_eq_true rfl) (fun p e s m args below meth c hX => wX11_nameOf hX M a0 a1 h)
