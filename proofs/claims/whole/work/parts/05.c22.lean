set_option maxHeartbeats 4000000 in
set_option maxRecDepth 100000 in
theorem wX9_ownBody {p : Program} {l : Launch} {e : Env} {s : State} {m : MethodId} {args : Array Value} {below : List Frame} {meth : Method} {c : Code} {P : PT} {D : Nat} {q0 : Mm → Nat → Nat → Int32 → Int32 → Int32 → Option (Int32 × Mm)} {q1 : Mm → Nat → Nat → Int32 → Int32 → Int32 → Option (Int32 × Mm)} {q2 : Mm → Nat → Nat → Int32 → Int32 → Int32 → Int32 → Option (Int32 × Mm)} {N : Nat}  {r9 : Int32} {M9 : Mm} (hX : Cy p s m args c meth cX9_ownBody 7 RX9 "ownBody" (some .int) P) (hq0 : ∀ (M : Mm) (a0 : Nat) (a1 : Nat) (a2 : Int32) (a3 : Int32) (a4 : Int32) (r9 : Int32) (M9 : Mm), q0 M a0 a1 a2 a3 a4 = some (r9, M9) → Ct l yX9_ownBody cX9_ownBody 7 (some .int) (2 + D) 0 P [.ref (pB P + a0), .ref (pB P + a1), .int a2, .int a3, .int a4] M (some (.int r9)) M9) (hp0 : ∀ (M : Mm) (a0 : Nat) (a1 : Nat) (a2 : Int32) (a3 : Int32) (a4 : Int32) (r9 : Int32 × Mm), q0 M a0 a1 a2 a3 a4 = some r9 → ∃ fs, M[a0]? = some (.inr (9, fs))) (hq1 : ∀ (M : Mm) (a0 : Nat) (a1 : Nat) (a2 : Int32) (a3 : Int32) (a4 : Int32) (r9 : Int32) (M9 : Mm), q1 M a0 a1 a2 a3 a4 = some (r9, M9) → Ct l yX9_plainBody cX9_plainBody 5 (some .int) (2 + D) 0 P [.ref (pB P + a0), .ref (pB P + a1), .int a2, .int a3, .int a4] M (some (.int r9)) M9) (hp1 : ∀ (M : Mm) (a0 : Nat) (a1 : Nat) (a2 : Int32) (a3 : Int32) (a4 : Int32) (r9 : Int32 × Mm), q1 M a0 a1 a2 a3 a4 = some r9 → ∃ fs, M[a0]? = some (.inr (9, fs))) (hq2 : ∀ (M : Mm) (a0 : Nat) (a1 : Nat) (a2 : Int32) (a3 : Int32) (a4 : Int32) (a5 : Int32) (r9 : Int32) (M9 : Mm), q2 M a0 a1 a2 a3 a4 a5 = some (r9, M9) → Ct l yX9_speak cX9_speak 7 (some .int) (2 + D) 0 P [.ref (pB P + a0), .ref (pB P + a1), .int a2, .int a3, .int a4, .int a5] M (some (.int r9)) M9) (hp2 : ∀ (M : Mm) (a0 : Nat) (a1 : Nat) (a2 : Int32) (a3 : Int32) (a4 : Int32) (a5 : Int32) (r9 : Int32 × Mm), q2 M a0 a1 a2 a3 a4 a5 = some r9 → ∃ fs, M[a0]? = some (.inr (9, fs)))  (M : Mm) (a0 : Nat) (a1 : Nat) (a2 : Int32) (a3 : Int32) (a4 : Int32) (h : FX9_ownBody q0 q1 q2 N M a0 a1 a2 a3 a4 = some (r9, M9)) : Wq p l e s m args below meth c (2 + D + 1) 0 (some (.int r9)) M9 7 P 0 0 [(0, .ref (pB P + a0)), (1, .ref (pB P + a1)), (2, .int a2), (3, .int a3), (4, .int a4)] [] M := by
  unfold FX9_ownBody at h
  obtain ⟨_, _, h⟩ := ob h
  have hX0 := hX
  obtain ⟨X, hr, hlk, hnm⟩ := hX0
  have hx := X.1.1
  have hb := X.1.2.1
  intro H locs ls hM hl
  refine lv_aload_n (pc := 0) hx hb dX9_ownBody_0 rfl (lv_at hl 1 rfl) ?_
  obtain ⟨v1, e2, h⟩ := ob h
  refine bz_getI (pc := 1) X hM fl_RX9_23 e2 dX9_ownBody_1 ?_
  refine lv_istore (pc := 4) (lv' := [(5, .int v1), (0, .ref (pB P + a0)), (1, .ref (pB P + a1)), (2, .int a2), (3, .int a3), (4, .int a4)]) hx hb dX9_ownBody_4 hl (by decide) rfl (fun ls hl => ?_)
  refine lv_iload_n (pc := 6) hx hb dX9_ownBody_6 rfl (lv_at hl 3 rfl) ?_
  refine lv_bipush (pc := 7) (v := (10 : Int32)) hx hb dX9_ownBody_7 (by decide) ?_
  refine lv_idiv (pc := 9) hx hb dX9_ownBody_9 (by decide) ?_
  refine lv_iconst (pc := 10) (v := (1 : Int32)) hx hb dX9_ownBody_10 (by decide) ?_
  refine lv_isub (pc := 11) hx hb dX9_ownBody_11 ?_
  obtain ⟨v4, e3, h⟩ := ob h
  refine bz_callS1 (pc := 12) (As := [.int ((a2 / (10 : Int32)) - (1 : Int32))]) (rest := []) X hM hl.1 k_RX9_52 (ctX0_kindAbove l e3) rfl rfl (rm_ok (by omega) (Nat.le_of_ble_eq_true rfl)) (Nat.le_of_ble_eq_true rfl) ⟨(Nat.le_of_ble_eq_true rfl), (Nat.le_of_ble_eq_true rfl)⟩ dX9_ownBody_12 (fun H locs hM => ?_)
  refine lv_istore (pc := 15) (lv' := [(6, .int v4), (5, .int v1), (0, .ref (pB P + a0)), (1, .ref (pB P + a1)), (2, .int a2), (3, .int a3), (4, .int a4)]) hx hb dX9_ownBody_15 hl (by decide) rfl (fun ls hl => ?_)
  refine lv_iload_n (pc := 17) hx hb dX9_ownBody_17 rfl (lv_at hl 4 rfl) ?_
  by_cases hs20 : a2 = (20 : Int32)
  · have h := if_t hs20 h
    refine lv_lookup (pc := 18) (off := 82) (tgt := 100) hx hb dX9_ownBody_18 (by decide) (by rw [hs20]; decide) (by decide) ?_
    refine lv_aload_n (pc := 100) hx hb dX9_ownBody_100 rfl (lv_at hl 2 rfl) ?_
    refine lv_aload_n (pc := 101) hx hb dX9_ownBody_101 rfl (lv_at hl 3 rfl) ?_
    refine lv_iload (pc := 102) hx hb dX9_ownBody_102 (lv_at hl 0 rfl) ?_
    refine lv_iconst (pc := 104) (v := (1 : Int32)) hx hb dX9_ownBody_104 (by decide) ?_
    refine lv_iload_n (pc := 105) hx hb dX9_ownBody_105 rfl (lv_at hl 5 rfl) ?_
    refine lv_iload (pc := 106) hx hb dX9_ownBody_106 (lv_at hl 6 rfl) ?_
    obtain ⟨v6, M7, e5, h⟩ := ob2 h
    obtain ⟨fs8, hb9⟩ := (hp2 _ _ _ _ _ _ _ _ e5)
    refine bz_callV1 (pc := 108) (As := [.ref (pB P + a1), .int v4, .int (1 : Int32), .int a3, .int a4]) (rest := []) X hM hl.1 k_RX9_29 (hq2 _ _ _ _ _ _ _ _ _ e5) rfl hb9 rfl rfl (rm_ok (by omega) (Nat.le_of_ble_eq_true rfl)) (Nat.le_of_ble_eq_true rfl) ⟨(Nat.le_of_ble_eq_true rfl), (Nat.le_of_ble_eq_true rfl)⟩ dX9_ownBody_108 (fun H locs hM => ?_)
    refine lv_iconst (pc := 111) (v := (1 : Int32)) hx hb dX9_ownBody_111 (by decide) ?_
    refine lv_isub (pc := 112) hx hb dX9_ownBody_112 ?_
    obtain ⟨rfl, rfl⟩ := so2 h
    exact bz_iret (pc := 113) X hM hr hlk dX9_ownBody_113 (Nat.le_of_ble_eq_true rfl) (Nat.le_of_ble_eq_true rfl)
  have h := if_f hs20 h
  by_cases hs30 : a2 = (30 : Int32)
  · have h := if_t hs30 h
    refine lv_lookup (pc := 18) (off := 96) (tgt := 114) hx hb dX9_ownBody_18 (by decide) (by rw [hs30]; decide) (by decide) ?_
    refine lv_aload_n (pc := 114) hx hb dX9_ownBody_114 rfl (lv_at hl 2 rfl) ?_
    refine lv_aload_n (pc := 115) hx hb dX9_ownBody_115 rfl (lv_at hl 3 rfl) ?_
    refine lv_iload (pc := 116) hx hb dX9_ownBody_116 (lv_at hl 0 rfl) ?_
    refine lv_iconst (pc := 118) (v := (0 : Int32)) hx hb dX9_ownBody_118 (by decide) ?_
    refine lv_iload_n (pc := 119) hx hb dX9_ownBody_119 rfl (lv_at hl 5 rfl) ?_
    refine lv_iload (pc := 120) hx hb dX9_ownBody_120 (lv_at hl 6 rfl) ?_
    obtain ⟨v11, M12, e10, h⟩ := ob2 h
    obtain ⟨fs13, hb14⟩ := (hp2 _ _ _ _ _ _ _ _ e10)
    refine bz_callV1 (pc := 122) (As := [.ref (pB P + a1), .int v4, .int (0 : Int32), .int a3, .int a4]) (rest := []) X hM hl.1 k_RX9_29 (hq2 _ _ _ _ _ _ _ _ _ e10) rfl hb14 rfl rfl (rm_ok (by omega) (Nat.le_of_ble_eq_true rfl)) (Nat.le_of_ble_eq_true rfl) ⟨(Nat.le_of_ble_eq_true rfl), (Nat.le_of_ble_eq_true rfl)⟩ dX9_ownBody_122 (fun H locs hM => ?_)
    refine lv_aload_n (pc := 125) hx hb dX9_ownBody_125 rfl (lv_at hl 2 rfl) ?_
    refine lv_aload_n (pc := 126) hx hb dX9_ownBody_126 rfl (lv_at hl 3 rfl) ?_
    refine lv_iload (pc := 127) hx hb dX9_ownBody_127 (lv_at hl 1 rfl) ?_
    refine lv_iconst (pc := 129) (v := (2 : Int32)) hx hb dX9_ownBody_129 (by decide) ?_
    refine lv_iconst (pc := 130) (v := (1 : Int32)) hx hb dX9_ownBody_130 (by decide) ?_
    refine lv_iload (pc := 131) hx hb dX9_ownBody_131 (lv_at hl 6 rfl) ?_
    obtain ⟨v16, M17, e15, h⟩ := ob2 h
    obtain ⟨fs18, hb19⟩ := (hp2 _ _ _ _ _ _ _ _ e15)
    refine bz_callV1 (pc := 133) (As := [.ref (pB P + a1), .int v1, .int (2 : Int32), .int (1 : Int32), .int a4]) (rest := [.int v11]) X hM hl.1 k_RX9_29 (hq2 _ _ _ _ _ _ _ _ _ e15) rfl hb19 rfl rfl (rm_ok (by omega) (Nat.le_of_ble_eq_true rfl)) (Nat.le_of_ble_eq_true rfl) ⟨(Nat.le_of_ble_eq_true rfl), (Nat.le_of_ble_eq_true rfl)⟩ dX9_ownBody_133 (fun H locs hM => ?_)
    refine lv_iadd (pc := 136) hx hb dX9_ownBody_136 ?_
    obtain ⟨rfl, rfl⟩ := so2 h
    exact bz_iret (pc := 137) X hM hr hlk dX9_ownBody_137 (Nat.le_of_ble_eq_true rfl) (Nat.le_of_ble_eq_true rfl)
  have h := if_f hs30 h
  by_cases hs40 : a2 = (40 : Int32)
  · have h := if_t hs40 h
    refine lv_lookup (pc := 18) (off := 120) (tgt := 138) hx hb dX9_ownBody_18 (by decide) (by rw [hs40]; decide) (by decide) ?_
    refine lv_aload_n (pc := 138) hx hb dX9_ownBody_138 rfl (lv_at hl 2 rfl) ?_
    refine lv_aload_n (pc := 139) hx hb dX9_ownBody_139 rfl (lv_at hl 3 rfl) ?_
    refine lv_iload (pc := 140) hx hb dX9_ownBody_140 (lv_at hl 1 rfl) ?_
    refine lv_iconst (pc := 142) (v := (1 : Int32)) hx hb dX9_ownBody_142 (by decide) ?_
    refine lv_iconst (pc := 143) (v := (2 : Int32)) hx hb dX9_ownBody_143 (by decide) ?_
    refine lv_iload (pc := 144) hx hb dX9_ownBody_144 (lv_at hl 6 rfl) ?_
    obtain ⟨v21, M22, e20, h⟩ := ob2 h
    obtain ⟨fs23, hb24⟩ := (hp2 _ _ _ _ _ _ _ _ e20)
    refine bz_callV1 (pc := 146) (As := [.ref (pB P + a1), .int v1, .int (1 : Int32), .int (2 : Int32), .int a4]) (rest := []) X hM hl.1 k_RX9_29 (hq2 _ _ _ _ _ _ _ _ _ e20) rfl hb24 rfl rfl (rm_ok (by omega) (Nat.le_of_ble_eq_true rfl)) (Nat.le_of_ble_eq_true rfl) ⟨(Nat.le_of_ble_eq_true rfl), (Nat.le_of_ble_eq_true rfl)⟩ dX9_ownBody_146 (fun H locs hM => ?_)
    refine lv_aload_n (pc := 149) hx hb dX9_ownBody_149 rfl (lv_at hl 2 rfl) ?_
    refine lv_aload_n (pc := 150) hx hb dX9_ownBody_150 rfl (lv_at hl 3 rfl) ?_
    refine lv_iload (pc := 151) hx hb dX9_ownBody_151 (lv_at hl 0 rfl) ?_
    refine lv_iconst (pc := 153) (v := (3 : Int32)) hx hb dX9_ownBody_153 (by decide) ?_
    refine lv_iload_n (pc := 154) hx hb dX9_ownBody_154 rfl (lv_at hl 5 rfl) ?_
    refine lv_iload (pc := 155) hx hb dX9_ownBody_155 (lv_at hl 6 rfl) ?_
    obtain ⟨v26, M27, e25, h⟩ := ob2 h
    obtain ⟨fs28, hb29⟩ := (hp2 _ _ _ _ _ _ _ _ e25)
    refine bz_callV1 (pc := 157) (As := [.ref (pB P + a1), .int v4, .int (3 : Int32), .int a3, .int a4]) (rest := [.int v21]) X hM hl.1 k_RX9_29 (hq2 _ _ _ _ _ _ _ _ _ e25) rfl hb29 rfl rfl (rm_ok (by omega) (Nat.le_of_ble_eq_true rfl)) (Nat.le_of_ble_eq_true rfl) ⟨(Nat.le_of_ble_eq_true rfl), (Nat.le_of_ble_eq_true rfl)⟩ dX9_ownBody_157 (fun H locs hM => ?_)
    refine lv_isub (pc := 160) hx hb dX9_ownBody_160 ?_
    obtain ⟨rfl, rfl⟩ := so2 h
    exact bz_iret (pc := 161) X hM hr hlk dX9_ownBody_161 (Nat.le_of_ble_eq_true rfl) (Nat.le_of_ble_eq_true rfl)
  have h := if_f hs40 h
  by_cases hs50 : a2 = (50 : Int32)
  · have h := if_t hs50 h
    refine lv_lookup (pc := 18) (off := 144) (tgt := 162) hx hb dX9_ownBody_18 (by decide) (by rw [hs50]; decide) (by decide) ?_
    refine lv_aload_n (pc := 162) hx hb dX9_ownBody_162 rfl (lv_at hl 2 rfl) ?_
    refine lv_aload_n (pc := 163) hx hb dX9_ownBody_163 rfl (lv_at hl 3 rfl) ?_
    refine lv_iload (pc := 164) hx hb dX9_ownBody_164 (lv_at hl 0 rfl) ?_
    refine lv_iconst (pc := 166) (v := (2 : Int32)) hx hb dX9_ownBody_166 (by decide) ?_
    refine lv_iload_n (pc := 167) hx hb dX9_ownBody_167 rfl (lv_at hl 5 rfl) ?_
    refine lv_iload (pc := 168) hx hb dX9_ownBody_168 (lv_at hl 6 rfl) ?_
    obtain ⟨v31, M32, e30, h⟩ := ob2 h
    obtain ⟨fs33, hb34⟩ := (hp2 _ _ _ _ _ _ _ _ e30)
    refine bz_callV1 (pc := 170) (As := [.ref (pB P + a1), .int v4, .int (2 : Int32), .int a3, .int a4]) (rest := []) X hM hl.1 k_RX9_29 (hq2 _ _ _ _ _ _ _ _ _ e30) rfl hb34 rfl rfl (rm_ok (by omega) (Nat.le_of_ble_eq_true rfl)) (Nat.le_of_ble_eq_true rfl) ⟨(Nat.le_of_ble_eq_true rfl), (Nat.le_of_ble_eq_true rfl)⟩ dX9_ownBody_170 (fun H locs hM => ?_)
    refine lv_iconst (pc := 173) (v := (3 : Int32)) hx hb dX9_ownBody_173 (by decide) ?_
    refine lv_imul (pc := 174) hx hb dX9_ownBody_174 ?_
    obtain ⟨rfl, rfl⟩ := so2 h
    exact bz_iret (pc := 175) X hM hr hlk dX9_ownBody_175 (Nat.le_of_ble_eq_true rfl) (Nat.le_of_ble_eq_true rfl)
  have h := if_f hs50 h
  by_cases hs60 : a2 = (60 : Int32)
  · have h := if_t hs60 h
    refine lv_lookup (pc := 18) (off := 158) (tgt := 176) hx hb dX9_ownBody_18 (by decide) (by rw [hs60]; decide) (by decide) ?_
    refine lv_aload_n (pc := 176) hx hb dX9_ownBody_176 rfl (lv_at hl 2 rfl) ?_
    refine lv_aload_n (pc := 177) hx hb dX9_ownBody_177 rfl (lv_at hl 3 rfl) ?_
    refine lv_iload (pc := 178) hx hb dX9_ownBody_178 (lv_at hl 0 rfl) ?_
    refine lv_iconst (pc := 180) (v := (1 : Int32)) hx hb dX9_ownBody_180 (by decide) ?_
    refine lv_iload_n (pc := 181) hx hb dX9_ownBody_181 rfl (lv_at hl 5 rfl) ?_
    refine lv_iload (pc := 182) hx hb dX9_ownBody_182 (lv_at hl 6 rfl) ?_
    obtain ⟨v36, M37, e35, h⟩ := ob2 h
    obtain ⟨fs38, hb39⟩ := (hp2 _ _ _ _ _ _ _ _ e35)
    refine bz_callV1 (pc := 184) (As := [.ref (pB P + a1), .int v4, .int (1 : Int32), .int a3, .int a4]) (rest := []) X hM hl.1 k_RX9_29 (hq2 _ _ _ _ _ _ _ _ _ e35) rfl hb39 rfl rfl (rm_ok (by omega) (Nat.le_of_ble_eq_true rfl)) (Nat.le_of_ble_eq_true rfl) ⟨(Nat.le_of_ble_eq_true rfl), (Nat.le_of_ble_eq_true rfl)⟩ dX9_ownBody_184 (fun H locs hM => ?_)
    refine lv_aload_n (pc := 187) hx hb dX9_ownBody_187 rfl (lv_at hl 2 rfl) ?_
    refine lv_aload_n (pc := 188) hx hb dX9_ownBody_188 rfl (lv_at hl 3 rfl) ?_
    refine lv_iload (pc := 189) hx hb dX9_ownBody_189 (lv_at hl 1 rfl) ?_
    refine lv_iconst (pc := 191) (v := (0 : Int32)) hx hb dX9_ownBody_191 (by decide) ?_
    refine lv_iload_n (pc := 192) hx hb dX9_ownBody_192 rfl (lv_at hl 5 rfl) ?_
    refine lv_iload (pc := 193) hx hb dX9_ownBody_193 (lv_at hl 6 rfl) ?_
    obtain ⟨v41, M42, e40, h⟩ := ob2 h
    obtain ⟨fs43, hb44⟩ := (hp2 _ _ _ _ _ _ _ _ e40)
    refine bz_callV1 (pc := 195) (As := [.ref (pB P + a1), .int v1, .int (0 : Int32), .int a3, .int a4]) (rest := [.int v36]) X hM hl.1 k_RX9_29 (hq2 _ _ _ _ _ _ _ _ _ e40) rfl hb44 rfl rfl (rm_ok (by omega) (Nat.le_of_ble_eq_true rfl)) (Nat.le_of_ble_eq_true rfl) ⟨(Nat.le_of_ble_eq_true rfl), (Nat.le_of_ble_eq_true rfl)⟩ dX9_ownBody_195 (fun H locs hM => ?_)
    refine lv_iadd (pc := 198) hx hb dX9_ownBody_198 ?_
    obtain ⟨rfl, rfl⟩ := so2 h
    exact bz_iret (pc := 199) X hM hr hlk dX9_ownBody_199 (Nat.le_of_ble_eq_true rfl) (Nat.le_of_ble_eq_true rfl)
  have h := if_f hs60 h
  by_cases hs70 : a2 = (70 : Int32)
  · have h := if_t hs70 h
    refine lv_lookup (pc := 18) (off := 182) (tgt := 200) hx hb dX9_ownBody_18 (by decide) (by rw [hs70]; decide) (by decide) ?_
    refine lv_aload_n (pc := 200) hx hb dX9_ownBody_200 rfl (lv_at hl 2 rfl) ?_
    refine lv_aload_n (pc := 201) hx hb dX9_ownBody_201 rfl (lv_at hl 3 rfl) ?_
    refine lv_iload (pc := 202) hx hb dX9_ownBody_202 (lv_at hl 0 rfl) ?_
    refine lv_iconst (pc := 204) (v := (0 : Int32)) hx hb dX9_ownBody_204 (by decide) ?_
    refine lv_iload_n (pc := 205) hx hb dX9_ownBody_205 rfl (lv_at hl 5 rfl) ?_
    refine lv_iload (pc := 206) hx hb dX9_ownBody_206 (lv_at hl 6 rfl) ?_
    obtain ⟨v46, M47, e45, h⟩ := ob2 h
    obtain ⟨fs48, hb49⟩ := (hp2 _ _ _ _ _ _ _ _ e45)
    refine bz_callV1 (pc := 208) (As := [.ref (pB P + a1), .int v4, .int (0 : Int32), .int a3, .int a4]) (rest := []) X hM hl.1 k_RX9_29 (hq2 _ _ _ _ _ _ _ _ _ e45) rfl hb49 rfl rfl (rm_ok (by omega) (Nat.le_of_ble_eq_true rfl)) (Nat.le_of_ble_eq_true rfl) ⟨(Nat.le_of_ble_eq_true rfl), (Nat.le_of_ble_eq_true rfl)⟩ dX9_ownBody_208 (fun H locs hM => ?_)
    refine lv_ineg (pc := 211) hx hb dX9_ownBody_211 ?_
    obtain ⟨rfl, rfl⟩ := so2 h
    exact bz_iret (pc := 212) X hM hr hlk dX9_ownBody_212 (Nat.le_of_ble_eq_true rfl) (Nat.le_of_ble_eq_true rfl)
  have h := if_f hs70 h
  by_cases hs71 : a2 = (71 : Int32)
  · have h := if_t hs71 h
    refine lv_lookup (pc := 18) (off := 195) (tgt := 213) hx hb dX9_ownBody_18 (by decide) (by rw [hs71]; decide) (by decide) ?_
    refine lv_aload_n (pc := 213) hx hb dX9_ownBody_213 rfl (lv_at hl 2 rfl) ?_
    refine lv_aload_n (pc := 214) hx hb dX9_ownBody_214 rfl (lv_at hl 3 rfl) ?_
    refine lv_iload (pc := 215) hx hb dX9_ownBody_215 (lv_at hl 0 rfl) ?_
    refine lv_iconst (pc := 217) (v := (3 : Int32)) hx hb dX9_ownBody_217 (by decide) ?_
    refine lv_iload_n (pc := 218) hx hb dX9_ownBody_218 rfl (lv_at hl 5 rfl) ?_
    refine lv_iconst (pc := 219) (v := (1 : Int32)) hx hb dX9_ownBody_219 (by decide) ?_
    refine lv_iadd (pc := 220) hx hb dX9_ownBody_220 ?_
    refine lv_iload (pc := 221) hx hb dX9_ownBody_221 (lv_at hl 6 rfl) ?_
    obtain ⟨v51, M52, e50, h⟩ := ob2 h
    obtain ⟨fs53, hb54⟩ := (hp2 _ _ _ _ _ _ _ _ e50)
    refine bz_callV1 (pc := 223) (As := [.ref (pB P + a1), .int v4, .int (3 : Int32), .int (a3 + (1 : Int32)), .int a4]) (rest := []) X hM hl.1 k_RX9_29 (hq2 _ _ _ _ _ _ _ _ _ e50) rfl hb54 rfl rfl (rm_ok (by omega) (Nat.le_of_ble_eq_true rfl)) (Nat.le_of_ble_eq_true rfl) ⟨(Nat.le_of_ble_eq_true rfl), (Nat.le_of_ble_eq_true rfl)⟩ dX9_ownBody_223 (fun H locs hM => ?_)
    obtain ⟨rfl, rfl⟩ := so2 h
    exact bz_iret (pc := 226) X hM hr hlk dX9_ownBody_226 (Nat.le_of_ble_eq_true rfl) (Nat.le_of_ble_eq_true rfl)
  have h := if_f hs71 h
  by_cases hs80 : a2 = (80 : Int32)
  · have h := if_t hs80 h
    refine lv_lookup (pc := 18) (off := 209) (tgt := 227) hx hb dX9_ownBody_18 (by decide) (by rw [hs80]; decide) (by decide) ?_
    refine lv_aload_n (pc := 227) hx hb dX9_ownBody_227 rfl (lv_at hl 2 rfl) ?_
    refine lv_aload_n (pc := 228) hx hb dX9_ownBody_228 rfl (lv_at hl 3 rfl) ?_
    refine lv_iload (pc := 229) hx hb dX9_ownBody_229 (lv_at hl 0 rfl) ?_
    refine lv_iconst (pc := 231) (v := (1 : Int32)) hx hb dX9_ownBody_231 (by decide) ?_
    refine lv_iload_n (pc := 232) hx hb dX9_ownBody_232 rfl (lv_at hl 5 rfl) ?_
    refine lv_iload (pc := 233) hx hb dX9_ownBody_233 (lv_at hl 6 rfl) ?_
    obtain ⟨v56, M57, e55, h⟩ := ob2 h
    obtain ⟨fs58, hb59⟩ := (hp2 _ _ _ _ _ _ _ _ e55)
    refine bz_callV1 (pc := 235) (As := [.ref (pB P + a1), .int v4, .int (1 : Int32), .int a3, .int a4]) (rest := []) X hM hl.1 k_RX9_29 (hq2 _ _ _ _ _ _ _ _ _ e55) rfl hb59 rfl rfl (rm_ok (by omega) (Nat.le_of_ble_eq_true rfl)) (Nat.le_of_ble_eq_true rfl) ⟨(Nat.le_of_ble_eq_true rfl), (Nat.le_of_ble_eq_true rfl)⟩ dX9_ownBody_235 (fun H locs hM => ?_)
    refine lv_aload_n (pc := 238) hx hb dX9_ownBody_238 rfl (lv_at hl 3 rfl) ?_
    obtain ⟨v60, e61, h⟩ := ob h
    refine bz_getI (pc := 239) X hM fl_RX9_56 e61 dX9_ownBody_239 ?_
    refine lv_ixor (pc := 242) hx hb dX9_ownBody_242 ?_
    obtain ⟨rfl, rfl⟩ := so2 h
    exact bz_iret (pc := 243) X hM hr hlk dX9_ownBody_243 (Nat.le_of_ble_eq_true rfl) (Nat.le_of_ble_eq_true rfl)
  have h := if_f hs80 h
  by_cases hs81 : a2 = (81 : Int32)
  · have h := if_t hs81 h
    refine lv_lookup (pc := 18) (off := 226) (tgt := 244) hx hb dX9_ownBody_18 (by decide) (by rw [hs81]; decide) (by decide) ?_
    refine lv_aload_n (pc := 244) hx hb dX9_ownBody_244 rfl (lv_at hl 2 rfl) ?_
    refine lv_aload_n (pc := 245) hx hb dX9_ownBody_245 rfl (lv_at hl 3 rfl) ?_
    refine lv_iload (pc := 246) hx hb dX9_ownBody_246 (lv_at hl 1 rfl) ?_
    refine lv_iconst (pc := 248) (v := (2 : Int32)) hx hb dX9_ownBody_248 (by decide) ?_
    refine lv_iload_n (pc := 249) hx hb dX9_ownBody_249 rfl (lv_at hl 5 rfl) ?_
    refine lv_iload (pc := 250) hx hb dX9_ownBody_250 (lv_at hl 6 rfl) ?_
    obtain ⟨v63, M64, e62, h⟩ := ob2 h
    obtain ⟨fs65, hb66⟩ := (hp2 _ _ _ _ _ _ _ _ e62)
    refine bz_callV1 (pc := 252) (As := [.ref (pB P + a1), .int v1, .int (2 : Int32), .int a3, .int a4]) (rest := []) X hM hl.1 k_RX9_29 (hq2 _ _ _ _ _ _ _ _ _ e62) rfl hb66 rfl rfl (rm_ok (by omega) (Nat.le_of_ble_eq_true rfl)) (Nat.le_of_ble_eq_true rfl) ⟨(Nat.le_of_ble_eq_true rfl), (Nat.le_of_ble_eq_true rfl)⟩ dX9_ownBody_252 (fun H locs hM => ?_)
    refine lv_aload_n (pc := 255) hx hb dX9_ownBody_255 rfl (lv_at hl 2 rfl) ?_
    refine lv_aload_n (pc := 256) hx hb dX9_ownBody_256 rfl (lv_at hl 3 rfl) ?_
    refine lv_iload (pc := 257) hx hb dX9_ownBody_257 (lv_at hl 0 rfl) ?_
    refine lv_iconst (pc := 259) (v := (3 : Int32)) hx hb dX9_ownBody_259 (by decide) ?_
    refine lv_iload_n (pc := 260) hx hb dX9_ownBody_260 rfl (lv_at hl 5 rfl) ?_
    refine lv_iload (pc := 261) hx hb dX9_ownBody_261 (lv_at hl 6 rfl) ?_
    obtain ⟨v68, M69, e67, h⟩ := ob2 h
    obtain ⟨fs70, hb71⟩ := (hp2 _ _ _ _ _ _ _ _ e67)
    refine bz_callV1 (pc := 263) (As := [.ref (pB P + a1), .int v4, .int (3 : Int32), .int a3, .int a4]) (rest := [.int v63]) X hM hl.1 k_RX9_29 (hq2 _ _ _ _ _ _ _ _ _ e67) rfl hb71 rfl rfl (rm_ok (by omega) (Nat.le_of_ble_eq_true rfl)) (Nat.le_of_ble_eq_true rfl) ⟨(Nat.le_of_ble_eq_true rfl), (Nat.le_of_ble_eq_true rfl)⟩ dX9_ownBody_263 (fun H locs hM => ?_)
    refine lv_iadd (pc := 266) hx hb dX9_ownBody_266 ?_
    obtain ⟨rfl, rfl⟩ := so2 h
    exact bz_iret (pc := 267) X hM hr hlk dX9_ownBody_267 (Nat.le_of_ble_eq_true rfl) (Nat.le_of_ble_eq_true rfl)
  have h := if_f hs81 h
  refine lv_lookup (pc := 18) (off := 250) (tgt := 268) hx hb dX9_ownBody_18 (by decide) (by show Op.lookupswitch.offset [(20, 82), (30, 96), (40, 120), (50, 144), (60, 158), (70, 182), (71, 195), (80, 209), (81, 226)] _ _ = _; rw [lv_osw hs20 (by decide), lv_osw hs30 (by decide), lv_osw hs40 (by decide), lv_osw hs50 (by decide), lv_osw hs60 (by decide), lv_osw hs70 (by decide), lv_osw hs71 (by decide), lv_osw hs80 (by decide), lv_osw hs81 (by decide)]; rfl) (by decide) ?_
  refine lv_iconst (pc := 268) (v := (0 : Int32)) hx hb dX9_ownBody_268 (by decide) ?_
  obtain ⟨rfl, rfl⟩ := so2 h
  exact bz_iret (pc := 269) X hM hr hlk dX9_ownBody_269 (Nat.le_of_ble_eq_true rfl) (Nat.le_of_ble_eq_true rfl)
theorem rF_X9_ownBody {q0 : Mm → Nat → Nat → Int32 → Int32 → Int32 → Option (Int32 × Mm)} {q1 : Mm → Nat → Nat → Int32 → Int32 → Int32 → Option (Int32 × Mm)} {q2 : Mm → Nat → Nat → Int32 → Int32 → Int32 → Int32 → Option (Int32 × Mm)} {N : Nat} {M : Mm} {a0 : Nat} {a1 : Nat} {a2 : Int32} {a3 : Int32} {a4 : Int32} {r9 : Int32 × Mm} (h : FX9_ownBody q0 q1 q2 N M a0 a1 a2 a3 a4 = some r9) : ∃ fs, M[a0]? = some (.inr (9, fs)) := by
  unfold FX9_ownBody at h
  obtain ⟨_, e1, _⟩ := ob h
  exact gC_spec e1
set_option maxHeartbeats 4000000 in
set_option maxRecDepth 100000 in
theorem wX9_plainBody {p : Program} {l : Launch} {e : Env} {s : State} {m : MethodId} {args : Array Value} {below : List Frame} {meth : Method} {c : Code} {P : PT} {D : Nat} {q0 : Mm → Nat → Nat → Int32 → Int32 → Int32 → Option (Int32 × Mm)} {q1 : Mm → Nat → Nat → Int32 → Int32 → Int32 → Option (Int32 × Mm)} {q2 : Mm → Nat → Nat → Int32 → Int32 → Int32 → Int32 → Option (Int32 × Mm)} {N : Nat}  {r9 : Int32} {M9 : Mm} (hX : Cy p s m args c meth cX9_plainBody 5 RX9 "plainBody" (some .int) P) (hq0 : ∀ (M : Mm) (a0 : Nat) (a1 : Nat) (a2 : Int32) (a3 : Int32) (a4 : Int32) (r9 : Int32) (M9 : Mm), q0 M a0 a1 a2 a3 a4 = some (r9, M9) → Ct l yX9_ownBody cX9_ownBody 7 (some .int) (2 + D) 0 P [.ref (pB P + a0), .ref (pB P + a1), .int a2, .int a3, .int a4] M (some (.int r9)) M9) (hp0 : ∀ (M : Mm) (a0 : Nat) (a1 : Nat) (a2 : Int32) (a3 : Int32) (a4 : Int32) (r9 : Int32 × Mm), q0 M a0 a1 a2 a3 a4 = some r9 → ∃ fs, M[a0]? = some (.inr (9, fs))) (hq1 : ∀ (M : Mm) (a0 : Nat) (a1 : Nat) (a2 : Int32) (a3 : Int32) (a4 : Int32) (r9 : Int32) (M9 : Mm), q1 M a0 a1 a2 a3 a4 = some (r9, M9) → Ct l yX9_plainBody cX9_plainBody 5 (some .int) (2 + D) 0 P [.ref (pB P + a0), .ref (pB P + a1), .int a2, .int a3, .int a4] M (some (.int r9)) M9) (hp1 : ∀ (M : Mm) (a0 : Nat) (a1 : Nat) (a2 : Int32) (a3 : Int32) (a4 : Int32) (r9 : Int32 × Mm), q1 M a0 a1 a2 a3 a4 = some r9 → ∃ fs, M[a0]? = some (.inr (9, fs))) (hq2 : ∀ (M : Mm) (a0 : Nat) (a1 : Nat) (a2 : Int32) (a3 : Int32) (a4 : Int32) (a5 : Int32) (r9 : Int32) (M9 : Mm), q2 M a0 a1 a2 a3 a4 a5 = some (r9, M9) → Ct l yX9_speak cX9_speak 7 (some .int) (2 + D) 0 P [.ref (pB P + a0), .ref (pB P + a1), .int a2, .int a3, .int a4, .int a5] M (some (.int r9)) M9) (hp2 : ∀ (M : Mm) (a0 : Nat) (a1 : Nat) (a2 : Int32) (a3 : Int32) (a4 : Int32) (a5 : Int32) (r9 : Int32 × Mm), q2 M a0 a1 a2 a3 a4 a5 = some r9 → ∃ fs, M[a0]? = some (.inr (9, fs)))  (M : Mm) (a0 : Nat) (a1 : Nat) (a2 : Int32) (a3 : Int32) (a4 : Int32) (h : FX9_plainBody q0 q1 q2 N M a0 a1 a2 a3 a4 = some (r9, M9)) : Wq p l e s m args below meth c (2 + D + 1) 0 (some (.int r9)) M9 5 P 0 0 [(0, .ref (pB P + a0)), (1, .ref (pB P + a1)), (2, .int a2), (3, .int a3), (4, .int a4)] [] M := by
  unfold FX9_plainBody at h
  obtain ⟨_, _, h⟩ := ob h
  have hX0 := hX
  obtain ⟨X, hr, hlk, hnm⟩ := hX0
  have hx := X.1.1
  have hb := X.1.2.1
  intro H locs ls hM hl
  refine lv_iload_n (pc := 0) hx hb dX9_plainBody_0 rfl (lv_at hl 2 rfl) ?_
  by_cases hs10 : a2 = (10 : Int32)
  · have h := if_t hs10 h
    refine lv_tableIn (pc := 1) (off := 27) (tgt := 28) hx hb dX9_plainBody_1 (by rw [hs10]; decide) (by rw [hs10]; decide) (by rw [hs10]; rfl) (by decide) ?_
    refine lv_iload_n (pc := 28) hx hb dX9_plainBody_28 rfl (lv_at hl 3 rfl) ?_
    refine lv_aload_n (pc := 29) hx hb dX9_plainBody_29 rfl (lv_at hl 1 rfl) ?_
    obtain ⟨v1, e2, h⟩ := ob h
    refine bz_getI (pc := 30) X hM fl_RX9_56 e2 dX9_plainBody_30 ?_
    refine lv_iadd (pc := 33) hx hb dX9_plainBody_33 ?_
    obtain ⟨rfl, rfl⟩ := so2 h
    exact bz_iret (pc := 34) X hM hr hlk dX9_plainBody_34 (Nat.le_of_ble_eq_true rfl) (Nat.le_of_ble_eq_true rfl)
  have h := if_f hs10 h
  by_cases hs11 : a2 = (11 : Int32)
  · have h := if_t hs11 h
    refine lv_tableIn (pc := 1) (off := 34) (tgt := 35) hx hb dX9_plainBody_1 (by rw [hs11]; decide) (by rw [hs11]; decide) (by rw [hs11]; rfl) (by decide) ?_
    refine lv_aload_n (pc := 35) hx hb dX9_plainBody_35 rfl (lv_at hl 0 rfl) ?_
    refine lv_aload_n (pc := 36) hx hb dX9_plainBody_36 rfl (lv_at hl 1 rfl) ?_
    refine lv_aload_n (pc := 37) hx hb dX9_plainBody_37 rfl (lv_at hl 1 rfl) ?_
    obtain ⟨v3, e4, h⟩ := ob h
    refine bz_getI (pc := 38) X hM fl_RX9_23 e4 dX9_plainBody_38 ?_
    refine lv_iconst (pc := 41) (v := (0 : Int32)) hx hb dX9_plainBody_41 (by decide) ?_
    refine lv_iload_n (pc := 42) hx hb dX9_plainBody_42 rfl (lv_at hl 3 rfl) ?_
    refine lv_iload (pc := 43) hx hb dX9_plainBody_43 (lv_at hl 4 rfl) ?_
    obtain ⟨v6, M7, e5, h⟩ := ob2 h
    obtain ⟨fs8, hb9⟩ := (hp2 _ _ _ _ _ _ _ _ e5)
    refine bz_callV1 (pc := 45) (As := [.ref (pB P + a1), .int v3, .int (0 : Int32), .int a3, .int a4]) (rest := []) X hM hl.1 k_RX9_29 (hq2 _ _ _ _ _ _ _ _ _ e5) rfl hb9 rfl rfl (rm_ok (by omega) (Nat.le_of_ble_eq_true rfl)) (Nat.le_of_ble_eq_true rfl) ⟨(Nat.le_of_ble_eq_true rfl), (Nat.le_of_ble_eq_true rfl)⟩ dX9_plainBody_45 (fun H locs hM => ?_)
    refine lv_iconst (pc := 48) (v := (2 : Int32)) hx hb dX9_plainBody_48 (by decide) ?_
    refine lv_imul (pc := 49) hx hb dX9_plainBody_49 ?_
    obtain ⟨rfl, rfl⟩ := so2 h
    exact bz_iret (pc := 50) X hM hr hlk dX9_plainBody_50 (Nat.le_of_ble_eq_true rfl) (Nat.le_of_ble_eq_true rfl)
  have h := if_f hs11 h
  by_cases hs12 : a2 = (12 : Int32)
  · have h := if_t hs12 h
    refine lv_tableIn (pc := 1) (off := 50) (tgt := 51) hx hb dX9_plainBody_1 (by rw [hs12]; decide) (by rw [hs12]; decide) (by rw [hs12]; rfl) (by decide) ?_
    refine lv_iload_n (pc := 51) hx hb dX9_plainBody_51 rfl (lv_at hl 3 rfl) ?_
    refine lv_aload_n (pc := 52) hx hb dX9_plainBody_52 rfl (lv_at hl 1 rfl) ?_
    obtain ⟨v10, e11, h⟩ := ob h
    refine bz_getI (pc := 53) X hM fl_RX9_59 e11 dX9_plainBody_53 ?_
    refine lv_isub (pc := 56) hx hb dX9_plainBody_56 ?_
    obtain ⟨rfl, rfl⟩ := so2 h
    exact bz_iret (pc := 57) X hM hr hlk dX9_plainBody_57 (Nat.le_of_ble_eq_true rfl) (Nat.le_of_ble_eq_true rfl)
  have h := if_f hs12 h
  have ho : (a2).toInt < 10 ∨ 12 < (a2).toInt := by
    have hs10 := lv_neT hs10 (a := 10) (by decide)
    have hs11 := lv_neT hs11 (a := 11) (by decide)
    have hs12 := lv_neT hs12 (a := 12) (by decide)
    omega
  refine lv_tableOut (pc := 1) (tgt := 58) hx hb dX9_plainBody_1 ho (by decide) ?_
  refine lv_aload_n (pc := 58) hx hb dX9_plainBody_58 rfl (lv_at hl 0 rfl) ?_
  refine lv_aload_n (pc := 59) hx hb dX9_plainBody_59 rfl (lv_at hl 1 rfl) ?_
  refine lv_aload_n (pc := 60) hx hb dX9_plainBody_60 rfl (lv_at hl 1 rfl) ?_
  obtain ⟨v12, e13, h⟩ := ob h
  refine bz_getI (pc := 61) X hM fl_RX9_23 e13 dX9_plainBody_61 ?_
  refine lv_iconst (pc := 64) (v := (1 : Int32)) hx hb dX9_plainBody_64 (by decide) ?_
  refine lv_iload_n (pc := 65) hx hb dX9_plainBody_65 rfl (lv_at hl 3 rfl) ?_
  refine lv_iload (pc := 66) hx hb dX9_plainBody_66 (lv_at hl 4 rfl) ?_
  obtain ⟨v15, M16, e14, h⟩ := ob2 h
  obtain ⟨fs17, hb18⟩ := (hp2 _ _ _ _ _ _ _ _ e14)
  refine bz_callV1 (pc := 68) (As := [.ref (pB P + a1), .int v12, .int (1 : Int32), .int a3, .int a4]) (rest := []) X hM hl.1 k_RX9_29 (hq2 _ _ _ _ _ _ _ _ _ e14) rfl hb18 rfl rfl (rm_ok (by omega) (Nat.le_of_ble_eq_true rfl)) (Nat.le_of_ble_eq_true rfl) ⟨(Nat.le_of_ble_eq_true rfl), (Nat.le_of_ble_eq_true rfl)⟩ dX9_plainBody_68 (fun H locs hM => ?_)
  refine lv_aload_n (pc := 71) hx hb dX9_plainBody_71 rfl (lv_at hl 0 rfl) ?_
  refine lv_aload_n (pc := 72) hx hb dX9_plainBody_72 rfl (lv_at hl 1 rfl) ?_
  refine lv_aload_n (pc := 73) hx hb dX9_plainBody_73 rfl (lv_at hl 1 rfl) ?_
  obtain ⟨v19, e20, h⟩ := ob h
  refine bz_getI (pc := 74) X hM fl_RX9_23 e20 dX9_plainBody_74 ?_
  refine lv_iconst (pc := 77) (v := (2 : Int32)) hx hb dX9_plainBody_77 (by decide) ?_
  refine lv_iload_n (pc := 78) hx hb dX9_plainBody_78 rfl (lv_at hl 3 rfl) ?_
  refine lv_iload (pc := 79) hx hb dX9_plainBody_79 (lv_at hl 4 rfl) ?_
  obtain ⟨v22, M23, e21, h⟩ := ob2 h
  obtain ⟨fs24, hb25⟩ := (hp2 _ _ _ _ _ _ _ _ e21)
  refine bz_callV1 (pc := 81) (As := [.ref (pB P + a1), .int v19, .int (2 : Int32), .int a3, .int a4]) (rest := [.int v15]) X hM hl.1 k_RX9_29 (hq2 _ _ _ _ _ _ _ _ _ e21) rfl hb25 rfl rfl (rm_ok (by omega) (Nat.le_of_ble_eq_true rfl)) (Nat.le_of_ble_eq_true rfl) ⟨(Nat.le_of_ble_eq_true rfl), (Nat.le_of_ble_eq_true rfl)⟩ dX9_plainBody_81 (fun H locs hM => ?_)
  refine lv_ixor (pc := 84) hx hb dX9_plainBody_84 ?_
  obtain ⟨rfl, rfl⟩ := so2 h
  exact bz_iret (pc := 85) X hM hr hlk dX9_plainBody_85 (Nat.le_of_ble_eq_true rfl) (Nat.le_of_ble_eq_true rfl)
theorem rF_X9_plainBody {q0 : Mm → Nat → Nat → Int32 → Int32 → Int32 → Option (Int32 × Mm)} {q1 : Mm → Nat → Nat → Int32 → Int32 → Int32 → Option (Int32 × Mm)} {q2 : Mm → Nat → Nat → Int32 → Int32 → Int32 → Int32 → Option (Int32 × Mm)} {N : Nat} {M : Mm} {a0 : Nat} {a1 : Nat} {a2 : Int32} {a3 : Int32} {a4 : Int32} {r9 : Int32 × Mm} (h : FX9_plainBody q0 q1 q2 N M a0 a1 a2 a3 a4 = some r9) : ∃ fs, M[a0]? = some (.inr (9, fs)) := by
  unfold FX9_plainBody at h
  obtain ⟨_, e1, _⟩ := ob h
  exact gC_spec e1
set_option maxHeartbeats 4000000 in
set_option maxRecDepth 100000 in
theorem wX9_speak {p : Program} {l : Launch} {e : Env} {s : State} {m : MethodId} {args : Array Value} {below : List Frame} {meth : Method} {c : Code} {P : PT} {D : Nat} {q0 : Mm → Nat → Nat → Int32 → Int32 → Int32 → Option (Int32 × Mm)} {q1 : Mm → Nat → Nat → Int32 → Int32 → Int32 → Option (Int32 × Mm)} {q2 : Mm → Nat → Nat → Int32 → Int32 → Int32 → Int32 → Option (Int32 × Mm)} {N : Nat}  {r9 : Int32} {M9 : Mm} (hX : Cy p s m args c meth cX9_speak 7 RX9 "speak" (some .int) P) (hq0 : ∀ (M : Mm) (a0 : Nat) (a1 : Nat) (a2 : Int32) (a3 : Int32) (a4 : Int32) (r9 : Int32) (M9 : Mm), q0 M a0 a1 a2 a3 a4 = some (r9, M9) → Ct l yX9_ownBody cX9_ownBody 7 (some .int) (2 + D) 0 P [.ref (pB P + a0), .ref (pB P + a1), .int a2, .int a3, .int a4] M (some (.int r9)) M9) (hp0 : ∀ (M : Mm) (a0 : Nat) (a1 : Nat) (a2 : Int32) (a3 : Int32) (a4 : Int32) (r9 : Int32 × Mm), q0 M a0 a1 a2 a3 a4 = some r9 → ∃ fs, M[a0]? = some (.inr (9, fs))) (hq1 : ∀ (M : Mm) (a0 : Nat) (a1 : Nat) (a2 : Int32) (a3 : Int32) (a4 : Int32) (r9 : Int32) (M9 : Mm), q1 M a0 a1 a2 a3 a4 = some (r9, M9) → Ct l yX9_plainBody cX9_plainBody 5 (some .int) (2 + D) 0 P [.ref (pB P + a0), .ref (pB P + a1), .int a2, .int a3, .int a4] M (some (.int r9)) M9) (hp1 : ∀ (M : Mm) (a0 : Nat) (a1 : Nat) (a2 : Int32) (a3 : Int32) (a4 : Int32) (r9 : Int32 × Mm), q1 M a0 a1 a2 a3 a4 = some r9 → ∃ fs, M[a0]? = some (.inr (9, fs))) (hq2 : ∀ (M : Mm) (a0 : Nat) (a1 : Nat) (a2 : Int32) (a3 : Int32) (a4 : Int32) (a5 : Int32) (r9 : Int32) (M9 : Mm), q2 M a0 a1 a2 a3 a4 a5 = some (r9, M9) → Ct l yX9_speak cX9_speak 7 (some .int) (2 + D) 0 P [.ref (pB P + a0), .ref (pB P + a1), .int a2, .int a3, .int a4, .int a5] M (some (.int r9)) M9) (hp2 : ∀ (M : Mm) (a0 : Nat) (a1 : Nat) (a2 : Int32) (a3 : Int32) (a4 : Int32) (a5 : Int32) (r9 : Int32 × Mm), q2 M a0 a1 a2 a3 a4 a5 = some r9 → ∃ fs, M[a0]? = some (.inr (9, fs)))  (M : Mm) (a0 : Nat) (a1 : Nat) (a2 : Int32) (a3 : Int32) (a4 : Int32) (a5 : Int32) (h : FX9_speak q0 q1 q2 N M a0 a1 a2 a3 a4 a5 = some (r9, M9)) : Wq p l e s m args below meth c (2 + D + 1) 0 (some (.int r9)) M9 7 P 0 0 [(0, .ref (pB P + a0)), (1, .ref (pB P + a1)), (2, .int a2), (3, .int a3), (4, .int a4), (5, .int a5)] [] M := by
  unfold FX9_speak at h
  obtain ⟨_, _, h⟩ := ob h
  have hX0 := hX
  obtain ⟨X, hr, hlk, hnm⟩ := hX0
  have hx := X.1.1
  have hb := X.1.2.1
  intro H locs ls hM hl
  refine lv_iload_n (pc := 0) hx hb dX9_speak_0 rfl (lv_at hl 2 rfl) ?_
  refine lv_iload_n (pc := 1) hx hb dX9_speak_1 rfl (lv_at hl 3 rfl) ?_
  obtain ⟨v2, e1, h⟩ := ob h
  refine bz_callS1 (pc := 2) (As := [.int a2, .int a3]) (rest := []) X hM hl.1 k_RX9_33 (ctX9_bodyFrom l e1) rfl rfl (rm_ok (by omega) (Nat.le_of_ble_eq_true rfl)) (Nat.le_of_ble_eq_true rfl) ⟨(Nat.le_of_ble_eq_true rfl), (Nat.le_of_ble_eq_true rfl)⟩ dX9_speak_2 (fun H locs hM => ?_)
  refine lv_istore (pc := 5) (lv' := [(6, .int v2), (0, .ref (pB P + a0)), (1, .ref (pB P + a1)), (2, .int a2), (3, .int a3), (4, .int a4), (5, .int a5)]) hx hb dX9_speak_5 hl (by decide) rfl (fun ls hl => ?_)
  refine lv_iload (pc := 7) hx hb dX9_speak_7 (lv_at hl 6 rfl) ?_
  refine lv_bipush (pc := 9) (v := (20 : Int32)) hx hb dX9_speak_9 (by decide) ?_
  refine lv_icmp_ge (pc := 11) (tgt := 19) hx hb dX9_speak_11 (by decide) (fun hc => ?_) (fun hc => ?_)
  · have h := if_t hc h
    refine lv_iconst (pc := 19) (v := (0 : Int32)) hx hb dX9_speak_19 (by decide) ?_
    obtain ⟨rfl, rfl⟩ := so2 h
    exact bz_iret (pc := 20) X hM hr hlk dX9_speak_20 (Nat.le_of_ble_eq_true rfl) (Nat.le_of_ble_eq_true rfl)
  · have h := if_f hc h
    refine lv_iload (pc := 14) hx hb dX9_speak_14 (lv_at hl 0 rfl) ?_
    refine lv_if_ne (pc := 16) (tgt := 21) hx hb dX9_speak_16 (by decide) (fun hc => ?_) (fun hc => ?_)
    · have h := if_f hc h
      refine lv_aload_n (pc := 21) hx hb dX9_speak_21 rfl (lv_at hl 1 rfl) ?_
      obtain ⟨q3, e4, h⟩ := ob h
      refine bz_getQ (pc := 22) X hM fl_RX9_14 e4 dX9_speak_22 ?_
      refine lv_iload (pc := 25) hx hb dX9_speak_25 (lv_at hl 0 rfl) ?_
      obtain ⟨v6, M7, e5, h⟩ := ob2 h
      obtain ⟨fs8, hb9⟩ := (rX3_add e5)
      refine bz_callV1 (pc := 27) (As := [.int v2]) (rest := []) X hM hl.1 k_RX9_37 (ctX3_add l e5) rfl hb9 rfl rfl (rm_ok (by omega) (Nat.le_of_ble_eq_true rfl)) (Nat.le_of_ble_eq_true rfl) ⟨(Nat.le_of_ble_eq_true rfl), (Nat.le_of_ble_eq_true rfl)⟩ dX9_speak_27 (fun H locs hM => ?_)
      refine lv_pop (pc := 30) hx hb dX9_speak_30 rfl ?_
      refine lv_iload (pc := 31) hx hb dX9_speak_31 (lv_at hl 0 rfl) ?_
      refine lv_bipush (pc := 33) (v := (20 : Int32)) hx hb dX9_speak_33 (by decide) ?_
      refine lv_icmp_ge (pc := 35) (tgt := 54) hx hb dX9_speak_35 (by decide) (fun hc => ?_) (fun hc => ?_)
      · have h := if_t hc h
        refine lv_aload_n (pc := 54) hx hb dX9_speak_54 rfl (lv_at hl 1 rfl) ?_
        refine lv_aload_n (pc := 55) hx hb dX9_speak_55 rfl (lv_at hl 2 rfl) ?_
        refine lv_iload (pc := 56) hx hb dX9_speak_56 (lv_at hl 0 rfl) ?_
        refine lv_iload (pc := 58) hx hb dX9_speak_58 (lv_at hl 5 rfl) ?_
        refine lv_iload (pc := 60) hx hb dX9_speak_60 (lv_at hl 6 rfl) ?_
        refine lv_iconst (pc := 62) (v := (1 : Int32)) hx hb dX9_speak_62 (by decide) ?_
        refine lv_iadd (pc := 63) hx hb dX9_speak_63 ?_
        obtain ⟨v11, M12, e10, h⟩ := ob2 h
        obtain ⟨fs13, hb14⟩ := (hp0 _ _ _ _ _ _ _ e10)
        refine bz_callV1 (pc := 64) (As := [.ref (pB P + a1), .int v2, .int a4, .int (a5 + (1 : Int32))]) (rest := []) X hM hl.1 k_RX9_45 (hq0 _ _ _ _ _ _ _ _ e10) rfl hb14 rfl rfl (rm_ok (by omega) (Nat.le_of_ble_eq_true rfl)) (Nat.le_of_ble_eq_true rfl) ⟨(Nat.le_of_ble_eq_true rfl), (Nat.le_of_ble_eq_true rfl)⟩ dX9_speak_64 (fun H locs hM => ?_)
        obtain ⟨rfl, rfl⟩ := so2 h
        exact bz_iret (pc := 67) X hM hr hlk dX9_speak_67 (Nat.le_of_ble_eq_true rfl) (Nat.le_of_ble_eq_true rfl)
      · have h := if_f hc h
        refine lv_aload_n (pc := 38) hx hb dX9_speak_38 rfl (lv_at hl 1 rfl) ?_
        refine lv_aload_n (pc := 39) hx hb dX9_speak_39 rfl (lv_at hl 2 rfl) ?_
        refine lv_iload (pc := 40) hx hb dX9_speak_40 (lv_at hl 0 rfl) ?_
        refine lv_iload (pc := 42) hx hb dX9_speak_42 (lv_at hl 5 rfl) ?_
        refine lv_iload (pc := 44) hx hb dX9_speak_44 (lv_at hl 6 rfl) ?_
        refine lv_iconst (pc := 46) (v := (1 : Int32)) hx hb dX9_speak_46 (by decide) ?_
        refine lv_iadd (pc := 47) hx hb dX9_speak_47 ?_
        obtain ⟨v16, M17, e15, h⟩ := ob2 h
        obtain ⟨fs18, hb19⟩ := (hp1 _ _ _ _ _ _ _ e15)
        refine bz_callV1 (pc := 48) (As := [.ref (pB P + a1), .int v2, .int a4, .int (a5 + (1 : Int32))]) (rest := []) X hM hl.1 k_RX9_41 (hq1 _ _ _ _ _ _ _ _ e15) rfl hb19 rfl rfl (rm_ok (by omega) (Nat.le_of_ble_eq_true rfl)) (Nat.le_of_ble_eq_true rfl) ⟨(Nat.le_of_ble_eq_true rfl), (Nat.le_of_ble_eq_true rfl)⟩ dX9_speak_48 (fun H locs hM => ?_)
        refine lv_goto (pc := 51) (tgt := 67) hx hb dX9_speak_51 (by decide) ?_
        obtain ⟨rfl, rfl⟩ := so2 h
        exact bz_iret (pc := 67) X hM hr hlk dX9_speak_67 (Nat.le_of_ble_eq_true rfl) (Nat.le_of_ble_eq_true rfl)
    · have h := if_t hc h
      refine lv_iconst (pc := 19) (v := (0 : Int32)) hx hb dX9_speak_19 (by decide) ?_
      obtain ⟨rfl, rfl⟩ := so2 h
      exact bz_iret (pc := 20) X hM hr hlk dX9_speak_20 (Nat.le_of_ble_eq_true rfl) (Nat.le_of_ble_eq_true rfl)
theorem rF_X9_speak {q0 : Mm → Nat → Nat → Int32 → Int32 → Int32 → Option (Int32 × Mm)} {q1 : Mm → Nat → Nat → Int32 → Int32 → Int32 → Option (Int32 × Mm)} {q2 : Mm → Nat → Nat → Int32 → Int32 → Int32 → Int32 → Option (Int32 × Mm)} {N : Nat} {M : Mm} {a0 : Nat} {a1 : Nat} {a2 : Int32} {a3 : Int32} {a4 : Int32} {a5 : Int32} {r9 : Int32 × Mm} (h : FX9_speak q0 q1 q2 N M a0 a1 a2 a3 a4 a5 = some r9) : ∃ fs, M[a0]? = some (.inr (9, fs)) := by
  unfold FX9_speak at h
  obtain ⟨_, e1, _⟩ := ob h
  exact gC_spec e1
set_option maxHeartbeats 4000000 in
set_option maxRecDepth 100000 in
theorem rGX9_ownBody (N : Nat) : ∀ n : Nat, (∀ (M : Mm) (a0 : Nat) (a1 : Nat) (a2 : Int32) (a3 : Int32) (a4 : Int32) (r9 : Int32 × Mm), (GX9_ownBody N n).1 M a0 a1 a2 a3 a4 = some r9 → ∃ fs, M[a0]? = some (.inr (9, fs))) ∧
    (∀ (M : Mm) (a0 : Nat) (a1 : Nat) (a2 : Int32) (a3 : Int32) (a4 : Int32) (r9 : Int32 × Mm), (GX9_ownBody N n).2.1 M a0 a1 a2 a3 a4 = some r9 → ∃ fs, M[a0]? = some (.inr (9, fs))) ∧
    (∀ (M : Mm) (a0 : Nat) (a1 : Nat) (a2 : Int32) (a3 : Int32) (a4 : Int32) (a5 : Int32) (r9 : Int32 × Mm), (GX9_ownBody N n).2.2 M a0 a1 a2 a3 a4 a5 = some r9 → ∃ fs, M[a0]? = some (.inr (9, fs))) := by
  intro n
  cases n with
  | zero => exact ⟨(fun _ _ _ _ _ _ _ h => nomatch h), (fun _ _ _ _ _ _ _ h => nomatch h), (fun _ _ _ _ _ _ _ _ h => nomatch h)⟩
  | succ n => exact ⟨(fun _ _ _ _ _ _ _ h => rF_X9_ownBody (N := N) (q0 := (GX9_ownBody N n).1) (q1 := (GX9_ownBody N n).2.1) (q2 := (GX9_ownBody N n).2.2) h), (fun _ _ _ _ _ _ _ h => rF_X9_plainBody (N := N) (q0 := (GX9_ownBody N n).1) (q1 := (GX9_ownBody N n).2.1) (q2 := (GX9_ownBody N n).2.2) h), (fun _ _ _ _ _ _ _ _ h => rF_X9_speak (N := N) (q0 := (GX9_ownBody N n).1) (q1 := (GX9_ownBody N n).2.1) (q2 := (GX9_ownBody N n).2.2) h)⟩
set_option maxHeartbeats 4000000 in
set_option maxRecDepth 100000 in
theorem cGX9_ownBody (l : Launch) {P : PT} (N : Nat) : ∀ n : Nat, (∀ (M : Mm) (a0 : Nat) (a1 : Nat) (a2 : Int32) (a3 : Int32) (a4 : Int32) (r9 : Int32) (M9 : Mm), (GX9_ownBody N n).1 M a0 a1 a2 a3 a4 = some (r9, M9) → Ct l yX9_ownBody cX9_ownBody 7 (some .int) (2 + n) 0 P [.ref (pB P + a0), .ref (pB P + a1), .int a2, .int a3, .int a4] M (some (.int r9)) M9) ∧
    (∀ (M : Mm) (a0 : Nat) (a1 : Nat) (a2 : Int32) (a3 : Int32) (a4 : Int32) (r9 : Int32) (M9 : Mm), (GX9_ownBody N n).2.1 M a0 a1 a2 a3 a4 = some (r9, M9) → Ct l yX9_plainBody cX9_plainBody 5 (some .int) (2 + n) 0 P [.ref (pB P + a0), .ref (pB P + a1), .int a2, .int a3, .int a4] M (some (.int r9)) M9) ∧
    (∀ (M : Mm) (a0 : Nat) (a1 : Nat) (a2 : Int32) (a3 : Int32) (a4 : Int32) (a5 : Int32) (r9 : Int32) (M9 : Mm), (GX9_ownBody N n).2.2 M a0 a1 a2 a3 a4 a5 = some (r9, M9) → Ct l yX9_speak cX9_speak 7 (some .int) (2 + n) 0 P [.ref (pB P + a0), .ref (pB P + a1), .int a2, .int a3, .int a4, .int a5] M (some (.int r9)) M9) := by
  intro n
  induction n with
  | zero => exact ⟨(fun _ _ _ _ _ _ _ _ h => nomatch h), (fun _ _ _ _ _ _ _ _ h => nomatch h), (fun _ _ _ _ _ _ _ _ _ h => nomatch h)⟩
  | succ n ih =>
    obtain ⟨hq0, hq1, hq2⟩ := ih
    obtain ⟨hp0, hp1, hp2⟩ := rGX9_ownBody N n
    exact ⟨(fun M a0 a1 a2 a3 a4 _ _ h => Ct.mk (by decide +kernel) (Nat.le_of_ble_eq_true rfl) (fun p e s m args below meth c hX => wX9_ownBody (D := n) (N := N) hX hq0 hp0 hq1 hp1 hq2 hp2 M a0 a1 a2 a3 a4 h)),
      (fun M a0 a1 a2 a3 a4 _ _ h => Ct.mk (by decide +kernel) (Nat.le_of_ble_eq_true rfl) (fun p e s m args below meth c hX => wX9_plainBody (D := n) (N := N) hX hq0 hp0 hq1 hp1 hq2 hp2 M a0 a1 a2 a3 a4 h)),
      (fun M a0 a1 a2 a3 a4 a5 _ _ h => Ct.mk (by decide +kernel) (Nat.le_of_ble_eq_true rfl) (fun p e s m args below meth c hX => wX9_speak (D := n) (N := N) hX hq0 hp0 hq1 hp1 hq2 hp2 M a0 a1 a2 a3 a4 a5 h))⟩
theorem ctX9_ownBody (l : Launch) {P : PT} {N : Nat} {M : Mm} {a0 : Nat} {a1 : Nat} {a2 : Int32} {a3 : Int32} {a4 : Int32} {r9 : Int32} {M9 : Mm} (h : fX9_ownBody N M a0 a1 a2 a3 a4 = some (r9, M9)) : Ct l yX9_ownBody cX9_ownBody 7 (some .int) 102 0 P [.ref (pB P + a0), .ref (pB P + a1), .int a2, .int a3, .int a4] M (some (.int r9)) M9 := (cGX9_ownBody l N 100).1 _ _ _ _ _ _ _ _ h
theorem rX9_ownBody {N : Nat} {M : Mm} {a0 : Nat} {a1 : Nat} {a2 : Int32} {a3 : Int32} {a4 : Int32} {r9 : Int32 × Mm} (h : fX9_ownBody N M a0 a1 a2 a3 a4 = some r9) : ∃ fs, M[a0]? = some (.inr (9, fs)) := (rGX9_ownBody N 100).1 _ _ _ _ _ _ _ h
theorem ctX9_plainBody (l : Launch) {P : PT} {N : Nat} {M : Mm} {a0 : Nat} {a1 : Nat} {a2 : Int32} {a3 : Int32} {a4 : Int32} {r9 : Int32} {M9 : Mm} (h : fX9_plainBody N M a0 a1 a2 a3 a4 = some (r9, M9)) : Ct l yX9_plainBody cX9_plainBody 5 (some .int) 102 0 P [.ref (pB P + a0), .ref (pB P + a1), .int a2, .int a3, .int a4] M (some (.int r9)) M9 := (cGX9_ownBody l N 100).2.1 _ _ _ _ _ _ _ _ h
theorem rX9_plainBody {N : Nat} {M : Mm} {a0 : Nat} {a1 : Nat} {a2 : Int32} {a3 : Int32} {a4 : Int32} {r9 : Int32 × Mm} (h : fX9_plainBody N M a0 a1 a2 a3 a4 = some r9) : ∃ fs, M[a0]? = some (.inr (9, fs)) := (rGX9_ownBody N 100).2.1 _ _ _ _ _ _ _ h
theorem ctX9_speak (l : Launch) {P : PT} {N : Nat} {M : Mm} {a0 : Nat} {a1 : Nat} {a2 : Int32} {a3 : Int32} {a4 : Int32} {a5 : Int32} {r9 : Int32} {M9 : Mm} (h : fX9_speak N M a0 a1 a2 a3 a4 a5 = some (r9, M9)) : Ct l yX9_speak cX9_speak 7 (some .int) 102 0 P [.ref (pB P + a0), .ref (pB P + a1), .int a2, .int a3, .int a4, .int a5] M (some (.int r9)) M9 := (cGX9_ownBody l N 100).2.2 _ _ _ _ _ _ _ _ _ h
theorem rX9_speak {N : Nat} {M : Mm} {a0 : Nat} {a1 : Nat} {a2 : Int32} {a3 : Int32} {a4 : Int32} {a5 : Int32} {r9 : Int32 × Mm} (h : fX9_speak N M a0 a1 a2 a3 a4 a5 = some r9) : ∃ fs, M[a0]? = some (.inr (9, fs)) := (rGX9_ownBody N 100).2.2 _ _ _ _ _ _ _ _ h
set_option maxHeartbeats 4000000 in
set_option maxRecDepth 100000 in
theorem wX9_begin {p : Program} {l : Launch} {e : Env} {s : State} {m : MethodId} {args : Array Value} {below : List Frame} {meth : Method} {c : Code} {P : PT} {N : Nat}  {r9 : Int32} {M9 : Mm} (hX : Cy p s m args c meth cX9_begin 4 RX9 "begin" (some .int) P)  (M : Mm) (a0 : Nat) (a1 : Nat) (a2 : Int32) (a3 : Int32) (h : fX9_begin N M a0 a1 a2 a3 = some (r9, M9)) : Wq p l e s m args below meth c 103 0 (some (.int r9)) M9 4 P 0 0 [(0, .ref (pB P + a0)), (1, .ref (pB P + a1)), (2, .int a2), (3, .int a3)] [] M := by
  unfold fX9_begin at h
  obtain ⟨_, _, h⟩ := ob h
  have hX0 := hX
  obtain ⟨X, hr, hlk, hnm⟩ := hX0
  have hx := X.1.1
  have hb := X.1.2.1
  intro H locs ls hM hl
  refine lv_aload_n (pc := 0) hx hb dX9_begin_0 rfl (lv_at hl 0 rfl) ?_
  obtain ⟨q1, e2, h⟩ := ob h
  refine bz_getQ (pc := 1) X hM fl_RX9_14 e2 dX9_begin_1 ?_
  obtain ⟨M4, e3, h⟩ := ob h
  obtain ⟨fs5, hb6⟩ := (rX3_clear e3)
  refine bz_callV0 (pc := 4) (As := []) (rest := []) X hM hl.1 k_RX9_20 (ctX3_clear l e3) rfl hb6 rfl rfl ⟨(Nat.le_of_ble_eq_true rfl), (Nat.le_of_ble_eq_true rfl)⟩ (Nat.le_of_ble_eq_true rfl) ⟨(Nat.le_of_ble_eq_true rfl), (Nat.le_of_ble_eq_true rfl)⟩ dX9_begin_4 (fun H locs hM => ?_)
  refine lv_aload_n (pc := 7) hx hb dX9_begin_7 rfl (lv_at hl 0 rfl) ?_
  refine lv_aload_n (pc := 8) hx hb dX9_begin_8 rfl (lv_at hl 1 rfl) ?_
  refine lv_aload_n (pc := 9) hx hb dX9_begin_9 rfl (lv_at hl 1 rfl) ?_
  obtain ⟨v7, e8, h⟩ := ob h
  refine bz_getI (pc := 10) X hM fl_RX9_23 e8 dX9_begin_10 ?_
  refine lv_iload_n (pc := 13) hx hb dX9_begin_13 rfl (lv_at hl 2 rfl) ?_
  refine lv_iload_n (pc := 14) hx hb dX9_begin_14 rfl (lv_at hl 3 rfl) ?_
  refine lv_iconst (pc := 15) (v := (0 : Int32)) hx hb dX9_begin_15 (by decide) ?_
  obtain ⟨v10, M11, e9, h⟩ := ob2 h
  obtain ⟨fs12, hb13⟩ := (rX9_speak e9)
  refine bz_callV1 (pc := 16) (As := [.ref (pB P + a1), .int v7, .int a2, .int a3, .int (0 : Int32)]) (rest := []) X hM hl.1 k_RX9_29 (ctX9_speak l e9) rfl hb13 rfl rfl ⟨(Nat.le_of_ble_eq_true rfl), (Nat.le_of_ble_eq_true rfl)⟩ (Nat.le_of_ble_eq_true rfl) ⟨(Nat.le_of_ble_eq_true rfl), (Nat.le_of_ble_eq_true rfl)⟩ dX9_begin_16 (fun H locs hM => ?_)
  obtain ⟨rfl, rfl⟩ := so2 h
  exact bz_iret (pc := 19) X hM hr hlk dX9_begin_19 (Nat.le_of_ble_eq_true rfl) (Nat.le_of_ble_eq_true rfl)
theorem rX9_begin {N : Nat} {M : Mm} {a0 : Nat} {a1 : Nat} {a2 : Int32} {a3 : Int32} {r9 : Int32 × Mm} (h : fX9_begin N M a0 a1 a2 a3 = some r9) : ∃ fs, M[a0]? = some (.inr (9, fs)) := by
  unfold fX9_begin at h
  obtain ⟨_, e1, _⟩ := ob h
  exact gC_spec e1
theorem ctX9_begin (l : Launch) {P : PT} {N : Nat} {M : Mm} {a0 : Nat} {a1 : Nat} {a2 : Int32} {a3 : Int32} {r9 : Int32} {M9 : Mm} (h : fX9_begin N M a0 a1 a2 a3 = some (r9, M9)) : Ct l yX9_begin cX9_begin 4 (some .int) 103 0 P [.ref (pB P + a0), .ref (pB P + a1), .int a2, .int a3] M (some (.int r9)) M9 :=
  Ct.mk (by decide +kernel) (Nat.le_of_ble_eq_true rfl) (fun p e s m args below meth c hX => wX9_begin hX M a0 a1 a2 a3 h)
set_option maxHeartbeats 4000000 in
set_option maxRecDepth 100000 in
theorem wjX10_voice_24 {p : Program} {l : Launch} {e : Env} {s : State} {m : MethodId} {args : Array Value} {below : List Frame} {meth : Method} {c : Code} {P : PT} {N : Nat}  {r9 : Int32} {M9 : Mm} (hX : Cy p s m args c meth cX10_voice 5 RX10 "voice" (some .int) P)   (M : Mm) (x0 : Nat)  (h : jX10_voice_24 N M x0 = some (r9, M9)) : Wq p l e s m args below meth c 104 0 (some (.int r9)) M9 5 P 0 24 [(0, .ref (pB P + x0))] [] M := by
  unfold jX10_voice_24 at h
  have hX0 := hX
  obtain ⟨X, hr, hlk, hnm⟩ := hX0
  have hx := X.1.1
  have hb := X.1.2.1
  intro H locs ls hM hl
  refine lv_aload_n (pc := 24) hx hb dX10_voice_24 rfl (lv_at hl 0 rfl) ?_
  refine lv_iconst (pc := 25) (v := (1 : Int32)) hx hb dX10_voice_25 (by decide) ?_
  obtain ⟨v2, M3, e1, h⟩ := ob2 h
  obtain ⟨fs4, hb5⟩ := (rX10_error e1)
  refine bz_callV1 (pc := 26) (As := [.int (1 : Int32)]) (rest := []) X hM hl.1 k_RX10_78 (ctX10_error l e1) rfl hb5 rfl rfl ⟨(Nat.le_of_ble_eq_true rfl), (Nat.le_of_ble_eq_true rfl)⟩ (Nat.le_of_ble_eq_true rfl) ⟨(Nat.le_of_ble_eq_true rfl), (Nat.le_of_ble_eq_true rfl)⟩ dX10_voice_26 (fun H locs hM => ?_)
  obtain ⟨rfl, rfl⟩ := so2 h
  exact bz_iret (pc := 29) X hM hr hlk dX10_voice_29 (Nat.le_of_ble_eq_true rfl) (Nat.le_of_ble_eq_true rfl)
set_option maxHeartbeats 4000000 in
set_option maxRecDepth 100000 in
theorem wX10_voice {p : Program} {l : Launch} {e : Env} {s : State} {m : MethodId} {args : Array Value} {below : List Frame} {meth : Method} {c : Code} {P : PT} {N : Nat}  {r9 : Int32} {M9 : Mm} (hX : Cy p s m args c meth cX10_voice 5 RX10 "voice" (some .int) P)  (M : Mm) (a0 : Nat) (a1 : Int32) (a2 : Int32) (a3 : Int32) (h : fX10_voice N M a0 a1 a2 a3 = some (r9, M9)) : Wq p l e s m args below meth c 104 0 (some (.int r9)) M9 5 P 0 0 [(0, .ref (pB P + a0)), (1, .int a1), (2, .int a2), (3, .int a3)] [] M := by
  unfold fX10_voice at h
  obtain ⟨_, _, h⟩ := ob h
  have hX0 := hX
  obtain ⟨X, hr, hlk, hnm⟩ := hX0
  have hx := X.1.1
  have hb := X.1.2.1
  intro H locs ls hM hl
  refine lv_aload_n (pc := 0) hx hb dX10_voice_0 rfl (lv_at hl 0 rfl) ?_
  obtain ⟨q1, e2, h⟩ := ob h
  refine bz_getQ (pc := 1) X hM fl_RX10_10 e2 dX10_voice_1 ?_
  refine lv_iload_n (pc := 4) hx hb dX10_voice_4 rfl (lv_at hl 1 rfl) ?_
  obtain ⟨r4, e3, h⟩ := ob h
  obtain ⟨fs5, hb6⟩ := (rX6_countingAt e3)
  refine bz_callV1 (pc := 5) (As := [.int a1]) (rest := []) X hM hl.1 k_RX10_239 (ctX6_countingAt l e3) rfl hb6 rfl rfl ⟨(Nat.le_of_ble_eq_true rfl), (Nat.le_of_ble_eq_true rfl)⟩ (Nat.le_of_ble_eq_true rfl) ⟨(Nat.le_of_ble_eq_true rfl), (Nat.le_of_ble_eq_true rfl)⟩ dX10_voice_5 (fun H locs hM => ?_)
  refine bz_astoreO (pc := 8) (lv' := [(4, rO P r4), (0, .ref (pB P + a0)), (1, .int a1), (2, .int a2), (3, .int a3)]) hx hb dX10_voice_8 hl (by decide) rfl (fun ls hl => ?_)
  refine bz_aloadO (pc := 10) hx hb dX10_voice_10 (lv_at hl 0 rfl) ?_
  refine bz_ifnullO (pc := 12) (tgt := 24) hx hb dX10_voice_12 (by decide) (fun hc => ?_) (fun q7 hc => ?_)
  · subst hc
    have h := om_n rfl h
    have hl : lv_has ls 5 [(4, .null), (0, .ref (pB P + a0)), (1, .int a1), (2, .int a2), (3, .int a3)] := hl
    exact wjX10_voice_24 hX _ _ h H locs ls hM (lv_sub hl [1] rfl)
  · subst hc
    have h := om_s rfl h
    have hl : lv_has ls 5 [(4, .ref (pB P + q7)), (0, .ref (pB P + a0)), (1, .int a1), (2, .int a2), (3, .int a3)] := hl
    refine lv_iload_n (pc := 15) hx hb dX10_voice_15 rfl (lv_at hl 3 rfl) ?_
    refine lv_iconst (pc := 16) (v := (0 : Int32)) hx hb dX10_voice_16 (by decide) ?_
    refine lv_iconst (pc := 17) (v := (3 : Int32)) hx hb dX10_voice_17 (by decide) ?_
    obtain ⟨v9, e8, h⟩ := ob h
    refine bz_callS1 (pc := 18) (As := [.int a2, .int (0 : Int32), .int (3 : Int32)]) (rest := []) X hM hl.1 k_RX10_74 (ctX10_within l e8) rfl rfl ⟨(Nat.le_of_ble_eq_true rfl), (Nat.le_of_ble_eq_true rfl)⟩ (Nat.le_of_ble_eq_true rfl) ⟨(Nat.le_of_ble_eq_true rfl), (Nat.le_of_ble_eq_true rfl)⟩ dX10_voice_18 (fun H locs hM => ?_)
    refine lv_if_ne (pc := 21) (tgt := 30) hx hb dX10_voice_21 (by decide) (fun hc => ?_) (fun hc => ?_)
    · have h := if_f hc h
      refine lv_aload_n (pc := 30) hx hb dX10_voice_30 rfl (lv_at hl 1 rfl) ?_
      obtain ⟨q10, e11, h⟩ := ob h
      refine bz_getQ (pc := 31) X hM fl_RX10_63 e11 dX10_voice_31 ?_
      refine lv_aload (pc := 34) hx hb dX10_voice_34 (lv_at hl 0 rfl) ?_
      refine lv_iload_n (pc := 36) hx hb dX10_voice_36 rfl (lv_at hl 3 rfl) ?_
      refine lv_iload_n (pc := 37) hx hb dX10_voice_37 rfl (lv_at hl 4 rfl) ?_
      obtain ⟨v13, M14, e12, h⟩ := ob2 h
      obtain ⟨fs15, hb16⟩ := (rX9_begin e12)
      refine bz_callV1 (pc := 38) (As := [.ref (pB P + q7), .int a2, .int a3]) (rest := []) X hM hl.1 k_RX10_365 (ctX9_begin l e12) rfl hb16 rfl rfl ⟨(Nat.le_of_ble_eq_true rfl), (Nat.le_of_ble_eq_true rfl)⟩ (Nat.le_of_ble_eq_true rfl) ⟨(Nat.le_of_ble_eq_true rfl), (Nat.le_of_ble_eq_true rfl)⟩ dX10_voice_38 (fun H locs hM => ?_)
      obtain ⟨rfl, rfl⟩ := so2 h
      exact bz_iret (pc := 41) X hM hr hlk dX10_voice_41 (Nat.le_of_ble_eq_true rfl) (Nat.le_of_ble_eq_true rfl)
    · have h := if_t hc h
      exact wjX10_voice_24 hX _ _ h H locs ls hM (lv_sub hl [1] rfl)
theorem rX10_voice {N : Nat} {M : Mm} {a0 : Nat} {a1 : Int32} {a2 : Int32} {a3 : Int32} {r9 : Int32 × Mm} (h : fX10_voice N M a0 a1 a2 a3 = some r9) : ∃ fs, M[a0]? = some (.inr (10, fs)) := by
  unfold fX10_voice at h
  obtain ⟨_, e1, _⟩ := ob h
  exact gC_spec e1
theorem ctX10_voice (l : Launch) {P : PT} {N : Nat} {M : Mm} {a0 : Nat} {a1 : Int32} {a2 : Int32} {a3 : Int32} {r9 : Int32} {M9 : Mm} (h : fX10_voice N M a0 a1 a2 a3 = some (r9, M9)) : Ct l yX10_voice cX10_voice 5 (some .int) 104 0 P [.ref (pB P + a0), .int a1, .int a2, .int a3] M (some (.int r9)) M9 :=
  Ct.mk (by decide +kernel) (Nat.le_of_ble_eq_true rfl) (fun p e s m args below meth c hX => wX10_voice hX M a0 a1 a2 a3 h)
set_option maxHeartbeats 4000000 in
set_option maxRecDepth 100000 in
theorem wX11_begins {p : Program} {l : Launch} {e : Env} {s : State} {m : MethodId} {args : Array Value} {below : List Frame} {meth : Method} {c : Code} {P : PT}  {M9 : Mm} (hX : Cy p s m args c meth cX11_begins 2 RX11 "begins" none P)  (M : Mm) (a0 : Nat) (a1 : Int32) (h : fX11_begins M a0 a1 = some M9) : Wq p l e s m args below meth c 0 0 none M9 2 P 0 0 [(0, .ref (pB P + a0)), (1, .int a1)] [] M := by
  unfold fX11_begins at h
  obtain ⟨_, _, h⟩ := ob h
  have hX0 := hX
  obtain ⟨X, hr, hlk, hnm⟩ := hX0
  have hx := X.1.1
  have hb := X.1.2.1
  intro H locs ls hM hl
  refine lv_aload_n (pc := 0) hx hb dX11_begins_0 rfl (lv_at hl 0 rfl) ?_
  obtain ⟨v1, e2, h⟩ := ob h
  refine bz_getI (pc := 1) X hM fl_RX11_319 e2 dX11_begins_1 ?_
  refine lv_bipush (pc := 4) (v := (40 : Int32)) hx hb dX11_begins_4 (by decide) ?_
  refine lv_icmp_ne (pc := 6) (tgt := 10) hx hb dX11_begins_6 (by decide) (fun hc => ?_) (fun hc => ?_)
  · have h := if_f hc h
    refine lv_aload_n (pc := 10) hx hb dX11_begins_10 rfl (lv_at hl 0 rfl) ?_
    obtain ⟨q3, e4, h⟩ := ob h
    refine bz_getQ (pc := 11) X hM fl_RX11_53 e4 dX11_begins_11 ?_
    refine lv_aload_n (pc := 14) hx hb dX11_begins_14 rfl (lv_at hl 0 rfl) ?_
    obtain ⟨v5, e6, h⟩ := ob h
    refine bz_getI (pc := 15) X hM fl_RX11_319 e6 dX11_begins_15 ?_
    refine lv_iload_n (pc := 18) hx hb dX11_begins_18 rfl (lv_at hl 1 rfl) ?_
    obtain ⟨M7, e8, h⟩ := ob h
    refine bz_iast (pc := 19) X hM e8 dX11_begins_19 (fun H locs hM => ?_)
    refine lv_aload_n (pc := 20) hx hb dX11_begins_20 rfl (lv_at hl 0 rfl) ?_
    refine lv_dup (pc := 21) hx hb dX11_begins_21 rfl ?_
    obtain ⟨v9, e10, h⟩ := ob h
    refine bz_getI (pc := 22) X hM fl_RX11_319 e10 dX11_begins_22 ?_
    refine lv_iconst (pc := 25) (v := (1 : Int32)) hx hb dX11_begins_25 (by decide) ?_
    refine lv_iadd (pc := 26) hx hb dX11_begins_26 ?_
    obtain ⟨M11, e12, h⟩ := ob h
    refine bz_putI (pc := 27) X hM fp_RX11_319 (Or.inl rfl) e12 dX11_begins_27 (fun H locs hM => ?_)
    obtain rfl := so1 h
    exact bz_vret (pc := 30) X hM hr hlk dX11_begins_30 (Nat.le_of_ble_eq_true rfl) (Nat.le_of_ble_eq_true rfl)
  · have h := if_t hc h
    obtain rfl := so1 h
    exact bz_vret (pc := 9) X hM hr hlk dX11_begins_9 (Nat.le_of_ble_eq_true rfl) (Nat.le_of_ble_eq_true rfl)
theorem rX11_begins {M : Mm} {a0 : Nat} {a1 : Int32} {r9 : Mm} (h : fX11_begins M a0 a1 = some r9) : ∃ fs, M[a0]? = some (.inr (11, fs)) := by
  unfold fX11_begins at h
  obtain ⟨_, e1, _⟩ := ob h
  exact gC_spec e1
theorem ctX11_begins (l : Launch) {P : PT} {M : Mm} {a0 : Nat} {a1 : Int32} {M9 : Mm} (h : fX11_begins M a0 a1 = some M9) : Ct l yX11_begins cX11_begins 2 none 0 0 P [.ref (pB P + a0), .int a1] M none M9 :=
  Ct.mk (by decide +kernel) (Nat.le_of_ble_eq_true rfl) (fun p e s m args below meth c hX => wX11_begins hX M a0 a1 h)
set_option maxHeartbeats 4000000 in
set_option maxRecDepth 100000 in
theorem wX11_plainRings {p : Program} {l : Launch} {e : Env} {s : State} {m : MethodId} {args : Array Value} {below : List Frame} {meth : Method} {c : Code} {P : PT}  {r9 : Int32} {M9 : Mm} (hX : Cy p s m args c meth cX11_plainRings 2 RX11 "plainRings" (some .int) P)  (M : Mm) (a0 : Nat) (a1 : Int32) (h : fX11_plainRings M a0 a1 = some (r9, M9)) : Wq p l e s m args below meth c 1 0 (some (.int r9)) M9 2 P 0 0 [(0, .ref (pB P + a0)), (1, .int a1)] [] M := by
  unfold fX11_plainRings at h
  obtain ⟨_, _, h⟩ := ob h
  have hX0 := hX
  obtain ⟨X, hr, hlk, hnm⟩ := hX0
  have hx := X.1.1
  have hb := X.1.2.1
  intro H locs ls hM hl
  refine lv_aload_n (pc := 0) hx hb dX11_plainRings_0 rfl (lv_at hl 0 rfl) ?_
  refine lv_bipush (pc := 1) (v := (10 : Int32)) hx hb dX11_plainRings_1 (by decide) ?_
  obtain ⟨M2, e1, h⟩ := ob h
  obtain ⟨fs3, hb4⟩ := (rX11_begins e1)
  refine bz_callV0 (pc := 3) (As := [.int (10 : Int32)]) (rest := []) X hM hl.1 k_RX11_322 (ctX11_begins l e1) rfl hb4 rfl rfl ⟨(Nat.le_of_ble_eq_true rfl), (Nat.le_of_ble_eq_true rfl)⟩ (Nat.le_of_ble_eq_true rfl) ⟨(Nat.le_of_ble_eq_true rfl), (Nat.le_of_ble_eq_true rfl)⟩ dX11_plainRings_3 (fun H locs hM => ?_)
  refine lv_iload_n (pc := 6) hx hb dX11_plainRings_6 rfl (lv_at hl 1 rfl) ?_
  refine lv_aload_n (pc := 7) hx hb dX11_plainRings_7 rfl (lv_at hl 0 rfl) ?_
  obtain ⟨v5, e6, h⟩ := ob h
  refine bz_getI (pc := 8) X hM fl_RX11_325 e6 dX11_plainRings_8 ?_
  refine lv_iadd (pc := 11) hx hb dX11_plainRings_11 ?_
  obtain ⟨rfl, rfl⟩ := so2 h
  exact bz_iret (pc := 12) X hM hr hlk dX11_plainRings_12 (Nat.le_of_ble_eq_true rfl) (Nat.le_of_ble_eq_true rfl)
theorem rX11_plainRings {M : Mm} {a0 : Nat} {a1 : Int32} {r9 : Int32 × Mm} (h : fX11_plainRings M a0 a1 = some r9) : ∃ fs, M[a0]? = some (.inr (11, fs)) := by
  unfold fX11_plainRings at h
  obtain ⟨_, e1, _⟩ := ob h
  exact gC_spec e1
theorem ctX11_plainRings (l : Launch) {P : PT} {M : Mm} {a0 : Nat} {a1 : Int32} {r9 : Int32} {M9 : Mm} (h : fX11_plainRings M a0 a1 = some (r9, M9)) : Ct l yX11_plainRings cX11_plainRings 2 (some .int) 1 0 P [.ref (pB P + a0), .int a1] M (some (.int r9)) M9 :=
  Ct.mk (by decide +kernel) (Nat.le_of_ble_eq_true rfl) (fun p e s m args below meth c hX => wX11_plainRings hX M a0 a1 h)
set_option maxHeartbeats 4000000 in
set_option maxRecDepth 100000 in
theorem wX11_plainBounds {p : Program} {l : Launch} {e : Env} {s : State} {m : MethodId} {args : Array Value} {below : List Frame} {meth : Method} {c : Code} {P : PT}  {r9 : Int32} {M9 : Mm} (hX : Cy p s m args c meth cX11_plainBounds 2 RX11 "plainBounds" (some .int) P)  (M : Mm) (a0 : Nat) (a1 : Int32) (h : fX11_plainBounds M a0 a1 = some (r9, M9)) : Wq p l e s m args below meth c 1 0 (some (.int r9)) M9 2 P 0 0 [(0, .ref (pB P + a0)), (1, .int a1)] [] M := by
  unfold fX11_plainBounds at h
  obtain ⟨_, _, h⟩ := ob h
  have hX0 := hX
  obtain ⟨X, hr, hlk, hnm⟩ := hX0
  have hx := X.1.1
  have hb := X.1.2.1
  intro H locs ls hM hl
  refine lv_aload_n (pc := 0) hx hb dX11_plainBounds_0 rfl (lv_at hl 0 rfl) ?_
  refine lv_bipush (pc := 1) (v := (12 : Int32)) hx hb dX11_plainBounds_1 (by decide) ?_
  obtain ⟨M2, e1, h⟩ := ob h
  obtain ⟨fs3, hb4⟩ := (rX11_begins e1)
  refine bz_callV0 (pc := 3) (As := [.int (12 : Int32)]) (rest := []) X hM hl.1 k_RX11_322 (ctX11_begins l e1) rfl hb4 rfl rfl ⟨(Nat.le_of_ble_eq_true rfl), (Nat.le_of_ble_eq_true rfl)⟩ (Nat.le_of_ble_eq_true rfl) ⟨(Nat.le_of_ble_eq_true rfl), (Nat.le_of_ble_eq_true rfl)⟩ dX11_plainBounds_3 (fun H locs hM => ?_)
  refine lv_iload_n (pc := 6) hx hb dX11_plainBounds_6 rfl (lv_at hl 1 rfl) ?_
  refine lv_aload_n (pc := 7) hx hb dX11_plainBounds_7 rfl (lv_at hl 0 rfl) ?_
  obtain ⟨v5, e6, h⟩ := ob h
  refine bz_getI (pc := 8) X hM fl_RX11_342 e6 dX11_plainBounds_8 ?_
  refine lv_isub (pc := 11) hx hb dX11_plainBounds_11 ?_
  obtain ⟨rfl, rfl⟩ := so2 h
  exact bz_iret (pc := 12) X hM hr hlk dX11_plainBounds_12 (Nat.le_of_ble_eq_true rfl) (Nat.le_of_ble_eq_true rfl)
theorem rX11_plainBounds {M : Mm} {a0 : Nat} {a1 : Int32} {r9 : Int32 × Mm} (h : fX11_plainBounds M a0 a1 = some r9) : ∃ fs, M[a0]? = some (.inr (11, fs)) := by
  unfold fX11_plainBounds at h
  obtain ⟨_, e1, _⟩ := ob h
  exact gC_spec e1
theorem ctX11_plainBounds (l : Launch) {P : PT} {M : Mm} {a0 : Nat} {a1 : Int32} {r9 : Int32} {M9 : Mm} (h : fX11_plainBounds M a0 a1 = some (r9, M9)) : Ct l yX11_plainBounds cX11_plainBounds 2 (some .int) 1 0 P [.ref (pB P + a0), .int a1] M (some (.int r9)) M9 :=
  Ct.mk (by decide +kernel) (Nat.le_of_ble_eq_true rfl) (fun p e s m args below meth c hX => wX11_plainBounds hX M a0 a1 h)
set_option maxHeartbeats 4000000 in
set_option maxRecDepth 100000 in
theorem wX11_bounds {p : Program} {l : Launch} {e : Env} {s : State} {m : MethodId} {args : Array Value} {below : List Frame} {meth : Method} {c : Code} {P : PT}  {r9 : Int32} {M9 : Mm} (hX : Cy p s m args c meth cX11_bounds 2 RX11 "bounds" (some .int) P)  (M : Mm) (a0 : Nat) (a1 : Int32) (h : fX11_bounds M a0 a1 = some (r9, M9)) : Wq p l e s m args below meth c 2 0 (some (.int r9)) M9 2 P 0 0 [(0, .ref (pB P + a0)), (1, .int a1)] [] M := by
  unfold fX11_bounds at h
  obtain ⟨_, _, h⟩ := ob h
  have hX0 := hX
  obtain ⟨X, hr, hlk, hnm⟩ := hX0
  have hx := X.1.1
  have hb := X.1.2.1
  intro H locs ls hM hl
  refine lv_aload_n (pc := 0) hx hb dX11_bounds_0 rfl (lv_at hl 0 rfl) ?_
  obtain ⟨v1, e2, h⟩ := ob h
  refine bz_getI (pc := 1) X hM fl_RX11_328 e2 dX11_bounds_1 ?_
  refine lv_iconst (pc := 4) (v := (4 : Int32)) hx hb dX11_bounds_4 (by decide) ?_
  refine lv_icmp_eq (pc := 5) (tgt := 14) hx hb dX11_bounds_5 (by decide) (fun hc => ?_) (fun hc => ?_)
  · have h := if_t hc h
    refine lv_aload_n (pc := 14) hx hb dX11_bounds_14 rfl (lv_at hl 0 rfl) ?_
    refine lv_bipush (pc := 15) (v := (50 : Int32)) hx hb dX11_bounds_15 (by decide) ?_
    obtain ⟨M4, e3, h⟩ := ob h
    obtain ⟨fs5, hb6⟩ := (rX11_begins e3)
    refine bz_callV0 (pc := 17) (As := [.int (50 : Int32)]) (rest := []) X hM hl.1 k_RX11_322 (ctX11_begins l e3) rfl hb6 rfl rfl ⟨(Nat.le_of_ble_eq_true rfl), (Nat.le_of_ble_eq_true rfl)⟩ (Nat.le_of_ble_eq_true rfl) ⟨(Nat.le_of_ble_eq_true rfl), (Nat.le_of_ble_eq_true rfl)⟩ dX11_bounds_17 (fun H locs hM => ?_)
    refine lv_aload_n (pc := 20) hx hb dX11_bounds_20 rfl (lv_at hl 0 rfl) ?_
    refine lv_iload_n (pc := 21) hx hb dX11_bounds_21 rfl (lv_at hl 1 rfl) ?_
    obtain ⟨v8, M9, e7, h⟩ := ob2 h
    obtain ⟨fs10, hb11⟩ := (rX11_plainBounds e7)
    refine bz_callV1 (pc := 22) (As := [.int a1]) (rest := []) X hM hl.1 k_RX11_345 (ctX11_plainBounds l e7) rfl hb11 rfl rfl ⟨(Nat.le_of_ble_eq_true rfl), (Nat.le_of_ble_eq_true rfl)⟩ (Nat.le_of_ble_eq_true rfl) ⟨(Nat.le_of_ble_eq_true rfl), (Nat.le_of_ble_eq_true rfl)⟩ dX11_bounds_22 (fun H locs hM => ?_)
    refine lv_iconst (pc := 25) (v := (3 : Int32)) hx hb dX11_bounds_25 (by decide) ?_
    refine lv_imul (pc := 26) hx hb dX11_bounds_26 ?_
    obtain ⟨rfl, rfl⟩ := so2 h
    exact bz_iret (pc := 27) X hM hr hlk dX11_bounds_27 (Nat.le_of_ble_eq_true rfl) (Nat.le_of_ble_eq_true rfl)
  · have h := if_f hc h
    refine lv_aload_n (pc := 8) hx hb dX11_bounds_8 rfl (lv_at hl 0 rfl) ?_
    refine lv_iload_n (pc := 9) hx hb dX11_bounds_9 rfl (lv_at hl 1 rfl) ?_
    obtain ⟨v13, M14, e12, h⟩ := ob2 h
    obtain ⟨fs15, hb16⟩ := (rX11_plainBounds e12)
    refine bz_callV1 (pc := 10) (As := [.int a1]) (rest := []) X hM hl.1 k_RX11_345 (ctX11_plainBounds l e12) rfl hb16 rfl rfl ⟨(Nat.le_of_ble_eq_true rfl), (Nat.le_of_ble_eq_true rfl)⟩ (Nat.le_of_ble_eq_true rfl) ⟨(Nat.le_of_ble_eq_true rfl), (Nat.le_of_ble_eq_true rfl)⟩ dX11_bounds_10 (fun H locs hM => ?_)
    obtain ⟨rfl, rfl⟩ := so2 h
    exact bz_iret (pc := 13) X hM hr hlk dX11_bounds_13 (Nat.le_of_ble_eq_true rfl) (Nat.le_of_ble_eq_true rfl)
theorem rX11_bounds {M : Mm} {a0 : Nat} {a1 : Int32} {r9 : Int32 × Mm} (h : fX11_bounds M a0 a1 = some r9) : ∃ fs, M[a0]? = some (.inr (11, fs)) := by
  unfold fX11_bounds at h
  obtain ⟨_, e1, _⟩ := ob h
  exact gC_spec e1
theorem ctX11_bounds (l : Launch) {P : PT} {M : Mm} {a0 : Nat} {a1 : Int32} {r9 : Int32} {M9 : Mm} (h : fX11_bounds M a0 a1 = some (r9, M9)) : Ct l yX11_bounds cX11_bounds 2 (some .int) 2 0 P [.ref (pB P + a0), .int a1] M (some (.int r9)) M9 :=
  Ct.mk (by decide +kernel) (Nat.le_of_ble_eq_true rfl) (fun p e s m args below meth c hX => wX11_bounds hX M a0 a1 h)
set_option maxHeartbeats 4000000 in
set_option maxRecDepth 100000 in
theorem wX11_rings_ {p : Program} {l : Launch} {e : Env} {s : State} {m : MethodId} {args : Array Value} {below : List Frame} {meth : Method} {c : Code} {P : PT}  {r9 : Int32} {M9 : Mm} (hX : Cy p s m args c meth cX11_rings_ 3 RX11 "rings" (some .int) P)  (M : Mm) (a0 : Nat) (a1 : Int32) (h : fX11_rings_ M a0 a1 = some (r9, M9)) : Wq p l e s m args below meth c 3 0 (some (.int r9)) M9 3 P 0 0 [(0, .ref (pB P + a0)), (1, .int a1)] [] M := by
  unfold fX11_rings_ at h
  obtain ⟨_, _, h⟩ := ob h
  have hX0 := hX
  obtain ⟨X, hr, hlk, hnm⟩ := hX0
  have hx := X.1.1
  have hb := X.1.2.1
  intro H locs ls hM hl
  refine lv_aload_n (pc := 0) hx hb dX11_rings__0 rfl (lv_at hl 0 rfl) ?_
  obtain ⟨v1, e2, h⟩ := ob h
  refine bz_getI (pc := 1) X hM fl_RX11_328 e2 dX11_rings__1 ?_
  refine lv_iconst (pc := 4) (v := (2 : Int32)) hx hb dX11_rings__4 (by decide) ?_
  refine lv_icmp_ne (pc := 5) (tgt := 28) hx hb dX11_rings__5 (by decide) (fun hc => ?_) (fun hc => ?_)
  · have h := if_f hc h
    refine lv_aload_n (pc := 28) hx hb dX11_rings__28 rfl (lv_at hl 0 rfl) ?_
    obtain ⟨v3, e4, h⟩ := ob h
    refine bz_getI (pc := 29) X hM fl_RX11_328 e4 dX11_rings__29 ?_
    refine lv_bipush (pc := 32) (v := (6 : Int32)) hx hb dX11_rings__32 (by decide) ?_
    obtain ⟨v6, e5, h⟩ := ob h
    refine bz_callS1 (pc := 34) (As := [.int v3, .int (6 : Int32)]) (rest := []) X hM hl.1 k_RX11_225 (ctX11_isUnder l e5) rfl rfl ⟨(Nat.le_of_ble_eq_true rfl), (Nat.le_of_ble_eq_true rfl)⟩ (Nat.le_of_ble_eq_true rfl) ⟨(Nat.le_of_ble_eq_true rfl), (Nat.le_of_ble_eq_true rfl)⟩ dX11_rings__34 (fun H locs hM => ?_)
    refine lv_if_eq (pc := 37) (tgt := 53) hx hb dX11_rings__37 (by decide) (fun hc => ?_) (fun hc => ?_)
    · have h := if_t hc h
      refine lv_aload_n (pc := 53) hx hb dX11_rings__53 rfl (lv_at hl 0 rfl) ?_
      refine lv_iload_n (pc := 54) hx hb dX11_rings__54 rfl (lv_at hl 1 rfl) ?_
      obtain ⟨v8, M9, e7, h⟩ := ob2 h
      obtain ⟨fs10, hb11⟩ := (rX11_plainRings e7)
      refine bz_callV1 (pc := 55) (As := [.int a1]) (rest := []) X hM hl.1 k_RX11_331 (ctX11_plainRings l e7) rfl hb11 rfl rfl ⟨(Nat.le_of_ble_eq_true rfl), (Nat.le_of_ble_eq_true rfl)⟩ (Nat.le_of_ble_eq_true rfl) ⟨(Nat.le_of_ble_eq_true rfl), (Nat.le_of_ble_eq_true rfl)⟩ dX11_rings__55 (fun H locs hM => ?_)
      obtain ⟨rfl, rfl⟩ := so2 h
      exact bz_iret (pc := 58) X hM hr hlk dX11_rings__58 (Nat.le_of_ble_eq_true rfl) (Nat.le_of_ble_eq_true rfl)
    · have h := if_f hc h
      refine lv_aload_n (pc := 40) hx hb dX11_rings__40 rfl (lv_at hl 0 rfl) ?_
      refine lv_bipush (pc := 41) (v := (70 : Int32)) hx hb dX11_rings__41 (by decide) ?_
      obtain ⟨M13, e12, h⟩ := ob h
      obtain ⟨fs14, hb15⟩ := (rX11_begins e12)
      refine bz_callV0 (pc := 43) (As := [.int (70 : Int32)]) (rest := []) X hM hl.1 k_RX11_322 (ctX11_begins l e12) rfl hb15 rfl rfl ⟨(Nat.le_of_ble_eq_true rfl), (Nat.le_of_ble_eq_true rfl)⟩ (Nat.le_of_ble_eq_true rfl) ⟨(Nat.le_of_ble_eq_true rfl), (Nat.le_of_ble_eq_true rfl)⟩ dX11_rings__43 (fun H locs hM => ?_)
      refine lv_aload_n (pc := 46) hx hb dX11_rings__46 rfl (lv_at hl 0 rfl) ?_
      refine lv_iload_n (pc := 47) hx hb dX11_rings__47 rfl (lv_at hl 1 rfl) ?_
      obtain ⟨v17, M18, e16, h⟩ := ob2 h
      obtain ⟨fs19, hb20⟩ := (rX11_plainRings e16)
      refine bz_callV1 (pc := 48) (As := [.int a1]) (rest := []) X hM hl.1 k_RX11_331 (ctX11_plainRings l e16) rfl hb20 rfl rfl ⟨(Nat.le_of_ble_eq_true rfl), (Nat.le_of_ble_eq_true rfl)⟩ (Nat.le_of_ble_eq_true rfl) ⟨(Nat.le_of_ble_eq_true rfl), (Nat.le_of_ble_eq_true rfl)⟩ dX11_rings__48 (fun H locs hM => ?_)
      refine lv_ineg (pc := 51) hx hb dX11_rings__51 ?_
      obtain ⟨rfl, rfl⟩ := so2 h
      exact bz_iret (pc := 52) X hM hr hlk dX11_rings__52 (Nat.le_of_ble_eq_true rfl) (Nat.le_of_ble_eq_true rfl)
  · have h := if_t hc h
    refine lv_aload_n (pc := 8) hx hb dX11_rings__8 rfl (lv_at hl 0 rfl) ?_
    refine lv_bipush (pc := 9) (v := (30 : Int32)) hx hb dX11_rings__9 (by decide) ?_
    obtain ⟨M22, e21, h⟩ := ob h
    obtain ⟨fs23, hb24⟩ := (rX11_begins e21)
    refine bz_callV0 (pc := 11) (As := [.int (30 : Int32)]) (rest := []) X hM hl.1 k_RX11_322 (ctX11_begins l e21) rfl hb24 rfl rfl ⟨(Nat.le_of_ble_eq_true rfl), (Nat.le_of_ble_eq_true rfl)⟩ (Nat.le_of_ble_eq_true rfl) ⟨(Nat.le_of_ble_eq_true rfl), (Nat.le_of_ble_eq_true rfl)⟩ dX11_rings__11 (fun H locs hM => ?_)
    refine lv_aload_n (pc := 14) hx hb dX11_rings__14 rfl (lv_at hl 0 rfl) ?_
    refine lv_iload_n (pc := 15) hx hb dX11_rings__15 rfl (lv_at hl 1 rfl) ?_
    obtain ⟨v26, M27, e25, h⟩ := ob2 h
    obtain ⟨fs28, hb29⟩ := (rX11_plainRings e25)
    refine bz_callV1 (pc := 16) (As := [.int a1]) (rest := []) X hM hl.1 k_RX11_331 (ctX11_plainRings l e25) rfl hb29 rfl rfl ⟨(Nat.le_of_ble_eq_true rfl), (Nat.le_of_ble_eq_true rfl)⟩ (Nat.le_of_ble_eq_true rfl) ⟨(Nat.le_of_ble_eq_true rfl), (Nat.le_of_ble_eq_true rfl)⟩ dX11_rings__16 (fun H locs hM => ?_)
    refine lv_istore_n (pc := 19) (lv' := [(2, .int v26), (0, .ref (pB P + a0)), (1, .int a1)]) hx hb dX11_rings__19 rfl hl (by decide) rfl (fun ls hl => ?_)
    refine lv_iload_n (pc := 20) hx hb dX11_rings__20 rfl (lv_at hl 0 rfl) ?_
    refine lv_aload_n (pc := 21) hx hb dX11_rings__21 rfl (lv_at hl 1 rfl) ?_
    refine lv_iconst (pc := 22) (v := (1 : Int32)) hx hb dX11_rings__22 (by decide) ?_
    obtain ⟨v31, M32, e30, h⟩ := ob2 h
    obtain ⟨fs33, hb34⟩ := (rX11_bounds e30)
    refine bz_callV1 (pc := 23) (As := [.int (1 : Int32)]) (rest := [.int v26]) X hM hl.1 k_RX11_334 (ctX11_bounds l e30) rfl hb34 rfl rfl ⟨(Nat.le_of_ble_eq_true rfl), (Nat.le_of_ble_eq_true rfl)⟩ (Nat.le_of_ble_eq_true rfl) ⟨(Nat.le_of_ble_eq_true rfl), (Nat.le_of_ble_eq_true rfl)⟩ dX11_rings__23 (fun H locs hM => ?_)
    refine lv_iadd (pc := 26) hx hb dX11_rings__26 ?_
    obtain ⟨rfl, rfl⟩ := so2 h
    exact bz_iret (pc := 27) X hM hr hlk dX11_rings__27 (Nat.le_of_ble_eq_true rfl) (Nat.le_of_ble_eq_true rfl)
theorem rX11_rings_ {M : Mm} {a0 : Nat} {a1 : Int32} {r9 : Int32 × Mm} (h : fX11_rings_ M a0 a1 = some r9) : ∃ fs, M[a0]? = some (.inr (11, fs)) := by
  unfold fX11_rings_ at h
  obtain ⟨_, e1, _⟩ := ob h
  exact gC_spec e1
theorem ctX11_rings_ (l : Launch) {P : PT} {M : Mm} {a0 : Nat} {a1 : Int32} {r9 : Int32} {M9 : Mm} (h : fX11_rings_ M a0 a1 = some (r9, M9)) : Ct l yX11_rings_ cX11_rings_ 3 (some .int) 3 0 P [.ref (pB P + a0), .int a1] M (some (.int r9)) M9 :=
  Ct.mk (by decide +kernel) (Nat.le_of_ble_eq_true rfl) (fun p e s m args below meth c hX => wX11_rings_ hX M a0 a1 h)
set_option maxHeartbeats 4000000 in
set_option maxRecDepth 100000 in
theorem wX11_plainMeets {p : Program} {l : Launch} {e : Env} {s : State} {m : MethodId} {args : Array Value} {below : List Frame} {meth : Method} {c : Code} {P : PT}  {r9 : Int32} {M9 : Mm} (hX : Cy p s m args c meth cX11_plainMeets 2 RX11 "plainMeets" (some .int) P)  (M : Mm) (a0 : Nat) (a1 : Int32) (h : fX11_plainMeets M a0 a1 = some (r9, M9)) : Wq p l e s m args below meth c 4 0 (some (.int r9)) M9 2 P 0 0 [(0, .ref (pB P + a0)), (1, .int a1)] [] M := by
  unfold fX11_plainMeets at h
  obtain ⟨_, _, h⟩ := ob h
  have hX0 := hX
  obtain ⟨X, hr, hlk, hnm⟩ := hX0
  have hx := X.1.1
  have hb := X.1.2.1
  intro H locs ls hM hl
  refine lv_aload_n (pc := 0) hx hb dX11_plainMeets_0 rfl (lv_at hl 0 rfl) ?_
  refine lv_bipush (pc := 1) (v := (11 : Int32)) hx hb dX11_plainMeets_1 (by decide) ?_
  obtain ⟨M2, e1, h⟩ := ob h
  obtain ⟨fs3, hb4⟩ := (rX11_begins e1)
  refine bz_callV0 (pc := 3) (As := [.int (11 : Int32)]) (rest := []) X hM hl.1 k_RX11_322 (ctX11_begins l e1) rfl hb4 rfl rfl ⟨(Nat.le_of_ble_eq_true rfl), (Nat.le_of_ble_eq_true rfl)⟩ (Nat.le_of_ble_eq_true rfl) ⟨(Nat.le_of_ble_eq_true rfl), (Nat.le_of_ble_eq_true rfl)⟩ dX11_plainMeets_3 (fun H locs hM => ?_)
  refine lv_aload_n (pc := 6) hx hb dX11_plainMeets_6 rfl (lv_at hl 0 rfl) ?_
  refine lv_iload_n (pc := 7) hx hb dX11_plainMeets_7 rfl (lv_at hl 1 rfl) ?_
  obtain ⟨v6, M7, e5, h⟩ := ob2 h
  obtain ⟨fs8, hb9⟩ := (rX11_rings_ e5)
  refine bz_callV1 (pc := 8) (As := [.int a1]) (rest := []) X hM hl.1 k_RX11_337 (ctX11_rings_ l e5) rfl hb9 rfl rfl ⟨(Nat.le_of_ble_eq_true rfl), (Nat.le_of_ble_eq_true rfl)⟩ (Nat.le_of_ble_eq_true rfl) ⟨(Nat.le_of_ble_eq_true rfl), (Nat.le_of_ble_eq_true rfl)⟩ dX11_plainMeets_8 (fun H locs hM => ?_)
  refine lv_iconst (pc := 11) (v := (2 : Int32)) hx hb dX11_plainMeets_11 (by decide) ?_
  refine lv_imul (pc := 12) hx hb dX11_plainMeets_12 ?_
  obtain ⟨rfl, rfl⟩ := so2 h
  exact bz_iret (pc := 13) X hM hr hlk dX11_plainMeets_13 (Nat.le_of_ble_eq_true rfl) (Nat.le_of_ble_eq_true rfl)
theorem rX11_plainMeets {M : Mm} {a0 : Nat} {a1 : Int32} {r9 : Int32 × Mm} (h : fX11_plainMeets M a0 a1 = some r9) : ∃ fs, M[a0]? = some (.inr (11, fs)) := by
  unfold fX11_plainMeets at h
  obtain ⟨_, e1, _⟩ := ob h
  exact gC_spec e1
theorem ctX11_plainMeets (l : Launch) {P : PT} {M : Mm} {a0 : Nat} {a1 : Int32} {r9 : Int32} {M9 : Mm} (h : fX11_plainMeets M a0 a1 = some (r9, M9)) : Ct l yX11_plainMeets cX11_plainMeets 2 (some .int) 4 0 P [.ref (pB P + a0), .int a1] M (some (.int r9)) M9 :=
  Ct.mk (by decide +kernel) (Nat.le_of_ble_eq_true rfl) (fun p e s m args below meth c hX => wX11_plainMeets hX M a0 a1 h)
set_option maxHeartbeats 4000000 in
set_option maxRecDepth 100000 in
theorem wX11_meets_ {p : Program} {l : Launch} {e : Env} {s : State} {m : MethodId} {args : Array Value} {below : List Frame} {meth : Method} {c : Code} {P : PT}  {r9 : Int32} {M9 : Mm} (hX : Cy p s m args c meth cX11_meets_ 3 RX11 "meets" (some .int) P)  (M : Mm) (a0 : Nat) (a1 : Int32) (h : fX11_meets_ M a0 a1 = some (r9, M9)) : Wq p l e s m args below meth c 5 0 (some (.int r9)) M9 3 P 0 0 [(0, .ref (pB P + a0)), (1, .int a1)] [] M := by
  unfold fX11_meets_ at h
  obtain ⟨_, _, h⟩ := ob h
  have hX0 := hX
  obtain ⟨X, hr, hlk, hnm⟩ := hX0
  have hx := X.1.1
  have hb := X.1.2.1
  intro H locs ls hM hl
  refine lv_aload_n (pc := 0) hx hb dX11_meets__0 rfl (lv_at hl 0 rfl) ?_
  obtain ⟨v1, e2, h⟩ := ob h
  refine bz_getI (pc := 1) X hM fl_RX11_328 e2 dX11_meets__1 ?_
  by_cases hs1 : v1 = (1 : Int32)
  · have h := if_t hs1 h
    refine lv_lookup (pc := 4) (off := 36) (tgt := 40) hx hb dX11_meets__4 (by decide) (by rw [hs1]; decide) (by decide) ?_
    refine lv_aload_n (pc := 40) hx hb dX11_meets__40 rfl (lv_at hl 0 rfl) ?_
    refine lv_bipush (pc := 41) (v := (20 : Int32)) hx hb dX11_meets__41 (by decide) ?_
    obtain ⟨M4, e3, h⟩ := ob h
    obtain ⟨fs5, hb6⟩ := (rX11_begins e3)
    refine bz_callV0 (pc := 43) (As := [.int (20 : Int32)]) (rest := []) X hM hl.1 k_RX11_322 (ctX11_begins l e3) rfl hb6 rfl rfl ⟨(Nat.le_of_ble_eq_true rfl), (Nat.le_of_ble_eq_true rfl)⟩ (Nat.le_of_ble_eq_true rfl) ⟨(Nat.le_of_ble_eq_true rfl), (Nat.le_of_ble_eq_true rfl)⟩ dX11_meets__43 (fun H locs hM => ?_)
    refine lv_aload_n (pc := 46) hx hb dX11_meets__46 rfl (lv_at hl 0 rfl) ?_
    refine lv_iload_n (pc := 47) hx hb dX11_meets__47 rfl (lv_at hl 1 rfl) ?_
    obtain ⟨v8, M9, e7, h⟩ := ob2 h
    obtain ⟨fs10, hb11⟩ := (rX11_plainMeets e7)
    refine bz_callV1 (pc := 48) (As := [.int a1]) (rest := []) X hM hl.1 k_RX11_339 (ctX11_plainMeets l e7) rfl hb11 rfl rfl ⟨(Nat.le_of_ble_eq_true rfl), (Nat.le_of_ble_eq_true rfl)⟩ (Nat.le_of_ble_eq_true rfl) ⟨(Nat.le_of_ble_eq_true rfl), (Nat.le_of_ble_eq_true rfl)⟩ dX11_meets__48 (fun H locs hM => ?_)
    refine lv_iconst (pc := 51) (v := (1 : Int32)) hx hb dX11_meets__51 (by decide) ?_
    refine lv_isub (pc := 52) hx hb dX11_meets__52 ?_
    obtain ⟨rfl, rfl⟩ := so2 h
    exact bz_iret (pc := 53) X hM hr hlk dX11_meets__53 (Nat.le_of_ble_eq_true rfl) (Nat.le_of_ble_eq_true rfl)
  have h := if_f hs1 h
  by_cases hs5 : v1 = (5 : Int32)
  · have h := if_t hs5 h
    refine lv_lookup (pc := 4) (off := 50) (tgt := 54) hx hb dX11_meets__4 (by decide) (by rw [hs5]; decide) (by decide) ?_
    refine lv_aload_n (pc := 54) hx hb dX11_meets__54 rfl (lv_at hl 0 rfl) ?_
    refine lv_bipush (pc := 55) (v := (60 : Int32)) hx hb dX11_meets__55 (by decide) ?_
    obtain ⟨M13, e12, h⟩ := ob h
    obtain ⟨fs14, hb15⟩ := (rX11_begins e12)
    refine bz_callV0 (pc := 57) (As := [.int (60 : Int32)]) (rest := []) X hM hl.1 k_RX11_322 (ctX11_begins l e12) rfl hb15 rfl rfl ⟨(Nat.le_of_ble_eq_true rfl), (Nat.le_of_ble_eq_true rfl)⟩ (Nat.le_of_ble_eq_true rfl) ⟨(Nat.le_of_ble_eq_true rfl), (Nat.le_of_ble_eq_true rfl)⟩ dX11_meets__57 (fun H locs hM => ?_)
    refine lv_aload_n (pc := 60) hx hb dX11_meets__60 rfl (lv_at hl 0 rfl) ?_
    refine lv_iload_n (pc := 61) hx hb dX11_meets__61 rfl (lv_at hl 1 rfl) ?_
    obtain ⟨v17, M18, e16, h⟩ := ob2 h
    obtain ⟨fs19, hb20⟩ := (rX11_plainMeets e16)
    refine bz_callV1 (pc := 62) (As := [.int a1]) (rest := []) X hM hl.1 k_RX11_339 (ctX11_plainMeets l e16) rfl hb20 rfl rfl ⟨(Nat.le_of_ble_eq_true rfl), (Nat.le_of_ble_eq_true rfl)⟩ (Nat.le_of_ble_eq_true rfl) ⟨(Nat.le_of_ble_eq_true rfl), (Nat.le_of_ble_eq_true rfl)⟩ dX11_meets__62 (fun H locs hM => ?_)
    refine lv_istore_n (pc := 65) (lv' := [(2, .int v17), (0, .ref (pB P + a0)), (1, .int a1)]) hx hb dX11_meets__65 rfl hl (by decide) rfl (fun ls hl => ?_)
    refine lv_iload_n (pc := 66) hx hb dX11_meets__66 rfl (lv_at hl 0 rfl) ?_
    refine lv_aload_n (pc := 67) hx hb dX11_meets__67 rfl (lv_at hl 1 rfl) ?_
    refine lv_iload_n (pc := 68) hx hb dX11_meets__68 rfl (lv_at hl 2 rfl) ?_
    obtain ⟨v22, M23, e21, h⟩ := ob2 h
    obtain ⟨fs24, hb25⟩ := (rX11_rings_ e21)
    refine bz_callV1 (pc := 69) (As := [.int a1]) (rest := [.int v17]) X hM hl.1 k_RX11_337 (ctX11_rings_ l e21) rfl hb25 rfl rfl ⟨(Nat.le_of_ble_eq_true rfl), (Nat.le_of_ble_eq_true rfl)⟩ (Nat.le_of_ble_eq_true rfl) ⟨(Nat.le_of_ble_eq_true rfl), (Nat.le_of_ble_eq_true rfl)⟩ dX11_meets__69 (fun H locs hM => ?_)
    refine lv_iadd (pc := 72) hx hb dX11_meets__72 ?_
    obtain ⟨rfl, rfl⟩ := so2 h
    exact bz_iret (pc := 73) X hM hr hlk dX11_meets__73 (Nat.le_of_ble_eq_true rfl) (Nat.le_of_ble_eq_true rfl)
  have h := if_f hs5 h
  by_cases hs7 : v1 = (7 : Int32)
  · have h := if_t hs7 h
    refine lv_lookup (pc := 4) (off := 70) (tgt := 74) hx hb dX11_meets__4 (by decide) (by rw [hs7]; decide) (by decide) ?_
    refine lv_aload_n (pc := 74) hx hb dX11_meets__74 rfl (lv_at hl 0 rfl) ?_
    refine lv_bipush (pc := 75) (v := (80 : Int32)) hx hb dX11_meets__75 (by decide) ?_
    obtain ⟨M27, e26, h⟩ := ob h
    obtain ⟨fs28, hb29⟩ := (rX11_begins e26)
    refine bz_callV0 (pc := 77) (As := [.int (80 : Int32)]) (rest := []) X hM hl.1 k_RX11_322 (ctX11_begins l e26) rfl hb29 rfl rfl ⟨(Nat.le_of_ble_eq_true rfl), (Nat.le_of_ble_eq_true rfl)⟩ (Nat.le_of_ble_eq_true rfl) ⟨(Nat.le_of_ble_eq_true rfl), (Nat.le_of_ble_eq_true rfl)⟩ dX11_meets__77 (fun H locs hM => ?_)
    refine lv_aload_n (pc := 80) hx hb dX11_meets__80 rfl (lv_at hl 0 rfl) ?_
    refine lv_iload_n (pc := 81) hx hb dX11_meets__81 rfl (lv_at hl 1 rfl) ?_
    obtain ⟨v31, M32, e30, h⟩ := ob2 h
    obtain ⟨fs33, hb34⟩ := (rX11_plainMeets e30)
    refine bz_callV1 (pc := 82) (As := [.int a1]) (rest := []) X hM hl.1 k_RX11_339 (ctX11_plainMeets l e30) rfl hb34 rfl rfl ⟨(Nat.le_of_ble_eq_true rfl), (Nat.le_of_ble_eq_true rfl)⟩ (Nat.le_of_ble_eq_true rfl) ⟨(Nat.le_of_ble_eq_true rfl), (Nat.le_of_ble_eq_true rfl)⟩ dX11_meets__82 (fun H locs hM => ?_)
    refine lv_aload_n (pc := 85) hx hb dX11_meets__85 rfl (lv_at hl 0 rfl) ?_
    obtain ⟨v35, e36, h⟩ := ob h
    refine bz_getI (pc := 86) X hM fl_RX11_325 e36 dX11_meets__86 ?_
    refine lv_ixor (pc := 89) hx hb dX11_meets__89 ?_
    obtain ⟨rfl, rfl⟩ := so2 h
    exact bz_iret (pc := 90) X hM hr hlk dX11_meets__90 (Nat.le_of_ble_eq_true rfl) (Nat.le_of_ble_eq_true rfl)
  have h := if_f hs7 h
  refine lv_lookup (pc := 4) (off := 87) (tgt := 91) hx hb dX11_meets__4 (by decide) (by show Op.lookupswitch.offset [(1, 36), (5, 50), (7, 70)] _ _ = _; rw [lv_osw hs1 (by decide), lv_osw hs5 (by decide), lv_osw hs7 (by decide)]; rfl) (by decide) ?_
  refine lv_aload_n (pc := 91) hx hb dX11_meets__91 rfl (lv_at hl 0 rfl) ?_
  refine lv_iload_n (pc := 92) hx hb dX11_meets__92 rfl (lv_at hl 1 rfl) ?_
  obtain ⟨v38, M39, e37, h⟩ := ob2 h
  obtain ⟨fs40, hb41⟩ := (rX11_plainMeets e37)
  refine bz_callV1 (pc := 93) (As := [.int a1]) (rest := []) X hM hl.1 k_RX11_339 (ctX11_plainMeets l e37) rfl hb41 rfl rfl ⟨(Nat.le_of_ble_eq_true rfl), (Nat.le_of_ble_eq_true rfl)⟩ (Nat.le_of_ble_eq_true rfl) ⟨(Nat.le_of_ble_eq_true rfl), (Nat.le_of_ble_eq_true rfl)⟩ dX11_meets__93 (fun H locs hM => ?_)
  obtain ⟨rfl, rfl⟩ := so2 h
  exact bz_iret (pc := 96) X hM hr hlk dX11_meets__96 (Nat.le_of_ble_eq_true rfl) (Nat.le_of_ble_eq_true rfl)
theorem rX11_meets_ {M : Mm} {a0 : Nat} {a1 : Int32} {r9 : Int32 × Mm} (h : fX11_meets_ M a0 a1 = some r9) : ∃ fs, M[a0]? = some (.inr (11, fs)) := by
  unfold fX11_meets_ at h
  obtain ⟨_, e1, _⟩ := ob h
  exact gC_spec e1
theorem ctX11_meets_ (l : Launch) {P : PT} {M : Mm} {a0 : Nat} {a1 : Int32} {r9 : Int32} {M9 : Mm} (h : fX11_meets_ M a0 a1 = some (r9, M9)) : Ct l yX11_meets_ cX11_meets_ 3 (some .int) 5 0 P [.ref (pB P + a0), .int a1] M (some (.int r9)) M9 :=
  Ct.mk (by decide +kernel) (Nat.le_of_ble_eq_true rfl) (fun p e s m args below meth c hX => wX11_meets_ hX M a0 a1 h)
set_option maxHeartbeats 4000000 in
set_option maxRecDepth 100000 in
theorem wX11_plainTells {p : Program} {l : Launch} {e : Env} {s : State} {m : MethodId} {args : Array Value} {below : List Frame} {meth : Method} {c : Code} {P : PT}  {r9 : Int32} {M9 : Mm} (hX : Cy p s m args c meth cX11_plainTells 3 RX11 "plainTells" (some .int) P)  (M : Mm) (a0 : Nat) (a1 : Int32) (h : fX11_plainTells M a0 a1 = some (r9, M9)) : Wq p l e s m args below meth c 6 0 (some (.int r9)) M9 3 P 0 0 [(0, .ref (pB P + a0)), (1, .int a1)] [] M := by
  unfold fX11_plainTells at h
  obtain ⟨_, _, h⟩ := ob h
  have hX0 := hX
  obtain ⟨X, hr, hlk, hnm⟩ := hX0
  have hx := X.1.1
  have hb := X.1.2.1
  intro H locs ls hM hl
  refine lv_aload_n (pc := 0) hx hb dX11_plainTells_0 rfl (lv_at hl 0 rfl) ?_
  refine lv_bipush (pc := 1) (v := (13 : Int32)) hx hb dX11_plainTells_1 (by decide) ?_
  obtain ⟨M2, e1, h⟩ := ob h
  obtain ⟨fs3, hb4⟩ := (rX11_begins e1)
  refine bz_callV0 (pc := 3) (As := [.int (13 : Int32)]) (rest := []) X hM hl.1 k_RX11_322 (ctX11_begins l e1) rfl hb4 rfl rfl ⟨(Nat.le_of_ble_eq_true rfl), (Nat.le_of_ble_eq_true rfl)⟩ (Nat.le_of_ble_eq_true rfl) ⟨(Nat.le_of_ble_eq_true rfl), (Nat.le_of_ble_eq_true rfl)⟩ dX11_plainTells_3 (fun H locs hM => ?_)
  refine lv_aload_n (pc := 6) hx hb dX11_plainTells_6 rfl (lv_at hl 0 rfl) ?_
  refine lv_iload_n (pc := 7) hx hb dX11_plainTells_7 rfl (lv_at hl 1 rfl) ?_
  obtain ⟨v6, M7, e5, h⟩ := ob2 h
  obtain ⟨fs8, hb9⟩ := (rX11_meets_ e5)
  refine bz_callV1 (pc := 8) (As := [.int a1]) (rest := []) X hM hl.1 k_RX11_348 (ctX11_meets_ l e5) rfl hb9 rfl rfl ⟨(Nat.le_of_ble_eq_true rfl), (Nat.le_of_ble_eq_true rfl)⟩ (Nat.le_of_ble_eq_true rfl) ⟨(Nat.le_of_ble_eq_true rfl), (Nat.le_of_ble_eq_true rfl)⟩ dX11_plainTells_8 (fun H locs hM => ?_)
  refine lv_istore_n (pc := 11) (lv' := [(2, .int v6), (0, .ref (pB P + a0)), (1, .int a1)]) hx hb dX11_plainTells_11 rfl hl (by decide) rfl (fun ls hl => ?_)
  refine lv_iload_n (pc := 12) hx hb dX11_plainTells_12 rfl (lv_at hl 0 rfl) ?_
  refine lv_aload_n (pc := 13) hx hb dX11_plainTells_13 rfl (lv_at hl 1 rfl) ?_
  refine lv_iload_n (pc := 14) hx hb dX11_plainTells_14 rfl (lv_at hl 2 rfl) ?_
  obtain ⟨v11, M12, e10, h⟩ := ob2 h
  obtain ⟨fs13, hb14⟩ := (rX11_bounds e10)
  refine bz_callV1 (pc := 15) (As := [.int a1]) (rest := [.int v6]) X hM hl.1 k_RX11_334 (ctX11_bounds l e10) rfl hb14 rfl rfl ⟨(Nat.le_of_ble_eq_true rfl), (Nat.le_of_ble_eq_true rfl)⟩ (Nat.le_of_ble_eq_true rfl) ⟨(Nat.le_of_ble_eq_true rfl), (Nat.le_of_ble_eq_true rfl)⟩ dX11_plainTells_15 (fun H locs hM => ?_)
  refine lv_ixor (pc := 18) hx hb dX11_plainTells_18 ?_
  obtain ⟨rfl, rfl⟩ := so2 h
  exact bz_iret (pc := 19) X hM hr hlk dX11_plainTells_19 (Nat.le_of_ble_eq_true rfl) (Nat.le_of_ble_eq_true rfl)
theorem rX11_plainTells {M : Mm} {a0 : Nat} {a1 : Int32} {r9 : Int32 × Mm} (h : fX11_plainTells M a0 a1 = some r9) : ∃ fs, M[a0]? = some (.inr (11, fs)) := by
  unfold fX11_plainTells at h
  obtain ⟨_, e1, _⟩ := ob h
  exact gC_spec e1
theorem ctX11_plainTells (l : Launch) {P : PT} {M : Mm} {a0 : Nat} {a1 : Int32} {r9 : Int32} {M9 : Mm} (h : fX11_plainTells M a0 a1 = some (r9, M9)) : Ct l yX11_plainTells cX11_plainTells 3 (some .int) 6 0 P [.ref (pB P + a0), .int a1] M (some (.int r9)) M9 :=
  Ct.mk (by decide +kernel) (Nat.le_of_ble_eq_true rfl) (fun p e s m args below meth c hX => wX11_plainTells hX M a0 a1 h)
set_option maxHeartbeats 4000000 in
set_option maxRecDepth 100000 in
theorem wX11_slidTells {p : Program} {l : Launch} {e : Env} {s : State} {m : MethodId} {args : Array Value} {below : List Frame} {meth : Method} {c : Code} {P : PT}  {r9 : Int32} {M9 : Mm} (hX : Cy p s m args c meth cX11_slidTells 2 RX11 "slidTells" (some .int) P)  (M : Mm) (a0 : Nat) (a1 : Int32) (h : fX11_slidTells M a0 a1 = some (r9, M9)) : Wq p l e s m args below meth c 7 0 (some (.int r9)) M9 2 P 0 0 [(0, .ref (pB P + a0)), (1, .int a1)] [] M := by
  unfold fX11_slidTells at h
  obtain ⟨_, _, h⟩ := ob h
  have hX0 := hX
  obtain ⟨X, hr, hlk, hnm⟩ := hX0
  have hx := X.1.1
  have hb := X.1.2.1
  intro H locs ls hM hl
  refine lv_aload_n (pc := 0) hx hb dX11_slidTells_0 rfl (lv_at hl 0 rfl) ?_
  refine lv_bipush (pc := 1) (v := (71 : Int32)) hx hb dX11_slidTells_1 (by decide) ?_
  obtain ⟨M2, e1, h⟩ := ob h
  obtain ⟨fs3, hb4⟩ := (rX11_begins e1)
  refine bz_callV0 (pc := 3) (As := [.int (71 : Int32)]) (rest := []) X hM hl.1 k_RX11_322 (ctX11_begins l e1) rfl hb4 rfl rfl ⟨(Nat.le_of_ble_eq_true rfl), (Nat.le_of_ble_eq_true rfl)⟩ (Nat.le_of_ble_eq_true rfl) ⟨(Nat.le_of_ble_eq_true rfl), (Nat.le_of_ble_eq_true rfl)⟩ dX11_slidTells_3 (fun H locs hM => ?_)
  refine lv_aload_n (pc := 6) hx hb dX11_slidTells_6 rfl (lv_at hl 0 rfl) ?_
  refine lv_iload_n (pc := 7) hx hb dX11_slidTells_7 rfl (lv_at hl 1 rfl) ?_
  refine lv_iconst (pc := 8) (v := (1 : Int32)) hx hb dX11_slidTells_8 (by decide) ?_
  refine lv_iadd (pc := 9) hx hb dX11_slidTells_9 ?_
  obtain ⟨v6, M7, e5, h⟩ := ob2 h
  obtain ⟨fs8, hb9⟩ := (rX11_plainTells e5)
  refine bz_callV1 (pc := 10) (As := [.int (a1 + (1 : Int32))]) (rest := []) X hM hl.1 k_RX11_351 (ctX11_plainTells l e5) rfl hb9 rfl rfl ⟨(Nat.le_of_ble_eq_true rfl), (Nat.le_of_ble_eq_true rfl)⟩ (Nat.le_of_ble_eq_true rfl) ⟨(Nat.le_of_ble_eq_true rfl), (Nat.le_of_ble_eq_true rfl)⟩ dX11_slidTells_10 (fun H locs hM => ?_)
  obtain ⟨rfl, rfl⟩ := so2 h
  exact bz_iret (pc := 13) X hM hr hlk dX11_slidTells_13 (Nat.le_of_ble_eq_true rfl) (Nat.le_of_ble_eq_true rfl)
theorem rX11_slidTells {M : Mm} {a0 : Nat} {a1 : Int32} {r9 : Int32 × Mm} (h : fX11_slidTells M a0 a1 = some r9) : ∃ fs, M[a0]? = some (.inr (11, fs)) := by
  unfold fX11_slidTells at h
  obtain ⟨_, e1, _⟩ := ob h
  exact gC_spec e1
theorem ctX11_slidTells (l : Launch) {P : PT} {M : Mm} {a0 : Nat} {a1 : Int32} {r9 : Int32} {M9 : Mm} (h : fX11_slidTells M a0 a1 = some (r9, M9)) : Ct l yX11_slidTells cX11_slidTells 2 (some .int) 7 0 P [.ref (pB P + a0), .int a1] M (some (.int r9)) M9 :=
  Ct.mk (by decide +kernel) (Nat.le_of_ble_eq_true rfl) (fun p e s m args below meth c hX => wX11_slidTells hX M a0 a1 h)
