def fJ9_max_7cf53 (M : Mm) (a0 : Int32) (a1 : Int32) : Option (Int32) :=
  if a0 < a1 then
  (some (a1))
  else
  (some (a0))
def fX3_init (M : Mm) (a0 : Nat) (a1 : Int32) : Option (Mm) :=
  (fJ9_max_7cf53 M ((0 : Int32)) a1).bind fun v2 =>
  (nA M 0 v2).bind fun M3 =>
  (pF M3 3 a0 0 (.ref M.length)).bind fun M5 =>
  some M5
def fX3_clear (M : Mm) (a0 : Nat) : Option (Mm) :=
  (gC M 3 a0).bind fun _ =>
  (pF M 3 a0 1 (.int ((0 : Int32)))).bind fun M1 =>
  some M1
def fX3_add (M : Mm) (a0 : Nat) (a1 : Int32) : Option (Int32 × Mm) :=
  (gC M 3 a0).bind fun _ =>
  (gI M 3 a0 1).bind fun v1 =>
  if v1 < 0 then
  (some ((0 : Int32), M))
  else
  ((gI M 3 a0 1).bind fun v3 =>
  (gQ M 3 a0 0).bind fun q5 =>
  (aL M q5).bind fun v7 =>
  if v3 < v7 then
  ((gQ M 3 a0 0).bind fun q9 =>
  (gI M 3 a0 1).bind fun v11 =>
  (sI M 0 q9 v11 a1).bind fun M13 =>
  (gI M13 3 a0 1).bind fun v15 =>
  (pF M13 3 a0 1 (.int ((v15 + (1 : Int32))))).bind fun M17 =>
  some ((1 : Int32), M17))
  else
  (some ((0 : Int32), M)))
def BX3_fill_6 (N : Nat) (K6 : Mm → Nat → Int32 → Int32 → Int32 → Option (Mm)) (M : Mm) (x0 : Nat) (x1 : Int32) (x2 : Int32) (x3 : Int32)  : Option (Mm) :=
  if x1 ≤ x3 then
  (some M)
  else
  (bd2 (fX3_add M x0 x2) fun v2 M3 =>
  K6 M3 x0 x1 x2 ((x3 + (1 : Int32))))
def LX3_fill_6 (N : Nat) : Nat → Mm → Nat → Int32 → Int32 → Int32 → Option (Mm)
  | 0, _, _, _, _, _ => none
  | n + 1, M, x0, x1, x2, x3 => BX3_fill_6 N (LX3_fill_6 N n) M x0 x1 x2 x3
def fX3_fill (N : Nat) (M : Mm) (a0 : Nat) (a1 : Int32) (a2 : Int32) : Option (Mm) :=
  (gC M 3 a0).bind fun _ =>
  (fX3_clear M a0).bind fun M2 =>
  LX3_fill_6 N N M2 a0 a1 a2 ((0 : Int32))
def fX6_init (N : Nat) (M : Mm) (a0 : Nat) : Option (Mm) :=
  (some (nO M 3 [.null, .int 0])).bind fun M1 =>
  (fX3_init M1 M.length ((3 : Int32))).bind fun M4 =>
  (pF M4 6 a0 0 (.ref M.length)).bind fun M5 =>
  (some (nO M5 3 [.null, .int 0])).bind fun M7 =>
  (fX3_init M7 M5.length ((6 : Int32))).bind fun M10 =>
  (pF M10 6 a0 1 (.ref M5.length)).bind fun M11 =>
  (some (nO M11 3 [.null, .int 0])).bind fun M13 =>
  (fX3_init M13 M11.length ((96 : Int32))).bind fun M16 =>
  (pF M16 6 a0 2 (.ref M11.length)).bind fun M17 =>
  (some (nO M17 3 [.null, .int 0])).bind fun M19 =>
  (fX3_init M19 M17.length ((96 : Int32))).bind fun M22 =>
  (pF M22 6 a0 3 (.ref M17.length)).bind fun M23 =>
  (some (nO M23 3 [.null, .int 0])).bind fun M25 =>
  (fX3_init M25 M23.length ((96 : Int32))).bind fun M28 =>
  (pF M28 6 a0 4 (.ref M23.length)).bind fun M29 =>
  (some (nO M29 3 [.null, .int 0])).bind fun M31 =>
  (fX3_init M31 M29.length ((50 : Int32))).bind fun M34 =>
  (pF M34 6 a0 5 (.ref M29.length)).bind fun M35 =>
  (nR M35 2 ((9 : Int32))).bind fun M37 =>
  (pF M37 6 a0 6 (.ref M35.length)).bind fun M39 =>
  (nR M39 3 ((12 : Int32))).bind fun M41 =>
  (pF M41 6 a0 7 (.ref M39.length)).bind fun M43 =>
  (some (nO M43 3 [.null, .int 0])).bind fun M45 =>
  (fX3_init M45 M43.length ((6 : Int32))).bind fun M48 =>
  (pF M48 6 a0 9 (.ref M43.length)).bind fun M49 =>
  (some (nO M49 3 [.null, .int 0])).bind fun M51 =>
  (fX3_init M51 M49.length ((10 : Int32))).bind fun M54 =>
  (pF M54 6 a0 10 (.ref M49.length)).bind fun M55 =>
  (some (nO M55 3 [.null, .int 0])).bind fun M57 =>
  (fX3_init M57 M55.length ((6 : Int32))).bind fun M60 =>
  (pF M60 6 a0 11 (.ref M55.length)).bind fun M61 =>
  (some (nO M61 3 [.null, .int 0])).bind fun M63 =>
  (fX3_init M63 M61.length ((8 : Int32))).bind fun M66 =>
  (pF M66 6 a0 12 (.ref M61.length)).bind fun M67 =>
  (some (nO M67 3 [.null, .int 0])).bind fun M69 =>
  (fX3_init M69 M67.length ((8 : Int32))).bind fun M72 =>
  (pF M72 6 a0 13 (.ref M67.length)).bind fun M73 =>
  (some (nO M73 3 [.null, .int 0])).bind fun M75 =>
  (fX3_init M75 M73.length ((8 : Int32))).bind fun M78 =>
  (pF M78 6 a0 14 (.ref M73.length)).bind fun M79 =>
  (some (nO M79 3 [.null, .int 0])).bind fun M81 =>
  (fX3_init M81 M79.length ((20 : Int32))).bind fun M84 =>
  (pF M84 6 a0 15 (.ref M79.length)).bind fun M85 =>
  (pF M85 6 a0 16 (.int ((1 : Int32)))).bind fun M87 =>
  (gQ M87 6 a0 0).bind fun q89 =>
  (fX3_fill N M87 q89 ((3 : Int32)) ((0 : Int32))).bind fun M92 =>
  (gQ M92 6 a0 11).bind fun q95 =>
  (fX3_fill N M92 q95 ((6 : Int32)) ((1 : Int32))).bind fun M98 =>
  (gQ M98 6 a0 12).bind fun q101 =>
  (fX3_fill N M98 q101 ((8 : Int32)) ((0 : Int32))).bind fun M104 =>
  some M104
def fX4_init (M : Mm) (a0 : Nat) : Option (Mm) :=
  (some (nO M 3 [.null, .int 0])).bind fun M1 =>
  (fX3_init M1 M.length ((40 : Int32))).bind fun M4 =>
  (pF M4 4 a0 0 (.ref M.length)).bind fun M5 =>
  some M5
def fX7_init (M : Mm) (a0 : Nat) : Option (Mm) :=
  (some (nO M 3 [.null, .int 0])).bind fun M1 =>
  (fX3_init M1 M.length ((96 : Int32))).bind fun M4 =>
  (pF M4 7 a0 0 (.ref M.length)).bind fun M5 =>
  (some (nO M5 3 [.null, .int 0])).bind fun M7 =>
  (fX3_init M7 M5.length ((96 : Int32))).bind fun M10 =>
  (pF M10 7 a0 1 (.ref M5.length)).bind fun M11 =>
  (some (nO M11 3 [.null, .int 0])).bind fun M13 =>
  (fX3_init M13 M11.length ((96 : Int32))).bind fun M16 =>
  (pF M16 7 a0 2 (.ref M11.length)).bind fun M17 =>
  (some (nO M17 3 [.null, .int 0])).bind fun M19 =>
  (fX3_init M19 M17.length ((96 : Int32))).bind fun M22 =>
  (pF M22 7 a0 3 (.ref M17.length)).bind fun M23 =>
  (some (nO M23 3 [.null, .int 0])).bind fun M25 =>
  (fX3_init M25 M23.length ((96 : Int32))).bind fun M28 =>
  (pF M28 7 a0 4 (.ref M23.length)).bind fun M29 =>
  (some (nO M29 3 [.null, .int 0])).bind fun M31 =>
  (fX3_init M31 M29.length ((96 : Int32))).bind fun M34 =>
  (pF M34 7 a0 5 (.ref M29.length)).bind fun M35 =>
  (some (nO M35 3 [.null, .int 0])).bind fun M37 =>
  (fX3_init M37 M35.length ((12 : Int32))).bind fun M40 =>
  (pF M40 7 a0 6 (.ref M35.length)).bind fun M41 =>
  some M41
def fX1_init (M : Mm) (a0 : Nat) : Option (Mm) :=
  (some (nO M 7 [.null, .null, .null, .null, .null, .null, .null])).bind fun M1 =>
  (fX7_init M1 M.length).bind fun M4 =>
  (pF M4 1 a0 0 (.ref M.length)).bind fun M5 =>
  (some (nO M5 7 [.null, .null, .null, .null, .null, .null, .null])).bind fun M7 =>
  (fX7_init M7 M5.length).bind fun M10 =>
  (pF M10 1 a0 1 (.ref M5.length)).bind fun M11 =>
  (some (nO M11 3 [.null, .int 0])).bind fun M13 =>
  (fX3_init M13 M11.length ((96 : Int32))).bind fun M16 =>
  (pF M16 1 a0 2 (.ref M11.length)).bind fun M17 =>
  (some (nO M17 3 [.null, .int 0])).bind fun M19 =>
  (fX3_init M19 M17.length ((802 : Int32))).bind fun M22 =>
  (pF M22 1 a0 3 (.ref M17.length)).bind fun M23 =>
  some M23
def fX5_init (M : Mm) (a0 : Nat) : Option (Mm) :=
  (some (nO M 3 [.null, .int 0])).bind fun M1 =>
  (fX3_init M1 M.length ((41 : Int32))).bind fun M4 =>
  (pF M4 5 a0 0 (.ref M.length)).bind fun M5 =>
  (some (nO M5 3 [.null, .int 0])).bind fun M7 =>
  (fX3_init M7 M5.length ((41 : Int32))).bind fun M10 =>
  (pF M10 5 a0 1 (.ref M5.length)).bind fun M11 =>
  some M11
def fX9_init (M : Mm) (a0 : Nat) : Option (Mm) :=
  (some (nO M 3 [.null, .int 0])).bind fun M1 =>
  (fX3_init M1 M.length ((40 : Int32))).bind fun M4 =>
  (pF M4 9 a0 0 (.ref M.length)).bind fun M5 =>
  some M5
def fX2_init (M : Mm) (a0 : Nat) : Option (Mm) :=
  (some (nO M 3 [.null, .int 0])).bind fun M1 =>
  (fX3_init M1 M.length ((50 : Int32))).bind fun M4 =>
  (pF M4 2 a0 0 (.ref M.length)).bind fun M5 =>
  (some (nO M5 3 [.null, .int 0])).bind fun M7 =>
  (fX3_init M7 M5.length ((50 : Int32))).bind fun M10 =>
  (pF M10 2 a0 1 (.ref M5.length)).bind fun M11 =>
  (pF M11 2 a0 2 (.float (UInt32.ofNat 0))).bind fun M13 =>
  some M13
def BX10_init_59 (N : Nat) (K59 : Mm → Nat → Int32 → Option (Mm)) (M : Mm) (x0 : Nat) (x1 : Int32)  : Option (Mm) :=
  if (4 : Int32) ≤ x1 then
  ((some (nO M 1 [.null, .null, .null, .null])).bind fun M1 =>
  (fX1_init M1 M.length).bind fun M4 =>
  (pF M4 10 x0 5 (.ref M.length)).bind fun M5 =>
  (some (nO M5 7 [.null, .null, .null, .null, .null, .null, .null])).bind fun M7 =>
  (fX7_init M7 M5.length).bind fun M10 =>
  (pF M10 10 x0 6 (.ref M5.length)).bind fun M11 =>
  (some (nO M11 5 [.null, .null, .int 0, .int 0])).bind fun M13 =>
  (fX5_init M13 M11.length).bind fun M16 =>
  (pF M16 10 x0 7 (.ref M11.length)).bind fun M17 =>
  (some (nO M17 9 [.null])).bind fun M19 =>
  (fX9_init M19 M17.length).bind fun M22 =>
  (pF M22 10 x0 8 (.ref M17.length)).bind fun M23 =>
  (some (nO M23 2 [.null, .null, .null, .int 0])).bind fun M25 =>
  (fX2_init M25 M23.length).bind fun M28 =>
  (pF M28 10 x0 9 (.ref M23.length)).bind fun M29 =>
  some M29)
  else
  ((gQ M 10 x0 4).bind fun q31 =>
  (some (nO M 4 [.null, .int 0])).bind fun M33 =>
  (fX4_init M33 M.length).bind fun M36 =>
  (sR M36 4 4 q31 x1 ((some M.length))).bind fun M37 =>
  K59 M37 x0 ((x1 + (1 : Int32))))
def LX10_init_59 (N : Nat) : Nat → Mm → Nat → Int32 → Option (Mm)
  | 0, _, _, _ => none
  | n + 1, M, x0, x1 => BX10_init_59 N (LX10_init_59 N n) M x0 x1
def fX10_init (N : Nat) (M : Mm) (a0 : Nat) : Option (Mm) :=
  (some (nO M 6 [.null, .null, .null, .null, .null, .null, .null, .null, .int 0, .null, .null, .null, .null, .null, .null, .null, .int 0])).bind fun M1 =>
  (fX6_init N M1 M.length).bind fun M4 =>
  (pF M4 10 a0 0 (.ref M.length)).bind fun M5 =>
  (some (nO M5 6 [.null, .null, .null, .null, .null, .null, .null, .null, .int 0, .null, .null, .null, .null, .null, .null, .null, .int 0])).bind fun M7 =>
  (fX6_init N M7 M5.length).bind fun M10 =>
  (pF M10 10 a0 1 (.ref M5.length)).bind fun M11 =>
  (some (nO M11 3 [.null, .int 0])).bind fun M13 =>
  (fX3_init M13 M11.length ((6 : Int32))).bind fun M16 =>
  (pF M16 10 a0 3 (.ref M11.length)).bind fun M17 =>
  (gQ M17 10 a0 3).bind fun q19 =>
  (fX3_fill N M17 q19 ((6 : Int32)) ((0 : Int32))).bind fun M22 =>
  (nR M22 4 ((4 : Int32))).bind fun M25 =>
  (pF M25 10 a0 4 (.ref M22.length)).bind fun M27 =>
  LX10_init_59 N 5 M27 a0 ((0 : Int32))
def BX11_init_135 (N : Nat) (K135 : Mm → Nat → Int32 → Option (Mm)) (M : Mm) (x0 : Nat) (x1 : Int32)  : Option (Mm) :=
  if (6 : Int32) ≤ x1 then
  (some M)
  else
  ((gQ M 11 x0 0).bind fun q1 =>
  (sI M 0 q1 (((398 : Int32) + x1)) ((1 : Int32))).bind fun M3 =>
  K135 M3 x0 ((x1 + (1 : Int32))))
def LX11_init_135 (N : Nat) : Nat → Mm → Nat → Int32 → Option (Mm)
  | 0, _, _, _ => none
  | n + 1, M, x0, x1 => BX11_init_135 N (LX11_init_135 N n) M x0 x1
def fX11_init (N : Nat) (M : Mm) (a0 : Nat) : Option (Mm) :=
  (nA M 0 ((950 : Int32))).bind fun M1 =>
  (pF M1 11 a0 0 (.ref M.length)).bind fun M3 =>
  (nA M3 0 ((950 : Int32))).bind fun M5 =>
  (pF M5 11 a0 1 (.ref M3.length)).bind fun M7 =>
  (nA M7 0 ((6 : Int32))).bind fun M9 =>
  (pF M9 11 a0 3 (.ref M7.length)).bind fun M11 =>
  (nA M11 0 ((96 : Int32))).bind fun M13 =>
  (pF M13 11 a0 4 (.ref M11.length)).bind fun M15 =>
  (nA M15 1 ((96 : Int32))).bind fun M17 =>
  (pF M17 11 a0 5 (.ref M15.length)).bind fun M19 =>
  (nA M19 0 ((4 : Int32))).bind fun M21 =>
  (pF M21 11 a0 6 (.ref M19.length)).bind fun M23 =>
  (nA M23 0 ((4 : Int32))).bind fun M25 =>
  (pF M25 11 a0 7 (.ref M23.length)).bind fun M27 =>
  (nA M27 0 ((160 : Int32))).bind fun M29 =>
  (pF M29 11 a0 8 (.ref M27.length)).bind fun M31 =>
  (nA M31 0 ((50 : Int32))).bind fun M33 =>
  (pF M33 11 a0 9 (.ref M31.length)).bind fun M35 =>
  (nA M35 0 ((4 : Int32))).bind fun M37 =>
  (pF M37 11 a0 15 (.ref M35.length)).bind fun M39 =>
  (nA M39 0 ((50 : Int32))).bind fun M41 =>
  (pF M41 11 a0 16 (.ref M39.length)).bind fun M43 =>
  (nA M43 0 ((41 : Int32))).bind fun M45 =>
  (pF M45 11 a0 17 (.ref M43.length)).bind fun M47 =>
  (nA M47 0 ((246 : Int32))).bind fun M49 =>
  (pF M49 11 a0 18 (.ref M47.length)).bind fun M51 =>
  (nA M51 0 ((12 : Int32))).bind fun M53 =>
  (pF M53 11 a0 19 (.ref M51.length)).bind fun M55 =>
  (nA M55 0 ((40 : Int32))).bind fun M57 =>
  (pF M57 11 a0 20 (.ref M55.length)).bind fun M59 =>
  (gQ M59 11 a0 0).bind fun q61 =>
  (sI M59 0 q61 ((8 : Int32)) ((1 : Int32))).bind fun M63 =>
  LX11_init_135 N N M63 a0 ((0 : Int32))
def fX10_within (M : Mm) (a0 : Int32) (a1 : Int32) (a2 : Int32) : Option (Int32) :=
  if a0 < a1 then
  (some ((0 : Int32)))
  else
  (if a2 < a0 then
  (some ((0 : Int32)))
  else
  (some ((1 : Int32))))
def fX3_has (M : Mm) (a0 : Nat) (a1 : Int32) : Option (Int32) :=
  (gC M 3 a0).bind fun _ =>
  if a1 < 0 then
  (some ((0 : Int32)))
  else
  ((gI M 3 a0 1).bind fun v1 =>
  if v1 ≤ a1 then
  (some ((0 : Int32)))
  else
  ((gQ M 3 a0 0).bind fun q3 =>
  (aL M q3).bind fun v5 =>
  if v5 ≤ a1 then
  (some ((0 : Int32)))
  else
  (some ((1 : Int32)))))
def fX3_raise (M : Mm) (a0 : Nat) (a1 : Int32) (a2 : Int32) : Option (Mm) :=
  (gC M 3 a0).bind fun _ =>
  (fX3_has M a0 a1).bind fun v2 =>
  if v2 = 0 then
  (some M)
  else
  ((gQ M 3 a0 0).bind fun q5 =>
  (aI M 0 q5 a1).bind fun v7 =>
  (sI M 0 q5 a1 ((v7 + a2))).bind fun M9 =>
  some M9)
def fX10_error (M : Mm) (a0 : Nat) (a1 : Int32) : Option (Int32 × Mm) :=
  (gC M 10 a0).bind fun _ =>
  (gQ M 10 a0 3).bind fun q1 =>
  (fX3_raise M q1 a1 ((1 : Int32))).bind fun M4 =>
  some (((-1000000 : Int32) - a1), M4)
def fX3_exchange (M : Mm) (a0 : Nat) (a1 : Int32) (a2 : Int32) : Option (Int32 × Mm) :=
  (gC M 3 a0).bind fun _ =>
  (fX3_has M a0 a1).bind fun v2 =>
  if v2 = 0 then
  (some ((0 : Int32), M))
  else
  ((gQ M 3 a0 0).bind fun q5 =>
  (aI M 0 q5 a1).bind fun v7 =>
  (gQ M 3 a0 0).bind fun q9 =>
  (sI M 0 q9 a1 a2).bind fun M11 =>
  some (v7, M11))
def jX10_clock_22 (M : Mm) (x0 : Nat)  : Option (Int32 × Mm) :=
  bd2 (fX10_error M x0 ((1 : Int32))) fun v2 M3 =>
  some (v2, M3)
def fX10_clock (M : Mm) (a0 : Nat) (a1 : Int32) (a2 : Int32) : Option (Int32 × Mm) :=
  (gC M 10 a0).bind fun _ =>
  (fX10_within M a1 ((0 : Int32)) ((2 : Int32))).bind fun v2 =>
  if v2 = 0 then
  (jX10_clock_22 M a0)
  else
  ((fX10_within M a2 ((-999 : Int32)) ((999 : Int32))).bind fun v4 =>
  if v4 = 0 then
  (jX10_clock_22 M a0)
  else
  ((gQ M 10 a0 0).bind fun q5 =>
  (gQ M 6 q5 0).bind fun q7 =>
  bd2 (fX3_exchange M q7 a1 a2) fun v10 M11 =>
  some (v10, M11)))
def fX11_in (M : Mm) (a0 : Int64) (a2 : Int64) (a4 : Int64) : Option (Int32) :=
  if (lg_cmp a0 a2) < 0 then
  (some ((0 : Int32)))
  else
  (if 0 < (lg_cmp a0 a4) then
  (some ((0 : Int32)))
  else
  (some ((1 : Int32))))
def fX11_error (M : Mm) (a0 : Nat) (a1 : Int32) : Option (Int32 × Mm) :=
  (gC M 11 a0).bind fun _ =>
  (gQ M 11 a0 3).bind fun q1 =>
  (aI M 0 q1 a1).bind fun v3 =>
  (sI M 0 q1 a1 ((v3 + (1 : Int32)))).bind fun M5 =>
  some (((-1000000 : Int32) - a1), M5)
def jX11_clock_26 (M : Mm) (x0 : Nat)  : Option (Int32 × Mm) :=
  bd2 (fX11_error M x0 ((1 : Int32))) fun v2 M3 =>
  some (v2, M3)
def fX11_clock (M : Mm) (a0 : Nat) (a1 : Int32) (a2 : Int32) : Option (Int32 × Mm) :=
  (gC M 11 a0).bind fun _ =>
  (fX11_in M (((a1).toInt64)) ((0 : Int64)) ((2 : Int64))).bind fun v2 =>
  if v2 = 0 then
  (jX11_clock_26 M a0)
  else
  ((fX11_in M (((a2).toInt64)) ((-999 : Int64)) ((999 : Int64))).bind fun v4 =>
  if v4 = 0 then
  (jX11_clock_26 M a0)
  else
  ((gQ M 11 a0 0).bind fun q5 =>
  (aI M 0 q5 (((9 : Int32) + a1))).bind fun v7 =>
  (gQ M 11 a0 0).bind fun q9 =>
  (sI M 0 q9 (((9 : Int32) + a1)) a2).bind fun M11 =>
  some (v7, M11)))
def fX3_size (M : Mm) (a0 : Nat) : Option (Int32) :=
  (gC M 3 a0).bind fun _ =>
  (gI M 3 a0 1).bind fun v1 =>
  some (v1)
def fX10_bar (M : Mm) (a0 : Nat) (a1 : Int32) : Option (Int32 × Mm) :=
  (gC M 10 a0).bind fun _ =>
  (fX10_within M a1 ((0 : Int32)) ((2 : Int32))).bind fun v2 =>
  if v2 = 0 then
  (bd2 (fX10_error M a0 ((1 : Int32))) fun v26 M27 =>
  some (v26, M27))
  else
  ((gQ M 10 a0 0).bind fun q3 =>
  (gQ M 6 q3 1).bind fun q5 =>
  bd2 (fX3_add M q5 a1) fun v8 M9 =>
  if v8 = 0 then
  (bd2 (fX10_error M9 a0 ((4 : Int32))) fun v21 M22 =>
  some (v21, M22))
  else
  ((gQ M9 10 a0 0).bind fun q12 =>
  (gQ M9 6 q12 1).bind fun q14 =>
  (fX3_size M9 q14).bind fun v17 =>
  some ((v17 - (1 : Int32)), M9)))
def fX11_bar (M : Mm) (a0 : Nat) (a1 : Int32) : Option (Int32 × Mm) :=
  (gC M 11 a0).bind fun _ =>
  (fX11_in M (((a1).toInt64)) ((0 : Int64)) ((2 : Int64))).bind fun v2 =>
  if v2 = 0 then
  (bd2 (fX11_error M a0 ((1 : Int32))) fun v31 M32 =>
  some (v31, M32))
  else
  ((gQ M 11 a0 0).bind fun q3 =>
  (aI M 0 q3 ((0 : Int32))).bind fun v5 =>
  if v5 = (6 : Int32) then
  (bd2 (fX11_error M a0 ((4 : Int32))) fun v26 M27 =>
  some (v26, M27))
  else
  ((gQ M 11 a0 0).bind fun q7 =>
  (gQ M 11 a0 0).bind fun q9 =>
  (aI M 0 q9 ((0 : Int32))).bind fun v11 =>
  (sI M 0 q7 (((12 : Int32) + v11)) a1).bind fun M13 =>
  (gQ M13 11 a0 0).bind fun q15 =>
  (aI M13 0 q15 ((0 : Int32))).bind fun v17 =>
  (sI M13 0 q15 ((0 : Int32)) ((v17 + (1 : Int32)))).bind fun M19 =>
  (gQ M19 11 a0 0).bind fun q21 =>
  (aI M19 0 q21 ((0 : Int32))).bind fun v23 =>
  some ((v23 - (1 : Int32)), M19)))
def fX10_isBar (M : Mm) (a0 : Nat) (a1 : Int32) : Option (Int32) :=
  (gC M 10 a0).bind fun _ =>
  (gQ M 10 a0 0).bind fun q1 =>
  (gQ M 6 q1 1).bind fun q3 =>
  (fX3_size M q3).bind fun v6 =>
  (fX10_within M a1 ((0 : Int32)) ((v6 - (1 : Int32)))).bind fun v10 =>
  (zr v10).bind fun v11 =>
  some (v11)
def fX10_isTenth (M : Mm) (a0 : Int32) : Option (Int32) :=
  (fX10_within M a0 ((0 : Int32)) ((9999 : Int32))).bind fun v2 =>
  (zr v2).bind fun v3 =>
  some (v3)
def fX10_isHeight (M : Mm) (a0 : Int32) : Option (Int32) :=
  (fX10_within M a0 ((1 : Int32)) ((999 : Int32))).bind fun v2 =>
  (zr v2).bind fun v3 =>
  some (v3)
def fX6_addRing (M : Mm) (a0 : Nat) (a1 : Int32) (a2 : Int32) (a3 : Int32) : Option (Int32 × Mm) :=
  (gC M 6 a0).bind fun _ =>
  (gQ M 6 a0 2).bind fun q1 =>
  bd2 (fX3_add M q1 a1) fun v4 M5 =>
  if v4 = 0 then
  (some ((0 : Int32), M5))
  else
  ((gQ M5 6 a0 3).bind fun q8 =>
  bd2 (fX3_add M5 q8 a2) fun v11 M12 =>
  if v11 = 0 then
  (some ((0 : Int32), M12))
  else
  ((gQ M12 6 a0 4).bind fun q15 =>
  bd2 (fX3_add M12 q15 a3) fun v18 M19 =>
  if v18 = 0 then
  (some ((0 : Int32), M19))
  else
  (some ((1 : Int32), M19))))
def fX6_rings (M : Mm) (a0 : Nat) : Option (Int32) :=
  (gC M 6 a0).bind fun _ =>
  (gQ M 6 a0 2).bind fun q1 =>
  (fX3_size M q1).bind fun v4 =>
  some (v4)
def jX10_ring_22 (M : Mm) (x0 : Nat)  : Option (Int32 × Mm) :=
  bd2 (fX10_error M x0 ((1 : Int32))) fun v2 M3 =>
  some (v2, M3)
def fX10_ring (M : Mm) (a0 : Nat) (a1 : Int32) (a2 : Int32) (a3 : Int32) : Option (Int32 × Mm) :=
  (gC M 10 a0).bind fun _ =>
  (fX10_isBar M a0 a1).bind fun v2 =>
  if v2 = 0 then
  (jX10_ring_22 M a0)
  else
  ((fX10_isTenth M a2).bind fun v6 =>
  if v6 = 0 then
  (jX10_ring_22 M a0)
  else
  ((fX10_isHeight M a3).bind fun v8 =>
  if v8 = 0 then
  (jX10_ring_22 M a0)
  else
  ((gQ M 10 a0 0).bind fun q9 =>
  bd2 (fX6_addRing M q9 a1 a2 a3) fun v12 M13 =>
  if v12 = 0 then
  (bd2 (fX10_error M13 a0 ((4 : Int32))) fun v23 M24 =>
  some (v23, M24))
  else
  ((gQ M13 10 a0 0).bind fun q16 =>
  (fX6_rings M13 q16).bind fun v19 =>
  some ((v19 - (1 : Int32)), M13)))))
def fX11_isBar (M : Mm) (a0 : Nat) (a1 : Int32) : Option (Int32) :=
  (gC M 11 a0).bind fun _ =>
  (gQ M 11 a0 0).bind fun q1 =>
  (aI M 0 q1 ((0 : Int32))).bind fun v3 =>
  (fX11_in M (((a1).toInt64)) ((0 : Int64)) ((((v3 - (1 : Int32))).toInt64))).bind fun v6 =>
  (zr v6).bind fun v7 =>
  some (v7)
def fX11_mayRing (M : Mm) (a0 : Int32) (a1 : Int32) : Option (Int32) :=
  (fX11_in M (((a0).toInt64)) ((0 : Int64)) ((9999 : Int64))).bind fun v2 =>
  if v2 = 0 then
  (some ((0 : Int32)))
  else
  ((fX11_in M (((a1).toInt64)) ((1 : Int64)) ((999 : Int64))).bind fun v4 =>
  if v4 = 0 then
  (some ((0 : Int32)))
  else
  (some ((1 : Int32))))
def fX11_rings (M : Mm) (a0 : Nat) (a1 : Int32) (a2 : Int32) (a3 : Int32) : Option (Mm) :=
  (gC M 11 a0).bind fun _ =>
  (gQ M 11 a0 0).bind fun q1 =>
  (aI M 0 q1 ((1 : Int32))).bind fun v3 =>
  (gQ M 11 a0 0).bind fun q5 =>
  (sI M 0 q5 (((18 : Int32) + ((3 : Int32) * v3))) a1).bind fun M7 =>
  (gQ M7 11 a0 0).bind fun q9 =>
  (sI M7 0 q9 ((((18 : Int32) + ((3 : Int32) * v3)) + (1 : Int32))) a2).bind fun M11 =>
  (gQ M11 11 a0 0).bind fun q13 =>
  (sI M11 0 q13 ((((18 : Int32) + ((3 : Int32) * v3)) + (2 : Int32))) a3).bind fun M15 =>
  (gQ M15 11 a0 0).bind fun q17 =>
  (aI M15 0 q17 ((1 : Int32))).bind fun v19 =>
  (sI M15 0 q17 ((1 : Int32)) ((v19 + (1 : Int32)))).bind fun M21 =>
  some M21
def jX11_ring__16 (M : Mm) (x0 : Nat)  : Option (Int32 × Mm) :=
  bd2 (fX11_error M x0 ((1 : Int32))) fun v2 M3 =>
  some (v2, M3)
def fX11_ring_ (M : Mm) (a0 : Nat) (a1 : Int32) (a2 : Int32) (a3 : Int32) : Option (Int32 × Mm) :=
  (gC M 11 a0).bind fun _ =>
  (fX11_isBar M a0 a1).bind fun v2 =>
  if v2 = 0 then
  (jX11_ring__16 M a0)
  else
  ((fX11_mayRing M a2 a3).bind fun v6 =>
  if v6 = 0 then
  (jX11_ring__16 M a0)
  else
  ((gQ M 11 a0 0).bind fun q7 =>
  (aI M 0 q7 ((1 : Int32))).bind fun v9 =>
  if v9 = (96 : Int32) then
  (bd2 (fX11_error M a0 ((4 : Int32))) fun v20 M21 =>
  some (v20, M21))
  else
  ((fX11_rings M a0 a1 a2 a3).bind fun M12 =>
  (gQ M12 11 a0 0).bind fun q15 =>
  (aI M12 0 q15 ((1 : Int32))).bind fun v17 =>
  some ((v17 - (1 : Int32)), M12))))
def fX10_isRing (M : Mm) (a0 : Nat) (a1 : Int32) : Option (Int32) :=
  (gC M 10 a0).bind fun _ =>
  (gQ M 10 a0 0).bind fun q1 =>
  (fX6_rings M q1).bind fun v4 =>
  (fX10_within M a1 ((0 : Int32)) ((v4 - (1 : Int32)))).bind fun v8 =>
  (zr v8).bind fun v9 =>
  some (v9)
def fX3_at (M : Mm) (a0 : Nat) (a1 : Int32) : Option (Int32) :=
  (gC M 3 a0).bind fun _ =>
  if a1 < 0 then
  (some ((0 : Int32)))
  else
  ((gI M 3 a0 1).bind fun v1 =>
  if v1 ≤ a1 then
  (some ((0 : Int32)))
  else
  ((gQ M 3 a0 0).bind fun q3 =>
  (aL M q3).bind fun v5 =>
  if v5 ≤ a1 then
  (some ((0 : Int32)))
  else
  ((gQ M 3 a0 0).bind fun q7 =>
  (aI M 0 q7 a1).bind fun v9 =>
  some (v9))))
def fX6_clockOf (M : Mm) (a0 : Nat) (a1 : Int32) : Option (Int32) :=
  (gC M 6 a0).bind fun _ =>
  (gQ M 6 a0 0).bind fun q1 =>
  (gQ M 6 a0 1).bind fun q3 =>
  (fX3_at M q3 a1).bind fun v6 =>
  (fX3_at M q1 v6).bind fun v10 =>
  some (v10)
def fX6_shownAt (M : Mm) (a0 : Nat) (a1 : Int32) : Option (Int32) :=
  (gC M 6 a0).bind fun _ =>
  (gQ M 6 a0 3).bind fun q1 =>
  (fX3_at M q1 a1).bind fun v4 =>
  (gQ M 6 a0 2).bind fun q7 =>
  (fX3_at M q7 a1).bind fun v10 =>
  (fX6_clockOf M a0 v10).bind fun v14 =>
  some ((v4 + v14))
def fX3_insert (M : Mm) (a0 : Nat) (a1 : Int32) (a2 : Int32) : Option (Mm) :=
  (gC M 3 a0).bind fun _ =>
  if a1 < 0 then
  (some M)
  else
  ((gI M 3 a0 1).bind fun v1 =>
  if v1 < a1 then
  (some M)
  else
  ((gI M 3 a0 1).bind fun v3 =>
  (gQ M 3 a0 0).bind fun q5 =>
  (aL M q5).bind fun v7 =>
  if v3 < v7 then
  ((gQ M 3 a0 0).bind fun q9 =>
  (gQ M 3 a0 0).bind fun q11 =>
  (gI M 3 a0 1).bind fun v13 =>
  (cpI M q9 a1 q11 ((a1 + (1 : Int32))) ((v13 - a1))).bind fun M15 =>
  (gQ M15 3 a0 0).bind fun q17 =>
  (sI M15 0 q17 a1 a2).bind fun M19 =>
  (gI M19 3 a0 1).bind fun v21 =>
  (pF M19 3 a0 1 (.int ((v21 + (1 : Int32))))).bind fun M23 =>
  some M23)
  else
  (some M)))
def jX7_layRing_35 (N : Nat) (M : Mm) (x0 : Nat) (x1 : Int32) (x2 : Int32) (x3 : Int32) (x4 : Int32)  : Option (Mm) :=
  (gQ M 7 x0 0).bind fun q1 =>
  (fX3_insert M q1 x4 x1).bind fun M4 =>
  (gQ M4 7 x0 1).bind fun q7 =>
  (fX3_insert M4 q7 x4 x2).bind fun M10 =>
  (gQ M10 7 x0 2).bind fun q13 =>
  (fX3_insert M10 q13 x4 x3).bind fun M16 =>
  some M16
def BX7_layRing_9 (N : Nat) (K9 : Mm → Nat → Int32 → Int32 → Int32 → Int32 → Option (Mm)) (M : Mm) (x0 : Nat) (x1 : Int32) (x2 : Int32) (x3 : Int32) (x4 : Int32)  : Option (Mm) :=
  if x4 ≤ 0 then
  (jX7_layRing_35 N M x0 x1 x2 x3 x4)
  else
  ((gQ M 7 x0 1).bind fun q1 =>
  (fX3_at M q1 ((x4 - (1 : Int32)))).bind fun v4 =>
  if v4 ≤ x2 then
  (jX7_layRing_35 N M x0 x1 x2 x3 x4)
  else
  (K9 M x0 x1 x2 x3 ((x4 + (-1 : Int32)))))
def LX7_layRing_9 (N : Nat) : Nat → Mm → Nat → Int32 → Int32 → Int32 → Int32 → Option (Mm)
  | 0, _, _, _, _, _, _ => none
  | n + 1, M, x0, x1, x2, x3, x4 => BX7_layRing_9 N (LX7_layRing_9 N n) M x0 x1 x2 x3 x4
def fX7_layRing (N : Nat) (M : Mm) (a0 : Nat) (a1 : Int32) (a2 : Int32) (a3 : Int32) : Option (Mm) :=
  (gC M 7 a0).bind fun _ =>
  (gQ M 7 a0 1).bind fun q1 =>
  (fX3_size M q1).bind fun v4 =>
  LX7_layRing_9 N N M a0 a1 a2 a3 v4
def BX7_lay_23 (N : Nat) (K23 : Mm → Nat → Nat → Int32 → Int32 → Option (Mm)) (M : Mm) (x0 : Nat) (x1 : Nat) (x2 : Int32) (x3 : Int32)  : Option (Mm) :=
  (fX6_rings M x1).bind fun v2 =>
  if v2 ≤ x3 then
  (some M)
  else
  ((gQ M 6 x1 2).bind fun q5 =>
  (fX3_at M q5 x3).bind fun v8 =>
  if v8 = x2 then
  ((fX6_shownAt M x1 x3).bind fun v12 =>
  (gQ M 6 x1 4).bind fun q15 =>
  (fX3_at M q15 x3).bind fun v18 =>
  (fX7_layRing N M x0 x3 v12 v18).bind fun M22 =>
  K23 M22 x0 x1 x2 ((x3 + (1 : Int32))))
  else
  (K23 M x0 x1 x2 ((x3 + (1 : Int32)))))
def LX7_lay_23 (N : Nat) : Nat → Mm → Nat → Nat → Int32 → Int32 → Option (Mm)
  | 0, _, _, _, _, _ => none
  | n + 1, M, x0, x1, x2, x3 => BX7_lay_23 N (LX7_lay_23 N n) M x0 x1 x2 x3
def fX7_lay (N : Nat) (M : Mm) (a0 : Nat) (a1 : Nat) (a2 : Int32) : Option (Mm) :=
  (gC M 7 a0).bind fun _ =>
  (gQ M 7 a0 0).bind fun q1 =>
  (fX3_clear M q1).bind fun M4 =>
  (gQ M4 7 a0 1).bind fun q7 =>
  (fX3_clear M4 q7).bind fun M10 =>
  (gQ M10 7 a0 2).bind fun q13 =>
  (fX3_clear M10 q13).bind fun M16 =>
  LX7_lay_23 N N M16 a0 a1 a2 ((0 : Int32))
def BX7_placeOf_2 (N : Nat) (K2 : Mm → Nat → Int32 → Int32 → Option (Int32)) (M : Mm) (x0 : Nat) (x1 : Int32) (x2 : Int32)  : Option (Int32) :=
  (gQ M 7 x0 0).bind fun q1 =>
  (fX3_size M q1).bind fun v4 =>
  if v4 ≤ x2 then
  (some (x2))
  else
  ((gQ M 7 x0 0).bind fun q7 =>
  (fX3_at M q7 x2).bind fun v10 =>
  if v10 = x1 then
  (some (x2))
  else
  (K2 M x0 x1 ((x2 + (1 : Int32)))))
def LX7_placeOf_2 (N : Nat) : Nat → Mm → Nat → Int32 → Int32 → Option (Int32)
  | 0, _, _, _, _ => none
  | n + 1, M, x0, x1, x2 => BX7_placeOf_2 N (LX7_placeOf_2 N n) M x0 x1 x2
def fX7_placeOf (N : Nat) (M : Mm) (a0 : Nat) (a1 : Int32) : Option (Int32) :=
  (gC M 7 a0).bind fun _ =>
  LX7_placeOf_2 N N M a0 a1 ((0 : Int32))
def fJ9_min_7cf53 (M : Mm) (a0 : Int32) (a1 : Int32) : Option (Int32) :=
  if a1 < a0 then
  (some (a1))
  else
  (some (a0))
def fX7_gapAt (M : Mm) (a0 : Nat) (a1 : Int32) : Option (Int32) :=
  (gC M 7 a0).bind fun _ =>
  if 0 < a1 then
  ((gQ M 7 a0 1).bind fun q1 =>
  (fX3_at M q1 a1).bind fun v4 =>
  (gQ M 7 a0 1).bind fun q7 =>
  (fX3_at M q7 ((a1 - (1 : Int32)))).bind fun v10 =>
  (fJ9_min_7cf53 M ((999 : Int32)) ((v4 - v10))).bind fun v14 =>
  some (v14))
  else
  (some ((999 : Int32)))
def jX10_ringOf_17 (N : Nat) (M : Mm) (x0 : Nat)  : Option (Int32 × Mm) :=
  bd2 (fX10_error M x0 ((1 : Int32))) fun v2 M3 =>
  some (v2, M3)
def fX10_ringOf (N : Nat) (M : Mm) (a0 : Nat) (a1 : Int32) (a2 : Int32) : Option (Int32 × Mm) :=
  (gC M 10 a0).bind fun _ =>
  (fX10_isRing M a0 a1).bind fun v2 =>
  if v2 = 0 then
  (jX10_ringOf_17 N M a0)
  else
  ((fX10_within M a2 ((0 : Int32)) ((4 : Int32))).bind fun v6 =>
  if v6 = 0 then
  (jX10_ringOf_17 N M a0)
  else
  (if a2 = (0 : Int32) then
  ((gQ M 10 a0 0).bind fun q7 =>
  (gQ M 6 q7 2).bind fun q9 =>
  (fX3_at M q9 a1).bind fun v12 =>
  some (v12, M))
  else
  (if a2 = (1 : Int32) then
  ((gQ M 10 a0 0).bind fun q15 =>
  (gQ M 6 q15 3).bind fun q17 =>
  (fX3_at M q17 a1).bind fun v20 =>
  some (v20, M))
  else
  (if a2 = (2 : Int32) then
  ((gQ M 10 a0 0).bind fun q23 =>
  (gQ M 6 q23 4).bind fun q25 =>
  (fX3_at M q25 a1).bind fun v28 =>
  some (v28, M))
  else
  (if a2 = (3 : Int32) then
  ((gQ M 10 a0 0).bind fun q31 =>
  (fX6_shownAt M q31 a1).bind fun v34 =>
  some (v34, M))
  else
  ((gQ M 10 a0 6).bind fun q37 =>
  (gQ M 10 a0 0).bind fun q39 =>
  (gQ M 10 a0 0).bind fun q41 =>
  (gQ M 6 q41 2).bind fun q43 =>
  (fX3_at M q43 a1).bind fun v46 =>
  (fX7_lay N M q37 q39 v46).bind fun M50 =>
  (gQ M50 10 a0 6).bind fun q53 =>
  (gQ M50 10 a0 6).bind fun q55 =>
  (fX7_placeOf N M50 q55 a1).bind fun v58 =>
  (fX7_gapAt M50 q53 v58).bind fun v62 =>
  some (v62, M50)))))))
def fX11_isRing (M : Mm) (a0 : Nat) (a1 : Int32) : Option (Int32) :=
  (gC M 11 a0).bind fun _ =>
  (gQ M 11 a0 0).bind fun q1 =>
  (aI M 0 q1 ((1 : Int32))).bind fun v3 =>
  (fX11_in M (((a1).toInt64)) ((0 : Int64)) ((((v3 - (1 : Int32))).toInt64))).bind fun v6 =>
  (zr v6).bind fun v7 =>
  some (v7)
def fX11_ring (M : Mm) (a0 : Nat) (a1 : Int32) (a2 : Int32) : Option (Int32) :=
  (gC M 11 a0).bind fun _ =>
  (gQ M 11 a0 0).bind fun q1 =>
  (aI M 0 q1 ((((18 : Int32) + ((3 : Int32) * a1)) + a2))).bind fun v3 =>
  some (v3)
def fX11_clockOf (M : Mm) (a0 : Nat) (a1 : Int32) : Option (Int32) :=
  (gC M 11 a0).bind fun _ =>
  (gQ M 11 a0 0).bind fun q1 =>
  (gQ M 11 a0 0).bind fun q3 =>
  (aI M 0 q3 (((12 : Int32) + a1))).bind fun v5 =>
  (aI M 0 q1 (((9 : Int32) + v5))).bind fun v7 =>
  some (v7)
def fX11_shownOf (M : Mm) (a0 : Nat) (a1 : Int32) : Option (Int32) :=
  (gC M 11 a0).bind fun _ =>
  (fX11_ring M a0 a1 ((1 : Int32))).bind fun v2 =>
  (fX11_ring M a0 a1 ((0 : Int32))).bind fun v6 =>
  (fX11_clockOf M a0 v6).bind fun v10 =>
  some ((v2 + v10))
def fX11_isAhead (M : Mm) (a0 : Nat) (a1 : Int32) (a2 : Int32) : Option (Int32) :=
  (gC M 11 a0).bind fun _ =>
  (fX11_ring M a0 a1 ((1 : Int32))).bind fun v2 =>
  (fX11_ring M a0 a2 ((1 : Int32))).bind fun v6 =>
  if v2 < v6 then
  (some ((1 : Int32)))
  else
  ((fX11_ring M a0 a1 ((1 : Int32))).bind fun v10 =>
  (fX11_ring M a0 a2 ((1 : Int32))).bind fun v14 =>
  if v10 = v14 then
  (if a2 ≤ a1 then
  (some ((0 : Int32)))
  else
  (some ((1 : Int32))))
  else
  (some ((0 : Int32))))
def jX11_gapOf_82 (N : Nat) (M : Mm)  (s0 : Int32) : Option (Int32) :=
  if (999 : Int32) ≤ s0 then
  (some ((999 : Int32)))
  else
  (some (s0))
def BX11_gapOf_4 (N : Nat) (K4 : Mm → Nat → Int32 → Int32 → Int32 → Option (Int32)) (M : Mm) (x0 : Nat) (x1 : Int32) (x2 : Int32) (x3 : Int32)  : Option (Int32) :=
  (gQ M 11 x0 0).bind fun q1 =>
  (aI M 0 q1 ((1 : Int32))).bind fun v3 =>
  if v3 ≤ x3 then
  (if 0 ≤ x2 then
  ((fX11_ring M x0 x1 ((1 : Int32))).bind fun v6 =>
  (fX11_ring M x0 x2 ((1 : Int32))).bind fun v10 =>
  jX11_gapOf_82 N M ((v6 - v10)))
  else
  (jX11_gapOf_82 N M ((999 : Int32))))
  else
  ((fX11_ring M x0 x3 ((0 : Int32))).bind fun v14 =>
  (fX11_ring M x0 x1 ((0 : Int32))).bind fun v18 =>
  if v14 = v18 then
  ((fX11_isAhead M x0 x3 x1).bind fun v22 =>
  if v22 = 0 then
  (K4 M x0 x1 x2 ((x3 + (1 : Int32))))
  else
  (if x2 < 0 then
  (K4 M x0 x1 x3 ((x3 + (1 : Int32))))
  else
  ((fX11_isAhead M x0 x2 x3).bind fun v26 =>
  if v26 = 0 then
  (K4 M x0 x1 x2 ((x3 + (1 : Int32))))
  else
  (K4 M x0 x1 x3 ((x3 + (1 : Int32)))))))
  else
  (K4 M x0 x1 x2 ((x3 + (1 : Int32)))))
def LX11_gapOf_4 (N : Nat) : Nat → Mm → Nat → Int32 → Int32 → Int32 → Option (Int32)
  | 0, _, _, _, _, _ => none
  | n + 1, M, x0, x1, x2, x3 => BX11_gapOf_4 N (LX11_gapOf_4 N n) M x0 x1 x2 x3
def fX11_gapOf (N : Nat) (M : Mm) (a0 : Nat) (a1 : Int32) : Option (Int32) :=
  (gC M 11 a0).bind fun _ =>
  LX11_gapOf_4 N N M a0 a1 ((-1 : Int32)) ((0 : Int32))
def jX11_ringOf_20 (N : Nat) (M : Mm) (x0 : Nat)  : Option (Int32 × Mm) :=
  bd2 (fX11_error M x0 ((1 : Int32))) fun v2 M3 =>
  some (v2, M3)
def fX11_ringOf (N : Nat) (M : Mm) (a0 : Nat) (a1 : Int32) (a2 : Int32) : Option (Int32 × Mm) :=
  (gC M 11 a0).bind fun _ =>
  (fX11_isRing M a0 a1).bind fun v2 =>
  if v2 = 0 then
  (jX11_ringOf_20 N M a0)
  else
  ((fX11_in M (((a2).toInt64)) ((0 : Int64)) ((4 : Int64))).bind fun v6 =>
  if v6 = 0 then
  (jX11_ringOf_20 N M a0)
  else
  (if (3 : Int32) ≤ a2 then
  (if a2 = (3 : Int32) then
  ((fX11_shownOf M a0 a1).bind fun v12 =>
  some (v12, M))
  else
  ((fX11_gapOf N M a0 a1).bind fun v8 =>
  some (v8, M)))
  else
  ((fX11_ring M a0 a1 a2).bind fun v16 =>
  some (v16, M))))
def jX10_onTape_12 (N : Nat) (M : Mm) (x0 : Nat)  : Option (Int32 × Mm) :=
  bd2 (fX10_error M x0 ((1 : Int32))) fun v2 M3 =>
  some (v2, M3)
def fX10_onTape (N : Nat) (M : Mm) (a0 : Nat) (a1 : Int32) (a2 : Int32) : Option (Int32 × Mm) :=
  (gC M 10 a0).bind fun _ =>
  (fX10_isBar M a0 a1).bind fun v2 =>
  if v2 = 0 then
  (jX10_onTape_12 N M a0)
  else
  (if 0 ≤ a2 then
  ((gQ M 10 a0 6).bind fun q5 =>
  (gQ M 10 a0 0).bind fun q7 =>
  (fX7_lay N M q5 q7 a1).bind fun M10 =>
  (gQ M10 10 a0 6).bind fun q13 =>
  (gQ M10 7 q13 0).bind fun q15 =>
  (fX3_size M10 q15).bind fun v18 =>
  if a2 < v18 then
  ((gQ M10 10 a0 6).bind fun q21 =>
  (gQ M10 7 q21 0).bind fun q23 =>
  (fX3_at M10 q23 a2).bind fun v26 =>
  some (v26, M10))
  else
  (bd2 (fX10_error M10 a0 ((2 : Int32))) fun v30 M31 =>
  some (v30, M31)))
  else
  (jX10_onTape_12 N M a0))
def BX11_taped_31 (N : Nat) (K2 : Mm → Nat → Int32 → Int32 → Int32 → Option (Int32)) (K31 : Mm → Nat → Int32 → Int32 → Int32 → Int32 → Int32 → Option (Int32)) (M : Mm) (x0 : Nat) (x1 : Int32) (x2 : Int32) (x3 : Int32) (x4 : Int32) (x5 : Int32)  : Option (Int32) :=
  (gQ M 11 x0 0).bind fun q1 =>
  (aI M 0 q1 ((1 : Int32))).bind fun v3 =>
  if v3 ≤ x5 then
  (if x4 = x2 then
  (some (x3))
  else
  (K2 M x0 x1 x2 ((x3 + (1 : Int32)))))
  else
  ((fX11_ring M x0 x5 ((0 : Int32))).bind fun v6 =>
  if v6 = x1 then
  ((fX11_isAhead M x0 x5 x3).bind fun v10 =>
  if v10 = 0 then
  (K31 M x0 x1 x2 x3 ((x4 + (0 : Int32))) ((x5 + (1 : Int32))))
  else
  (K31 M x0 x1 x2 x3 ((x4 + (1 : Int32))) ((x5 + (1 : Int32)))))
  else
  (K31 M x0 x1 x2 x3 ((x4 + (0 : Int32))) ((x5 + (1 : Int32)))))
def LX11_taped_31 (N : Nat) (K2 : Mm → Nat → Int32 → Int32 → Int32 → Option (Int32)) : Nat → Mm → Nat → Int32 → Int32 → Int32 → Int32 → Int32 → Option (Int32)
  | 0, _, _, _, _, _, _, _ => none
  | n + 1, M, x0, x1, x2, x3, x4, x5 => BX11_taped_31 N K2 (LX11_taped_31 N K2 n) M x0 x1 x2 x3 x4 x5
def BX11_taped_2 (N : Nat) (K2 : Mm → Nat → Int32 → Int32 → Int32 → Option (Int32)) (M : Mm) (x0 : Nat) (x1 : Int32) (x2 : Int32) (x3 : Int32)  : Option (Int32) :=
  (gQ M 11 x0 0).bind fun q1 =>
  (aI M 0 q1 ((1 : Int32))).bind fun v3 =>
  if v3 ≤ x3 then
  (some ((-1 : Int32)))
  else
  ((fX11_ring M x0 x3 ((0 : Int32))).bind fun v6 =>
  if v6 = x1 then
  (LX11_taped_31 N K2 N M x0 x1 x2 x3 ((0 : Int32)) ((0 : Int32)))
  else
  (K2 M x0 x1 x2 ((x3 + (1 : Int32)))))
def LX11_taped_2 (N : Nat) : Nat → Mm → Nat → Int32 → Int32 → Int32 → Option (Int32)
  | 0, _, _, _, _, _ => none
  | n + 1, M, x0, x1, x2, x3 => BX11_taped_2 N (LX11_taped_2 N n) M x0 x1 x2 x3
def fX11_taped (N : Nat) (M : Mm) (a0 : Nat) (a1 : Int32) (a2 : Int32) : Option (Int32) :=
  (gC M 11 a0).bind fun _ =>
  LX11_taped_2 N N M a0 a1 a2 ((0 : Int32))
def jX11_onTape_12 (N : Nat) (M : Mm) (x0 : Nat)  : Option (Int32 × Mm) :=
  bd2 (fX11_error M x0 ((1 : Int32))) fun v2 M3 =>
  some (v2, M3)
def fX11_onTape (N : Nat) (M : Mm) (a0 : Nat) (a1 : Int32) (a2 : Int32) : Option (Int32 × Mm) :=
  (gC M 11 a0).bind fun _ =>
  (fX11_isBar M a0 a1).bind fun v2 =>
  if v2 = 0 then
  (jX11_onTape_12 N M a0)
  else
  (if 0 ≤ a2 then
  ((fX11_taped N M a0 a1 a2).bind fun v6 =>
  if 0 ≤ v6 then
  (some (v6, M))
  else
  (bd2 (fX11_error M a0 ((2 : Int32))) fun v10 M11 =>
  some (v10, M11)))
  else
  (jX11_onTape_12 N M a0))
def fX10_isLine (M : Mm) (a0 : Int32) : Option (Int32) :=
  (fX10_within M a0 ((0 : Int32)) ((999 : Int32))).bind fun v2 =>
  (zr v2).bind fun v3 =>
  some (v3)
def fX6_textOf (M : Mm) (a0 : Nat) (a1 : Int32) : Option (Option Nat) :=
  (gC M 6 a0).bind fun _ =>
  if a1 < 0 then
  (some (none))
  else
  ((gQ M 6 a0 6).bind fun q1 =>
  (aL M q1).bind fun v3 =>
  if v3 ≤ a1 then
  (some (none))
  else
  ((gQ M 6 a0 6).bind fun q5 =>
  (aR M 2 q5 a1).bind fun r7 =>
  some (r7)))
def fJ9_floorMod_7cf53 (M : Mm) (a0 : Int32) (a1 : Int32) : Option (Int32) :=
  (mI a0 a1).bind fun v1 =>
  if 0 ≤ (a0 ^^^ a1) then
  (some (v1))
  else
  (if v1 = 0 then
  (some (v1))
  else
  (some ((v1 + a1))))
def fX3_takeLast (M : Mm) (a0 : Nat) : Option (Int32 × Mm) :=
  (gC M 3 a0).bind fun _ =>
  (gI M 3 a0 1).bind fun v1 =>
  if v1 ≤ 0 then
  (some ((0 : Int32), M))
  else
  ((gI M 3 a0 1).bind fun v3 =>
  (gQ M 3 a0 0).bind fun q5 =>
  (aL M q5).bind fun v7 =>
  if v3 ≤ v7 then
  ((gI M 3 a0 1).bind fun v9 =>
  (pF M 3 a0 1 (.int ((v9 - (1 : Int32))))).bind fun M11 =>
  (gQ M11 3 a0 0).bind fun q13 =>
  (gI M11 3 a0 1).bind fun v15 =>
  (aI M11 0 q13 v15).bind fun v17 =>
  some (v17, M11))
  else
  (some ((0 : Int32), M)))
def fX8_truth (M : Mm) (a0 : Int32) : Option (Int32) :=
  if a0 = 0 then
  (some ((0 : Int32)))
  else
  (some ((1 : Int32)))
def jX8_workedOut_180 (M : Mm)  (s0 : Int32) : Option (Int32 × Mm) :=
  (fX8_truth M s0).bind fun v2 =>
  some (v2, M)
def jX8_workedOut_166 (M : Mm)  (s0 : Int32) : Option (Int32 × Mm) :=
  (fX8_truth M s0).bind fun v2 =>
  some (v2, M)
def jX8_workedOut_152 (M : Mm)  (s0 : Int32) : Option (Int32 × Mm) :=
  (fX8_truth M s0).bind fun v2 =>
  some (v2, M)
def jX8_workedOut_138 (M : Mm)  (s0 : Int32) : Option (Int32 × Mm) :=
  (fX8_truth M s0).bind fun v2 =>
  some (v2, M)
def jX8_workedOut_137 (M : Mm)   : Option (Int32 × Mm) :=
  jX8_workedOut_138 M ((0 : Int32))
def jX8_workedOut_121 (M : Mm)  (s0 : Int32) : Option (Int32 × Mm) :=
  (fX8_truth M s0).bind fun v2 =>
  some (v2, M)
def jX8_workedOut_116 (M : Mm)   : Option (Int32 × Mm) :=
  jX8_workedOut_121 M ((1 : Int32))
def fX8_workedOut (M : Mm) (a0 : Nat) (a1 : Int32) : Option (Int32 × Mm) :=
  (gC M 8 a0).bind fun _ =>
  (gQ M 8 a0 1).bind fun q1 =>
  bd2 (fX3_takeLast M q1) fun v4 M5 =>
  (gQ M5 8 a0 1).bind fun q8 =>
  bd2 (fX3_takeLast M5 q8) fun v11 M12 =>
  if a1 = (37 : Int32) then
  (if v4 = 0 then
  (some ((0 : Int32), M12))
  else
  ((mI v11 v4).bind fun v15 =>
  some (v15, M12)))
  else
  (if a1 = (38 : Int32) then
  (if v11 = 0 then
  (jX8_workedOut_137 M12)
  else
  (if v4 = 0 then
  (jX8_workedOut_137 M12)
  else
  (jX8_workedOut_138 M12 ((1 : Int32)))))
  else
  (if a1 = (42 : Int32) then
  (some ((v11 * v4), M12))
  else
  (if a1 = (43 : Int32) then
  (some ((v11 + v4), M12))
  else
  (if a1 = (45 : Int32) then
  (some ((v11 - v4), M12))
  else
  (if a1 = (47 : Int32) then
  (if v4 = 0 then
  (some ((0 : Int32), M12))
  else
  ((dI v11 v4).bind fun v17 =>
  some (v17, M12)))
  else
  (if a1 = (60 : Int32) then
  (if v4 ≤ v11 then
  (jX8_workedOut_152 M12 ((0 : Int32)))
  else
  (jX8_workedOut_152 M12 ((1 : Int32))))
  else
  (if a1 = (61 : Int32) then
  (if v11 = v4 then
  (jX8_workedOut_166 M12 ((1 : Int32)))
  else
  (jX8_workedOut_166 M12 ((0 : Int32))))
  else
  (if a1 = (62 : Int32) then
  (if v11 ≤ v4 then
  (jX8_workedOut_180 M12 ((0 : Int32)))
  else
  (jX8_workedOut_180 M12 ((1 : Int32))))
  else
  (if a1 = (124 : Int32) then
  (if v11 = 0 then
  (if v4 = 0 then
  (jX8_workedOut_121 M12 ((0 : Int32)))
  else
  (jX8_workedOut_116 M12))
  else
  (jX8_workedOut_116 M12))
  else
  (some ((0 : Int32), M12)))))))))))
def jX8_value_183 (N : Nat) (K10 : Mm → Nat → Int32 → Int32 → Int32 → Int32 → Int32 → Option (Int32 × Mm)) (M : Mm) (x0 : Nat) (x1 : Int32) (x2 : Int32) (x3 : Int32) (x4 : Int32) (x5 : Int32) (s0 : Nat) (s1 : Int32) : Option (Int32 × Mm) :=
  bd2 (fX3_add M s0 s1) fun v2 M3 =>
  K10 M3 x0 x1 x2 x3 x4 ((x5 + (1 : Int32)))
def jX8_value_152 (N : Nat) (K10 : Mm → Nat → Int32 → Int32 → Int32 → Int32 → Int32 → Option (Int32 × Mm)) (M : Mm) (x0 : Nat) (x1 : Int32) (x2 : Int32) (x3 : Int32) (x4 : Int32) (x5 : Int32) (s0 : Nat) (s1 : Int32) : Option (Int32 × Mm) :=
  (fX8_truth M s1).bind fun v2 =>
  bd2 (fX3_add M s0 v2) fun v4 M5 =>
  K10 M5 x0 x1 x2 x3 x4 ((x5 + (1 : Int32)))
def BX8_value_10 (N : Nat) (K10 : Mm → Nat → Int32 → Int32 → Int32 → Int32 → Int32 → Option (Int32 × Mm)) (M : Mm) (x0 : Nat) (x1 : Int32) (x2 : Int32) (x3 : Int32) (x4 : Int32) (x5 : Int32)  : Option (Int32 × Mm) :=
  (gQ M 8 x0 0).bind fun q1 =>
  (fX3_size M q1).bind fun v4 =>
  if v4 ≤ x5 then
  ((gQ M 8 x0 1).bind fun q7 =>
  bd2 (fX3_takeLast M q7) fun v10 M11 =>
  some (v10, M11))
  else
  ((gQ M 8 x0 0).bind fun q14 =>
  (fX3_at M q14 x5).bind fun v17 =>
  if v17 = (-33 : Int32) then
  ((gQ M 8 x0 1).bind fun q20 =>
  (gQ M 8 x0 1).bind fun q22 =>
  bd2 (fX3_takeLast M q22) fun v25 M26 =>
  if v25 = 0 then
  (jX8_value_152 N K10 M26 x0 x1 x2 x3 x4 x5 q20 ((1 : Int32)))
  else
  (jX8_value_152 N K10 M26 x0 x1 x2 x3 x4 x5 q20 ((0 : Int32))))
  else
  (if v17 = (-4 : Int32) then
  ((gQ M 8 x0 1).bind fun q29 =>
  bd2 (fX3_add M q29 x4) fun v32 M33 =>
  K10 M33 x0 x1 x2 x3 x4 ((x5 + (1 : Int32))))
  else
  (if v17 = (-3 : Int32) then
  ((gQ M 8 x0 1).bind fun q36 =>
  bd2 (fX3_add M q36 x3) fun v39 M40 =>
  K10 M40 x0 x1 x2 x3 x4 ((x5 + (1 : Int32))))
  else
  (if v17 = (-2 : Int32) then
  ((gQ M 8 x0 1).bind fun q43 =>
  bd2 (fX3_add M q43 x2) fun v46 M47 =>
  K10 M47 x0 x1 x2 x3 x4 ((x5 + (1 : Int32))))
  else
  (if v17 = (-1 : Int32) then
  ((gQ M 8 x0 1).bind fun q50 =>
  bd2 (fX3_add M q50 x1) fun v53 M54 =>
  K10 M54 x0 x1 x2 x3 x4 ((x5 + (1 : Int32))))
  else
  ((gQ M 8 x0 1).bind fun q57 =>
  if v17 < 0 then
  (bd2 (fX8_workedOut M x0 ((-v17))) fun v60 M61 =>
  jX8_value_183 N K10 M61 x0 x1 x2 x3 x4 x5 q57 v60)
  else
  (jX8_value_183 N K10 M x0 x1 x2 x3 x4 x5 q57 v17)))))))
def LX8_value_10 (N : Nat) : Nat → Mm → Nat → Int32 → Int32 → Int32 → Int32 → Int32 → Option (Int32 × Mm)
  | 0, _, _, _, _, _, _, _ => none
  | n + 1, M, x0, x1, x2, x3, x4, x5 => BX8_value_10 N (LX8_value_10 N n) M x0 x1 x2 x3 x4 x5
def fX8_value (N : Nat) (M : Mm) (a0 : Nat) (a1 : Int32) (a2 : Int32) (a3 : Int32) (a4 : Int32) : Option (Int32 × Mm) :=
  (gC M 8 a0).bind fun _ =>
  (gQ M 8 a0 1).bind fun q1 =>
  (fX3_clear M q1).bind fun M4 =>
  LX8_value_10 N N M4 a0 a1 a2 a3 a4 ((0 : Int32))
def jX7_hear_88 (N : Nat) (K29 : Mm → Nat → Int32 → Option Nat → Int32 → Option (Mm)) (M : Mm) (x0 : Nat) (x2 : Int32) (x3 : Option Nat) (x4 : Int32) (s0 : Nat) (s1 : Int32) : Option (Mm) :=
  bd2 (fX3_add M s0 s1) fun v2 M3 =>
  K29 M3 x0 x2 x3 ((x4 + (1 : Int32)))
def BX7_hear_29 (N : Nat) (K29 : Mm → Nat → Int32 → Option Nat → Int32 → Option (Mm)) (M : Mm) (x0 : Nat) (x2 : Int32) (x3 : Option Nat) (x4 : Int32)  : Option (Mm) :=
  (gQ M 7 x0 0).bind fun q1 =>
  (fX3_size M q1).bind fun v4 =>
  if v4 ≤ x4 then
  (some M)
  else
  ((gQ M 7 x0 3).bind fun q7 =>
  om x3 (jX7_hear_88 N K29 M x0 x2 none x4 q7 ((1 : Int32)))
  (fun q9 => (gQ M 7 x0 2).bind fun q10 =>
  (fX3_at M q10 x4).bind fun v13 =>
  (fX7_gapAt M x0 x4).bind fun v17 =>
  (gQ M 7 x0 1).bind fun q20 =>
  (fX3_at M q20 x4).bind fun v23 =>
  (fJ9_floorMod_7cf53 M v23 ((240 : Int32))).bind fun v27 =>
  bd2 (fX8_value N M q9 v13 v17 v27 x2) fun v29 M30 =>
  jX7_hear_88 N K29 M30 x0 x2 ((some q9)) x4 q7 v29))
def LX7_hear_29 (N : Nat) : Nat → Mm → Nat → Int32 → Option Nat → Int32 → Option (Mm)
  | 0, _, _, _, _, _ => none
  | n + 1, M, x0, x2, x3, x4 => BX7_hear_29 N (LX7_hear_29 N n) M x0 x2 x3 x4
def fX7_hear (N : Nat) (M : Mm) (a0 : Nat) (a1 : Nat) (a2 : Int32) : Option (Mm) :=
  (gC M 7 a0).bind fun _ =>
  (fX7_lay N M a0 a1 a2).bind fun M2 =>
  (gQ M2 7 a0 3).bind fun q5 =>
  (fX3_clear M2 q5).bind fun M8 =>
  (gQ M8 6 a1 1).bind fun q11 =>
  (fX3_at M8 q11 a2).bind fun v14 =>
  (fX6_textOf M8 a1 v14).bind fun r18 =>
  LX7_hear_29 N N M8 a0 a2 r18 ((0 : Int32))
def fX7_isCounted (M : Mm) (a0 : Nat) (a1 : Int32) (a2 : Int32) : Option (Int32) :=
  (gC M 7 a0).bind fun _ =>
  (gQ M 7 a0 2).bind fun q1 =>
  (fX3_at M q1 a1).bind fun v4 =>
  if v4 ≤ a2 then
  (some ((0 : Int32)))
  else
  ((gQ M 7 a0 3).bind fun q7 =>
  (fX3_at M q7 a1).bind fun v10 =>
  if v10 = 0 then
  (some ((0 : Int32)))
  else
  (some ((1 : Int32))))
def jX10_counts_15 (N : Nat) (M : Mm) (x0 : Nat)  : Option (Int32 × Mm) :=
  bd2 (fX10_error M x0 ((1 : Int32))) fun v2 M3 =>
  some (v2, M3)
def fX10_counts (N : Nat) (M : Mm) (a0 : Nat) (a1 : Int32) (a2 : Int32) : Option (Int32 × Mm) :=
  (gC M 10 a0).bind fun _ =>
  (fX10_isRing M a0 a1).bind fun v2 =>
  if v2 = 0 then
  (jX10_counts_15 N M a0)
  else
  ((fX10_isLine M a2).bind fun v6 =>
  if v6 = 0 then
  (jX10_counts_15 N M a0)
  else
  ((gQ M 10 a0 6).bind fun q7 =>
  (gQ M 10 a0 0).bind fun q9 =>
  (gQ M 10 a0 0).bind fun q11 =>
  (gQ M 6 q11 2).bind fun q13 =>
  (fX3_at M q13 a1).bind fun v16 =>
  (fX7_hear N M q7 q9 v16).bind fun M20 =>
  (gQ M20 10 a0 6).bind fun q23 =>
  (gQ M20 10 a0 6).bind fun q25 =>
  (fX7_placeOf N M20 q25 a1).bind fun v28 =>
  (fX7_isCounted M20 q23 v28 a2).bind fun v32 =>
  if v32 = 0 then
  (some ((0 : Int32), M20))
  else
  (some ((1 : Int32), M20))))
def fX11_isLine (M : Mm) (a0 : Int32) : Option (Int32) :=
  (fX11_in M (((a0).toInt64)) ((0 : Int64)) ((999 : Int64))).bind fun v2 =>
  (zr v2).bind fun v3 =>
  some (v3)
def fX11_rest (M : Mm) (a0 : Int32) (a1 : Int32) : Option (Int32) :=
  (mI a0 a1).bind fun v1 =>
  if 0 ≤ v1 then
  (some (v1))
  else
  (some ((v1 + a1)))
def fX11_worked (M : Mm) (a0 : Int32) (a1 : Int32) (a2 : Int32) : Option (Int32) :=
  if a0 = (38 : Int32) then
  (if a1 = 0 then
  (some ((0 : Int32)))
  else
  (if a2 = 0 then
  (some ((0 : Int32)))
  else
  (some ((1 : Int32)))))
  else
  (if a0 = (42 : Int32) then
  (some ((a1 * a2)))
  else
  (if a0 = (43 : Int32) then
  (some ((a1 + a2)))
  else
  (if a0 = (45 : Int32) then
  (some ((a1 - a2)))
  else
  (if a0 = (47 : Int32) then
  (if a2 = 0 then
  (some ((0 : Int32)))
  else
  ((dI a1 a2).bind fun v1 =>
  some (v1)))
  else
  (if a0 = (60 : Int32) then
  (if a2 ≤ a1 then
  (some ((0 : Int32)))
  else
  (some ((1 : Int32))))
  else
  (if a0 = (61 : Int32) then
  (if a1 = a2 then
  (some ((1 : Int32)))
  else
  (some ((0 : Int32))))
  else
  (if a0 = (62 : Int32) then
  (if a1 ≤ a2 then
  (some ((0 : Int32)))
  else
  (some ((1 : Int32))))
  else
  (if a0 = (124 : Int32) then
  (if a1 = 0 then
  (if a2 = 0 then
  (some ((0 : Int32)))
  else
  (some ((1 : Int32))))
  else
  (some ((1 : Int32))))
  else
  (if a2 = 0 then
  (some ((0 : Int32)))
  else
  ((mI a1 a2).bind fun v3 =>
  some (v3)))))))))))
def BX11_says_14 (N : Nat) (K14 : Mm → Nat → Int32 → Int32 → Int32 → Option (Int32 × Mm)) (M : Mm) (x0 : Nat) (x2 : Int32) (x3 : Int32) (x4 : Int32)  : Option (Int32 × Mm) :=
  (gQ M 11 x0 0).bind fun q1 =>
  (aI M 0 q1 ((x2 + (1 : Int32)))).bind fun v3 =>
  if v3 ≤ x4 then
  ((gQ M 11 x0 16).bind fun q5 =>
  (aI M 0 q5 ((0 : Int32))).bind fun v7 =>
  some (v7, M))
  else
  ((gQ M 11 x0 0).bind fun q9 =>
  (aI M 0 q9 (((x2 + (2 : Int32)) + x4))).bind fun v11 =>
  if (20000 : Int32) ≤ v11 then
  (if v11 = (20033 : Int32) then
  ((gQ M 11 x0 16).bind fun q27 =>
  (gQ M 11 x0 16).bind fun q29 =>
  (aI M 0 q29 ((x3 - (1 : Int32)))).bind fun v31 =>
  if v31 = 0 then
  ((sI M 0 q27 ((x3 - (1 : Int32))) ((1 : Int32))).bind fun M35 =>
  K14 M35 x0 x2 x3 ((x4 + (1 : Int32))))
  else
  ((sI M 0 q27 ((x3 - (1 : Int32))) ((0 : Int32))).bind fun M33 =>
  K14 M33 x0 x2 x3 ((x4 + (1 : Int32)))))
  else
  ((gQ M 11 x0 16).bind fun q13 =>
  (gQ M 11 x0 16).bind fun q15 =>
  (aI M 0 q15 (((x3 + (-1 : Int32)) - (1 : Int32)))).bind fun v17 =>
  (gQ M 11 x0 16).bind fun q19 =>
  (aI M 0 q19 ((x3 + (-1 : Int32)))).bind fun v21 =>
  (fX11_worked M ((v11 - (20000 : Int32))) v17 v21).bind fun v24 =>
  (sI M 0 q13 (((x3 + (-1 : Int32)) - (1 : Int32))) v24).bind fun M25 =>
  K14 M25 x0 x2 ((x3 + (-1 : Int32))) ((x4 + (1 : Int32)))))
  else
  ((gQ M 11 x0 16).bind fun q37 =>
  if (10000 : Int32) ≤ v11 then
  ((gQ M 11 x0 15).bind fun q39 =>
  (aI M 0 q39 ((v11 - (10000 : Int32)))).bind fun v41 =>
  (sI M 0 q37 x3 v41).bind fun M43 =>
  K14 M43 x0 x2 ((x3 + (1 : Int32))) ((x4 + (1 : Int32))))
  else
  ((sI M 0 q37 x3 v11).bind fun M45 =>
  K14 M45 x0 x2 ((x3 + (1 : Int32))) ((x4 + (1 : Int32))))))
def LX11_says_14 (N : Nat) : Nat → Mm → Nat → Int32 → Int32 → Int32 → Option (Int32 × Mm)
  | 0, _, _, _, _, _ => none
  | n + 1, M, x0, x2, x3, x4 => BX11_says_14 N (LX11_says_14 N n) M x0 x2 x3 x4
def fX11_says (N : Nat) (M : Mm) (a0 : Nat) (a1 : Int32) : Option (Int32 × Mm) :=
  (gC M 11 a0).bind fun _ =>
  LX11_says_14 N N M a0 (((482 : Int32) + ((52 : Int32) * a1))) ((0 : Int32)) ((0 : Int32))
def BX11_readAll_2 (N : Nat) (K2 : Mm → Nat → Int32 → Option (Mm)) (M : Mm) (x0 : Nat) (x1 : Int32)  : Option (Mm) :=
  (gQ M 11 x0 0).bind fun q1 =>
  (aI M 0 q1 ((1 : Int32))).bind fun v3 =>
  if v3 ≤ x1 then
  (some M)
  else
  ((fX11_ring M x0 x1 ((0 : Int32))).bind fun v6 =>
  (gQ M 11 x0 4).bind fun q9 =>
  (fX11_shownOf M x0 x1).bind fun v12 =>
  (sI M 0 q9 x1 v12).bind fun M15 =>
  (gQ M15 11 x0 0).bind fun q17 =>
  (aI M15 0 q17 (((12 : Int32) + v6))).bind fun v19 =>
  (gQ M15 11 x0 5).bind fun q21 =>
  (sI M15 1 q21 x1 ((1 : Int32))).bind fun M23 =>
  (gQ M23 11 x0 0).bind fun q25 =>
  (aI M23 0 q25 (((482 : Int32) + ((52 : Int32) * v19)))).bind fun v27 =>
  if v27 = 0 then
  (K2 M23 x0 ((x1 + (1 : Int32))))
  else
  ((gQ M23 11 x0 15).bind fun q29 =>
  (fX11_ring M23 x0 x1 ((2 : Int32))).bind fun v32 =>
  (sI M23 0 q29 ((0 : Int32)) v32).bind fun M35 =>
  (gQ M35 11 x0 15).bind fun q37 =>
  (fX11_gapOf N M35 x0 x1).bind fun v40 =>
  (sI M35 0 q37 ((1 : Int32)) v40).bind fun M43 =>
  (gQ M43 11 x0 15).bind fun q45 =>
  (gQ M43 11 x0 4).bind fun q47 =>
  (aI M43 0 q47 x1).bind fun v49 =>
  (fX11_rest M43 v49 ((240 : Int32))).bind fun v52 =>
  (sI M43 0 q45 ((2 : Int32)) v52).bind fun M53 =>
  (gQ M53 11 x0 15).bind fun q55 =>
  (sI M53 0 q55 ((3 : Int32)) v6).bind fun M57 =>
  (gQ M57 11 x0 5).bind fun q59 =>
  bd2 (fX11_says N M57 x0 v19) fun v62 M63 =>
  if v62 = 0 then
  ((sI M63 1 q59 x1 ((0 : Int32))).bind fun M66 =>
  K2 M66 x0 ((x1 + (1 : Int32))))
  else
  ((sI M63 1 q59 x1 ((1 : Int32))).bind fun M68 =>
  K2 M68 x0 ((x1 + (1 : Int32))))))
def LX11_readAll_2 (N : Nat) : Nat → Mm → Nat → Int32 → Option (Mm)
  | 0, _, _, _ => none
  | n + 1, M, x0, x1 => BX11_readAll_2 N (LX11_readAll_2 N n) M x0 x1
def fX11_readAll (N : Nat) (M : Mm) (a0 : Nat) : Option (Mm) :=
  (gC M 11 a0).bind fun _ =>
  LX11_readAll_2 N N M a0 ((0 : Int32))
def fX11_isCounted (M : Mm) (a0 : Nat) (a1 : Int32) (a2 : Int32) (a3 : Int32) : Option (Int32) :=
  (gC M 11 a0).bind fun _ =>
  (fX11_ring M a0 a1 ((0 : Int32))).bind fun v2 =>
  if v2 = a2 then
  ((fX11_ring M a0 a1 ((2 : Int32))).bind fun v6 =>
  if v6 ≤ a3 then
  (some ((0 : Int32)))
  else
  ((gQ M 11 a0 5).bind fun q9 =>
  (aI M 1 q9 a1).bind fun v11 =>
  if v11 = 0 then
  (some ((0 : Int32)))
  else
  (some ((1 : Int32)))))
  else
  (some ((0 : Int32)))
def jX11_counts_15 (N : Nat) (M : Mm) (x0 : Nat)  : Option (Int32 × Mm) :=
  bd2 (fX11_error M x0 ((1 : Int32))) fun v2 M3 =>
  some (v2, M3)
def fX11_counts (N : Nat) (M : Mm) (a0 : Nat) (a1 : Int32) (a2 : Int32) : Option (Int32 × Mm) :=
  (gC M 11 a0).bind fun _ =>
  (fX11_isRing M a0 a1).bind fun v2 =>
  if v2 = 0 then
  (jX11_counts_15 N M a0)
  else
  ((fX11_isLine M a2).bind fun v6 =>
  if v6 = 0 then
  (jX11_counts_15 N M a0)
  else
  ((fX11_readAll N M a0).bind fun M8 =>
  (fX11_ring M8 a0 a1 ((0 : Int32))).bind fun v12 =>
  (fX11_isCounted M8 a0 a1 v12 a2).bind fun v16 =>
  if v16 = 0 then
  (some ((0 : Int32), M8))
  else
  (some ((1 : Int32), M8))))
def fX10_sheetAt (M : Mm) (a0 : Nat) (a1 : Int32) : Option (Option Nat) :=
  (gC M 10 a0).bind fun _ =>
  (gQ M 10 a0 4).bind fun q1 =>
  (aL M q1).bind fun v3 =>
  (fX10_within M a1 ((0 : Int32)) ((v3 - (1 : Int32)))).bind fun v6 =>
  if v6 = 0 then
  (some (none))
  else
  ((gQ M 10 a0 4).bind fun q7 =>
  (aR M 4 q7 a1).bind fun r9 =>
  some (r9))
def fX4_isMissing (M : Mm) (a0 : Nat) : Option (Int32) :=
  (gC M 4 a0).bind fun _ =>
  (gI M 4 a0 1).bind fun v1 =>
  if v1 = 0 then
  (some ((1 : Int32)))
  else
  (some ((0 : Int32)))
def fX4_hasNumber (M : Mm) (a0 : Nat) (a1 : Int32) : Option (Int32) :=
  (gC M 4 a0).bind fun _ =>
  (gQ M 4 a0 0).bind fun q1 =>
  (fX3_has M q1 a1).bind fun v4 =>
  (zr v4).bind fun v7 =>
  some (v7)
def fX4_numberAt (M : Mm) (a0 : Nat) (a1 : Int32) : Option (Int32) :=
  (gC M 4 a0).bind fun _ =>
  (gQ M 4 a0 0).bind fun q1 =>
  (fX3_at M q1 a1).bind fun v4 =>
  some (v4)
def fX10_addPair (M : Mm) (a0 : Nat) (a1 : Int32) (a2 : Nat) (a3 : Int32) : Option (Int32 × Mm) :=
  (gC M 10 a0).bind fun _ =>
  (fX4_hasNumber M a2 a3).bind fun v2 =>
  if v2 = 0 then
  (some ((0 : Int32), M))
  else
  ((fX4_hasNumber M a2 ((a3 + (1 : Int32)))).bind fun v6 =>
  if v6 = 0 then
  (some ((0 : Int32), M))
  else
  ((fX4_numberAt M a2 a3).bind fun v10 =>
  (fX4_numberAt M a2 ((a3 + (1 : Int32)))).bind fun v14 =>
  (fX10_isTenth M v10).bind fun v18 =>
  if v18 = 0 then
  (some ((0 : Int32), M))
  else
  ((fX10_isHeight M v14).bind fun v20 =>
  if v20 = 0 then
  (some ((0 : Int32), M))
  else
  ((gQ M 10 a0 0).bind fun q21 =>
  bd2 (fX6_addRing M q21 a1 v10 v14) fun v24 M25 =>
  if v24 = 0 then
  (some ((0 : Int32), M25))
  else
  (some ((1 : Int32), M25))))))
def BX10_rows_40 (N : Nat) (K40 : Mm → Nat → Int32 → Nat → Int32 → Option (Int32 × Mm)) (M : Mm) (x0 : Nat) (x1 : Int32) (x3 : Nat) (x4 : Int32)  : Option (Int32 × Mm) :=
  if (40 : Int32) ≤ x4 then
  (some (x4, M))
  else
  (bd2 (fX10_addPair M x0 x1 x3 (((2 : Int32) * x4))) fun v2 M3 =>
  if v2 = 0 then
  (some (x4, M3))
  else
  (K40 M3 x0 x1 x3 ((x4 + (1 : Int32)))))
def LX10_rows_40 (N : Nat) : Nat → Mm → Nat → Int32 → Nat → Int32 → Option (Int32 × Mm)
  | 0, _, _, _, _, _ => none
  | n + 1, M, x0, x1, x3, x4 => BX10_rows_40 N (LX10_rows_40 N n) M x0 x1 x3 x4
def jX10_rows_18 (N : Nat) (M : Mm) (x0 : Nat)  : Option (Int32 × Mm) :=
  bd2 (fX10_error M x0 ((1 : Int32))) fun v2 M3 =>
  some (v2, M3)
def fX10_rows (N : Nat) (M : Mm) (a0 : Nat) (a1 : Int32) (a2 : Int32) : Option (Int32 × Mm) :=
  (gC M 10 a0).bind fun _ =>
  (fX10_sheetAt M a0 a2).bind fun r2 =>
  (fX10_isBar M a0 a1).bind fun v6 =>
  if v6 = 0 then
  (jX10_rows_18 N M a0)
  else
  (om r2 (jX10_rows_18 N M a0)
  (fun q9 => (fX4_isMissing M q9).bind fun v11 =>
  if v11 = 0 then
  (LX10_rows_40 N N M a0 a1 q9 ((0 : Int32)))
  else
  (bd2 (fX10_error M a0 ((2 : Int32))) fun v15 M16 =>
  some (v15, M16))))
def fX11_isSheet (M : Mm) (a0 : Int32) : Option (Int32) :=
  (fX11_in M (((a0).toInt64)) ((0 : Int64)) ((3 : Int64))).bind fun v2 =>
  (zr v2).bind fun v3 =>
  some (v3)
def BX11_rows_41 (N : Nat) (K41 : Mm → Nat → Int32 → Int32 → Int32 → Int32 → Option (Int32 × Mm)) (M : Mm) (x0 : Nat) (x1 : Int32) (x2 : Int32) (x3 : Int32) (x4 : Int32)  : Option (Int32 × Mm) :=
  (gQ M 11 x0 7).bind fun q1 =>
  (aI M 0 q1 x2).bind fun v3 =>
  if v3 ≤ (x4 + (1 : Int32)) then
  (some (x3, M))
  else
  ((gQ M 11 x0 8).bind fun q5 =>
  (aI M 0 q5 ((((40 : Int32) * x2) + x4))).bind fun v7 =>
  (gQ M 11 x0 8).bind fun q9 =>
  (aI M 0 q9 (((((40 : Int32) * x2) + x4) + (1 : Int32)))).bind fun v11 =>
  (fX11_mayRing M v7 v11).bind fun v14 =>
  if v14 = 0 then
  (some (x3, M))
  else
  ((gQ M 11 x0 0).bind fun q15 =>
  (aI M 0 q15 ((1 : Int32))).bind fun v17 =>
  if v17 = (96 : Int32) then
  (some (x3, M))
  else
  ((fX11_rings M x0 x1 v7 v11).bind fun M20 =>
  K41 M20 x0 x1 x2 ((x3 + (1 : Int32))) ((x4 + (2 : Int32))))))
def LX11_rows_41 (N : Nat) : Nat → Mm → Nat → Int32 → Int32 → Int32 → Int32 → Option (Int32 × Mm)
  | 0, _, _, _, _, _, _ => none
  | n + 1, M, x0, x1, x2, x3, x4 => BX11_rows_41 N (LX11_rows_41 N n) M x0 x1 x2 x3 x4
def jX11_rows_15 (N : Nat) (M : Mm) (x0 : Nat)  : Option (Int32 × Mm) :=
  bd2 (fX11_error M x0 ((1 : Int32))) fun v2 M3 =>
  some (v2, M3)
def fX11_rows (N : Nat) (M : Mm) (a0 : Nat) (a1 : Int32) (a2 : Int32) : Option (Int32 × Mm) :=
  (gC M 11 a0).bind fun _ =>
  (fX11_isBar M a0 a1).bind fun v2 =>
  if v2 = 0 then
  (jX11_rows_15 N M a0)
  else
  ((fX11_isSheet M a2).bind fun v6 =>
  if v6 = 0 then
  (jX11_rows_15 N M a0)
  else
  ((gQ M 11 a0 6).bind fun q7 =>
  (aI M 0 q7 a2).bind fun v9 =>
  if v9 = 0 then
  (bd2 (fX11_error M a0 ((2 : Int32))) fun v12 M13 =>
  some (v12, M13))
  else
  (LX11_rows_41 N N M a0 a1 a2 ((0 : Int32)) ((0 : Int32)))))
def fX3_room (M : Mm) (a0 : Nat) : Option (Int32) :=
  (gC M 3 a0).bind fun _ =>
  (gQ M 3 a0 0).bind fun q1 =>
  (aL M q1).bind fun v3 =>
  (gI M 3 a0 1).bind fun v5 =>
  some ((v3 - v5))
def BX10_feed_39 (N : Nat) (K39 : Mm → Nat → Int64 → Int32 → Int32 → Option (Int32 × Mm)) (M : Mm) (x0 : Nat) (x1 : Int64) (x3 : Int32) (x4 : Int32)  : Option (Int32 × Mm) :=
  if x3 ≤ x4 then
  ((gQ M 10 x0 0).bind fun q1 =>
  (gQ M 6 q1 5).bind fun q3 =>
  (fX3_size M q3).bind fun v6 =>
  some (v6, M))
  else
  ((gQ M 10 x0 0).bind fun q9 =>
  (gQ M 6 q9 5).bind fun q11 =>
  bd2 (fX3_add M q11 (((((((x1).toUInt64 >>> ((((8 : Int32) * x4)).toInt64.toUInt64 &&& Int64.toUInt64 63)).toInt64) &&& (255 : Int64))).toInt32))) fun v14 M15 =>
  K39 M15 x0 x1 x3 ((x4 + (1 : Int32))))
def LX10_feed_39 (N : Nat) : Nat → Mm → Nat → Int64 → Int32 → Int32 → Option (Int32 × Mm)
  | 0, _, _, _, _, _ => none
  | n + 1, M, x0, x1, x3, x4 => BX10_feed_39 N (LX10_feed_39 N n) M x0 x1 x3 x4
def fX10_feed (N : Nat) (M : Mm) (a0 : Nat) (a1 : Int64) (a3 : Int32) : Option (Int32 × Mm) :=
  (gC M 10 a0).bind fun _ =>
  (fX10_within M a3 ((1 : Int32)) ((8 : Int32))).bind fun v2 =>
  if v2 = 0 then
  (bd2 (fX10_error M a0 ((1 : Int32))) fun v17 M18 =>
  some (v17, M18))
  else
  ((gQ M 10 a0 0).bind fun q3 =>
  (gQ M 6 q3 5).bind fun q5 =>
  (fX3_room M q5).bind fun v8 =>
  if a3 ≤ v8 then
  (LX10_feed_39 N N M a0 a1 a3 ((0 : Int32)))
  else
  (bd2 (fX10_error M a0 ((4 : Int32))) fun v12 M13 =>
  some (v12, M13)))
def BX11_feed_41 (N : Nat) (K41 : Mm → Nat → Int64 → Int32 → Int32 → Option (Int32 × Mm)) (M : Mm) (x0 : Nat) (x1 : Int64) (x3 : Int32) (x4 : Int32)  : Option (Int32 × Mm) :=
  if x3 ≤ x4 then
  ((gQ M 11 x0 0).bind fun q1 =>
  (aI M 0 q1 ((6 : Int32))).bind fun v3 =>
  some (v3, M))
  else
  ((gQ M 11 x0 0).bind fun q5 =>
  (gQ M 11 x0 0).bind fun q7 =>
  (aI M 0 q7 ((6 : Int32))).bind fun v9 =>
  (sI M 0 q5 (((412 : Int32) + v9)) ((((((x1 >>> ((((8 : Int32) * x4)).toInt64 &&& 63))) &&& (255 : Int64))).toInt32))).bind fun M11 =>
  (gQ M11 11 x0 0).bind fun q13 =>
  (aI M11 0 q13 ((6 : Int32))).bind fun v15 =>
  (sI M11 0 q13 ((6 : Int32)) ((v15 + (1 : Int32)))).bind fun M17 =>
  K41 M17 x0 x1 x3 ((x4 + (1 : Int32))))
def LX11_feed_41 (N : Nat) : Nat → Mm → Nat → Int64 → Int32 → Int32 → Option (Int32 × Mm)
  | 0, _, _, _, _, _ => none
  | n + 1, M, x0, x1, x3, x4 => BX11_feed_41 N (LX11_feed_41 N n) M x0 x1 x3 x4
def fX11_feed (N : Nat) (M : Mm) (a0 : Nat) (a1 : Int64) (a3 : Int32) : Option (Int32 × Mm) :=
  (gC M 11 a0).bind fun _ =>
  (fX11_in M (((a3).toInt64)) ((1 : Int64)) ((8 : Int64))).bind fun v2 =>
  if v2 = 0 then
  (bd2 (fX11_error M a0 ((1 : Int32))) fun v13 M14 =>
  some (v13, M14))
  else
  ((gQ M 11 a0 0).bind fun q3 =>
  (aI M 0 q3 ((6 : Int32))).bind fun v5 =>
  if (v5 + a3) ≤ (50 : Int32) then
  (LX11_feed_41 N N M a0 a1 a3 ((0 : Int32)))
  else
  (bd2 (fX11_error M a0 ((4 : Int32))) fun v8 M9 =>
  some (v8, M9)))
def fX3_become (M : Mm) (a0 : Nat) (a1 : Nat) : Option (Mm) :=
  (gC M 3 a0).bind fun _ =>
  (gI M 3 a1 1).bind fun v1 =>
  (gQ M 3 a0 0).bind fun q3 =>
  (aL M q3).bind fun v5 =>
  (fJ9_min_7cf53 M v1 v5).bind fun v8 =>
  (pF M 3 a0 1 (.int v8)).bind fun M9 =>
  (gQ M9 3 a1 0).bind fun q11 =>
  (gQ M9 3 a0 0).bind fun q13 =>
  (gI M9 3 a0 1).bind fun v15 =>
  (cpI M9 q11 ((0 : Int32)) q13 ((0 : Int32)) v15).bind fun M17 =>
  some M17
def fX2_signsOf (M : Mm) (a0 : Int32) : Option (Nat) :=
  if a0 = (0 : Int32) then
  (some (6))
  else
  (if a0 = (1 : Int32) then
  (some (7))
  else
  (if a0 = (2 : Int32) then
  (some (8))
  else
  (if a0 = (3 : Int32) then
  (some (9))
  else
  (some (10)))))
def fJ0_isLatin1_aae02 (M : Mm) (a0 : Nat) : Option (Int32) :=
  if (1 : Int32) = 0 then
  (some ((0 : Int32)))
  else
  ((sK a0).bind fun _ =>
  if (0 : Int32) = 0 then
  (some ((1 : Int32)))
  else
  (some ((0 : Int32))))
def fJ0_coder_7d493 (M : Mm) (a0 : Nat) : Option (Int32) :=
  if (1 : Int32) = 0 then
  (some ((1 : Int32)))
  else
  ((sK a0).bind fun _ =>
  some ((0 : Int32)))
def fJ0_length_8abf5 (M : Mm) (a0 : Nat) : Option (Int32) :=
  (sK a0).bind fun _ =>
  (sK a0).bind fun _ =>
  (sK a0).bind fun _ =>
  (fJ0_coder_7d493 M a0).bind fun v6 =>
  some (((sLn a0) >>> (v6 &&& 31)))
def fJ1_canEncode_9a6ad (M : Mm) (a0 : Int32) : Option (Int32) :=
  if a0 < 0 then
  (some ((0 : Int32)))
  else
  (if (255 : Int32) < a0 then
  (some ((0 : Int32)))
  else
  (some ((1 : Int32))))
def BJ1_indexOfChar_4cfef_7 (N : Nat) (K7 : Mm → Nat → Int32 → Int32 → Int32 → Option (Int32)) (M : Mm) (x0 : Nat) (x3 : Int32) (x4 : Int32) (x5 : Int32)  : Option (Int32) :=
  if x3 ≤ x5 then
  (some ((-1 : Int32)))
  else
  ((sBy x0 x5).bind fun v1 =>
  if v1 = x4 then
  (some (x5))
  else
  (K7 M x0 x3 x4 ((x5 + (1 : Int32)))))
def LJ1_indexOfChar_4cfef_7 (N : Nat) : Nat → Mm → Nat → Int32 → Int32 → Int32 → Option (Int32)
  | 0, _, _, _, _, _ => none
  | n + 1, M, x0, x3, x4, x5 => BJ1_indexOfChar_4cfef_7 N (LJ1_indexOfChar_4cfef_7 N n) M x0 x3 x4 x5
def fJ1_indexOfChar_4cfef (N : Nat) (M : Mm) (a0 : Nat) (a1 : Int32) (a2 : Int32) (a3 : Int32) : Option (Int32) :=
  LJ1_indexOfChar_4cfef_7 N N M a0 a3 (((a1).toInt8.toInt32)) a2
def fJ1_indexOf_4cfef (N : Nat) (M : Mm) (a0 : Nat) (a1 : Int32) (a2 : Int32) (a3 : Int32) : Option (Int32) :=
  (fJ1_canEncode_9a6ad M a1).bind fun v2 =>
  if v2 = 0 then
  (some ((-1 : Int32)))
  else
  ((fJ9_max_7cf53 M a2 ((0 : Int32))).bind fun v4 =>
  (sK a0).bind fun _ =>
  (fJ9_min_7cf53 M a3 ((sLn a0))).bind fun v8 =>
  if v4 < v8 then
  ((fJ1_indexOfChar_4cfef N M a0 a1 v4 v8).bind fun v10 =>
  some (v10))
  else
  (some ((-1 : Int32))))
def fJ0_indexOf_7cf53 (N : Nat) (M : Mm) (a0 : Nat) (a1 : Int32) (a2 : Int32) : Option (Int32) :=
  (sK a0).bind fun _ =>
  (fJ0_isLatin1_aae02 M a0).bind fun v2 =>
  if v2 = 0 then
  ((sK a0).bind fun _ =>
  (sK a0).bind fun _ =>
  (fJ0_length_8abf5 M a0).bind fun v8 =>
  none)
  else
  ((sK a0).bind fun _ =>
  (sK a0).bind fun _ =>
  (fJ0_length_8abf5 M a0).bind fun v14 =>
  (fJ1_indexOf_4cfef N M a0 a1 a2 v14).bind fun v18 =>
  some (v18))
def fJ0_indexOf_0f7a4 (N : Nat) (M : Mm) (a0 : Nat) (a1 : Int32) : Option (Int32) :=
  (sK a0).bind fun _ =>
  (fJ0_indexOf_7cf53 N M a0 a1 ((0 : Int32))).bind fun v2 =>
  some (v2)
def fX2_isNextOneOf (N : Nat) (M : Mm) (a0 : Nat) (a1 : Nat) : Option (Int32) :=
  (gC M 2 a0).bind fun _ =>
  (gQ M 2 a0 1).bind fun q1 =>
  (gI M 2 a0 3).bind fun v3 =>
  (fX3_has M q1 v3).bind fun v6 =>
  if v6 = 0 then
  (some ((0 : Int32)))
  else
  ((gQ M 2 a0 1).bind fun q9 =>
  (gI M 2 a0 3).bind fun v11 =>
  (fX3_at M q9 v11).bind fun v14 =>
  (sK a1).bind fun _ =>
  (fJ0_indexOf_0f7a4 N M a1 ((((v14).toUInt32 % 65536).toInt32))).bind fun v18 =>
  if v18 < 0 then
  (some ((0 : Int32)))
  else
  (some ((1 : Int32))))
def jX2_readNumber_54 (N : Nat) (M : Mm) (x0 : Nat) (x1 : Int32) (x2 : Int32)  : Option (Int32 × Mm) :=
  if x2 = 0 then
  (some ((0 : Int32), M))
  else
  ((gQ M 2 x0 0).bind fun q1 =>
  bd2 (fX3_add M q1 x1) fun v4 M5 =>
  some ((1 : Int32), M5))
def BX2_readNumber_4 (N : Nat) (K4 : Mm → Nat → Int32 → Int32 → Option (Int32 × Mm)) (M : Mm) (x0 : Nat) (x1 : Int32) (x2 : Int32)  : Option (Int32 × Mm) :=
  if (4 : Int32) ≤ x2 then
  (jX2_readNumber_54 N M x0 x1 x2)
  else
  ((fX2_isNextOneOf N M x0 5).bind fun v2 =>
  if v2 = 0 then
  (jX2_readNumber_54 N M x0 x1 x2)
  else
  ((gQ M 2 x0 1).bind fun q5 =>
  (gI M 2 x0 3).bind fun v7 =>
  (fX3_at M q5 v7).bind fun v10 =>
  (gI M 2 x0 3).bind fun v13 =>
  (pF M 2 x0 3 (.int ((v13 + (1 : Int32))))).bind fun M15 =>
  K4 M15 x0 (((((10 : Int32) * x1) + v10) - (48 : Int32))) ((x2 + (1 : Int32)))))
def LX2_readNumber_4 (N : Nat) : Nat → Mm → Nat → Int32 → Int32 → Option (Int32 × Mm)
  | 0, _, _, _, _ => none
  | n + 1, M, x0, x1, x2 => BX2_readNumber_4 N (LX2_readNumber_4 N n) M x0 x1 x2
def fX2_readNumber (N : Nat) (M : Mm) (a0 : Nat) : Option (Int32 × Mm) :=
  (gC M 2 a0).bind fun _ =>
  LX2_readNumber_4 N N M a0 ((0 : Int32)) ((0 : Int32))
def BX2_readLevel_26 (q0 : Mm → Nat → Int32 → Int32 → Option (Int32 × Mm)) (q1 : Mm → Nat → Int32 → Option (Int32 × Mm)) (q2 : Mm → Nat → Int32 → Option (Int32 × Mm)) (N : Nat) (K26 : Mm → Nat → Int32 → Int32 → Int32 → Option (Int32 × Mm)) (M : Mm) (x0 : Nat) (x1 : Int32) (x2 : Int32) (x3 : Int32)  : Option (Int32 × Mm) :=
  if (50 : Int32) ≤ x3 then
  (some ((1 : Int32), M))
  else
  ((fX2_signsOf M x1).bind fun v2 =>
  (fX2_isNextOneOf N M x0 v2).bind fun v4 =>
  if v4 = 0 then
  (some ((1 : Int32), M))
  else
  ((gQ M 2 x0 1).bind fun q7 =>
  (gI M 2 x0 3).bind fun v9 =>
  (fX3_at M q7 v9).bind fun v12 =>
  (gI M 2 x0 3).bind fun v15 =>
  (pF M 2 x0 3 (.int ((v15 + (1 : Int32))))).bind fun M17 =>
  bd2 (q0 M17 x0 ((x1 + (1 : Int32))) x2) fun v20 M21 =>
  if v20 = 0 then
  (some ((0 : Int32), M21))
  else
  ((gQ M21 2 x0 0).bind fun q24 =>
  bd2 (fX3_add M21 q24 ((-v12))) fun v27 M28 =>
  if x1 = (2 : Int32) then
  (some ((1 : Int32), M28))
  else
  (K26 M28 x0 x1 x2 ((x3 + (1 : Int32)))))))
def LX2_readLevel_26 (q0 : Mm → Nat → Int32 → Int32 → Option (Int32 × Mm)) (q1 : Mm → Nat → Int32 → Option (Int32 × Mm)) (q2 : Mm → Nat → Int32 → Option (Int32 × Mm)) (N : Nat) : Nat → Mm → Nat → Int32 → Int32 → Int32 → Option (Int32 × Mm)
  | 0, _, _, _, _, _ => none
  | n + 1, M, x0, x1, x2, x3 => BX2_readLevel_26 q0 q1 q2 N (LX2_readLevel_26 q0 q1 q2 N n) M x0 x1 x2 x3
def FX2_readLevel (q0 : Mm → Nat → Int32 → Int32 → Option (Int32 × Mm)) (q1 : Mm → Nat → Int32 → Option (Int32 × Mm)) (q2 : Mm → Nat → Int32 → Option (Int32 × Mm)) (N : Nat) (M : Mm) (a0 : Nat) (a1 : Int32) (a2 : Int32) : Option (Int32 × Mm) :=
  (gC M 2 a0).bind fun _ =>
  if a1 < (5 : Int32) then
  (bd2 (q0 M a0 ((a1 + (1 : Int32))) a2) fun v2 M3 =>
  if v2 = 0 then
  (some ((0 : Int32), M3))
  else
  (LX2_readLevel_26 q0 q1 q2 N N M3 a0 a1 a2 ((0 : Int32))))
  else
  (bd2 (q2 M a0 a2) fun v7 M8 =>
  (zr v7).bind fun v11 =>
  some (v11, M8))
def FX2_readOpened (q0 : Mm → Nat → Int32 → Int32 → Option (Int32 × Mm)) (q1 : Mm → Nat → Int32 → Option (Int32 × Mm)) (q2 : Mm → Nat → Int32 → Option (Int32 × Mm)) (N : Nat) (M : Mm) (a0 : Nat) (a1 : Int32) : Option (Int32 × Mm) :=
  (gC M 2 a0).bind fun _ =>
  (gQ M 2 a0 1).bind fun q1 =>
  (gI M 2 a0 3).bind fun v3 =>
  (fX3_at M q1 v3).bind fun v6 =>
  (gI M 2 a0 3).bind fun v9 =>
  (pF M 2 a0 3 (.int ((v9 + (1 : Int32))))).bind fun M11 =>
  if v6 = (33 : Int32) then
  (bd2 (q2 M11 a0 a1) fun v27 M28 =>
  if v27 = 0 then
  (some ((0 : Int32), M28))
  else
  ((gQ M28 2 a0 0).bind fun q31 =>
  bd2 (fX3_add M28 q31 ((-v6))) fun v34 M35 =>
  some ((1 : Int32), M35)))
  else
  (bd2 (q0 M11 a0 ((0 : Int32)) a1) fun v14 M15 =>
  if v14 = 0 then
  (some ((0 : Int32), M15))
  else
  ((fX2_isNextOneOf N M15 a0 4).bind fun v19 =>
  if v19 = 0 then
  (some ((0 : Int32), M15))
  else
  ((gI M15 2 a0 3).bind fun v22 =>
  (pF M15 2 a0 3 (.int ((v22 + (1 : Int32))))).bind fun M24 =>
  some ((1 : Int32), M24))))
def FX2_readOperand (q0 : Mm → Nat → Int32 → Int32 → Option (Int32 × Mm)) (q1 : Mm → Nat → Int32 → Option (Int32 × Mm)) (q2 : Mm → Nat → Int32 → Option (Int32 × Mm)) (N : Nat) (M : Mm) (a0 : Nat) (a1 : Int32) : Option (Int32 × Mm) :=
  (gC M 2 a0).bind fun _ =>
  (fX2_isNextOneOf N M a0 3).bind fun v2 =>
  if v2 = 0 then
  ((gS M 2 a0 2).bind fun q5 =>
  (fX2_isNextOneOf N M a0 q5).bind fun v8 =>
  if v8 = 0 then
  (bd2 (fX2_readNumber N M a0) fun v12 M13 =>
  (zr v12).bind fun v16 =>
  some (v16, M13))
  else
  ((gQ M 2 a0 0).bind fun q18 =>
  (gS M 2 a0 2).bind fun q20 =>
  (gQ M 2 a0 1).bind fun q22 =>
  (gI M 2 a0 3).bind fun v24 =>
  (fX3_at M q22 v24).bind fun v27 =>
  (sK q20).bind fun _ =>
  (fJ0_indexOf_0f7a4 N M q20 ((((v27).toUInt32 % 65536).toInt32))).bind fun v31 =>
  bd2 (fX3_add M q18 (((-1 : Int32) - v31))) fun v35 M36 =>
  (gI M36 2 a0 3).bind fun v39 =>
  (pF M36 2 a0 3 (.int ((v39 + (1 : Int32))))).bind fun M41 =>
  some ((1 : Int32), M41)))
  else
  (if (5 : Int32) ≤ a1 then
  (some ((0 : Int32), M))
  else
  (bd2 (q1 M a0 ((a1 + (1 : Int32)))) fun v44 M45 =>
  if v44 = 0 then
  (some ((0 : Int32), M45))
  else
  (some ((1 : Int32), M45))))
def GX2_readLevel (N : Nat) : Nat → (Mm → Nat → Int32 → Int32 → Option (Int32 × Mm)) × (Mm → Nat → Int32 → Option (Int32 × Mm)) × (Mm → Nat → Int32 → Option (Int32 × Mm))
  | 0 => (fun _ _ _ _ => none, fun _ _ _ => none, fun _ _ _ => none)
  | n + 1 => (FX2_readLevel (GX2_readLevel N n).1 (GX2_readLevel N n).2.1 (GX2_readLevel N n).2.2 N, FX2_readOpened (GX2_readLevel N n).1 (GX2_readLevel N n).2.1 (GX2_readLevel N n).2.2 N, FX2_readOperand (GX2_readLevel N n).1 (GX2_readLevel N n).2.1 (GX2_readLevel N n).2.2 N)
def fX2_readLevel (N : Nat) (M : Mm) (a0 : Nat) (a1 : Int32) (a2 : Int32) : Option (Int32 × Mm) := (GX2_readLevel N 100).1 M a0 a1 a2
def fX2_readOpened (N : Nat) (M : Mm) (a0 : Nat) (a1 : Int32) : Option (Int32 × Mm) := (GX2_readLevel N 100).2.1 M a0 a1
def fX2_readOperand (N : Nat) (M : Mm) (a0 : Nat) (a1 : Int32) : Option (Int32 × Mm) := (GX2_readLevel N 100).2.2 M a0 a1
def jX2_read_53 (N : Nat) (M : Mm) (x0 : Nat) (s0 : Int32) : Option (Int32 × Mm) :=
  if s0 = 0 then
  ((gI M 2 x0 3).bind fun v1 =>
  some (v1, M))
  else
  (some ((-1 : Int32), M))
def jX2_read_52 (N : Nat) (M : Mm) (x0 : Nat)  : Option (Int32 × Mm) :=
  jX2_read_53 N M x0 ((0 : Int32))
def fX2_read (N : Nat) (M : Mm) (a0 : Nat) (a1 : Nat) (a2 : Nat) : Option (Int32 × Mm) :=
  (gC M 2 a0).bind fun _ =>
  (gQ M 2 a0 0).bind fun q1 =>
  (fX3_clear M q1).bind fun M4 =>
  (gQ M4 2 a0 1).bind fun q7 =>
  (fX3_become M4 q7 a1).bind fun M10 =>
  (sK a2).bind fun _ =>
  (pF M10 2 a0 2 (.float (UInt32.ofNat a2))).bind fun M13 =>
  (pF M13 2 a0 3 (.int ((0 : Int32)))).bind fun M17 =>
  bd2 (fX2_readLevel N M17 a0 ((0 : Int32)) ((0 : Int32))) fun v20 M21 =>
  if v20 = 0 then
  (jX2_read_52 N M21 a0)
  else
  ((gI M21 2 a0 3).bind fun v24 =>
  (gQ M21 2 a0 1).bind fun q26 =>
  (fX3_size M21 q26).bind fun v29 =>
  if v24 = v29 then
  (jX2_read_53 N M21 a0 ((1 : Int32)))
  else
  (jX2_read_52 N M21 a0))
def fX8_init (M : Mm) (a0 : Nat) (a1 : Nat) : Option (Mm) :=
  (some (nO M 3 [.null, .int 0])).bind fun M1 =>
  (fX3_size M1 a1).bind fun v4 =>
  (fX3_init M1 M.length v4).bind fun M8 =>
  (pF M8 8 a0 0 (.ref M.length)).bind fun M9 =>
  (gQ M9 8 a0 0).bind fun q11 =>
  (fX3_become M9 q11 a1).bind fun M14 =>
  (some (nO M14 3 [.null, .int 0])).bind fun M17 =>
  (fX3_size M17 a1).bind fun v20 =>
  (fX3_init M17 M14.length v20).bind fun M24 =>
  (pF M24 8 a0 1 (.ref M14.length)).bind fun M25 =>
  some M25
def fX6_setText (M : Mm) (a0 : Nat) (a1 : Int32) (a2 : Nat) : Option (Mm) :=
  (gC M 6 a0).bind fun _ =>
  if a1 < 0 then
  (some M)
  else
  ((gQ M 6 a0 6).bind fun q1 =>
  (aL M q1).bind fun v3 =>
  if v3 ≤ a1 then
  (some M)
  else
  ((gQ M 6 a0 6).bind fun q5 =>
  (sR M 2 8 q5 a1 ((some a2))).bind fun M7 =>
  some M7))
def jX10_text_39 (N : Nat) (M : Mm) (x0 : Nat) (x1 : Int32) (s0 : Nat) (s1 : Nat) (s2 : Nat) : Option (Int32 × Mm) :=
  bd2 (fX2_read N M s0 s1 s2) fun v2 M3 =>
  (gQ M3 10 x0 0).bind fun q6 =>
  (gQ M3 6 q6 5).bind fun q8 =>
  (fX3_clear M3 q8).bind fun M11 =>
  if v2 = (-1 : Int32) then
  ((gQ M11 10 x0 0).bind fun q14 =>
  (some (nO M11 8 [.null, .null])).bind fun M16 =>
  (gQ M16 10 x0 9).bind fun q18 =>
  (gQ M16 2 q18 0).bind fun q20 =>
  (fX8_init M16 M11.length q20).bind fun M23 =>
  (fX6_setText M23 q14 x1 M11.length).bind fun M25 =>
  some ((1 : Int32), M25))
  else
  (some (((-10 : Int32) - v2), M11))
def fX10_text (N : Nat) (M : Mm) (a0 : Nat) (a1 : Int32) : Option (Int32 × Mm) :=
  (gC M 10 a0).bind fun _ =>
  (fX10_within M a1 ((0 : Int32)) ((8 : Int32))).bind fun v2 =>
  if v2 = 0 then
  (bd2 (fX10_error M a0 ((1 : Int32))) fun v10 M11 =>
  some (v10, M11))
  else
  ((gQ M 10 a0 9).bind fun q3 =>
  (gQ M 10 a0 0).bind fun q5 =>
  (gQ M 6 q5 5).bind fun q7 =>
  if (3 : Int32) ≤ a1 then
  (jX10_text_39 N M a0 a1 q3 q7 2)
  else
  (jX10_text_39 N M a0 a1 q3 q7 1))
def fX11_here (M : Mm) (a0 : Nat) : Option (Int32) :=
  (gC M 11 a0).bind fun _ =>
  (gI M 11 a0 14).bind fun v1 =>
  if v1 = 0 then
  ((gI M 11 a0 11).bind fun v3 =>
  (gQ M 11 a0 0).bind fun q5 =>
  (aI M 0 q5 ((6 : Int32))).bind fun v7 =>
  if v7 ≤ v3 then
  (some ((-1 : Int32)))
  else
  ((gQ M 11 a0 0).bind fun q9 =>
  (gI M 11 a0 11).bind fun v11 =>
  (aI M 0 q9 (((412 : Int32) + v11))).bind fun v13 =>
  some (v13)))
  else
  (some ((-1 : Int32)))
def fX11_isHere (M : Mm) (a0 : Nat) (a1 : Int32) : Option (Int32 × Mm) :=
  (gC M 11 a0).bind fun _ =>
  (fX11_here M a0).bind fun v2 =>
  if v2 = a1 then
  ((gI M 11 a0 11).bind fun v5 =>
  (pF M 11 a0 11 (.int ((v5 + (1 : Int32))))).bind fun M7 =>
  some ((1 : Int32), M7))
  else
  (some ((0 : Int32), M))
def fX11_puts (M : Mm) (a0 : Nat) (a1 : Int32) : Option (Mm) :=
  (gC M 11 a0).bind fun _ =>
  (gI M 11 a0 14).bind fun v1 =>
  if v1 = 0 then
  ((gQ M 11 a0 9).bind fun q3 =>
  (gI M 11 a0 10).bind fun v5 =>
  (sI M 0 q3 v5 a1).bind fun M7 =>
  (gI M7 11 a0 10).bind fun v9 =>
  (pF M7 11 a0 10 (.int ((v9 + (1 : Int32))))).bind fun M11 =>
  some M11)
  else
  (some M)
def fX11_nameOf (M : Mm) (a0 : Int32) (a1 : Int32) : Option (Int32) :=
  if a0 ≤ (2 : Int32) then
  (if a1 = (104 : Int32) then
  (some ((0 : Int32)))
  else
  (if a1 = (103 : Int32) then
  (some ((1 : Int32)))
  else
  (if a1 = (116 : Int32) then
  (some ((2 : Int32)))
  else
  (if a1 = (98 : Int32) then
  (some ((3 : Int32)))
  else
  (some ((-1 : Int32)))))))
  else
  (if a1 = (110 : Int32) then
  (some ((0 : Int32)))
  else
  (if a1 = (121 : Int32) then
  (some ((1 : Int32)))
  else
  (some ((-1 : Int32)))))
def BX11_both_4 (q0 : Mm → Nat → Option (Mm)) (q1 : Mm → Nat → Option (Mm)) (q2 : Mm → Nat → Option (Mm)) (q3 : Mm → Nat → Option (Mm)) (q4 : Mm → Nat → Option (Mm)) (q5 : Mm → Nat → Option (Mm)) (N : Nat) (K4 : Mm → Nat → Option (Mm)) (M : Mm) (x0 : Nat)  : Option (Mm) :=
  bd2 (fX11_isHere M x0 ((38 : Int32))) fun v2 M3 =>
  if v2 = 0 then
  (some M3)
  else
  ((q1 M3 x0).bind fun M7 =>
  (fX11_puts M7 x0 ((20038 : Int32))).bind fun M11 =>
  K4 M11 x0)
def LX11_both_4 (q0 : Mm → Nat → Option (Mm)) (q1 : Mm → Nat → Option (Mm)) (q2 : Mm → Nat → Option (Mm)) (q3 : Mm → Nat → Option (Mm)) (q4 : Mm → Nat → Option (Mm)) (q5 : Mm → Nat → Option (Mm)) (N : Nat) : Nat → Mm → Nat → Option (Mm)
  | 0, _, _ => none
  | n + 1, M, x0 => BX11_both_4 q0 q1 q2 q3 q4 q5 N (LX11_both_4 q0 q1 q2 q3 q4 q5 N n) M x0
def FX11_both (q0 : Mm → Nat → Option (Mm)) (q1 : Mm → Nat → Option (Mm)) (q2 : Mm → Nat → Option (Mm)) (q3 : Mm → Nat → Option (Mm)) (q4 : Mm → Nat → Option (Mm)) (q5 : Mm → Nat → Option (Mm)) (N : Nat) (M : Mm) (a0 : Nat) : Option (Mm) :=
  (gC M 11 a0).bind fun _ =>
  (q1 M a0).bind fun M2 =>
  LX11_both_4 q0 q1 q2 q3 q4 q5 N N M2 a0
def jX11_compared_28 (q0 : Mm → Nat → Option (Mm)) (q1 : Mm → Nat → Option (Mm)) (q2 : Mm → Nat → Option (Mm)) (q3 : Mm → Nat → Option (Mm)) (q4 : Mm → Nat → Option (Mm)) (q5 : Mm → Nat → Option (Mm)) (N : Nat) (M : Mm) (x0 : Nat) (x1 : Int32)  : Option (Mm) :=
  (gI M 11 x0 11).bind fun v1 =>
  (pF M 11 x0 11 (.int ((v1 + (1 : Int32))))).bind fun M3 =>
  (q5 M3 x0).bind fun M6 =>
  (fX11_puts M6 x0 (((20000 : Int32) + x1))).bind fun M10 =>
  some M10
def FX11_compared (q0 : Mm → Nat → Option (Mm)) (q1 : Mm → Nat → Option (Mm)) (q2 : Mm → Nat → Option (Mm)) (q3 : Mm → Nat → Option (Mm)) (q4 : Mm → Nat → Option (Mm)) (q5 : Mm → Nat → Option (Mm)) (N : Nat) (M : Mm) (a0 : Nat) : Option (Mm) :=
  (gC M 11 a0).bind fun _ =>
  (q5 M a0).bind fun M2 =>
  (fX11_here M2 a0).bind fun v6 =>
  if v6 = (60 : Int32) then
  (jX11_compared_28 q0 q1 q2 q3 q4 q5 N M2 a0 v6)
  else
  (if v6 = (61 : Int32) then
  (jX11_compared_28 q0 q1 q2 q3 q4 q5 N M2 a0 v6)
  else
  (if v6 = (62 : Int32) then
  (jX11_compared_28 q0 q1 q2 q3 q4 q5 N M2 a0 v6)
  else
  (some M2)))
def BX11_either_4 (q0 : Mm → Nat → Option (Mm)) (q1 : Mm → Nat → Option (Mm)) (q2 : Mm → Nat → Option (Mm)) (q3 : Mm → Nat → Option (Mm)) (q4 : Mm → Nat → Option (Mm)) (q5 : Mm → Nat → Option (Mm)) (N : Nat) (K4 : Mm → Nat → Option (Mm)) (M : Mm) (x0 : Nat)  : Option (Mm) :=
  bd2 (fX11_isHere M x0 ((124 : Int32))) fun v2 M3 =>
  if v2 = 0 then
  (some M3)
  else
  ((q0 M3 x0).bind fun M7 =>
  (fX11_puts M7 x0 ((20124 : Int32))).bind fun M11 =>
  K4 M11 x0)
def LX11_either_4 (q0 : Mm → Nat → Option (Mm)) (q1 : Mm → Nat → Option (Mm)) (q2 : Mm → Nat → Option (Mm)) (q3 : Mm → Nat → Option (Mm)) (q4 : Mm → Nat → Option (Mm)) (q5 : Mm → Nat → Option (Mm)) (N : Nat) : Nat → Mm → Nat → Option (Mm)
  | 0, _, _ => none
  | n + 1, M, x0 => BX11_either_4 q0 q1 q2 q3 q4 q5 N (LX11_either_4 q0 q1 q2 q3 q4 q5 N n) M x0
def FX11_either (q0 : Mm → Nat → Option (Mm)) (q1 : Mm → Nat → Option (Mm)) (q2 : Mm → Nat → Option (Mm)) (q3 : Mm → Nat → Option (Mm)) (q4 : Mm → Nat → Option (Mm)) (q5 : Mm → Nat → Option (Mm)) (N : Nat) (M : Mm) (a0 : Nat) : Option (Mm) :=
  (gC M 11 a0).bind fun _ =>
  (q0 M a0).bind fun M2 =>
  LX11_either_4 q0 q1 q2 q3 q4 q5 N N M2 a0
def jX11_one_204 (q0 : Mm → Nat → Option (Mm)) (q1 : Mm → Nat → Option (Mm)) (q2 : Mm → Nat → Option (Mm)) (q3 : Mm → Nat → Option (Mm)) (q4 : Mm → Nat → Option (Mm)) (q5 : Mm → Nat → Option (Mm)) (N : Nat) (M : Mm) (x0 : Nat)  : Option (Mm) :=
  (gI M 11 x0 12).bind fun v1 =>
  (pF M 11 x0 12 (.int ((v1 - (1 : Int32))))).bind fun M3 =>
  some M3
def jX11_one_201 (q0 : Mm → Nat → Option (Mm)) (q1 : Mm → Nat → Option (Mm)) (q2 : Mm → Nat → Option (Mm)) (q3 : Mm → Nat → Option (Mm)) (q4 : Mm → Nat → Option (Mm)) (q5 : Mm → Nat → Option (Mm)) (N : Nat) (M : Mm) (x0 : Nat) (s0 : Nat) (s1 : Int32) : Option (Mm) :=
  (zr s1).bind fun v3 =>
  (pF M 11 s0 14 (.int v3)).bind fun M1 =>
  jX11_one_204 q0 q1 q2 q3 q4 q5 N M1 x0
def jX11_one_134 (q0 : Mm → Nat → Option (Mm)) (q1 : Mm → Nat → Option (Mm)) (q2 : Mm → Nat → Option (Mm)) (q3 : Mm → Nat → Option (Mm)) (q4 : Mm → Nat → Option (Mm)) (q5 : Mm → Nat → Option (Mm)) (N : Nat) (M : Mm) (x0 : Nat) (x1 : Int32)  : Option (Mm) :=
  (gI M 11 x0 12).bind fun v1 =>
  if (5 : Int32) ≤ v1 then
  ((pF M 11 x0 14 (.int ((1 : Int32)))).bind fun M3 =>
  some M3)
  else
  ((gI M 11 x0 11).bind fun v5 =>
  (pF M 11 x0 11 (.int ((v5 + (1 : Int32))))).bind fun M7 =>
  (gI M7 11 x0 12).bind fun v9 =>
  (pF M7 11 x0 12 (.int ((v9 + (1 : Int32))))).bind fun M11 =>
  if x1 = (33 : Int32) then
  ((q3 M11 x0).bind fun M23 =>
  (fX11_puts M23 x0 ((20033 : Int32))).bind fun M27 =>
  jX11_one_204 q0 q1 q2 q3 q4 q5 N M27 x0)
  else
  ((q2 M11 x0).bind fun M14 =>
  bd2 (fX11_isHere M14 x0 ((41 : Int32))) fun v18 M19 =>
  if v18 = 0 then
  (jX11_one_201 q0 q1 q2 q3 q4 q5 N M19 x0 x0 ((1 : Int32)))
  else
  (jX11_one_201 q0 q1 q2 q3 q4 q5 N M19 x0 x0 ((0 : Int32)))))
def jX11_one_74 (q0 : Mm → Nat → Option (Mm)) (q1 : Mm → Nat → Option (Mm)) (q2 : Mm → Nat → Option (Mm)) (q3 : Mm → Nat → Option (Mm)) (q4 : Mm → Nat → Option (Mm)) (q5 : Mm → Nat → Option (Mm)) (N : Nat) (M : Mm) (x0 : Nat) (x2 : Int32)  : Option (Mm) :=
  (fX11_puts M x0 x2).bind fun M2 =>
  some M2
def BX11_one_23 (q0 : Mm → Nat → Option (Mm)) (q1 : Mm → Nat → Option (Mm)) (q2 : Mm → Nat → Option (Mm)) (q3 : Mm → Nat → Option (Mm)) (q4 : Mm → Nat → Option (Mm)) (q5 : Mm → Nat → Option (Mm)) (N : Nat) (K23 : Mm → Nat → Int32 → Int32 → Option (Mm)) (M : Mm) (x0 : Nat) (x2 : Int32) (x3 : Int32)  : Option (Mm) :=
  if (4 : Int32) ≤ x3 then
  (jX11_one_74 q0 q1 q2 q3 q4 q5 N M x0 x2)
  else
  ((fX11_here M x0).bind fun v2 =>
  (fX11_in M (((v2).toInt64)) ((48 : Int64)) ((57 : Int64))).bind fun v6 =>
  if v6 = 0 then
  (jX11_one_74 q0 q1 q2 q3 q4 q5 N M x0 x2)
  else
  ((fX11_here M x0).bind fun v8 =>
  (gI M 11 x0 11).bind fun v11 =>
  (pF M 11 x0 11 (.int ((v11 + (1 : Int32))))).bind fun M13 =>
  K23 M13 x0 (((((10 : Int32) * x2) + v8) - (48 : Int32))) ((x3 + (1 : Int32)))))
def LX11_one_23 (q0 : Mm → Nat → Option (Mm)) (q1 : Mm → Nat → Option (Mm)) (q2 : Mm → Nat → Option (Mm)) (q3 : Mm → Nat → Option (Mm)) (q4 : Mm → Nat → Option (Mm)) (q5 : Mm → Nat → Option (Mm)) (N : Nat) : Nat → Mm → Nat → Int32 → Int32 → Option (Mm)
  | 0, _, _, _, _ => none
  | n + 1, M, x0, x2, x3 => BX11_one_23 q0 q1 q2 q3 q4 q5 N (LX11_one_23 q0 q1 q2 q3 q4 q5 N n) M x0 x2 x3
def FX11_one (q0 : Mm → Nat → Option (Mm)) (q1 : Mm → Nat → Option (Mm)) (q2 : Mm → Nat → Option (Mm)) (q3 : Mm → Nat → Option (Mm)) (q4 : Mm → Nat → Option (Mm)) (q5 : Mm → Nat → Option (Mm)) (N : Nat) (M : Mm) (a0 : Nat) : Option (Mm) :=
  (gC M 11 a0).bind fun _ =>
  (fX11_here M a0).bind fun v2 =>
  (fX11_in M (((v2).toInt64)) ((48 : Int64)) ((57 : Int64))).bind fun v6 =>
  if v6 = 0 then
  ((gI M 11 a0 13).bind fun v7 =>
  (fX11_nameOf M v7 v2).bind fun v10 =>
  if v10 < 0 then
  (if v2 = (33 : Int32) then
  (jX11_one_134 q0 q1 q2 q3 q4 q5 N M a0 v2)
  else
  (if v2 = (40 : Int32) then
  (jX11_one_134 q0 q1 q2 q3 q4 q5 N M a0 v2)
  else
  ((pF M 11 a0 14 (.int ((1 : Int32)))).bind fun M11 =>
  some M11)))
  else
  ((gI M 11 a0 11).bind fun v13 =>
  (pF M 11 a0 11 (.int ((v13 + (1 : Int32))))).bind fun M15 =>
  (gI M15 11 a0 13).bind fun v17 =>
  (fX11_nameOf M15 v17 v2).bind fun v20 =>
  (fX11_puts M15 a0 (((10000 : Int32) + v20))).bind fun M22 =>
  some M22))
  else
  (LX11_one_23 q0 q1 q2 q3 q4 q5 N N M a0 ((0 : Int32)) ((0 : Int32)))
def jX11_product_27 (q0 : Mm → Nat → Option (Mm)) (q1 : Mm → Nat → Option (Mm)) (q2 : Mm → Nat → Option (Mm)) (q3 : Mm → Nat → Option (Mm)) (q4 : Mm → Nat → Option (Mm)) (q5 : Mm → Nat → Option (Mm)) (N : Nat) (K9 : Mm → Nat → Int32 → Option (Mm)) (M : Mm) (x0 : Nat) (x1 : Int32)  : Option (Mm) :=
  (gI M 11 x0 11).bind fun v1 =>
  (pF M 11 x0 11 (.int ((v1 + (1 : Int32))))).bind fun M3 =>
  (q3 M3 x0).bind fun M6 =>
  (fX11_puts M6 x0 (((20000 : Int32) + x1))).bind fun M10 =>
  (fX11_here M10 x0).bind fun v14 =>
  K9 M10 x0 v14
def BX11_product_9 (q0 : Mm → Nat → Option (Mm)) (q1 : Mm → Nat → Option (Mm)) (q2 : Mm → Nat → Option (Mm)) (q3 : Mm → Nat → Option (Mm)) (q4 : Mm → Nat → Option (Mm)) (q5 : Mm → Nat → Option (Mm)) (N : Nat) (K9 : Mm → Nat → Int32 → Option (Mm)) (M : Mm) (x0 : Nat) (x1 : Int32)  : Option (Mm) :=
  if x1 = (42 : Int32) then
  (jX11_product_27 q0 q1 q2 q3 q4 q5 N K9 M x0 x1)
  else
  (if x1 = (47 : Int32) then
  (jX11_product_27 q0 q1 q2 q3 q4 q5 N K9 M x0 x1)
  else
  (if x1 = (37 : Int32) then
  (jX11_product_27 q0 q1 q2 q3 q4 q5 N K9 M x0 x1)
  else
  (some M)))
def LX11_product_9 (q0 : Mm → Nat → Option (Mm)) (q1 : Mm → Nat → Option (Mm)) (q2 : Mm → Nat → Option (Mm)) (q3 : Mm → Nat → Option (Mm)) (q4 : Mm → Nat → Option (Mm)) (q5 : Mm → Nat → Option (Mm)) (N : Nat) : Nat → Mm → Nat → Int32 → Option (Mm)
  | 0, _, _, _ => none
  | n + 1, M, x0, x1 => BX11_product_9 q0 q1 q2 q3 q4 q5 N (LX11_product_9 q0 q1 q2 q3 q4 q5 N n) M x0 x1
def FX11_product (q0 : Mm → Nat → Option (Mm)) (q1 : Mm → Nat → Option (Mm)) (q2 : Mm → Nat → Option (Mm)) (q3 : Mm → Nat → Option (Mm)) (q4 : Mm → Nat → Option (Mm)) (q5 : Mm → Nat → Option (Mm)) (N : Nat) (M : Mm) (a0 : Nat) : Option (Mm) :=
  (gC M 11 a0).bind fun _ =>
  (q3 M a0).bind fun M2 =>
  (fX11_here M2 a0).bind fun v6 =>
  LX11_product_9 q0 q1 q2 q3 q4 q5 N N M2 a0 v6
def jX11_sum_21 (q0 : Mm → Nat → Option (Mm)) (q1 : Mm → Nat → Option (Mm)) (q2 : Mm → Nat → Option (Mm)) (q3 : Mm → Nat → Option (Mm)) (q4 : Mm → Nat → Option (Mm)) (q5 : Mm → Nat → Option (Mm)) (N : Nat) (K9 : Mm → Nat → Int32 → Option (Mm)) (M : Mm) (x0 : Nat) (x1 : Int32)  : Option (Mm) :=
  (gI M 11 x0 11).bind fun v1 =>
  (pF M 11 x0 11 (.int ((v1 + (1 : Int32))))).bind fun M3 =>
  (q4 M3 x0).bind fun M6 =>
  (fX11_puts M6 x0 (((20000 : Int32) + x1))).bind fun M10 =>
  (fX11_here M10 x0).bind fun v14 =>
  K9 M10 x0 v14
def BX11_sum_9 (q0 : Mm → Nat → Option (Mm)) (q1 : Mm → Nat → Option (Mm)) (q2 : Mm → Nat → Option (Mm)) (q3 : Mm → Nat → Option (Mm)) (q4 : Mm → Nat → Option (Mm)) (q5 : Mm → Nat → Option (Mm)) (N : Nat) (K9 : Mm → Nat → Int32 → Option (Mm)) (M : Mm) (x0 : Nat) (x1 : Int32)  : Option (Mm) :=
  if x1 = (43 : Int32) then
  (jX11_sum_21 q0 q1 q2 q3 q4 q5 N K9 M x0 x1)
  else
  (if x1 = (45 : Int32) then
  (jX11_sum_21 q0 q1 q2 q3 q4 q5 N K9 M x0 x1)
  else
  (some M))
def LX11_sum_9 (q0 : Mm → Nat → Option (Mm)) (q1 : Mm → Nat → Option (Mm)) (q2 : Mm → Nat → Option (Mm)) (q3 : Mm → Nat → Option (Mm)) (q4 : Mm → Nat → Option (Mm)) (q5 : Mm → Nat → Option (Mm)) (N : Nat) : Nat → Mm → Nat → Int32 → Option (Mm)
  | 0, _, _, _ => none
  | n + 1, M, x0, x1 => BX11_sum_9 q0 q1 q2 q3 q4 q5 N (LX11_sum_9 q0 q1 q2 q3 q4 q5 N n) M x0 x1
def FX11_sum (q0 : Mm → Nat → Option (Mm)) (q1 : Mm → Nat → Option (Mm)) (q2 : Mm → Nat → Option (Mm)) (q3 : Mm → Nat → Option (Mm)) (q4 : Mm → Nat → Option (Mm)) (q5 : Mm → Nat → Option (Mm)) (N : Nat) (M : Mm) (a0 : Nat) : Option (Mm) :=
  (gC M 11 a0).bind fun _ =>
  (q4 M a0).bind fun M2 =>
  (fX11_here M2 a0).bind fun v6 =>
  LX11_sum_9 q0 q1 q2 q3 q4 q5 N N M2 a0 v6
def GX11_both (N : Nat) : Nat → (Mm → Nat → Option (Mm)) × (Mm → Nat → Option (Mm)) × (Mm → Nat → Option (Mm)) × (Mm → Nat → Option (Mm)) × (Mm → Nat → Option (Mm)) × (Mm → Nat → Option (Mm))
  | 0 => (fun _ _ => none, fun _ _ => none, fun _ _ => none, fun _ _ => none, fun _ _ => none, fun _ _ => none)
  | n + 1 => (FX11_both (GX11_both N n).1 (GX11_both N n).2.1 (GX11_both N n).2.2.1 (GX11_both N n).2.2.2.1 (GX11_both N n).2.2.2.2.1 (GX11_both N n).2.2.2.2.2 N, FX11_compared (GX11_both N n).1 (GX11_both N n).2.1 (GX11_both N n).2.2.1 (GX11_both N n).2.2.2.1 (GX11_both N n).2.2.2.2.1 (GX11_both N n).2.2.2.2.2 N, FX11_either (GX11_both N n).1 (GX11_both N n).2.1 (GX11_both N n).2.2.1 (GX11_both N n).2.2.2.1 (GX11_both N n).2.2.2.2.1 (GX11_both N n).2.2.2.2.2 N, FX11_one (GX11_both N n).1 (GX11_both N n).2.1 (GX11_both N n).2.2.1 (GX11_both N n).2.2.2.1 (GX11_both N n).2.2.2.2.1 (GX11_both N n).2.2.2.2.2 N, FX11_product (GX11_both N n).1 (GX11_both N n).2.1 (GX11_both N n).2.2.1 (GX11_both N n).2.2.2.1 (GX11_both N n).2.2.2.2.1 (GX11_both N n).2.2.2.2.2 N, FX11_sum (GX11_both N n).1 (GX11_both N n).2.1 (GX11_both N n).2.2.1 (GX11_both N n).2.2.2.1 (GX11_both N n).2.2.2.2.1 (GX11_both N n).2.2.2.2.2 N)
def fX11_both (N : Nat) (M : Mm) (a0 : Nat) : Option (Mm) := (GX11_both N 100).1 M a0
def fX11_compared (N : Nat) (M : Mm) (a0 : Nat) : Option (Mm) := (GX11_both N 100).2.1 M a0
def fX11_either (N : Nat) (M : Mm) (a0 : Nat) : Option (Mm) := (GX11_both N 100).2.2.1 M a0
def fX11_one (N : Nat) (M : Mm) (a0 : Nat) : Option (Mm) := (GX11_both N 100).2.2.2.1 M a0
def fX11_product (N : Nat) (M : Mm) (a0 : Nat) : Option (Mm) := (GX11_both N 100).2.2.2.2.1 M a0
def fX11_sum (N : Nat) (M : Mm) (a0 : Nat) : Option (Mm) := (GX11_both N 100).2.2.2.2.2 M a0
def BX11_text_125 (N : Nat) (K125 : Mm → Nat → Int32 → Int32 → Option (Int32 × Mm)) (M : Mm) (x0 : Nat) (x3 : Int32) (x4 : Int32)  : Option (Int32 × Mm) :=
  (gI M 11 x0 10).bind fun v1 =>
  if v1 ≤ x4 then
  (some ((1 : Int32), M))
  else
  ((gQ M 11 x0 0).bind fun q3 =>
  (gQ M 11 x0 9).bind fun q5 =>
  (aI M 0 q5 x4).bind fun v7 =>
  (sI M 0 q3 (((x3 + (2 : Int32)) + x4)) v7).bind fun M9 =>
  K125 M9 x0 x3 ((x4 + (1 : Int32))))
def LX11_text_125 (N : Nat) : Nat → Mm → Nat → Int32 → Int32 → Option (Int32 × Mm)
  | 0, _, _, _, _ => none
  | n + 1, M, x0, x3, x4 => BX11_text_125 N (LX11_text_125 N n) M x0 x3 x4
def jX11_text_73 (N : Nat) (M : Mm) (x0 : Nat) (x1 : Int32) (s0 : Int32) : Option (Int32 × Mm) :=
  (gQ M 11 x0 0).bind fun q1 =>
  (sI M 0 q1 ((6 : Int32)) ((0 : Int32))).bind fun M3 =>
  if s0 = 0 then
  ((gI M3 11 x0 11).bind fun v15 =>
  some (((-10 : Int32) - v15), M3))
  else
  ((gQ M3 11 x0 0).bind fun q5 =>
  (sI M3 0 q5 (((482 : Int32) + ((52 : Int32) * x1))) ((1 : Int32))).bind fun M7 =>
  (gQ M7 11 x0 0).bind fun q9 =>
  (gI M7 11 x0 10).bind fun v11 =>
  (sI M7 0 q9 ((((482 : Int32) + ((52 : Int32) * x1)) + (1 : Int32))) v11).bind fun M13 =>
  LX11_text_125 N N M13 x0 (((482 : Int32) + ((52 : Int32) * x1))) ((0 : Int32)))
def jX11_text_72 (N : Nat) (M : Mm) (x0 : Nat) (x1 : Int32)  : Option (Int32 × Mm) :=
  jX11_text_73 N M x0 x1 ((0 : Int32))
def fX11_text (N : Nat) (M : Mm) (a0 : Nat) (a1 : Int32) : Option (Int32 × Mm) :=
  (gC M 11 a0).bind fun _ =>
  (fX11_in M (((a1).toInt64)) ((0 : Int64)) ((8 : Int64))).bind fun v2 =>
  if v2 = 0 then
  (bd2 (fX11_error M a0 ((1 : Int32))) fun v26 M27 =>
  some (v26, M27))
  else
  ((pF M 11 a0 10 (.int ((0 : Int32)))).bind fun M3 =>
  (pF M3 11 a0 11 (.int ((0 : Int32)))).bind fun M5 =>
  (pF M5 11 a0 12 (.int ((0 : Int32)))).bind fun M7 =>
  (pF M7 11 a0 13 (.int a1)).bind fun M9 =>
  (pF M9 11 a0 14 (.int ((0 : Int32)))).bind fun M11 =>
  (fX11_either N M11 a0).bind fun M14 =>
  (gI M14 11 a0 14).bind fun v17 =>
  if v17 = 0 then
  ((gI M14 11 a0 11).bind fun v19 =>
  (gQ M14 11 a0 0).bind fun q21 =>
  (aI M14 0 q21 ((6 : Int32))).bind fun v23 =>
  if v19 = v23 then
  (jX11_text_73 N M14 a0 a1 ((1 : Int32)))
  else
  (jX11_text_72 N M14 a0 a1))
  else
  (jX11_text_72 N M14 a0 a1))
def fX10_isLaw (M : Mm) (a0 : Int32) : Option (Int32) :=
  (fX10_within M a0 ((0 : Int32)) ((5 : Int32))).bind fun v2 =>
  (zr v2).bind fun v3 =>
  some (v3)
def fX6_lawGives (N : Nat) (M : Mm) (a0 : Nat) (a1 : Int32) (a2 : Int32) (a3 : Int32) : Option (Int32 × Mm) :=
  (gC M 6 a0).bind fun _ =>
  (fX6_textOf M a0 (((3 : Int32) + a1))).bind fun r2 =>
  om r2 (some ((1 : Int32), M))
  (fun q5 => bd2 (fX8_value N M q5 a2 a3 ((0 : Int32)) ((0 : Int32))) fun v7 M8 =>
  (fJ9_min_7cf53 M8 ((9 : Int32)) v7).bind fun v12 =>
  (fJ9_max_7cf53 M8 ((0 : Int32)) v12).bind fun v14 =>
  some (v14, M8))
def fX10_law (N : Nat) (M : Mm) (a0 : Nat) (a1 : Int32) (a2 : Int32) (a3 : Int32) : Option (Int32 × Mm) :=
  (gC M 10 a0).bind fun _ =>
  (fX10_isLaw M a1).bind fun v2 =>
  if v2 = 0 then
  (bd2 (fX10_error M a0 ((1 : Int32))) fun v11 M12 =>
  some (v11, M12))
  else
  ((gQ M 10 a0 0).bind fun q3 =>
  bd2 (fX6_lawGives N M q3 a1 a2 a3) fun v6 M7 =>
  some (v6, M7))
def fX11_isLaw (M : Mm) (a0 : Int32) : Option (Int32) :=
  (fX11_in M (((a0).toInt64)) ((0 : Int64)) ((5 : Int64))).bind fun v2 =>
  (zr v2).bind fun v3 =>
  some (v3)
def fX11_lawOf (N : Nat) (M : Mm) (a0 : Nat) (a1 : Int32) (a2 : Int32) (a3 : Int32) : Option (Int32 × Mm) :=
  (gC M 11 a0).bind fun _ =>
  (gQ M 11 a0 0).bind fun q1 =>
  (aI M 0 q1 (((482 : Int32) + ((52 : Int32) * ((3 : Int32) + a1))))).bind fun v3 =>
  if v3 = 0 then
  (some ((1 : Int32), M))
  else
  ((gQ M 11 a0 15).bind fun q5 =>
  (sI M 0 q5 ((0 : Int32)) a2).bind fun M7 =>
  (gQ M7 11 a0 15).bind fun q9 =>
  (sI M7 0 q9 ((1 : Int32)) a3).bind fun M11 =>
  bd2 (fX11_says N M11 a0 (((3 : Int32) + a1))) fun v14 M15 =>
  if 0 ≤ v14 then
  (if v14 ≤ (9 : Int32) then
  (some (v14, M15))
  else
  (some ((9 : Int32), M15)))
  else
  (some ((0 : Int32), M15)))
def fX11_law (N : Nat) (M : Mm) (a0 : Nat) (a1 : Int32) (a2 : Int32) (a3 : Int32) : Option (Int32 × Mm) :=
  (gC M 11 a0).bind fun _ =>
  (fX11_isLaw M a1).bind fun v2 =>
  if v2 = 0 then
  (bd2 (fX11_error M a0 ((1 : Int32))) fun v4 M5 =>
  some (v4, M5))
  else
  (bd2 (fX11_lawOf N M a0 a1 a2 a3) fun v9 M10 =>
  some (v9, M10))
def fX10_isPair (M : Mm) (a0 : Nat) (a1 : Int32) : Option (Int32) :=
  (gC M 10 a0).bind fun _ =>
  if a1 < 0 then
  (some ((0 : Int32)))
  else
  ((fX10_isBar M a0 ((a1 / (10 : Int32)))).bind fun v2 =>
  if v2 = 0 then
  (some ((0 : Int32)))
  else
  ((fX10_isBar M a0 ((rmI a1 ((10 : Int32))))).bind fun v6 =>
  if v6 = 0 then
  (some ((0 : Int32)))
  else
  (if (a1 / (10 : Int32)) = (rmI a1 ((10 : Int32))) then
  (some ((0 : Int32)))
  else
  (some ((1 : Int32))))))
def fX10_isWindow (M : Mm) (a0 : Int32) : Option (Int32) :=
  (fX10_within M a0 ((0 : Int32)) ((50 : Int32))).bind fun v2 =>
  (zr v2).bind fun v3 =>
  some (v3)
def fX1_hear (N : Nat) (M : Mm) (a0 : Nat) (a1 : Nat) (a2 : Int32) : Option (Mm) :=
  (gC M 1 a0).bind fun _ =>
  (gQ M 1 a0 0).bind fun q1 =>
  (fX7_hear N M q1 a1 ((a2 / (10 : Int32)))).bind fun M4 =>
  (gQ M4 1 a0 1).bind fun q7 =>
  (fX7_hear N M4 q7 a1 ((rmI a2 ((10 : Int32))))).bind fun M10 =>
  some M10
def BX7_keepAbove_16 (N : Nat) (K16 : Mm → Nat → Int32 → Int32 → Option (Mm)) (M : Mm) (x0 : Nat) (x1 : Int32) (x2 : Int32)  : Option (Mm) :=
  (gQ M 7 x0 0).bind fun q1 =>
  (fX3_size M q1).bind fun v4 =>
  if v4 ≤ x2 then
  (some M)
  else
  ((fX7_isCounted M x0 x2 x1).bind fun v8 =>
  if v8 = 0 then
  (K16 M x0 x1 ((x2 + (1 : Int32))))
  else
  ((gQ M 7 x0 4).bind fun q11 =>
  (gQ M 7 x0 0).bind fun q13 =>
  (fX3_at M q13 x2).bind fun v16 =>
  bd2 (fX3_add M q11 v16) fun v20 M21 =>
  (gQ M21 7 x0 5).bind fun q24 =>
  (gQ M21 7 x0 1).bind fun q26 =>
  (fX3_at M21 q26 x2).bind fun v29 =>
  bd2 (fX3_add M21 q24 v29) fun v33 M34 =>
  K16 M34 x0 x1 ((x2 + (1 : Int32)))))
def LX7_keepAbove_16 (N : Nat) : Nat → Mm → Nat → Int32 → Int32 → Option (Mm)
  | 0, _, _, _, _ => none
  | n + 1, M, x0, x1, x2 => BX7_keepAbove_16 N (LX7_keepAbove_16 N n) M x0 x1 x2
def fX7_keepAbove (N : Nat) (M : Mm) (a0 : Nat) (a1 : Int32) : Option (Mm) :=
  (gC M 7 a0).bind fun _ =>
  (gQ M 7 a0 4).bind fun q1 =>
  (fX3_clear M q1).bind fun M4 =>
  (gQ M4 7 a0 5).bind fun q7 =>
  (fX3_clear M4 q7).bind fun M10 =>
  LX7_keepAbove_16 N N M10 a0 a1 ((0 : Int32))
def fX1_drawLine (N : Nat) (M : Mm) (a0 : Nat) (a1 : Int32) : Option (Mm) :=
  (gC M 1 a0).bind fun _ =>
  (gQ M 1 a0 0).bind fun q1 =>
  (fX7_keepAbove N M q1 a1).bind fun M4 =>
  (gQ M4 1 a0 1).bind fun q7 =>
  (fX7_keepAbove N M4 q7 a1).bind fun M10 =>
  some M10
def jX1_meeting_80 (N : Nat) (K21 : Mm → Nat → Int32 → Int32 → Nat → Int32 → Int32 → Option (Int32 × Mm)) (M : Mm) (x0 : Nat) (x1 : Int32) (x2 : Int32) (x3 : Nat) (x4 : Int32) (x5 : Int32) (x6 : Int32)  : Option (Int32 × Mm) :=
  (fX3_size M x3).bind fun v2 =>
  if v2 ≤ x4 then
  (K21 M x0 x1 x2 x3 x4 ((x5 + (1 : Int32))))
  else
  ((fX3_at M x3 x4).bind fun v6 =>
  if (x6 + x1) < v6 then
  (K21 M x0 x1 x2 x3 x4 ((x5 + (1 : Int32))))
  else
  ((gQ M 1 x0 2).bind fun q9 =>
  (gQ M 1 x0 0).bind fun q11 =>
  (gQ M 7 q11 4).bind fun q13 =>
  (fX3_at M q13 x5).bind fun v16 =>
  bd2 (fX3_add M q9 v16) fun v20 M21 =>
  K21 M21 x0 x1 x2 x3 x4 ((x5 + (1 : Int32)))))
def BX1_meeting_52 (N : Nat) (K21 : Mm → Nat → Int32 → Int32 → Nat → Int32 → Int32 → Option (Int32 × Mm)) (K52 : Mm → Nat → Int32 → Int32 → Nat → Int32 → Int32 → Int32 → Option (Int32 × Mm)) (M : Mm) (x0 : Nat) (x1 : Int32) (x2 : Int32) (x3 : Nat) (x4 : Int32) (x5 : Int32) (x6 : Int32)  : Option (Int32 × Mm) :=
  (fX3_size M x3).bind fun v2 =>
  if v2 ≤ x4 then
  (jX1_meeting_80 N K21 M x0 x1 x2 x3 x4 x5 x6)
  else
  ((fX3_at M x3 x4).bind fun v6 =>
  if (x6 - x1) ≤ v6 then
  (jX1_meeting_80 N K21 M x0 x1 x2 x3 x4 x5 x6)
  else
  (K52 M x0 x1 x2 x3 ((x4 + (1 : Int32))) x5 x6))
def LX1_meeting_52 (N : Nat) (K21 : Mm → Nat → Int32 → Int32 → Nat → Int32 → Int32 → Option (Int32 × Mm)) : Nat → Mm → Nat → Int32 → Int32 → Nat → Int32 → Int32 → Int32 → Option (Int32 × Mm)
  | 0, _, _, _, _, _, _, _, _ => none
  | n + 1, M, x0, x1, x2, x3, x4, x5, x6 => BX1_meeting_52 N K21 (LX1_meeting_52 N K21 n) M x0 x1 x2 x3 x4 x5 x6
def BX1_meeting_21 (N : Nat) (K21 : Mm → Nat → Int32 → Int32 → Nat → Int32 → Int32 → Option (Int32 × Mm)) (M : Mm) (x0 : Nat) (x1 : Int32) (x2 : Int32) (x3 : Nat) (x4 : Int32) (x5 : Int32)  : Option (Int32 × Mm) :=
  (gQ M 1 x0 0).bind fun q1 =>
  (gQ M 7 q1 5).bind fun q3 =>
  (fX3_size M q3).bind fun v6 =>
  if v6 ≤ x5 then
  ((gQ M 1 x0 2).bind fun q9 =>
  (fX3_size M q9).bind fun v12 =>
  some (v12, M))
  else
  ((gQ M 1 x0 0).bind fun q15 =>
  (gQ M 7 q15 5).bind fun q17 =>
  (fX3_at M q17 x5).bind fun v20 =>
  LX1_meeting_52 N K21 N M x0 x1 x2 x3 x4 x5 ((v20 - x2)))
def LX1_meeting_21 (N : Nat) : Nat → Mm → Nat → Int32 → Int32 → Nat → Int32 → Int32 → Option (Int32 × Mm)
  | 0, _, _, _, _, _, _, _ => none
  | n + 1, M, x0, x1, x2, x3, x4, x5 => BX1_meeting_21 N (LX1_meeting_21 N n) M x0 x1 x2 x3 x4 x5
def fX1_meeting (N : Nat) (M : Mm) (a0 : Nat) (a1 : Int32) (a2 : Int32) : Option (Int32 × Mm) :=
  (gC M 1 a0).bind fun _ =>
  (gQ M 1 a0 1).bind fun q1 =>
  (gQ M 7 q1 5).bind fun q3 =>
  (gQ M 1 a0 2).bind fun q5 =>
  (fX3_clear M q5).bind fun M8 =>
  LX1_meeting_21 N N M8 a0 a1 a2 q3 ((0 : Int32)) ((0 : Int32))
def jX10_meets_36 (N : Nat) (M : Mm) (x0 : Nat)  : Option (Int32 × Mm) :=
  bd2 (fX10_error M x0 ((1 : Int32))) fun v2 M3 =>
  some (v2, M3)
def fX10_meets (N : Nat) (M : Mm) (a0 : Nat) (a1 : Int32) (a2 : Int32) (a3 : Int32) (a4 : Int32) : Option (Int32 × Mm) :=
  (gC M 10 a0).bind fun _ =>
  (fX10_isPair M a0 a1).bind fun v2 =>
  if v2 = 0 then
  (jX10_meets_36 N M a0)
  else
  ((fX10_isLine M a2).bind fun v6 =>
  if v6 = 0 then
  (jX10_meets_36 N M a0)
  else
  ((fX10_isWindow M a3).bind fun v8 =>
  if v8 = 0 then
  (jX10_meets_36 N M a0)
  else
  ((fX10_within M a4 ((-9999 : Int32)) ((9999 : Int32))).bind fun v10 =>
  if v10 = 0 then
  (jX10_meets_36 N M a0)
  else
  ((gQ M 10 a0 5).bind fun q11 =>
  (gQ M 10 a0 0).bind fun q13 =>
  (fX1_hear N M q11 q13 a1).bind fun M16 =>
  (gQ M16 10 a0 5).bind fun q19 =>
  (fX1_drawLine N M16 q19 a2).bind fun M22 =>
  (gQ M22 10 a0 5).bind fun q25 =>
  bd2 (fX1_meeting N M22 q25 a3 a4) fun v28 M29 =>
  some (v28, M29)))))
def fX11_isPair (M : Mm) (a0 : Nat) (a1 : Int32) : Option (Int32) :=
  (gC M 11 a0).bind fun _ =>
  if a1 < 0 then
  (some ((0 : Int32)))
  else
  ((fX11_isBar M a0 ((a1 / (10 : Int32)))).bind fun v2 =>
  if v2 = 0 then
  (some ((0 : Int32)))
  else
  ((fX11_isBar M a0 ((rmI a1 ((10 : Int32))))).bind fun v6 =>
  if v6 = 0 then
  (some ((0 : Int32)))
  else
  (if (a1 / (10 : Int32)) = (rmI a1 ((10 : Int32))) then
  (some ((0 : Int32)))
  else
  (some ((1 : Int32))))))
def fX11_isWindow (M : Mm) (a0 : Int32) : Option (Int32) :=
  (fX11_in M (((a0).toInt64)) ((0 : Int64)) ((50 : Int64))).bind fun v2 =>
  (zr v2).bind fun v3 =>
  some (v3)
def BX11_isMet_3 (N : Nat) (K3 : Mm → Nat → Int32 → Int32 → Int32 → Int32 → Int32 → Int32 → Option (Int32)) (M : Mm) (x0 : Nat) (x1 : Int32) (x2 : Int32) (x3 : Int32) (x4 : Int32) (x5 : Int32) (x6 : Int32)  : Option (Int32) :=
  (gQ M 11 x0 0).bind fun q1 =>
  (aI M 0 q1 ((1 : Int32))).bind fun v3 =>
  if v3 ≤ x6 then
  (some ((0 : Int32)))
  else
  ((fX11_isCounted M x0 x6 x2 x3).bind fun v6 =>
  if v6 = 0 then
  (K3 M x0 x1 x2 x3 x4 x5 ((x6 + (1 : Int32))))
  else
  ((gQ M 11 x0 4).bind fun q9 =>
  (aI M 0 q9 x1).bind fun v11 =>
  (gQ M 11 x0 4).bind fun q13 =>
  (aI M 0 q13 x6).bind fun v15 =>
  (fX11_in M (((((v11 - v15) - x5)).toInt64)) ((((-x4)).toInt64)) (((x4).toInt64))).bind fun v18 =>
  if v18 = 0 then
  (K3 M x0 x1 x2 x3 x4 x5 ((x6 + (1 : Int32))))
  else
  (some ((1 : Int32)))))
def LX11_isMet_3 (N : Nat) : Nat → Mm → Nat → Int32 → Int32 → Int32 → Int32 → Int32 → Int32 → Option (Int32)
  | 0, _, _, _, _, _, _, _, _ => none
  | n + 1, M, x0, x1, x2, x3, x4, x5, x6 => BX11_isMet_3 N (LX11_isMet_3 N n) M x0 x1 x2 x3 x4 x5 x6
def fX11_isMet (N : Nat) (M : Mm) (a0 : Nat) (a1 : Int32) (a2 : Int32) (a3 : Int32) (a4 : Int32) (a5 : Int32) : Option (Int32) :=
  (gC M 11 a0).bind fun _ =>
  LX11_isMet_3 N N M a0 a1 a2 a3 a4 a5 ((0 : Int32))
def BX11_met_6 (N : Nat) (K6 : Mm → Nat → Int32 → Int32 → Int32 → Int32 → Int32 → Int32 → Option (Int32)) (M : Mm) (x0 : Nat) (x1 : Int32) (x2 : Int32) (x3 : Int32) (x4 : Int32) (x5 : Int32) (x6 : Int32)  : Option (Int32) :=
  (gQ M 11 x0 0).bind fun q1 =>
  (aI M 0 q1 ((1 : Int32))).bind fun v3 =>
  if v3 ≤ x6 then
  (some (x5))
  else
  ((fX11_isCounted M x0 x6 ((x1 / (10 : Int32))) x2).bind fun v6 =>
  if v6 = 0 then
  (K6 M x0 x1 x2 x3 x4 ((x5 + (0 : Int32))) ((x6 + (1 : Int32))))
  else
  ((fX11_isMet N M x0 x6 ((rmI x1 ((10 : Int32)))) x2 x3 x4).bind fun v10 =>
  if v10 = 0 then
  (K6 M x0 x1 x2 x3 x4 ((x5 + (0 : Int32))) ((x6 + (1 : Int32))))
  else
  (K6 M x0 x1 x2 x3 x4 ((x5 + (1 : Int32))) ((x6 + (1 : Int32))))))
def LX11_met_6 (N : Nat) : Nat → Mm → Nat → Int32 → Int32 → Int32 → Int32 → Int32 → Int32 → Option (Int32)
  | 0, _, _, _, _, _, _, _, _ => none
  | n + 1, M, x0, x1, x2, x3, x4, x5, x6 => BX11_met_6 N (LX11_met_6 N n) M x0 x1 x2 x3 x4 x5 x6
def fX11_met (N : Nat) (M : Mm) (a0 : Nat) (a1 : Int32) (a2 : Int32) (a3 : Int32) (a4 : Int32) : Option (Int32) :=
  (gC M 11 a0).bind fun _ =>
  LX11_met_6 N N M a0 a1 a2 a3 a4 ((0 : Int32)) ((0 : Int32))
def jX11_meets_37 (N : Nat) (M : Mm) (x0 : Nat)  : Option (Int32 × Mm) :=
  bd2 (fX11_error M x0 ((1 : Int32))) fun v2 M3 =>
  some (v2, M3)
def fX11_meets (N : Nat) (M : Mm) (a0 : Nat) (a1 : Int32) (a2 : Int32) (a3 : Int32) (a4 : Int32) : Option (Int32 × Mm) :=
  (gC M 11 a0).bind fun _ =>
  (fX11_isPair M a0 a1).bind fun v2 =>
  if v2 = 0 then
  (jX11_meets_37 N M a0)
  else
  ((fX11_isLine M a2).bind fun v6 =>
  if v6 = 0 then
  (jX11_meets_37 N M a0)
  else
  ((fX11_isWindow M a3).bind fun v8 =>
  if v8 = 0 then
  (jX11_meets_37 N M a0)
  else
  ((fX11_in M (((a4).toInt64)) ((-9999 : Int64)) ((9999 : Int64))).bind fun v10 =>
  if v10 = 0 then
  (jX11_meets_37 N M a0)
  else
  ((fX11_readAll N M a0).bind fun M12 =>
  (fX11_met N M12 a0 a1 a2 a3 a4).bind fun v16 =>
  some (v16, M12)))))
def fX10_isKind (M : Mm) (a0 : Int32) : Option (Int32) :=
  (fX10_within M a0 ((0 : Int32)) ((7 : Int32))).bind fun v2 =>
  (zr v2).bind fun v3 =>
  some (v3)
def fX6_countings (M : Mm) (a0 : Nat) : Option (Int32) :=
  (gC M 6 a0).bind fun _ =>
  (gI M 6 a0 8).bind fun v1 =>
  some (v1)
def fX0_init (M : Mm) (a0 : Nat) (a1 : Int32) (a2 : Int32) (a3 : Int32) (a4 : Int32) (a5 : Int32) (a6 : Int32) : Option (Mm) :=
  (pF M 0 a0 0 (.int a1)).bind fun M1 =>
  (pF M1 0 a0 1 (.int a2)).bind fun M3 =>
  (pF M3 0 a0 2 (.int a3)).bind fun M5 =>
  (pF M5 0 a0 3 (.int a4)).bind fun M7 =>
  (pF M7 0 a0 4 (.int a5)).bind fun M9 =>
  (pF M9 0 a0 5 (.int a6)).bind fun M11 =>
  some M11
def fX6_addCounting (M : Mm) (a0 : Nat) (a1 : Nat) : Option (Mm) :=
  (gC M 6 a0).bind fun _ =>
  (gI M 6 a0 8).bind fun v1 =>
  if v1 < 0 then
  (some M)
  else
  ((gI M 6 a0 8).bind fun v3 =>
  (gQ M 6 a0 7).bind fun q5 =>
  (aL M q5).bind fun v7 =>
  if v7 ≤ v3 then
  (some M)
  else
  ((gQ M 6 a0 7).bind fun q9 =>
  (gI M 6 a0 8).bind fun v11 =>
  (sR M 3 0 q9 v11 ((some a1))).bind fun M13 =>
  (gI M13 6 a0 8).bind fun v15 =>
  (pF M13 6 a0 8 (.int ((v15 + (1 : Int32))))).bind fun M17 =>
  some M17))
def jX10_counting_42 (M : Mm) (x0 : Nat)  : Option (Int32 × Mm) :=
  bd2 (fX10_error M x0 ((1 : Int32))) fun v2 M3 =>
  some (v2, M3)
def fX10_counting (M : Mm) (a0 : Nat) (a1 : Int32) (a2 : Int32) (a3 : Int32) (a4 : Int32) (a5 : Int32) : Option (Int32 × Mm) :=
  (gC M 10 a0).bind fun _ =>
  (fX10_isKind M a1).bind fun v2 =>
  if v2 = 0 then
  (jX10_counting_42 M a0)
  else
  ((fX10_isPair M a0 a2).bind fun v4 =>
  if v4 = 0 then
  (jX10_counting_42 M a0)
  else
  ((fX10_isLine M a3).bind fun v8 =>
  if v8 = 0 then
  (jX10_counting_42 M a0)
  else
  ((fX10_isWindow M a4).bind fun v10 =>
  if v10 = 0 then
  (jX10_counting_42 M a0)
  else
  ((fX10_within M a5 ((1 : Int32)) ((999 : Int32))).bind fun v12 =>
  if v12 = 0 then
  (jX10_counting_42 M a0)
  else
  ((gQ M 10 a0 0).bind fun q13 =>
  (fX6_countings M q13).bind fun v16 =>
  if v16 < (12 : Int32) then
  ((gQ M 10 a0 0).bind fun q19 =>
  (some (nO M 0 [.int 0, .int 0, .int 0, .int 0, .int 0, .int 0])).bind fun M21 =>
  (fX0_init M21 M.length v16 a1 a2 a3 a4 a5).bind fun M24 =>
  (fX6_addCounting M24 q19 M.length).bind fun M26 =>
  some (v16, M26))
  else
  (bd2 (fX10_error M a0 ((4 : Int32))) fun v30 M31 =>
  some (v30, M31)))))))
def jX11_counting_48 (M : Mm) (x0 : Nat)  : Option (Int32 × Mm) :=
  bd2 (fX11_error M x0 ((1 : Int32))) fun v2 M3 =>
  some (v2, M3)
def fX11_counting (M : Mm) (a0 : Nat) (a1 : Int32) (a2 : Int32) (a3 : Int32) (a4 : Int32) (a5 : Int32) : Option (Int32 × Mm) :=
  (gC M 11 a0).bind fun _ =>
  (fX11_in M (((a1).toInt64)) ((0 : Int64)) ((7 : Int64))).bind fun v2 =>
  if v2 = 0 then
  (jX11_counting_48 M a0)
  else
  ((fX11_isPair M a0 a2).bind fun v4 =>
  if v4 = 0 then
  (jX11_counting_48 M a0)
  else
  ((fX11_isLine M a3).bind fun v8 =>
  if v8 = 0 then
  (jX11_counting_48 M a0)
  else
  ((fX11_isWindow M a4).bind fun v10 =>
  if v10 = 0 then
  (jX11_counting_48 M a0)
  else
  ((fX11_in M (((a5).toInt64)) ((1 : Int64)) ((999 : Int64))).bind fun v12 =>
  if v12 = 0 then
  (jX11_counting_48 M a0)
  else
  ((gQ M 11 a0 0).bind fun q13 =>
  (aI M 0 q13 ((2 : Int32))).bind fun v15 =>
  if v15 = (12 : Int32) then
  (bd2 (fX11_error M a0 ((4 : Int32))) fun v44 M45 =>
  some (v44, M45))
  else
  ((gQ M 11 a0 0).bind fun q17 =>
  (sI M 0 q17 (((306 : Int32) + ((5 : Int32) * v15))) a1).bind fun M19 =>
  (gQ M19 11 a0 0).bind fun q21 =>
  (sI M19 0 q21 ((((306 : Int32) + ((5 : Int32) * v15)) + (1 : Int32))) a2).bind fun M23 =>
  (gQ M23 11 a0 0).bind fun q25 =>
  (sI M23 0 q25 ((((306 : Int32) + ((5 : Int32) * v15)) + (2 : Int32))) a3).bind fun M27 =>
  (gQ M27 11 a0 0).bind fun q29 =>
  (sI M27 0 q29 ((((306 : Int32) + ((5 : Int32) * v15)) + (3 : Int32))) a4).bind fun M31 =>
  (gQ M31 11 a0 0).bind fun q33 =>
  (sI M31 0 q33 ((((306 : Int32) + ((5 : Int32) * v15)) + (4 : Int32))) a5).bind fun M35 =>
  (gQ M35 11 a0 0).bind fun q37 =>
  (aI M35 0 q37 ((2 : Int32))).bind fun v39 =>
  (sI M35 0 q37 ((2 : Int32)) ((v39 + (1 : Int32)))).bind fun M41 =>
  some (v15, M41)))))))
def fX6_countingAt (M : Mm) (a0 : Nat) (a1 : Int32) : Option (Option Nat) :=
  (gC M 6 a0).bind fun _ =>
  if a1 < 0 then
  (some (none))
  else
  ((gI M 6 a0 8).bind fun v1 =>
  if v1 ≤ a1 then
  (some (none))
  else
  ((gQ M 6 a0 7).bind fun q3 =>
  (aL M q3).bind fun v5 =>
  if v5 ≤ a1 then
  (some (none))
  else
  ((gQ M 6 a0 7).bind fun q7 =>
  (aR M 3 q7 a1).bind fun r9 =>
  some (r9))))
def fX0_kindAbove (M : Mm) (a0 : Int32) : Option (Int32) :=
  if a0 = (0 : Int32) then
  (some ((-1 : Int32)))
  else
  (if a0 = (7 : Int32) then
  (some ((6 : Int32)))
  else
  (some ((0 : Int32))))
def BX0_isOf_7 (N : Nat) (K7 : Mm → Int32 → Int32 → Int32 → Option (Int32)) (M : Mm) (x1 : Int32) (x2 : Int32) (x3 : Int32)  : Option (Int32) :=
  if (8 : Int32) ≤ x3 then
  (some ((0 : Int32)))
  else
  (if x2 < 0 then
  (some ((0 : Int32)))
  else
  (if x2 = x1 then
  (some ((1 : Int32)))
  else
  ((fX0_kindAbove M x2).bind fun v2 =>
  K7 M x1 v2 ((x3 + (1 : Int32))))))
def LX0_isOf_7 (N : Nat) : Nat → Mm → Int32 → Int32 → Int32 → Option (Int32)
  | 0, _, _, _, _ => none
  | n + 1, M, x1, x2, x3 => BX0_isOf_7 N (LX0_isOf_7 N n) M x1 x2 x3
def fX0_isOf (N : Nat) (M : Mm) (a0 : Nat) (a1 : Int32) : Option (Int32) :=
  (gC M 0 a0).bind fun _ =>
  (gI M 0 a0 1).bind fun v1 =>
  LX0_isOf_7 N N M a1 v1 ((0 : Int32))
def jX10_as_20 (N : Nat) (M : Mm) (x0 : Nat)  : Option (Int32 × Mm) :=
  bd2 (fX10_error M x0 ((1 : Int32))) fun v2 M3 =>
  some (v2, M3)
def fX10_as (N : Nat) (M : Mm) (a0 : Nat) (a1 : Int32) (a2 : Int32) : Option (Int32 × Mm) :=
  (gC M 10 a0).bind fun _ =>
  (gQ M 10 a0 0).bind fun q1 =>
  (fX6_countingAt M q1 a1).bind fun r4 =>
  om r4 (jX10_as_20 N M a0)
  (fun q7 => (fX10_isKind M a2).bind fun v9 =>
  if v9 = 0 then
  (jX10_as_20 N M a0)
  else
  ((fX0_isOf N M q7 a2).bind fun v11 =>
  if v11 = 0 then
  (bd2 (fX10_error M a0 ((5 : Int32))) fun v17 M18 =>
  some (v17, M18))
  else
  ((gI M 0 q7 3).bind fun v14 =>
  some (v14, M))))
def fX11_isCounting (M : Mm) (a0 : Nat) (a1 : Int32) : Option (Int32) :=
  (gC M 11 a0).bind fun _ =>
  (gQ M 11 a0 0).bind fun q1 =>
  (aI M 0 q1 ((2 : Int32))).bind fun v3 =>
  (fX11_in M (((a1).toInt64)) ((0 : Int64)) ((((v3 - (1 : Int32))).toInt64))).bind fun v6 =>
  (zr v6).bind fun v7 =>
  some (v7)
def fX11_of (M : Mm) (a0 : Nat) (a1 : Int32) (a2 : Int32) : Option (Int32) :=
  (gC M 11 a0).bind fun _ =>
  (gQ M 11 a0 0).bind fun q1 =>
  (aI M 0 q1 ((((306 : Int32) + ((5 : Int32) * a1)) + a2))).bind fun v3 =>
  some (v3)
def fX11_isUnder (M : Mm) (a0 : Int32) (a1 : Int32) : Option (Int32) :=
  if a1 = 0 then
  (some ((1 : Int32)))
  else
  (if a0 = a1 then
  (some ((1 : Int32)))
  else
  (if a1 = (6 : Int32) then
  (if a0 = (7 : Int32) then
  (some ((1 : Int32)))
  else
  (some ((0 : Int32))))
  else
  (some ((0 : Int32)))))
def jX11_as_20 (M : Mm) (x0 : Nat)  : Option (Int32 × Mm) :=
  bd2 (fX11_error M x0 ((1 : Int32))) fun v2 M3 =>
  some (v2, M3)
def fX11_as (M : Mm) (a0 : Nat) (a1 : Int32) (a2 : Int32) : Option (Int32 × Mm) :=
  (gC M 11 a0).bind fun _ =>
  (fX11_isCounting M a0 a1).bind fun v2 =>
  if v2 = 0 then
  (jX11_as_20 M a0)
  else
  ((fX11_in M (((a2).toInt64)) ((0 : Int64)) ((7 : Int64))).bind fun v6 =>
  if v6 = 0 then
  (jX11_as_20 M a0)
  else
  ((fX11_of M a0 a1 ((0 : Int32))).bind fun v8 =>
  (fX11_isUnder M v8 a2).bind fun v12 =>
  if v12 = 0 then
  (bd2 (fX11_error M a0 ((5 : Int32))) fun v14 M15 =>
  some (v14, M15))
  else
  ((fX11_of M a0 a1 ((2 : Int32))).bind fun v19 =>
  some (v19, M))))
def BX1_warm_4 (N : Nat) (K4 : Mm → Nat → Nat → Int32 → Int32 → Option (Int32 × Mm)) (M : Mm) (x0 : Nat) (x1 : Nat) (x2 : Int32) (x3 : Int32)  : Option (Int32 × Mm) :=
  if (5 : Int32) < x3 then
  (some ((x2 / (5 : Int32)), M))
  else
  ((gI M 0 x1 4).bind fun v1 =>
  (gI M 0 x1 5).bind fun v3 =>
  bd2 (fX1_meeting N M x0 v1 ((x3 * v3))) fun v6 M7 =>
  K4 M7 x0 x1 ((x2 + v6)) ((x3 + (1 : Int32))))
def LX1_warm_4 (N : Nat) : Nat → Mm → Nat → Nat → Int32 → Int32 → Option (Int32 × Mm)
  | 0, _, _, _, _, _ => none
  | n + 1, M, x0, x1, x2, x3 => BX1_warm_4 N (LX1_warm_4 N n) M x0 x1 x2 x3
def fX1_warm (N : Nat) (M : Mm) (a0 : Nat) (a1 : Nat) : Option (Int32 × Mm) :=
  (gC M 1 a0).bind fun _ =>
  LX1_warm_4 N N M a0 a1 ((0 : Int32)) ((1 : Int32))
def BX1_lined_8 (N : Nat) (K8 : Mm → Nat → Nat → Int32 → Int32 → Option (Int32 × Mm)) (M : Mm) (x0 : Nat) (x1 : Nat) (x2 : Int32) (x3 : Int32)  : Option (Int32 × Mm) :=
  if (999 : Int32) < x3 then
  (some (x2, M))
  else
  ((fX1_drawLine N M x0 x3).bind fun M2 =>
  (gI M2 0 x1 4).bind fun v5 =>
  bd2 (fX1_meeting N M2 x0 v5 ((0 : Int32))) fun v8 M9 =>
  (gI M9 0 x1 4).bind fun v12 =>
  (gI M9 0 x1 5).bind fun v14 =>
  bd2 (fX1_meeting N M9 x0 v12 v14) fun v17 M18 =>
  (fJ9_max_7cf53 M18 x2 ((v8 - v17))).bind fun v22 =>
  K8 M18 x0 x1 v22 ((x3 + (50 : Int32))))
def LX1_lined_8 (N : Nat) : Nat → Mm → Nat → Nat → Int32 → Int32 → Option (Int32 × Mm)
  | 0, _, _, _, _, _ => none
  | n + 1, M, x0, x1, x2, x3 => BX1_lined_8 N (LX1_lined_8 N n) M x0 x1 x2 x3
def fX1_lined (N : Nat) (M : Mm) (a0 : Nat) (a1 : Nat) : Option (Int32 × Mm) :=
  (gC M 1 a0).bind fun _ =>
  (gI M 0 a1 3).bind fun v1 =>
  LX1_lined_8 N N M a0 a1 ((-96 : Int32)) v1
def jX1_nearTwo_73 (N : Nat) (K16 : Mm → Nat → Int32 → Nat → Int32 → Int32 → Int32 → Option (Int32)) (M : Mm) (x0 : Nat) (x1 : Int32) (x2 : Nat) (x3 : Int32) (x4 : Int32) (x5 : Int32) (x6 : Int32)  : Option (Int32) :=
  (fX3_size M x2).bind fun v2 =>
  if v2 ≤ (x4 + (1 : Int32)) then
  (K16 M x0 x1 x2 x3 x4 ((x5 + (1 : Int32))))
  else
  ((fX3_at M x2 ((x4 + (1 : Int32)))).bind fun v6 =>
  if (x6 + x1) < v6 then
  (K16 M x0 x1 x2 x3 x4 ((x5 + (1 : Int32))))
  else
  (K16 M x0 x1 x2 ((x3 + (1 : Int32))) x4 ((x5 + (1 : Int32)))))
def BX1_nearTwo_45 (N : Nat) (K16 : Mm → Nat → Int32 → Nat → Int32 → Int32 → Int32 → Option (Int32)) (K45 : Mm → Nat → Int32 → Nat → Int32 → Int32 → Int32 → Int32 → Option (Int32)) (M : Mm) (x0 : Nat) (x1 : Int32) (x2 : Nat) (x3 : Int32) (x4 : Int32) (x5 : Int32) (x6 : Int32)  : Option (Int32) :=
  (fX3_size M x2).bind fun v2 =>
  if v2 ≤ x4 then
  (jX1_nearTwo_73 N K16 M x0 x1 x2 x3 x4 x5 x6)
  else
  ((fX3_at M x2 x4).bind fun v6 =>
  if (x6 - x1) ≤ v6 then
  (jX1_nearTwo_73 N K16 M x0 x1 x2 x3 x4 x5 x6)
  else
  (K45 M x0 x1 x2 x3 ((x4 + (1 : Int32))) x5 x6))
def LX1_nearTwo_45 (N : Nat) (K16 : Mm → Nat → Int32 → Nat → Int32 → Int32 → Int32 → Option (Int32)) : Nat → Mm → Nat → Int32 → Nat → Int32 → Int32 → Int32 → Int32 → Option (Int32)
  | 0, _, _, _, _, _, _, _, _ => none
  | n + 1, M, x0, x1, x2, x3, x4, x5, x6 => BX1_nearTwo_45 N K16 (LX1_nearTwo_45 N K16 n) M x0 x1 x2 x3 x4 x5 x6
def BX1_nearTwo_16 (N : Nat) (K16 : Mm → Nat → Int32 → Nat → Int32 → Int32 → Int32 → Option (Int32)) (M : Mm) (x0 : Nat) (x1 : Int32) (x2 : Nat) (x3 : Int32) (x4 : Int32) (x5 : Int32)  : Option (Int32) :=
  (gQ M 1 x0 1).bind fun q1 =>
  (gQ M 7 q1 5).bind fun q3 =>
  (fX3_size M q3).bind fun v6 =>
  if v6 ≤ x5 then
  (some (x3))
  else
  ((gQ M 1 x0 1).bind fun q9 =>
  (gQ M 7 q9 5).bind fun q11 =>
  (fX3_at M q11 x5).bind fun v14 =>
  LX1_nearTwo_45 N K16 N M x0 x1 x2 x3 x4 x5 v14)
def LX1_nearTwo_16 (N : Nat) : Nat → Mm → Nat → Int32 → Nat → Int32 → Int32 → Int32 → Option (Int32)
  | 0, _, _, _, _, _, _, _ => none
  | n + 1, M, x0, x1, x2, x3, x4, x5 => BX1_nearTwo_16 N (LX1_nearTwo_16 N n) M x0 x1 x2 x3 x4 x5
def fX1_nearTwo (N : Nat) (M : Mm) (a0 : Nat) (a1 : Int32) : Option (Int32) :=
  (gC M 1 a0).bind fun _ =>
  (gQ M 1 a0 0).bind fun q1 =>
  (gQ M 7 q1 5).bind fun q3 =>
  LX1_nearTwo_16 N N M a0 a1 q3 ((0 : Int32)) ((0 : Int32)) ((0 : Int32))
def fX1_given (N : Nat) (M : Mm) (a0 : Nat) (a1 : Nat) (a2 : Int32) : Option (Int32 × Mm) :=
  (gC M 1 a0).bind fun _ =>
  (gI M 0 a1 3).bind fun v1 =>
  (fX1_drawLine N M a0 v1).bind fun M4 =>
  (gI M4 0 a1 4).bind fun v7 =>
  (gI M4 0 a1 1).bind fun v9 =>
  if v9 = (1 : Int32) then
  (bd2 (fX1_warm N M4 a0 a1) fun v12 M13 =>
  some (v12, M13))
  else
  (if v9 = (2 : Int32) then
  (bd2 (fX1_meeting N M4 a0 v7 ((0 : Int32))) fun v17 M18 =>
  bd2 (fX1_warm N M18 a0 a1) fun v22 M23 =>
  (fJ9_max_7cf53 M23 ((0 : Int32)) ((v17 - v22))).bind fun v27 =>
  some (v27, M23))
  else
  (if v9 = (3 : Int32) then
  ((gQ M4 1 a0 0).bind fun q28 =>
  (gQ M4 7 q28 4).bind fun q30 =>
  (fX3_size M4 q30).bind fun v33 =>
  bd2 (fX1_meeting N M4 a0 v7 ((0 : Int32))) fun v37 M38 =>
  some ((v33 - v37), M38))
  else
  (if v9 = (4 : Int32) then
  (bd2 (fX1_lined N M4 a0 a1) fun v42 M43 =>
  some (v42, M43))
  else
  (if v9 = (5 : Int32) then
  (bd2 (fX1_meeting N M4 a0 v7 ((0 : Int32))) fun v47 M48 =>
  (fX1_nearTwo N M48 a0 v7).bind fun v52 =>
  some ((v47 + v52), M48))
  else
  (if v9 = (6 : Int32) then
  ((gI M4 0 a1 5).bind fun v55 =>
  bd2 (fX1_meeting N M4 a0 v7 v55) fun v58 M59 =>
  some (v58, M59))
  else
  (if v9 = (7 : Int32) then
  (bd2 (fX1_meeting N M4 a0 v7 a2) fun v63 M64 =>
  some (v63, M64))
  else
  (bd2 (fX1_meeting N M4 a0 v7 ((0 : Int32))) fun v68 M69 =>
  some (v68, M69))))))))
def fX10_gives (N : Nat) (M : Mm) (a0 : Nat) (a1 : Int32) : Option (Int32 × Mm) :=
  (gC M 10 a0).bind fun _ =>
  (gQ M 10 a0 0).bind fun q1 =>
  (fX6_countingAt M q1 a1).bind fun r4 =>
  om r4 (bd2 (fX10_error M a0 ((1 : Int32))) fun v9 M10 =>
  some (v9, M10))
  (fun q7 => (gQ M 10 a0 5).bind fun q13 =>
  (gQ M 10 a0 0).bind fun q15 =>
  (gI M 0 q7 2).bind fun v17 =>
  (fX1_hear N M q13 q15 v17).bind fun M20 =>
  (gQ M20 10 a0 5).bind fun q23 =>
  (gQ M20 10 a0 0).bind fun q25 =>
  (gI M20 0 q7 2).bind fun v27 =>
  (fX6_clockOf M20 q25 ((v27 / (10 : Int32)))).bind fun v30 =>
  (gQ M20 10 a0 0).bind fun q33 =>
  (gI M20 0 q7 2).bind fun v35 =>
  (fX6_clockOf M20 q33 ((rmI v35 ((10 : Int32))))).bind fun v38 =>
  bd2 (fX1_given N M20 q23 q7 ((v30 - v38))) fun v42 M43 =>
  some (v42, M43))
def fX11_slid (N : Nat) (M : Mm) (a0 : Nat) (a1 : Int32) (a2 : Int32) (a3 : Int32) : Option (Int32) :=
  (gC M 11 a0).bind fun _ =>
  (fX11_of M a0 a1 ((1 : Int32))).bind fun v2 =>
  (fX11_of M a0 a1 ((3 : Int32))).bind fun v6 =>
  (fX11_met N M a0 v2 a2 v6 a3).bind fun v10 =>
  some (v10)
def fX11_plain (N : Nat) (M : Mm) (a0 : Nat) (a1 : Int32) : Option (Int32) :=
  (gC M 11 a0).bind fun _ =>
  (fX11_of M a0 a1 ((2 : Int32))).bind fun v2 =>
  (fX11_slid N M a0 a1 v2 ((0 : Int32))).bind fun v6 =>
  some (v6)
def BX11_warm_4 (N : Nat) (K4 : Mm → Nat → Int32 → Int32 → Int32 → Option (Int32)) (M : Mm) (x0 : Nat) (x1 : Int32) (x2 : Int32) (x3 : Int32)  : Option (Int32) :=
  if (6 : Int32) ≤ x3 then
  (some ((x2 / (5 : Int32))))
  else
  ((fX11_of M x0 x1 ((2 : Int32))).bind fun v2 =>
  (fX11_of M x0 x1 ((4 : Int32))).bind fun v6 =>
  (fX11_slid N M x0 x1 v2 ((x3 * v6))).bind fun v10 =>
  K4 M x0 x1 ((x2 + v10)) ((x3 + (1 : Int32))))
def LX11_warm_4 (N : Nat) : Nat → Mm → Nat → Int32 → Int32 → Int32 → Option (Int32)
  | 0, _, _, _, _, _ => none
  | n + 1, M, x0, x1, x2, x3 => BX11_warm_4 N (LX11_warm_4 N n) M x0 x1 x2 x3
def fX11_warm (N : Nat) (M : Mm) (a0 : Nat) (a1 : Int32) : Option (Int32) :=
  (gC M 11 a0).bind fun _ =>
  LX11_warm_4 N N M a0 a1 ((0 : Int32)) ((1 : Int32))
def BX11_counted_5 (N : Nat) (K5 : Mm → Nat → Int32 → Int32 → Int32 → Int32 → Option (Int32)) (M : Mm) (x0 : Nat) (x1 : Int32) (x2 : Int32) (x3 : Int32) (x4 : Int32)  : Option (Int32) :=
  (gQ M 11 x0 0).bind fun q1 =>
  (aI M 0 q1 ((1 : Int32))).bind fun v3 =>
  if v3 ≤ x4 then
  (some (x3))
  else
  ((fX11_isCounted M x0 x4 x1 x2).bind fun v6 =>
  if v6 = 0 then
  (K5 M x0 x1 x2 ((x3 + (0 : Int32))) ((x4 + (1 : Int32))))
  else
  (K5 M x0 x1 x2 ((x3 + (1 : Int32))) ((x4 + (1 : Int32)))))
def LX11_counted_5 (N : Nat) : Nat → Mm → Nat → Int32 → Int32 → Int32 → Int32 → Option (Int32)
  | 0, _, _, _, _, _, _ => none
  | n + 1, M, x0, x1, x2, x3, x4 => BX11_counted_5 N (LX11_counted_5 N n) M x0 x1 x2 x3 x4
def fX11_counted (N : Nat) (M : Mm) (a0 : Nat) (a1 : Int32) (a2 : Int32) : Option (Int32) :=
  (gC M 11 a0).bind fun _ =>
  LX11_counted_5 N N M a0 a1 a2 ((0 : Int32)) ((0 : Int32))
def BX11_lined_41 (N : Nat) (K41 : Mm → Nat → Int32 → Int32 → Int32 → Option (Int32)) (M : Mm) (x0 : Nat) (x1 : Int32) (x2 : Int32) (x3 : Int32)  : Option (Int32) :=
  if (1000 : Int32) ≤ x3 then
  (some (x2))
  else
  ((fX11_slid N M x0 x1 x3 ((0 : Int32))).bind fun v2 =>
  (fX11_of M x0 x1 ((4 : Int32))).bind fun v6 =>
  (fX11_slid N M x0 x1 x3 v6).bind fun v10 =>
  if (v2 - v10) ≤ x2 then
  (K41 M x0 x1 x2 ((x3 + (50 : Int32))))
  else
  (K41 M x0 x1 ((v2 - v10)) ((x3 + (50 : Int32)))))
def LX11_lined_41 (N : Nat) : Nat → Mm → Nat → Int32 → Int32 → Int32 → Option (Int32)
  | 0, _, _, _, _, _ => none
  | n + 1, M, x0, x1, x2, x3 => BX11_lined_41 N (LX11_lined_41 N n) M x0 x1 x2 x3
def fX11_lined (N : Nat) (M : Mm) (a0 : Nat) (a1 : Int32) : Option (Int32) :=
  (gC M 11 a0).bind fun _ =>
  (fX11_of M a0 a1 ((2 : Int32))).bind fun v2 =>
  (fX11_slid N M a0 a1 v2 ((0 : Int32))).bind fun v6 =>
  (fX11_of M a0 a1 ((2 : Int32))).bind fun v10 =>
  (fX11_of M a0 a1 ((4 : Int32))).bind fun v14 =>
  (fX11_slid N M a0 a1 v10 v14).bind fun v18 =>
  (fX11_of M a0 a1 ((2 : Int32))).bind fun v22 =>
  LX11_lined_41 N N M a0 a1 ((v6 - v18)) ((v22 + (50 : Int32)))
def fX11_size (M : Mm) (a0 : Int32) : Option (Int32) :=
  if 0 ≤ a0 then
  (some (a0))
  else
  (some ((-a0)))
def BX11_twice_62 (N : Nat) (K26 : Mm → Nat → Int32 → Int32 → Int32 → Int32 → Int32 → Option (Int32)) (K62 : Mm → Nat → Int32 → Int32 → Int32 → Int32 → Int32 → Int32 → Int32 → Option (Int32)) (M : Mm) (x0 : Nat) (x1 : Int32) (x2 : Int32) (x3 : Int32) (x4 : Int32) (x5 : Int32) (x6 : Int32) (x7 : Int32)  : Option (Int32) :=
  (gQ M 11 x0 0).bind fun q1 =>
  (aI M 0 q1 ((1 : Int32))).bind fun v3 =>
  if v3 ≤ x7 then
  (if x6 ≤ (1 : Int32) then
  (K26 M x0 x1 x2 x3 ((x4 + (0 : Int32))) ((x5 + (1 : Int32))))
  else
  (K26 M x0 x1 x2 x3 ((x4 + (1 : Int32))) ((x5 + (1 : Int32)))))
  else
  ((fX11_of M x0 x1 ((2 : Int32))).bind fun v6 =>
  (fX11_isCounted M x0 x7 x2 v6).bind fun v10 =>
  if v10 = 0 then
  (K62 M x0 x1 x2 x3 x4 x5 ((x6 + (0 : Int32))) ((x7 + (1 : Int32))))
  else
  ((gQ M 11 x0 4).bind fun q13 =>
  (aI M 0 q13 x7).bind fun v15 =>
  (gQ M 11 x0 4).bind fun q17 =>
  (aI M 0 q17 x5).bind fun v19 =>
  (fX11_size M ((v15 - v19))).bind fun v22 =>
  (fX11_of M x0 x1 ((3 : Int32))).bind fun v24 =>
  if v24 < v22 then
  (K62 M x0 x1 x2 x3 x4 x5 ((x6 + (0 : Int32))) ((x7 + (1 : Int32))))
  else
  (K62 M x0 x1 x2 x3 x4 x5 ((x6 + (1 : Int32))) ((x7 + (1 : Int32))))))
def LX11_twice_62 (N : Nat) (K26 : Mm → Nat → Int32 → Int32 → Int32 → Int32 → Int32 → Option (Int32)) : Nat → Mm → Nat → Int32 → Int32 → Int32 → Int32 → Int32 → Int32 → Int32 → Option (Int32)
  | 0, _, _, _, _, _, _, _, _, _ => none
  | n + 1, M, x0, x1, x2, x3, x4, x5, x6, x7 => BX11_twice_62 N K26 (LX11_twice_62 N K26 n) M x0 x1 x2 x3 x4 x5 x6 x7
def BX11_twice_26 (N : Nat) (K26 : Mm → Nat → Int32 → Int32 → Int32 → Int32 → Int32 → Option (Int32)) (M : Mm) (x0 : Nat) (x1 : Int32) (x2 : Int32) (x3 : Int32) (x4 : Int32) (x5 : Int32)  : Option (Int32) :=
  (gQ M 11 x0 0).bind fun q1 =>
  (aI M 0 q1 ((1 : Int32))).bind fun v3 =>
  if v3 ≤ x5 then
  (some (x4))
  else
  ((fX11_of M x0 x1 ((2 : Int32))).bind fun v6 =>
  (fX11_isCounted M x0 x5 x3 v6).bind fun v10 =>
  if v10 = 0 then
  (K26 M x0 x1 x2 x3 x4 ((x5 + (1 : Int32))))
  else
  (LX11_twice_62 N K26 N M x0 x1 x2 x3 x4 x5 ((0 : Int32)) ((0 : Int32))))
def LX11_twice_26 (N : Nat) : Nat → Mm → Nat → Int32 → Int32 → Int32 → Int32 → Int32 → Option (Int32)
  | 0, _, _, _, _, _, _, _ => none
  | n + 1, M, x0, x1, x2, x3, x4, x5 => BX11_twice_26 N (LX11_twice_26 N n) M x0 x1 x2 x3 x4 x5
def fX11_twice (N : Nat) (M : Mm) (a0 : Nat) (a1 : Int32) : Option (Int32) :=
  (gC M 11 a0).bind fun _ =>
  (fX11_of M a0 a1 ((1 : Int32))).bind fun v2 =>
  (fX11_of M a0 a1 ((1 : Int32))).bind fun v6 =>
  LX11_twice_26 N N M a0 a1 ((v2 / (10 : Int32))) ((rmI v6 ((10 : Int32)))) ((0 : Int32)) ((0 : Int32))
def fX11_gives (N : Nat) (M : Mm) (a0 : Nat) (a1 : Int32) : Option (Int32 × Mm) :=
  (gC M 11 a0).bind fun _ =>
  (fX11_isCounting M a0 a1).bind fun v2 =>
  if v2 = 0 then
  (bd2 (fX11_error M a0 ((1 : Int32))) fun v82 M83 =>
  some (v82, M83))
  else
  ((fX11_readAll N M a0).bind fun M6 =>
  (fX11_of M6 a0 a1 ((1 : Int32))).bind fun v10 =>
  (fX11_of M6 a0 a1 ((1 : Int32))).bind fun v14 =>
  (fX11_of M6 a0 a1 ((2 : Int32))).bind fun v18 =>
  (fX11_plain N M6 a0 a1).bind fun v22 =>
  (fX11_warm N M6 a0 a1).bind fun v26 =>
  (fX11_of M6 a0 a1 ((0 : Int32))).bind fun v30 =>
  if v30 = (0 : Int32) then
  ((fX11_plain N M6 a0 a1).bind fun v34 =>
  some (v34, M6))
  else
  (if v30 = (1 : Int32) then
  ((fX11_warm N M6 a0 a1).bind fun v38 =>
  some (v38, M6))
  else
  (if v30 = (2 : Int32) then
  (if (v22 - v26) ≤ 0 then
  (some ((0 : Int32), M6))
  else
  (some ((v22 - v26), M6)))
  else
  (if v30 = (3 : Int32) then
  ((fX11_counted N M6 a0 ((v10 / (10 : Int32))) v18).bind fun v42 =>
  (fX11_plain N M6 a0 a1).bind fun v46 =>
  some ((v42 - v46), M6))
  else
  (if v30 = (4 : Int32) then
  ((fX11_lined N M6 a0 a1).bind fun v50 =>
  some (v50, M6))
  else
  (if v30 = (5 : Int32) then
  ((fX11_plain N M6 a0 a1).bind fun v54 =>
  (fX11_twice N M6 a0 a1).bind fun v58 =>
  some ((v54 + v58), M6))
  else
  (if v30 = (6 : Int32) then
  ((fX11_of M6 a0 a1 ((4 : Int32))).bind fun v62 =>
  (fX11_slid N M6 a0 a1 v18 v62).bind fun v66 =>
  some (v66, M6))
  else
  ((fX11_clockOf M6 a0 ((v10 / (10 : Int32)))).bind fun v70 =>
  (fX11_clockOf M6 a0 ((rmI v14 ((10 : Int32))))).bind fun v74 =>
  (fX11_slid N M6 a0 a1 v18 ((v70 - v74))).bind fun v78 =>
  some (v78, M6)))))))))
def fX10_isSlides (M : Mm) (a0 : Int32) : Option (Int32) :=
  (fX10_within M a0 ((1 : Int32)) ((40 : Int32))).bind fun v2 =>
  (zr v2).bind fun v3 =>
  some (v3)
def fX10_isPart (M : Mm) (a0 : Int32) : Option (Int32) :=
  (fX10_within M a0 ((0 : Int32)) ((1 : Int32))).bind fun v2 =>
  (zr v2).bind fun v3 =>
  some (v3)
def BX5_take_43 (N : Nat) (K43 : Mm → Nat → Nat → Nat → Int32 → Option (Mm)) (M : Mm) (x0 : Nat) (x1 : Nat) (x2 : Nat) (x5 : Int32)  : Option (Mm) :=
  (gI M 5 x0 3).bind fun v1 =>
  if v1 < x5 then
  (some M)
  else
  ((gI M 0 x2 4).bind fun v3 =>
  (gI M 0 x2 5).bind fun v5 =>
  bd2 (fX1_meeting N M x1 v3 ((x5 * v5))) fun v8 M9 =>
  (gQ M9 5 x0 0).bind fun q12 =>
  bd2 (fX3_add M9 q12 v8) fun v15 M16 =>
  (gI M16 5 x0 2).bind fun v19 =>
  (pF M16 5 x0 2 (.int ((v19 + v8)))).bind fun M21 =>
  K43 M21 x0 x1 x2 ((x5 + (1 : Int32))))
def LX5_take_43 (N : Nat) : Nat → Mm → Nat → Nat → Nat → Int32 → Option (Mm)
  | 0, _, _, _, _, _ => none
  | n + 1, M, x0, x1, x2, x5 => BX5_take_43 N (LX5_take_43 N n) M x0 x1 x2 x5
def fX5_take (N : Nat) (M : Mm) (a0 : Nat) (a1 : Nat) (a2 : Nat) (a3 : Int32) (a4 : Int32) : Option (Mm) :=
  (gC M 5 a0).bind fun _ =>
  (fX1_drawLine N M a1 a3).bind fun M2 =>
  (pF M2 5 a0 3 (.int a4)).bind fun M5 =>
  (gQ M5 5 a0 0).bind fun q7 =>
  (fX3_clear M5 q7).bind fun M10 =>
  (gQ M10 5 a0 0).bind fun q13 =>
  (gI M10 0 a2 4).bind fun v15 =>
  bd2 (fX1_meeting N M10 a1 v15 ((0 : Int32))) fun v18 M19 =>
  bd2 (fX3_add M19 q13 v18) fun v23 M24 =>
  (pF M24 5 a0 2 (.int ((0 : Int32)))).bind fun M27 =>
  LX5_take_43 N N M27 a0 a1 a2 ((1 : Int32))
def BX5_slidWith_4 (N : Nat) (K4 : Mm → Nat → Int32 → Int32 → Int32 → Option (Int32)) (M : Mm) (x0 : Nat) (x1 : Int32) (x2 : Int32) (x3 : Int32)  : Option (Int32) :=
  (gI M 5 x0 3).bind fun v1 =>
  if v1 < x3 then
  (some (x2))
  else
  ((gQ M 5 x0 0).bind fun q3 =>
  (fX3_at M q3 x3).bind fun v6 =>
  if v6 < x1 then
  (K4 M x0 x1 x2 ((x3 + (1 : Int32))))
  else
  (K4 M x0 x1 ((x2 + (1 : Int32))) ((x3 + (1 : Int32)))))
def LX5_slidWith_4 (N : Nat) : Nat → Mm → Nat → Int32 → Int32 → Int32 → Option (Int32)
  | 0, _, _, _, _, _ => none
  | n + 1, M, x0, x1, x2, x3 => BX5_slidWith_4 N (LX5_slidWith_4 N n) M x0 x1 x2 x3
def fX5_slidWith (N : Nat) (M : Mm) (a0 : Nat) (a1 : Int32) : Option (Int32) :=
  (gC M 5 a0).bind fun _ =>
  LX5_slidWith_4 N N M a0 a1 ((0 : Int32)) ((1 : Int32))
def fX5_noFewer (N : Nat) (M : Mm) (a0 : Nat) : Option (Int32) :=
  (gC M 5 a0).bind fun _ =>
  (gQ M 5 a0 0).bind fun q1 =>
  (fX3_at M q1 ((0 : Int32))).bind fun v4 =>
  (fX5_slidWith N M a0 v4).bind fun v8 =>
  some (v8)
def BX10_greatestShared_9 (N : Nat) (K9 : Mm → Int64 → Int64 → Int32 → Option (Int64)) (M : Mm) (x4 : Int64) (x6 : Int64) (x8 : Int32)  : Option (Int64) :=
  if (200 : Int32) ≤ x8 then
  (some (x4))
  else
  (if (lg_cmp x6 ((0 : Int64))) = 0 then
  (some (x4))
  else
  ((mJ x4 x6).bind fun v1 =>
  K9 M x6 v1 ((x8 + (1 : Int32)))))
def LX10_greatestShared_9 (N : Nat) : Nat → Mm → Int64 → Int64 → Int32 → Option (Int64)
  | 0, _, _, _, _ => none
  | n + 1, M, x4, x6, x8 => BX10_greatestShared_9 N (LX10_greatestShared_9 N n) M x4 x6 x8
def fX10_greatestShared (N : Nat) (M : Mm) (a0 : Int64) (a2 : Int64) : Option (Int64) :=
  LX10_greatestShared_9 N N M a0 a2 ((0 : Int32))
def jX10_inLowestTerms_15 (N : Nat) (M : Mm) (x0 : Int64) (x2 : Int64) (x4 : Int32) (s0 : Int64) : Option (Int64) :=
  if (lg_cmp s0 ((0 : Int64))) = 0 then
  (if x4 = 0 then
  (some ((0 : Int64)))
  else
  (some ((1 : Int64))))
  else
  (if x4 = 0 then
  ((dJ x0 s0).bind fun v3 =>
  some (v3))
  else
  ((dJ x2 s0).bind fun v1 =>
  some (v1)))
def fX10_inLowestTerms (N : Nat) (M : Mm) (a0 : Int64) (a2 : Int64) (a4 : Int32) : Option (Int64) :=
  if (lg_cmp a0 ((0 : Int64))) = 0 then
  (jX10_inLowestTerms_15 N M a0 a2 a4 ((0 : Int64)))
  else
  ((fX10_greatestShared N M a0 a2).bind fun v2 =>
  jX10_inLowestTerms_15 N M a0 a2 a4 v2)
def jX10_chance_29 (N : Nat) (M : Mm) (x0 : Nat)  : Option (Int32 × Mm) :=
  bd2 (fX10_error M x0 ((1 : Int32))) fun v2 M3 =>
  some (v2, M3)
def fX10_chance (N : Nat) (M : Mm) (a0 : Nat) (a1 : Int32) (a2 : Int32) (a3 : Int32) : Option (Int32 × Mm) :=
  (gC M 10 a0).bind fun _ =>
  (gQ M 10 a0 0).bind fun q1 =>
  (fX6_countingAt M q1 a1).bind fun r4 =>
  om r4 (jX10_chance_29 N M a0)
  (fun q7 => (fX10_isSlides M a2).bind fun v9 =>
  if v9 = 0 then
  (jX10_chance_29 N M a0)
  else
  ((fX10_isPart M a3).bind fun v11 =>
  if v11 = 0 then
  (jX10_chance_29 N M a0)
  else
  ((gQ M 10 a0 5).bind fun q12 =>
  (gQ M 10 a0 0).bind fun q14 =>
  (gI M 0 q7 2).bind fun v16 =>
  (fX1_hear N M q12 q14 v16).bind fun M19 =>
  (gQ M19 10 a0 7).bind fun q22 =>
  (gQ M19 10 a0 5).bind fun q24 =>
  (gI M19 0 q7 3).bind fun v26 =>
  (fX5_take N M19 q22 q24 q7 v26 a2).bind fun M29 =>
  (gQ M29 10 a0 7).bind fun q32 =>
  (fX5_noFewer N M29 q32).bind fun v35 =>
  (fX10_inLowestTerms N M29 (((v35).toInt64)) (((a2).toInt64)) a3).bind fun v39 =>
  some (((v39).toInt32), M29))))
def fX11_isAsked (M : Mm) (a0 : Nat) (a1 : Int32) (a2 : Int32) : Option (Int32) :=
  (gC M 11 a0).bind fun _ =>
  (fX11_isCounting M a0 a1).bind fun v2 =>
  if v2 = 0 then
  (some ((0 : Int32)))
  else
  ((fX11_in M (((a2).toInt64)) ((1 : Int64)) ((40 : Int64))).bind fun v6 =>
  if v6 = 0 then
  (some ((0 : Int32)))
  else
  (some ((1 : Int32))))
def BX11_common_6 (N : Nat) (K6 : Mm → Int64 → Int64 → Option (Int64)) (M : Mm) (x4 : Int64) (x6 : Int64)  : Option (Int64) :=
  if (lg_cmp x6 ((0 : Int64))) = 0 then
  (some (x4))
  else
  ((mJ x4 x6).bind fun v1 =>
  K6 M x6 v1)
def LX11_common_6 (N : Nat) : Nat → Mm → Int64 → Int64 → Option (Int64)
  | 0, _, _, _ => none
  | n + 1, M, x4, x6 => BX11_common_6 N (LX11_common_6 N n) M x4 x6
def fX11_common (N : Nat) (M : Mm) (a0 : Int64) (a2 : Int64) : Option (Int64) :=
  LX11_common_6 N N M a0 a2
def fX11_part (N : Nat) (M : Mm) (a0 : Int32) (a1 : Int32) (a2 : Int32) : Option (Int32) :=
  (fX11_common N M (((a0).toInt64)) (((a1).toInt64))).bind fun v2 =>
  if a2 = 0 then
  ((dI a0 (((v2).toInt32))).bind fun v5 =>
  some (v5))
  else
  ((dI a1 (((v2).toInt32))).bind fun v3 =>
  some (v3))
def BX11_chance_42 (N : Nat) (K42 : Mm → Nat → Int32 → Int32 → Int32 → Int32 → Int32 → Int32 → Option (Int32 × Mm)) (M : Mm) (x0 : Nat) (x1 : Int32) (x2 : Int32) (x3 : Int32) (x4 : Int32) (x5 : Int32) (x6 : Int32)  : Option (Int32 × Mm) :=
  if x2 < x6 then
  ((fX11_part N M x5 x2 x3).bind fun v2 =>
  some (v2, M))
  else
  ((fX11_of M x0 x1 ((2 : Int32))).bind fun v4 =>
  (fX11_of M x0 x1 ((4 : Int32))).bind fun v8 =>
  (fX11_slid N M x0 x1 v4 ((x6 * v8))).bind fun v12 =>
  if v12 < x4 then
  (K42 M x0 x1 x2 x3 x4 ((x5 + (0 : Int32))) ((x6 + (1 : Int32))))
  else
  (K42 M x0 x1 x2 x3 x4 ((x5 + (1 : Int32))) ((x6 + (1 : Int32)))))
def LX11_chance_42 (N : Nat) : Nat → Mm → Nat → Int32 → Int32 → Int32 → Int32 → Int32 → Int32 → Option (Int32 × Mm)
  | 0, _, _, _, _, _, _, _, _ => none
  | n + 1, M, x0, x1, x2, x3, x4, x5, x6 => BX11_chance_42 N (LX11_chance_42 N n) M x0 x1 x2 x3 x4 x5 x6
def jX11_chance_19 (N : Nat) (M : Mm) (x0 : Nat)  : Option (Int32 × Mm) :=
  bd2 (fX11_error M x0 ((1 : Int32))) fun v2 M3 =>
  some (v2, M3)
def fX11_chance (N : Nat) (M : Mm) (a0 : Nat) (a1 : Int32) (a2 : Int32) (a3 : Int32) : Option (Int32 × Mm) :=
  (gC M 11 a0).bind fun _ =>
  (fX11_isAsked M a0 a1 a2).bind fun v2 =>
  if v2 = 0 then
  (jX11_chance_19 N M a0)
  else
  ((fX11_in M (((a3).toInt64)) ((0 : Int64)) ((1 : Int64))).bind fun v6 =>
  if v6 = 0 then
  (jX11_chance_19 N M a0)
  else
  ((fX11_readAll N M a0).bind fun M8 =>
  (fX11_plain N M8 a0 a1).bind fun v12 =>
  LX11_chance_42 N N M8 a0 a1 a2 a3 v12 ((0 : Int32)) ((1 : Int32))))
def BX5_leastRare_2 (N : Nat) (K2 : Mm → Nat → Int32 → Int32 → Option (Int32)) (M : Mm) (x0 : Nat) (x1 : Int32) (x2 : Int32)  : Option (Int32) :=
  if (96 : Int32) < x2 then
  (some (x2))
  else
  ((fX5_slidWith N M x0 x2).bind fun v2 =>
  (gI M 5 x0 3).bind fun v5 =>
  if ((100 : Int32) * v2) ≤ (x1 * v5) then
  (some (x2))
  else
  (K2 M x0 x1 ((x2 + (1 : Int32)))))
def LX5_leastRare_2 (N : Nat) : Nat → Mm → Nat → Int32 → Int32 → Option (Int32)
  | 0, _, _, _, _ => none
  | n + 1, M, x0, x1, x2 => BX5_leastRare_2 N (LX5_leastRare_2 N n) M x0 x1 x2
def fX5_leastRare (N : Nat) (M : Mm) (a0 : Nat) (a1 : Int32) : Option (Int32) :=
  (gC M 5 a0).bind fun _ =>
  LX5_leastRare_2 N N M a0 a1 ((0 : Int32))
def jX10_ahead_32 (N : Nat) (M : Mm) (x0 : Nat)  : Option (Int32 × Mm) :=
  bd2 (fX10_error M x0 ((1 : Int32))) fun v2 M3 =>
  some (v2, M3)
def fX10_ahead (N : Nat) (M : Mm) (a0 : Nat) (a1 : Int32) (a2 : Int32) (a3 : Int32) : Option (Int32 × Mm) :=
  (gC M 10 a0).bind fun _ =>
  (gQ M 10 a0 0).bind fun q1 =>
  (fX6_countingAt M q1 a1).bind fun r4 =>
  om r4 (jX10_ahead_32 N M a0)
  (fun q7 => (fX10_isSlides M a2).bind fun v9 =>
  if v9 = 0 then
  (jX10_ahead_32 N M a0)
  else
  ((fX10_within M a3 ((0 : Int32)) ((100 : Int32))).bind fun v11 =>
  if v11 = 0 then
  (jX10_ahead_32 N M a0)
  else
  ((gQ M 10 a0 5).bind fun q12 =>
  (gQ M 10 a0 0).bind fun q14 =>
  (gI M 0 q7 2).bind fun v16 =>
  (fX1_hear N M q12 q14 v16).bind fun M19 =>
  (gQ M19 10 a0 7).bind fun q22 =>
  (gQ M19 10 a0 5).bind fun q24 =>
  (gI M19 0 q7 3).bind fun v26 =>
  (fX5_take N M19 q22 q24 q7 v26 a2).bind fun M29 =>
  (gQ M29 10 a0 7).bind fun q32 =>
  (fX5_leastRare N M29 q32 a3).bind fun v35 =>
  some (v35, M29))))
def BX11_asMany_5 (N : Nat) (K5 : Mm → Nat → Int32 → Int32 → Int32 → Int32 → Option (Int32)) (M : Mm) (x0 : Nat) (x1 : Int32) (x2 : Int32) (x3 : Int32) (x4 : Int32)  : Option (Int32) :=
  if x1 < x4 then
  (some (x3))
  else
  ((gQ M 11 x0 17).bind fun q1 =>
  (aI M 0 q1 x4).bind fun v3 =>
  if v3 < x2 then
  (K5 M x0 x1 x2 ((x3 + (0 : Int32))) ((x4 + (1 : Int32))))
  else
  (K5 M x0 x1 x2 ((x3 + (1 : Int32))) ((x4 + (1 : Int32)))))
def LX11_asMany_5 (N : Nat) : Nat → Mm → Nat → Int32 → Int32 → Int32 → Int32 → Option (Int32)
  | 0, _, _, _, _, _, _ => none
  | n + 1, M, x0, x1, x2, x3, x4 => BX11_asMany_5 N (LX11_asMany_5 N n) M x0 x1 x2 x3 x4
def fX11_asMany (N : Nat) (M : Mm) (a0 : Nat) (a1 : Int32) (a2 : Int32) : Option (Int32) :=
  (gC M 11 a0).bind fun _ =>
  LX11_asMany_5 N N M a0 a1 a2 ((0 : Int32)) ((1 : Int32))
def BX11_ahead_76 (N : Nat) (K76 : Mm → Nat → Int32 → Int32 → Int32 → Option (Int32 × Mm)) (M : Mm) (x0 : Nat) (x2 : Int32) (x3 : Int32) (x4 : Int32)  : Option (Int32 × Mm) :=
  (fX11_asMany N M x0 x2 x4).bind fun v2 =>
  if ((100 : Int32) * v2) ≤ (x3 * x2) then
  (some (x4, M))
  else
  (K76 M x0 x2 x3 ((x4 + (1 : Int32))))
def LX11_ahead_76 (N : Nat) : Nat → Mm → Nat → Int32 → Int32 → Int32 → Option (Int32 × Mm)
  | 0, _, _, _, _, _ => none
  | n + 1, M, x0, x2, x3, x4 => BX11_ahead_76 N (LX11_ahead_76 N n) M x0 x2 x3 x4
def BX11_ahead_34 (N : Nat) (K34 : Mm → Nat → Int32 → Int32 → Int32 → Int32 → Option (Int32 × Mm)) (M : Mm) (x0 : Nat) (x1 : Int32) (x2 : Int32) (x3 : Int32) (x4 : Int32)  : Option (Int32 × Mm) :=
  if x2 < x4 then
  (LX11_ahead_76 N N M x0 x2 x3 ((0 : Int32)))
  else
  ((gQ M 11 x0 17).bind fun q1 =>
  (fX11_of M x0 x1 ((2 : Int32))).bind fun v4 =>
  (fX11_of M x0 x1 ((4 : Int32))).bind fun v8 =>
  (fX11_slid N M x0 x1 v4 ((x4 * v8))).bind fun v12 =>
  (sI M 0 q1 x4 v12).bind fun M15 =>
  K34 M15 x0 x1 x2 x3 ((x4 + (1 : Int32))))
def LX11_ahead_34 (N : Nat) : Nat → Mm → Nat → Int32 → Int32 → Int32 → Int32 → Option (Int32 × Mm)
  | 0, _, _, _, _, _, _ => none
  | n + 1, M, x0, x1, x2, x3, x4 => BX11_ahead_34 N (LX11_ahead_34 N n) M x0 x1 x2 x3 x4
def jX11_ahead_21 (N : Nat) (M : Mm) (x0 : Nat)  : Option (Int32 × Mm) :=
  bd2 (fX11_error M x0 ((1 : Int32))) fun v2 M3 =>
  some (v2, M3)
def fX11_ahead (N : Nat) (M : Mm) (a0 : Nat) (a1 : Int32) (a2 : Int32) (a3 : Int32) : Option (Int32 × Mm) :=
  (gC M 11 a0).bind fun _ =>
  (fX11_isAsked M a0 a1 a2).bind fun v2 =>
  if v2 = 0 then
  (jX11_ahead_21 N M a0)
  else
  ((fX11_in M (((a3).toInt64)) ((0 : Int64)) ((100 : Int64))).bind fun v6 =>
  if v6 = 0 then
  (jX11_ahead_21 N M a0)
  else
  ((fX11_readAll N M a0).bind fun M8 =>
  LX11_ahead_34 N N M8 a0 a1 a2 a3 ((1 : Int32))))
def fX10_line (M : Mm) (a0 : Nat) (a1 : Int32) : Option (Int32 × Mm) :=
  (gC M 10 a0).bind fun _ =>
  (fX10_isLine M a1).bind fun v2 =>
  if v2 = 0 then
  (bd2 (fX10_error M a0 ((1 : Int32))) fun v26 M27 =>
  some (v26, M27))
  else
  ((gQ M 10 a0 0).bind fun q3 =>
  (gQ M 6 q3 9).bind fun q5 =>
  bd2 (fX3_add M q5 a1) fun v8 M9 =>
  if v8 = 0 then
  (bd2 (fX10_error M9 a0 ((4 : Int32))) fun v21 M22 =>
  some (v21, M22))
  else
  ((gQ M9 10 a0 0).bind fun q12 =>
  (gQ M9 6 q12 9).bind fun q14 =>
  (fX3_size M9 q14).bind fun v17 =>
  some ((v17 - (1 : Int32)), M9)))
def fX11_line (M : Mm) (a0 : Nat) (a1 : Int32) : Option (Int32 × Mm) :=
  (gC M 11 a0).bind fun _ =>
  (fX11_isLine M a1).bind fun v2 =>
  if v2 = 0 then
  (bd2 (fX11_error M a0 ((1 : Int32))) fun v31 M32 =>
  some (v31, M32))
  else
  ((gQ M 11 a0 0).bind fun q3 =>
  (aI M 0 q3 ((3 : Int32))).bind fun v5 =>
  if v5 = (6 : Int32) then
  (bd2 (fX11_error M a0 ((4 : Int32))) fun v26 M27 =>
  some (v26, M27))
  else
  ((gQ M 11 a0 0).bind fun q7 =>
  (gQ M 11 a0 0).bind fun q9 =>
  (aI M 0 q9 ((3 : Int32))).bind fun v11 =>
  (sI M 0 q7 (((366 : Int32) + v11)) a1).bind fun M13 =>
  (gQ M13 11 a0 0).bind fun q15 =>
  (aI M13 0 q15 ((3 : Int32))).bind fun v17 =>
  (sI M13 0 q15 ((3 : Int32)) ((v17 + (1 : Int32)))).bind fun M19 =>
  (gQ M19 11 a0 0).bind fun q21 =>
  (aI M19 0 q21 ((3 : Int32))).bind fun v23 =>
  some ((v23 - (1 : Int32)), M19)))
def fX5_scoreAt (M : Mm) (a0 : Nat) (a1 : Int32) : Option (Int32) :=
  (gC M 5 a0).bind fun _ =>
  (gI M 5 a0 3).bind fun v1 =>
  (gQ M 5 a0 0).bind fun q3 =>
  (fX3_at M q3 a1).bind fun v6 =>
  (gI M 5 a0 2).bind fun v9 =>
  some (((v1 * v6) - v9))
def BX5_keepAll_2 (N : Nat) (K2 : Mm → Nat → Int32 → Option (Mm)) (M : Mm) (x0 : Nat) (x1 : Int32)  : Option (Mm) :=
  (gI M 5 x0 3).bind fun v1 =>
  if v1 < x1 then
  (some M)
  else
  ((gQ M 5 x0 1).bind fun q3 =>
  (fX5_scoreAt M x0 x1).bind fun v6 =>
  bd2 (fX3_add M q3 v6) fun v10 M11 =>
  K2 M11 x0 ((x1 + (1 : Int32))))
def LX5_keepAll_2 (N : Nat) : Nat → Mm → Nat → Int32 → Option (Mm)
  | 0, _, _, _ => none
  | n + 1, M, x0, x1 => BX5_keepAll_2 N (LX5_keepAll_2 N n) M x0 x1
def fX5_keepAll (N : Nat) (M : Mm) (a0 : Nat) : Option (Mm) :=
  (gC M 5 a0).bind fun _ =>
  LX5_keepAll_2 N N M a0 ((0 : Int32))
def BX5_keepGreater_24 (N : Nat) (K24 : Mm → Nat → Int32 → Int32 → Option (Int32 × Mm)) (M : Mm) (x0 : Nat) (x1 : Int32) (x2 : Int32)  : Option (Int32 × Mm) :=
  (gI M 5 x0 3).bind fun v1 =>
  if v1 < x2 then
  ((zr x1).bind fun v3 =>
  some (v3, M))
  else
  ((gQ M 5 x0 1).bind fun q5 =>
  (gQ M 5 x0 1).bind fun q7 =>
  (fX3_at M q7 x2).bind fun v10 =>
  (fX5_scoreAt M x0 x2).bind fun v14 =>
  (fJ9_max_7cf53 M v10 v14).bind fun v18 =>
  bd2 (fX3_exchange M q5 x2 v18) fun v20 M21 =>
  K24 M21 x0 x1 ((x2 + (1 : Int32))))
def LX5_keepGreater_24 (N : Nat) : Nat → Mm → Nat → Int32 → Int32 → Option (Int32 × Mm)
  | 0, _, _, _, _ => none
  | n + 1, M, x0, x1, x2 => BX5_keepGreater_24 N (LX5_keepGreater_24 N n) M x0 x1 x2
def fX5_keepGreater (N : Nat) (M : Mm) (a0 : Nat) : Option (Int32 × Mm) :=
  (gC M 5 a0).bind fun _ =>
  (fX5_scoreAt M a0 ((0 : Int32))).bind fun v2 =>
  (gQ M 5 a0 1).bind fun q5 =>
  (fX3_at M q5 ((0 : Int32))).bind fun v8 =>
  if v2 ≤ v8 then
  (LX5_keepGreater_24 N N M a0 ((0 : Int32)) ((0 : Int32)))
  else
  (LX5_keepGreater_24 N N M a0 ((1 : Int32)) ((0 : Int32)))
def BX5_takeLines_13 (N : Nat) (K13 : Mm → Nat → Nat → Nat → Nat → Int32 → Int32 → Int32 → Option (Int32 × Mm)) (M : Mm) (x0 : Nat) (x1 : Nat) (x2 : Nat) (x3 : Nat) (x4 : Int32) (x5 : Int32) (x6 : Int32)  : Option (Int32 × Mm) :=
  (fX3_size M x3).bind fun v2 =>
  if v2 ≤ x6 then
  (some (x5, M))
  else
  ((fX3_at M x3 x6).bind fun v6 =>
  (fX5_take N M x0 x1 x2 v6 x4).bind fun M10 =>
  if x6 = 0 then
  ((fX5_keepAll N M10 x0).bind fun M19 =>
  K13 M19 x0 x1 x2 x3 x4 x5 ((x6 + (1 : Int32))))
  else
  (bd2 (fX5_keepGreater N M10 x0) fun v14 M15 =>
  if v14 = 0 then
  (K13 M15 x0 x1 x2 x3 x4 x5 ((x6 + (1 : Int32))))
  else
  (K13 M15 x0 x1 x2 x3 x4 x6 ((x6 + (1 : Int32))))))
def LX5_takeLines_13 (N : Nat) : Nat → Mm → Nat → Nat → Nat → Nat → Int32 → Int32 → Int32 → Option (Int32 × Mm)
  | 0, _, _, _, _, _, _, _, _ => none
  | n + 1, M, x0, x1, x2, x3, x4, x5, x6 => BX5_takeLines_13 N (LX5_takeLines_13 N n) M x0 x1 x2 x3 x4 x5 x6
def fX5_takeLines (N : Nat) (M : Mm) (a0 : Nat) (a1 : Nat) (a2 : Nat) (a3 : Nat) (a4 : Int32) : Option (Int32 × Mm) :=
  (gC M 5 a0).bind fun _ =>
  (gQ M 5 a0 1).bind fun q1 =>
  (fX3_clear M q1).bind fun M4 =>
  LX5_takeLines_13 N N M4 a0 a1 a2 a3 a4 ((0 : Int32)) ((0 : Int32))
def jX10_chosen_20 (N : Nat) (M : Mm) (x0 : Nat)  : Option (Int32 × Mm) :=
  bd2 (fX10_error M x0 ((1 : Int32))) fun v2 M3 =>
  some (v2, M3)
def fX10_chosen (N : Nat) (M : Mm) (a0 : Nat) (a1 : Int32) (a2 : Int32) : Option (Int32 × Mm) :=
  (gC M 10 a0).bind fun _ =>
  (gQ M 10 a0 0).bind fun q1 =>
  (fX6_countingAt M q1 a1).bind fun r4 =>
  om r4 (jX10_chosen_20 N M a0)
  (fun q7 => (fX10_isSlides M a2).bind fun v9 =>
  if v9 = 0 then
  (jX10_chosen_20 N M a0)
  else
  ((gQ M 10 a0 0).bind fun q10 =>
  (gQ M 6 q10 9).bind fun q12 =>
  (fX3_size M q12).bind fun v15 =>
  if v15 = 0 then
  (bd2 (fX10_error M a0 ((2 : Int32))) fun v42 M43 =>
  some (v42, M43))
  else
  ((gQ M 10 a0 5).bind fun q18 =>
  (gQ M 10 a0 0).bind fun q20 =>
  (gI M 0 q7 2).bind fun v22 =>
  (fX1_hear N M q18 q20 v22).bind fun M25 =>
  (gQ M25 10 a0 7).bind fun q28 =>
  (gQ M25 10 a0 5).bind fun q30 =>
  (gQ M25 10 a0 0).bind fun q32 =>
  (gQ M25 6 q32 9).bind fun q34 =>
  bd2 (fX5_takeLines N M25 q28 q30 q7 q34 a2) fun v37 M38 =>
  some (v37, M38))))
def BX11_findScores_89 (N : Nat) (K6 : Mm → Nat → Int32 → Int32 → Int32 → Option (Mm)) (K89 : Mm → Nat → Int32 → Int32 → Int32 → Int32 → Int32 → Option (Mm)) (M : Mm) (x0 : Nat) (x1 : Int32) (x2 : Int32) (x3 : Int32) (x4 : Int32) (x5 : Int32)  : Option (Mm) :=
  if x2 < x5 then
  (K6 M x0 x1 x2 ((x3 + (1 : Int32))))
  else
  ((gQ M 11 x0 18).bind fun q1 =>
  (gQ M 11 x0 17).bind fun q3 =>
  (aI M 0 q3 x5).bind fun v5 =>
  (sI M 0 q1 ((((41 : Int32) * x3) + x5)) (((x2 * v5) - x4))).bind fun M7 =>
  K89 M7 x0 x1 x2 x3 x4 ((x5 + (1 : Int32))))
def LX11_findScores_89 (N : Nat) (K6 : Mm → Nat → Int32 → Int32 → Int32 → Option (Mm)) : Nat → Mm → Nat → Int32 → Int32 → Int32 → Int32 → Int32 → Option (Mm)
  | 0, _, _, _, _, _, _, _ => none
  | n + 1, M, x0, x1, x2, x3, x4, x5 => BX11_findScores_89 N K6 (LX11_findScores_89 N K6 n) M x0 x1 x2 x3 x4 x5
def BX11_findScores_22 (N : Nat) (K6 : Mm → Nat → Int32 → Int32 → Int32 → Option (Mm)) (K22 : Mm → Nat → Int32 → Int32 → Int32 → Int32 → Int32 → Option (Mm)) (M : Mm) (x0 : Nat) (x1 : Int32) (x2 : Int32) (x3 : Int32) (x4 : Int32) (x5 : Int32)  : Option (Mm) :=
  if x2 < x5 then
  (LX11_findScores_89 N K6 N M x0 x1 x2 x3 x4 ((0 : Int32)))
  else
  ((gQ M 11 x0 17).bind fun q1 =>
  (gQ M 11 x0 0).bind fun q3 =>
  (aI M 0 q3 (((366 : Int32) + x3))).bind fun v5 =>
  (fX11_of M x0 x1 ((4 : Int32))).bind fun v8 =>
  (fX11_slid N M x0 x1 v5 ((x5 * v8))).bind fun v12 =>
  (sI M 0 q1 x5 v12).bind fun M15 =>
  if x5 ≤ 0 then
  (K22 M15 x0 x1 x2 x3 ((x4 + (0 : Int32))) ((x5 + (1 : Int32))))
  else
  ((gQ M15 11 x0 17).bind fun q17 =>
  (aI M15 0 q17 x5).bind fun v19 =>
  K22 M15 x0 x1 x2 x3 ((x4 + v19)) ((x5 + (1 : Int32)))))
def LX11_findScores_22 (N : Nat) (K6 : Mm → Nat → Int32 → Int32 → Int32 → Option (Mm)) : Nat → Mm → Nat → Int32 → Int32 → Int32 → Int32 → Int32 → Option (Mm)
  | 0, _, _, _, _, _, _, _ => none
  | n + 1, M, x0, x1, x2, x3, x4, x5 => BX11_findScores_22 N K6 (LX11_findScores_22 N K6 n) M x0 x1 x2 x3 x4 x5
def BX11_findScores_6 (N : Nat) (K6 : Mm → Nat → Int32 → Int32 → Int32 → Option (Mm)) (M : Mm) (x0 : Nat) (x1 : Int32) (x2 : Int32) (x3 : Int32)  : Option (Mm) :=
  (gQ M 11 x0 0).bind fun q1 =>
  (aI M 0 q1 ((3 : Int32))).bind fun v3 =>
  if v3 ≤ x3 then
  (some M)
  else
  (LX11_findScores_22 N K6 N M x0 x1 x2 x3 ((0 : Int32)) ((0 : Int32)))
def LX11_findScores_6 (N : Nat) : Nat → Mm → Nat → Int32 → Int32 → Int32 → Option (Mm)
  | 0, _, _, _, _, _ => none
  | n + 1, M, x0, x1, x2, x3 => BX11_findScores_6 N (LX11_findScores_6 N n) M x0 x1 x2 x3
def fX11_findScores (N : Nat) (M : Mm) (a0 : Nat) (a1 : Int32) (a2 : Int32) : Option (Mm) :=
  (gC M 11 a0).bind fun _ =>
  (fX11_readAll N M a0).bind fun M2 =>
  LX11_findScores_6 N N M2 a0 a1 a2 ((0 : Int32))
def BX11_greatest_4 (N : Nat) (K4 : Mm → Nat → Int32 → Int32 → Int32 → Option (Int32)) (M : Mm) (x0 : Nat) (x1 : Int32) (x2 : Int32) (x3 : Int32)  : Option (Int32) :=
  (gQ M 11 x0 0).bind fun q1 =>
  (aI M 0 q1 ((3 : Int32))).bind fun v3 =>
  if v3 ≤ x3 then
  (some (x2))
  else
  ((gQ M 11 x0 18).bind fun q5 =>
  (aI M 0 q5 ((((41 : Int32) * x3) + x1))).bind fun v7 =>
  (gQ M 11 x0 18).bind fun q9 =>
  (aI M 0 q9 ((((41 : Int32) * x2) + x1))).bind fun v11 =>
  if v7 ≤ v11 then
  (K4 M x0 x1 x2 ((x3 + (1 : Int32))))
  else
  (K4 M x0 x1 x3 ((x3 + (1 : Int32)))))
def LX11_greatest_4 (N : Nat) : Nat → Mm → Nat → Int32 → Int32 → Int32 → Option (Int32)
  | 0, _, _, _, _, _ => none
  | n + 1, M, x0, x1, x2, x3 => BX11_greatest_4 N (LX11_greatest_4 N n) M x0 x1 x2 x3
def fX11_greatest (N : Nat) (M : Mm) (a0 : Nat) (a1 : Int32) : Option (Int32) :=
  (gC M 11 a0).bind fun _ =>
  LX11_greatest_4 N N M a0 a1 ((0 : Int32)) ((1 : Int32))
def fX11_chosen (N : Nat) (M : Mm) (a0 : Nat) (a1 : Int32) (a2 : Int32) : Option (Int32 × Mm) :=
  (gC M 11 a0).bind fun _ =>
  (fX11_isAsked M a0 a1 a2).bind fun v2 =>
  if v2 = 0 then
  (bd2 (fX11_error M a0 ((1 : Int32))) fun v23 M24 =>
  some (v23, M24))
  else
  ((gQ M 11 a0 0).bind fun q5 =>
  (aI M 0 q5 ((3 : Int32))).bind fun v7 =>
  if v7 = 0 then
  (bd2 (fX11_error M a0 ((2 : Int32))) fun v18 M19 =>
  some (v18, M19))
  else
  ((fX11_findScores N M a0 a1 a2).bind fun M10 =>
  (fX11_greatest N M10 a0 ((0 : Int32))).bind fun v14 =>
  some (v14, M10)))
def BX5_noLess_4 (N : Nat) (K4 : Mm → Nat → Int32 → Int32 → Option (Int32)) (M : Mm) (x0 : Nat) (x1 : Int32) (x2 : Int32)  : Option (Int32) :=
  (gI M 5 x0 3).bind fun v1 =>
  if v1 < x2 then
  (some (x1))
  else
  ((gQ M 5 x0 1).bind fun q3 =>
  (fX3_at M q3 x2).bind fun v6 =>
  (gQ M 5 x0 1).bind fun q9 =>
  (fX3_at M q9 ((0 : Int32))).bind fun v12 =>
  if v6 < v12 then
  (K4 M x0 x1 ((x2 + (1 : Int32))))
  else
  (K4 M x0 ((x1 + (1 : Int32))) ((x2 + (1 : Int32)))))
def LX5_noLess_4 (N : Nat) : Nat → Mm → Nat → Int32 → Int32 → Option (Int32)
  | 0, _, _, _, _ => none
  | n + 1, M, x0, x1, x2 => BX5_noLess_4 N (LX5_noLess_4 N n) M x0 x1 x2
def fX5_noLess (N : Nat) (M : Mm) (a0 : Nat) : Option (Int32) :=
  (gC M 5 a0).bind fun _ =>
  LX5_noLess_4 N N M a0 ((0 : Int32)) ((1 : Int32))
def jX10_paid_29 (N : Nat) (M : Mm) (x0 : Nat)  : Option (Int32 × Mm) :=
  bd2 (fX10_error M x0 ((1 : Int32))) fun v2 M3 =>
  some (v2, M3)
def fX10_paid (N : Nat) (M : Mm) (a0 : Nat) (a1 : Int32) (a2 : Int32) (a3 : Int32) : Option (Int32 × Mm) :=
  (gC M 10 a0).bind fun _ =>
  (gQ M 10 a0 0).bind fun q1 =>
  (fX6_countingAt M q1 a1).bind fun r4 =>
  om r4 (jX10_paid_29 N M a0)
  (fun q7 => (fX10_isSlides M a2).bind fun v9 =>
  if v9 = 0 then
  (jX10_paid_29 N M a0)
  else
  ((fX10_isPart M a3).bind fun v11 =>
  if v11 = 0 then
  (jX10_paid_29 N M a0)
  else
  ((gQ M 10 a0 0).bind fun q12 =>
  (gQ M 6 q12 9).bind fun q14 =>
  (fX3_size M q14).bind fun v17 =>
  if v17 = 0 then
  (bd2 (fX10_error M a0 ((2 : Int32))) fun v52 M53 =>
  some (v52, M53))
  else
  ((gQ M 10 a0 5).bind fun q20 =>
  (gQ M 10 a0 0).bind fun q22 =>
  (gI M 0 q7 2).bind fun v24 =>
  (fX1_hear N M q20 q22 v24).bind fun M27 =>
  (gQ M27 10 a0 7).bind fun q30 =>
  (gQ M27 10 a0 5).bind fun q32 =>
  (gQ M27 10 a0 0).bind fun q34 =>
  (gQ M27 6 q34 9).bind fun q36 =>
  bd2 (fX5_takeLines N M27 q30 q32 q7 q36 a2) fun v39 M40 =>
  (gQ M40 10 a0 7).bind fun q43 =>
  (fX5_noLess N M40 q43).bind fun v46 =>
  (fX10_inLowestTerms N M40 (((v46).toInt64)) (((a2).toInt64)) a3).bind fun v50 =>
  some (((v50).toInt32), M40)))))
def BX11_paid_67 (N : Nat) (K67 : Mm → Nat → Int32 → Int32 → Int32 → Int32 → Int32 → Option (Int32 × Mm)) (M : Mm) (x0 : Nat) (x2 : Int32) (x3 : Int32) (x4 : Int32) (x5 : Int32) (x6 : Int32)  : Option (Int32 × Mm) :=
  if x2 < x6 then
  ((fX11_part N M x5 x2 x3).bind fun v2 =>
  some (v2, M))
  else
  ((gQ M 11 x0 18).bind fun q3 =>
  (fX11_greatest N M x0 x6).bind fun v6 =>
  (aI M 0 q3 ((((41 : Int32) * v6) + x6))).bind fun v9 =>
  if v9 < x4 then
  (K67 M x0 x2 x3 x4 ((x5 + (0 : Int32))) ((x6 + (1 : Int32))))
  else
  (K67 M x0 x2 x3 x4 ((x5 + (1 : Int32))) ((x6 + (1 : Int32)))))
def LX11_paid_67 (N : Nat) : Nat → Mm → Nat → Int32 → Int32 → Int32 → Int32 → Int32 → Option (Int32 × Mm)
  | 0, _, _, _, _, _, _, _ => none
  | n + 1, M, x0, x2, x3, x4, x5, x6 => BX11_paid_67 N (LX11_paid_67 N n) M x0 x2 x3 x4 x5 x6
def jX11_paid_19 (N : Nat) (M : Mm) (x0 : Nat)  : Option (Int32 × Mm) :=
  bd2 (fX11_error M x0 ((1 : Int32))) fun v2 M3 =>
  some (v2, M3)
def fX11_paid (N : Nat) (M : Mm) (a0 : Nat) (a1 : Int32) (a2 : Int32) (a3 : Int32) : Option (Int32 × Mm) :=
  (gC M 11 a0).bind fun _ =>
  (fX11_isAsked M a0 a1 a2).bind fun v2 =>
  if v2 = 0 then
  (jX11_paid_19 N M a0)
  else
  ((fX11_in M (((a3).toInt64)) ((0 : Int64)) ((1 : Int64))).bind fun v6 =>
  if v6 = 0 then
  (jX11_paid_19 N M a0)
  else
  ((gQ M 11 a0 0).bind fun q7 =>
  (aI M 0 q7 ((3 : Int32))).bind fun v9 =>
  if v9 = 0 then
  (bd2 (fX11_error M a0 ((2 : Int32))) fun v24 M25 =>
  some (v24, M25))
  else
  ((fX11_findScores N M a0 a1 a2).bind fun M12 =>
  (gQ M12 11 a0 18).bind fun q15 =>
  (fX11_greatest N M12 a0 ((0 : Int32))).bind fun v18 =>
  (aI M12 0 q15 (((41 : Int32) * v18))).bind fun v21 =>
  LX11_paid_67 N N M12 a0 a2 a3 v21 ((0 : Int32)) ((1 : Int32)))))
def fX10_let (M : Mm) (a0 : Nat) (a1 : Int32) : Option (Int32 × Mm) :=
  (gC M 10 a0).bind fun _ =>
  (fX10_isTenth M a1).bind fun v2 =>
  if v2 = 0 then
  (bd2 (fX10_error M a0 ((1 : Int32))) fun v26 M27 =>
  some (v26, M27))
  else
  ((gQ M 10 a0 0).bind fun q3 =>
  (gQ M 6 q3 10).bind fun q5 =>
  bd2 (fX3_add M q5 a1) fun v8 M9 =>
  if v8 = 0 then
  (bd2 (fX10_error M9 a0 ((4 : Int32))) fun v21 M22 =>
  some (v21, M22))
  else
  ((gQ M9 10 a0 0).bind fun q12 =>
  (gQ M9 6 q12 10).bind fun q14 =>
  (fX3_size M9 q14).bind fun v17 =>
  some ((v17 - (1 : Int32)), M9)))
def fX11_let (M : Mm) (a0 : Nat) (a1 : Int32) : Option (Int32 × Mm) :=
  (gC M 11 a0).bind fun _ =>
  (fX11_in M (((a1).toInt64)) ((0 : Int64)) ((9999 : Int64))).bind fun v2 =>
  if v2 = 0 then
  (bd2 (fX11_error M a0 ((1 : Int32))) fun v31 M32 =>
  some (v31, M32))
  else
  ((gQ M 11 a0 0).bind fun q3 =>
  (aI M 0 q3 ((4 : Int32))).bind fun v5 =>
  if v5 = (10 : Int32) then
  (bd2 (fX11_error M a0 ((4 : Int32))) fun v26 M27 =>
  some (v26, M27))
  else
  ((gQ M 11 a0 0).bind fun q7 =>
  (gQ M 11 a0 0).bind fun q9 =>
  (aI M 0 q9 ((4 : Int32))).bind fun v11 =>
  (sI M 0 q7 (((372 : Int32) + v11)) a1).bind fun M13 =>
  (gQ M13 11 a0 0).bind fun q15 =>
  (aI M13 0 q15 ((4 : Int32))).bind fun v17 =>
  (sI M13 0 q15 ((4 : Int32)) ((v17 + (1 : Int32)))).bind fun M19 =>
  (gQ M19 11 a0 0).bind fun q21 =>
  (aI M19 0 q21 ((4 : Int32))).bind fun v23 =>
  some ((v23 - (1 : Int32)), M19)))
def fJ9_abs_0f7a4 (M : Mm) (a0 : Int32) : Option (Int32) :=
  if 0 ≤ a0 then
  (some (a0))
  else
  (some ((-a0)))
def BX3_hasNear_2 (N : Nat) (K2 : Mm → Nat → Int32 → Int32 → Int32 → Option (Int32)) (M : Mm) (x0 : Nat) (x1 : Int32) (x2 : Int32) (x3 : Int32)  : Option (Int32) :=
  (gI M 3 x0 1).bind fun v1 =>
  if v1 ≤ x3 then
  (some ((0 : Int32)))
  else
  ((fX3_at M x0 x3).bind fun v4 =>
  (fJ9_abs_0f7a4 M ((v4 - x1))).bind fun v8 =>
  if x2 < v8 then
  (K2 M x0 x1 x2 ((x3 + (1 : Int32))))
  else
  (some ((1 : Int32))))
def LX3_hasNear_2 (N : Nat) : Nat → Mm → Nat → Int32 → Int32 → Int32 → Option (Int32)
  | 0, _, _, _, _, _ => none
  | n + 1, M, x0, x1, x2, x3 => BX3_hasNear_2 N (LX3_hasNear_2 N n) M x0 x1 x2 x3
def fX3_hasNear (N : Nat) (M : Mm) (a0 : Nat) (a1 : Int32) (a2 : Int32) : Option (Int32) :=
  (gC M 3 a0).bind fun _ =>
  LX3_hasNear_2 N N M a0 a1 a2 ((0 : Int32))
def BX10_seen_64 (N : Nat) (K64 : Mm → Nat → Int32 → Int32 → Int32 → Int32 → Option (Int32 × Mm)) (M : Mm) (x0 : Nat) (x3 : Int32) (x4 : Int32) (x5 : Int32) (x6 : Int32)  : Option (Int32 × Mm) :=
  (gQ M 10 x0 0).bind fun q1 =>
  (gQ M 6 q1 10).bind fun q3 =>
  (fX3_size M q3).bind fun v6 =>
  if v6 ≤ x6 then
  (some (x5, M))
  else
  ((gQ M 10 x0 6).bind fun q9 =>
  (gQ M 7 q9 5).bind fun q11 =>
  (gQ M 10 x0 0).bind fun q13 =>
  (gQ M 6 q13 10).bind fun q15 =>
  (fX3_at M q15 x6).bind fun v18 =>
  (fX3_hasNear N M q11 ((v18 + x4)) x3).bind fun v22 =>
  if v22 = 0 then
  (K64 M x0 x3 x4 x5 ((x6 + (1 : Int32))))
  else
  (K64 M x0 x3 x4 ((x5 ||| ((1 : Int32) <<< (x6 &&& 31)))) ((x6 + (1 : Int32)))))
def LX10_seen_64 (N : Nat) : Nat → Mm → Nat → Int32 → Int32 → Int32 → Int32 → Option (Int32 × Mm)
  | 0, _, _, _, _, _, _ => none
  | n + 1, M, x0, x3, x4, x5, x6 => BX10_seen_64 N (LX10_seen_64 N n) M x0 x3 x4 x5 x6
def jX10_seen_22 (N : Nat) (M : Mm) (x0 : Nat)  : Option (Int32 × Mm) :=
  bd2 (fX10_error M x0 ((1 : Int32))) fun v2 M3 =>
  some (v2, M3)
def fX10_seen (N : Nat) (M : Mm) (a0 : Nat) (a1 : Int32) (a2 : Int32) (a3 : Int32) : Option (Int32 × Mm) :=
  (gC M 10 a0).bind fun _ =>
  (fX10_isBar M a0 a1).bind fun v2 =>
  if v2 = 0 then
  (jX10_seen_22 N M a0)
  else
  ((fX10_isLine M a2).bind fun v6 =>
  if v6 = 0 then
  (jX10_seen_22 N M a0)
  else
  ((fX10_isWindow M a3).bind fun v8 =>
  if v8 = 0 then
  (jX10_seen_22 N M a0)
  else
  ((gQ M 10 a0 6).bind fun q9 =>
  (gQ M 10 a0 0).bind fun q11 =>
  (fX7_hear N M q9 q11 a1).bind fun M14 =>
  (gQ M14 10 a0 6).bind fun q17 =>
  (fX7_keepAbove N M14 q17 a2).bind fun M20 =>
  (gQ M20 10 a0 0).bind fun q23 =>
  (fX6_clockOf M20 q23 a1).bind fun v26 =>
  LX10_seen_64 N N M20 a0 a3 v26 ((0 : Int32)) ((0 : Int32)))))
def fX11_isNear (M : Mm) (a0 : Nat) (a1 : Int32) (a2 : Int32) (a3 : Int32) : Option (Int32) :=
  (gC M 11 a0).bind fun _ =>
  (fX11_ring M a0 a1 ((1 : Int32))).bind fun v2 =>
  (gQ M 11 a0 0).bind fun q5 =>
  (aI M 0 q5 (((372 : Int32) + a2))).bind fun v7 =>
  (fX11_size M ((v2 - v7))).bind fun v10 =>
  if a3 < v10 then
  (some ((0 : Int32)))
  else
  (some ((1 : Int32)))
def BX11_seen_52 (N : Nat) (K38 : Mm → Nat → Int32 → Int32 → Int32 → Int32 → Int32 → Option (Int32 × Mm)) (K52 : Mm → Nat → Int32 → Int32 → Int32 → Int32 → Int32 → Int32 → Option (Int32 × Mm)) (M : Mm) (x0 : Nat) (x1 : Int32) (x2 : Int32) (x3 : Int32) (x4 : Int32) (x5 : Int32) (x6 : Int32)  : Option (Int32 × Mm) :=
  (gQ M 11 x0 0).bind fun q1 =>
  (aI M 0 q1 ((1 : Int32))).bind fun v3 =>
  if v3 ≤ x6 then
  (K38 M x0 x1 x2 x3 x4 ((x5 + (1 : Int32))))
  else
  ((fX11_isCounted M x0 x6 x1 x2).bind fun v6 =>
  if v6 = 0 then
  (K52 M x0 x1 x2 x3 ((x4 ||| (0 : Int32))) x5 ((x6 + (1 : Int32))))
  else
  ((fX11_isNear M x0 x6 x5 x3).bind fun v10 =>
  if v10 = 0 then
  (K52 M x0 x1 x2 x3 ((x4 ||| (0 : Int32))) x5 ((x6 + (1 : Int32))))
  else
  (K52 M x0 x1 x2 x3 ((x4 ||| ((1 : Int32) <<< (x5 &&& 31)))) x5 ((x6 + (1 : Int32))))))
def LX11_seen_52 (N : Nat) (K38 : Mm → Nat → Int32 → Int32 → Int32 → Int32 → Int32 → Option (Int32 × Mm)) : Nat → Mm → Nat → Int32 → Int32 → Int32 → Int32 → Int32 → Int32 → Option (Int32 × Mm)
  | 0, _, _, _, _, _, _, _, _ => none
  | n + 1, M, x0, x1, x2, x3, x4, x5, x6 => BX11_seen_52 N K38 (LX11_seen_52 N K38 n) M x0 x1 x2 x3 x4 x5 x6
def BX11_seen_38 (N : Nat) (K38 : Mm → Nat → Int32 → Int32 → Int32 → Int32 → Int32 → Option (Int32 × Mm)) (M : Mm) (x0 : Nat) (x1 : Int32) (x2 : Int32) (x3 : Int32) (x4 : Int32) (x5 : Int32)  : Option (Int32 × Mm) :=
  (gQ M 11 x0 0).bind fun q1 =>
  (aI M 0 q1 ((4 : Int32))).bind fun v3 =>
  if v3 ≤ x5 then
  (some (x4, M))
  else
  (LX11_seen_52 N K38 N M x0 x1 x2 x3 x4 x5 ((0 : Int32)))
def LX11_seen_38 (N : Nat) : Nat → Mm → Nat → Int32 → Int32 → Int32 → Int32 → Int32 → Option (Int32 × Mm)
  | 0, _, _, _, _, _, _, _ => none
  | n + 1, M, x0, x1, x2, x3, x4, x5 => BX11_seen_38 N (LX11_seen_38 N n) M x0 x1 x2 x3 x4 x5
def jX11_seen_22 (N : Nat) (M : Mm) (x0 : Nat)  : Option (Int32 × Mm) :=
  bd2 (fX11_error M x0 ((1 : Int32))) fun v2 M3 =>
  some (v2, M3)
def fX11_seen (N : Nat) (M : Mm) (a0 : Nat) (a1 : Int32) (a2 : Int32) (a3 : Int32) : Option (Int32 × Mm) :=
  (gC M 11 a0).bind fun _ =>
  (fX11_isBar M a0 a1).bind fun v2 =>
  if v2 = 0 then
  (jX11_seen_22 N M a0)
  else
  ((fX11_isLine M a2).bind fun v6 =>
  if v6 = 0 then
  (jX11_seen_22 N M a0)
  else
  ((fX11_isWindow M a3).bind fun v8 =>
  if v8 = 0 then
  (jX11_seen_22 N M a0)
  else
  ((fX11_readAll N M a0).bind fun M10 =>
  LX11_seen_38 N N M10 a0 a1 a2 a3 ((0 : Int32)) ((0 : Int32)))))
def BX10_wrong_64 (N : Nat) (K64 : Mm → Nat → Int32 → Int32 → Int32 → Int32 → Option (Int32 × Mm)) (M : Mm) (x0 : Nat) (x3 : Int32) (x4 : Int32) (x5 : Int32) (x6 : Int32)  : Option (Int32 × Mm) :=
  (gQ M 10 x0 6).bind fun q1 =>
  (gQ M 7 q1 5).bind fun q3 =>
  (fX3_size M q3).bind fun v6 =>
  if v6 ≤ x6 then
  (some (x5, M))
  else
  ((gQ M 10 x0 0).bind fun q9 =>
  (gQ M 6 q9 10).bind fun q11 =>
  (gQ M 10 x0 6).bind fun q13 =>
  (gQ M 7 q13 5).bind fun q15 =>
  (fX3_at M q15 x6).bind fun v18 =>
  (fX3_hasNear N M q11 ((v18 - x4)) x3).bind fun v22 =>
  if v22 = 0 then
  (K64 M x0 x3 x4 ((x5 + (1 : Int32))) ((x6 + (1 : Int32))))
  else
  (K64 M x0 x3 x4 x5 ((x6 + (1 : Int32)))))
def LX10_wrong_64 (N : Nat) : Nat → Mm → Nat → Int32 → Int32 → Int32 → Int32 → Option (Int32 × Mm)
  | 0, _, _, _, _, _, _ => none
  | n + 1, M, x0, x3, x4, x5, x6 => BX10_wrong_64 N (LX10_wrong_64 N n) M x0 x3 x4 x5 x6
def jX10_wrong_22 (N : Nat) (M : Mm) (x0 : Nat)  : Option (Int32 × Mm) :=
  bd2 (fX10_error M x0 ((1 : Int32))) fun v2 M3 =>
  some (v2, M3)
def fX10_wrong (N : Nat) (M : Mm) (a0 : Nat) (a1 : Int32) (a2 : Int32) (a3 : Int32) : Option (Int32 × Mm) :=
  (gC M 10 a0).bind fun _ =>
  (fX10_isBar M a0 a1).bind fun v2 =>
  if v2 = 0 then
  (jX10_wrong_22 N M a0)
  else
  ((fX10_isLine M a2).bind fun v6 =>
  if v6 = 0 then
  (jX10_wrong_22 N M a0)
  else
  ((fX10_isWindow M a3).bind fun v8 =>
  if v8 = 0 then
  (jX10_wrong_22 N M a0)
  else
  ((gQ M 10 a0 6).bind fun q9 =>
  (gQ M 10 a0 0).bind fun q11 =>
  (fX7_hear N M q9 q11 a1).bind fun M14 =>
  (gQ M14 10 a0 6).bind fun q17 =>
  (fX7_keepAbove N M14 q17 a2).bind fun M20 =>
  (gQ M20 10 a0 0).bind fun q23 =>
  (fX6_clockOf M20 q23 a1).bind fun v26 =>
  LX10_wrong_64 N N M20 a0 a3 v26 ((0 : Int32)) ((0 : Int32)))))
def jX11_wrong_103 (N : Nat) (K38 : Mm → Nat → Int32 → Int32 → Int32 → Int32 → Int32 → Option (Int32 × Mm)) (M : Mm) (x0 : Nat) (x1 : Int32) (x2 : Int32) (x3 : Int32) (x4 : Int32) (x5 : Int32) (x6 : Int32)  : Option (Int32 × Mm) :=
  if x6 = 0 then
  (K38 M x0 x1 x2 x3 ((x4 + (0 : Int32))) ((x5 + (1 : Int32))))
  else
  (K38 M x0 x1 x2 x3 ((x4 + (1 : Int32))) ((x5 + (1 : Int32))))
def BX11_wrong_62 (N : Nat) (K38 : Mm → Nat → Int32 → Int32 → Int32 → Int32 → Int32 → Option (Int32 × Mm)) (K62 : Mm → Nat → Int32 → Int32 → Int32 → Int32 → Int32 → Int32 → Int32 → Option (Int32 × Mm)) (M : Mm) (x0 : Nat) (x1 : Int32) (x2 : Int32) (x3 : Int32) (x4 : Int32) (x5 : Int32) (x6 : Int32) (x7 : Int32)  : Option (Int32 × Mm) :=
  (gQ M 11 x0 0).bind fun q1 =>
  (aI M 0 q1 ((4 : Int32))).bind fun v3 =>
  if v3 ≤ x7 then
  (jX11_wrong_103 N K38 M x0 x1 x2 x3 x4 x5 x6)
  else
  (if x6 = 0 then
  (jX11_wrong_103 N K38 M x0 x1 x2 x3 x4 x5 x6)
  else
  ((fX11_isNear M x0 x5 x7 x3).bind fun v6 =>
  if v6 = 0 then
  (K62 M x0 x1 x2 x3 x4 x5 ((1 : Int32)) ((x7 + (1 : Int32))))
  else
  (K62 M x0 x1 x2 x3 x4 x5 ((0 : Int32)) ((x7 + (1 : Int32))))))
def LX11_wrong_62 (N : Nat) (K38 : Mm → Nat → Int32 → Int32 → Int32 → Int32 → Int32 → Option (Int32 × Mm)) : Nat → Mm → Nat → Int32 → Int32 → Int32 → Int32 → Int32 → Int32 → Int32 → Option (Int32 × Mm)
  | 0, _, _, _, _, _, _, _, _, _ => none
  | n + 1, M, x0, x1, x2, x3, x4, x5, x6, x7 => BX11_wrong_62 N K38 (LX11_wrong_62 N K38 n) M x0 x1 x2 x3 x4 x5 x6 x7
def BX11_wrong_38 (N : Nat) (K38 : Mm → Nat → Int32 → Int32 → Int32 → Int32 → Int32 → Option (Int32 × Mm)) (M : Mm) (x0 : Nat) (x1 : Int32) (x2 : Int32) (x3 : Int32) (x4 : Int32) (x5 : Int32)  : Option (Int32 × Mm) :=
  (gQ M 11 x0 0).bind fun q1 =>
  (aI M 0 q1 ((1 : Int32))).bind fun v3 =>
  if v3 ≤ x5 then
  (some (x4, M))
  else
  ((fX11_isCounted M x0 x5 x1 x2).bind fun v6 =>
  LX11_wrong_62 N K38 N M x0 x1 x2 x3 x4 x5 v6 ((0 : Int32)))
def LX11_wrong_38 (N : Nat) : Nat → Mm → Nat → Int32 → Int32 → Int32 → Int32 → Int32 → Option (Int32 × Mm)
  | 0, _, _, _, _, _, _, _ => none
  | n + 1, M, x0, x1, x2, x3, x4, x5 => BX11_wrong_38 N (LX11_wrong_38 N n) M x0 x1 x2 x3 x4 x5
def jX11_wrong_22 (N : Nat) (M : Mm) (x0 : Nat)  : Option (Int32 × Mm) :=
  bd2 (fX11_error M x0 ((1 : Int32))) fun v2 M3 =>
  some (v2, M3)
def fX11_wrong (N : Nat) (M : Mm) (a0 : Nat) (a1 : Int32) (a2 : Int32) (a3 : Int32) : Option (Int32 × Mm) :=
  (gC M 11 a0).bind fun _ =>
  (fX11_isBar M a0 a1).bind fun v2 =>
  if v2 = 0 then
  (jX11_wrong_22 N M a0)
  else
  ((fX11_isLine M a2).bind fun v6 =>
  if v6 = 0 then
  (jX11_wrong_22 N M a0)
  else
  ((fX11_isWindow M a3).bind fun v8 =>
  if v8 = 0 then
  (jX11_wrong_22 N M a0)
  else
  ((fX11_readAll N M a0).bind fun M10 =>
  LX11_wrong_38 N N M10 a0 a1 a2 a3 ((0 : Int32)) ((0 : Int32)))))
def BX1_markSlides_18 (N : Nat) (K18 : Mm → Nat → Int32 → Int32 → Int32 → Int32 → Int32 → Option (Mm)) (M : Mm) (x0 : Nat) (x1 : Int32) (x2 : Int32) (x3 : Int32) (x4 : Int32) (x5 : Int32)  : Option (Mm) :=
  if x5 < 0 then
  (some M)
  else
  ((gQ M 1 x0 1).bind fun q1 =>
  (gQ M 7 q1 5).bind fun q3 =>
  (fX3_at M q3 x5).bind fun v6 =>
  (fJ9_max_7cf53 M x4 (((x1 - v6) - x2))).bind fun v10 =>
  (fJ9_min_7cf53 M x3 (((x1 - v6) + x2))).bind fun v12 =>
  if v12 < v10 then
  (K18 M x0 x1 x2 x3 x4 ((x5 + (-1 : Int32))))
  else
  ((gQ M 1 x0 3).bind fun q13 =>
  (fX3_raise M q13 ((v10 + x3)) ((1 : Int32))).bind fun M16 =>
  (gQ M16 1 x0 3).bind fun q19 =>
  (fX3_raise M16 q19 (((v12 + (1 : Int32)) + x3)) ((-1 : Int32))).bind fun M22 =>
  K18 M22 x0 x1 x2 x3 ((v12 + (1 : Int32))) ((x5 + (-1 : Int32)))))
def LX1_markSlides_18 (N : Nat) : Nat → Mm → Nat → Int32 → Int32 → Int32 → Int32 → Int32 → Option (Mm)
  | 0, _, _, _, _, _, _, _ => none
  | n + 1, M, x0, x1, x2, x3, x4, x5 => BX1_markSlides_18 N (LX1_markSlides_18 N n) M x0 x1 x2 x3 x4 x5
def fX1_markSlides (N : Nat) (M : Mm) (a0 : Nat) (a1 : Int32) (a2 : Int32) (a3 : Int32) : Option (Mm) :=
  (gC M 1 a0).bind fun _ =>
  (gQ M 1 a0 1).bind fun q1 =>
  (gQ M 7 q1 5).bind fun q3 =>
  (fX3_size M q3).bind fun v6 =>
  LX1_markSlides_18 N N M a0 a1 a2 a3 ((-a3)) ((v6 - (1 : Int32)))
def BX1_meetBySlides_54 (N : Nat) (K54 : Mm → Nat → Int32 → Option (Mm)) (M : Mm) (x0 : Nat) (x3 : Int32)  : Option (Mm) :=
  (gQ M 1 x0 3).bind fun q1 =>
  (fX3_size M q1).bind fun v4 =>
  if v4 ≤ x3 then
  (some M)
  else
  ((gQ M 1 x0 3).bind fun q7 =>
  (gQ M 1 x0 3).bind fun q9 =>
  (fX3_at M q9 ((x3 - (1 : Int32)))).bind fun v12 =>
  (fX3_raise M q7 x3 v12).bind fun M16 =>
  K54 M16 x0 ((x3 + (1 : Int32))))
def LX1_meetBySlides_54 (N : Nat) : Nat → Mm → Nat → Int32 → Option (Mm)
  | 0, _, _, _ => none
  | n + 1, M, x0, x3 => BX1_meetBySlides_54 N (LX1_meetBySlides_54 N n) M x0 x3
def BX1_meetBySlides_15 (N : Nat) (K15 : Mm → Nat → Int32 → Int32 → Int32 → Option (Mm)) (M : Mm) (x0 : Nat) (x1 : Int32) (x2 : Int32) (x3 : Int32)  : Option (Mm) :=
  (gQ M 1 x0 0).bind fun q1 =>
  (gQ M 7 q1 5).bind fun q3 =>
  (fX3_size M q3).bind fun v6 =>
  if v6 ≤ x3 then
  (LX1_meetBySlides_54 N N M x0 ((1 : Int32)))
  else
  ((gQ M 1 x0 0).bind fun q9 =>
  (gQ M 7 q9 5).bind fun q11 =>
  (fX3_at M q11 x3).bind fun v14 =>
  (fX1_markSlides N M x0 v14 x1 x2).bind fun M18 =>
  K15 M18 x0 x1 x2 ((x3 + (1 : Int32))))
def LX1_meetBySlides_15 (N : Nat) : Nat → Mm → Nat → Int32 → Int32 → Int32 → Option (Mm)
  | 0, _, _, _, _, _ => none
  | n + 1, M, x0, x1, x2, x3 => BX1_meetBySlides_15 N (LX1_meetBySlides_15 N n) M x0 x1 x2 x3
def fX1_meetBySlides (N : Nat) (M : Mm) (a0 : Nat) (a1 : Int32) (a2 : Int32) : Option (Mm) :=
  (gC M 1 a0).bind fun _ =>
  (gQ M 1 a0 3).bind fun q1 =>
  (fX3_fill N M q1 ((((2 : Int32) * a2) + (2 : Int32))) ((0 : Int32))).bind fun M4 =>
  LX1_meetBySlides_15 N N M4 a0 a1 a2 ((0 : Int32))
def fX1_metBySlide (M : Mm) (a0 : Nat) (a1 : Int32) (a2 : Int32) : Option (Int32) :=
  (gC M 1 a0).bind fun _ =>
  (gQ M 1 a0 3).bind fun q1 =>
  (fX3_at M q1 ((a1 + a2))).bind fun v4 =>
  some (v4)
def jX10_hours_127 (N : Nat) (K89 : Mm → Nat → Int32 → Int32 → Int32 → Int32 → Option (Int32 × Mm)) (M : Mm) (x0 : Nat) (x3 : Int32) (x4 : Int32) (x6 : Int32) (s0 : Int32) : Option (Int32 × Mm) :=
  (gQ M 10 x0 5).bind fun q1 =>
  (fX1_metBySlide M q1 x6 x3).bind fun v4 =>
  (gQ M 10 x0 5).bind fun q7 =>
  (fX1_metBySlide M q7 s0 x3).bind fun v10 =>
  if v4 ≤ v10 then
  (K89 M x0 x3 x4 s0 ((x6 + (1 : Int32))))
  else
  (K89 M x0 x3 x4 x6 ((x6 + (1 : Int32))))
def BX10_hours_89 (N : Nat) (K89 : Mm → Nat → Int32 → Int32 → Int32 → Int32 → Option (Int32 × Mm)) (M : Mm) (x0 : Nat) (x3 : Int32) (x4 : Int32) (x5 : Int32) (x6 : Int32)  : Option (Int32 × Mm) :=
  if x3 < x6 then
  (if x4 = 0 then
  (some (x5, M))
  else
  ((gQ M 10 x0 5).bind fun q1 =>
  (fX1_metBySlide M q1 x5 x3).bind fun v4 =>
  some (v4, M)))
  else
  ((gQ M 10 x0 5).bind fun q7 =>
  (fX1_metBySlide M q7 ((-x6)) x3).bind fun v10 =>
  (gQ M 10 x0 5).bind fun q13 =>
  (fX1_metBySlide M q13 x5 x3).bind fun v16 =>
  if v10 ≤ v16 then
  (jX10_hours_127 N K89 M x0 x3 x4 x6 x5)
  else
  (jX10_hours_127 N K89 M x0 x3 x4 x6 ((-x6))))
def LX10_hours_89 (N : Nat) : Nat → Mm → Nat → Int32 → Int32 → Int32 → Int32 → Option (Int32 × Mm)
  | 0, _, _, _, _, _, _ => none
  | n + 1, M, x0, x3, x4, x5, x6 => BX10_hours_89 N (LX10_hours_89 N n) M x0 x3 x4 x5 x6
def jX10_hours_40 (N : Nat) (M : Mm) (x0 : Nat)  : Option (Int32 × Mm) :=
  bd2 (fX10_error M x0 ((1 : Int32))) fun v2 M3 =>
  some (v2, M3)
def fX10_hours (N : Nat) (M : Mm) (a0 : Nat) (a1 : Int32) (a2 : Int32) (a3 : Int32) (a4 : Int32) : Option (Int32 × Mm) :=
  (gC M 10 a0).bind fun _ =>
  (fX10_isPair M a0 a1).bind fun v2 =>
  if v2 = 0 then
  (jX10_hours_40 N M a0)
  else
  ((fX10_within M a2 ((0 : Int32)) ((50999 : Int32))).bind fun v6 =>
  if v6 = 0 then
  (jX10_hours_40 N M a0)
  else
  ((fX10_within M a3 ((0 : Int32)) ((400 : Int32))).bind fun v8 =>
  if v8 = 0 then
  (jX10_hours_40 N M a0)
  else
  ((fX10_within M a4 ((0 : Int32)) ((1 : Int32))).bind fun v10 =>
  if v10 = 0 then
  (jX10_hours_40 N M a0)
  else
  ((gQ M 10 a0 5).bind fun q11 =>
  (gQ M 10 a0 0).bind fun q13 =>
  (fX1_hear N M q11 q13 a1).bind fun M16 =>
  (gQ M16 10 a0 5).bind fun q19 =>
  (fX1_drawLine N M16 q19 ((rmI a2 ((1000 : Int32))))).bind fun M22 =>
  (gQ M22 10 a0 5).bind fun q25 =>
  (fX1_meetBySlides N M22 q25 ((a2 / (1000 : Int32))) a3).bind fun M28 =>
  LX10_hours_89 N N M28 a0 a3 a4 ((0 : Int32)) ((1 : Int32))))))
def jX11_hours_132 (N : Nat) (K77 : Mm → Nat → Int32 → Int32 → Int32 → Int32 → Int32 → Int32 → Int32 → Option (Int32 × Mm)) (K88 : Mm → Nat → Int32 → Int32 → Int32 → Int32 → Int32 → Int32 → Int32 → Int32 → Option (Int32 × Mm)) (M : Mm) (x0 : Nat) (x1 : Int32) (x2 : Int32) (x3 : Int32) (x4 : Int32) (x5 : Int32) (x6 : Int32) (x7 : Int32) (x8 : Int32)  : Option (Int32 × Mm) :=
  K88 M x0 x1 x2 x3 x4 x5 x6 x7 ((x8 + ((2 : Int32) * x7)))
def BX11_hours_88 (N : Nat) (K77 : Mm → Nat → Int32 → Int32 → Int32 → Int32 → Int32 → Int32 → Int32 → Option (Int32 × Mm)) (K88 : Mm → Nat → Int32 → Int32 → Int32 → Int32 → Int32 → Int32 → Int32 → Int32 → Option (Int32 × Mm)) (M : Mm) (x0 : Nat) (x1 : Int32) (x2 : Int32) (x3 : Int32) (x4 : Int32) (x5 : Int32) (x6 : Int32) (x7 : Int32) (x8 : Int32)  : Option (Int32 × Mm) :=
  if x7 < x8 then
  (K77 M x0 x1 x2 x3 x4 x5 x6 ((x7 + (1 : Int32))))
  else
  ((fX11_met N M x0 x1 ((rmI x2 ((1000 : Int32)))) ((x2 / (1000 : Int32))) x8).bind fun v2 =>
  if x6 < v2 then
  (jX11_hours_132 N K77 K88 M x0 x1 x2 x3 x4 x8 v2 x7 x8)
  else
  (jX11_hours_132 N K77 K88 M x0 x1 x2 x3 x4 x5 x6 x7 x8))
def LX11_hours_88 (N : Nat) (K77 : Mm → Nat → Int32 → Int32 → Int32 → Int32 → Int32 → Int32 → Int32 → Option (Int32 × Mm)) : Nat → Mm → Nat → Int32 → Int32 → Int32 → Int32 → Int32 → Int32 → Int32 → Int32 → Option (Int32 × Mm)
  | 0, _, _, _, _, _, _, _, _, _, _ => none
  | n + 1, M, x0, x1, x2, x3, x4, x5, x6, x7, x8 => BX11_hours_88 N K77 (LX11_hours_88 N K77 n) M x0 x1 x2 x3 x4 x5 x6 x7 x8
def BX11_hours_77 (N : Nat) (K77 : Mm → Nat → Int32 → Int32 → Int32 → Int32 → Int32 → Int32 → Int32 → Option (Int32 × Mm)) (M : Mm) (x0 : Nat) (x1 : Int32) (x2 : Int32) (x3 : Int32) (x4 : Int32) (x5 : Int32) (x6 : Int32) (x7 : Int32)  : Option (Int32 × Mm) :=
  if x3 < x7 then
  (if x4 = 0 then
  (some (x5, M))
  else
  (some (x6, M)))
  else
  (LX11_hours_88 N K77 N M x0 x1 x2 x3 x4 x5 x6 x7 ((-x7)))
def LX11_hours_77 (N : Nat) : Nat → Mm → Nat → Int32 → Int32 → Int32 → Int32 → Int32 → Int32 → Int32 → Option (Int32 × Mm)
  | 0, _, _, _, _, _, _, _, _, _ => none
  | n + 1, M, x0, x1, x2, x3, x4, x5, x6, x7 => BX11_hours_77 N (LX11_hours_77 N n) M x0 x1 x2 x3 x4 x5 x6 x7
def jX11_hours_43 (N : Nat) (M : Mm) (x0 : Nat)  : Option (Int32 × Mm) :=
  bd2 (fX11_error M x0 ((1 : Int32))) fun v2 M3 =>
  some (v2, M3)
def fX11_hours (N : Nat) (M : Mm) (a0 : Nat) (a1 : Int32) (a2 : Int32) (a3 : Int32) (a4 : Int32) : Option (Int32 × Mm) :=
  (gC M 11 a0).bind fun _ =>
  (fX11_isPair M a0 a1).bind fun v2 =>
  if v2 = 0 then
  (jX11_hours_43 N M a0)
  else
  ((fX11_in M (((a2).toInt64)) ((0 : Int64)) ((50999 : Int64))).bind fun v6 =>
  if v6 = 0 then
  (jX11_hours_43 N M a0)
  else
  ((fX11_in M (((a3).toInt64)) ((0 : Int64)) ((400 : Int64))).bind fun v8 =>
  if v8 = 0 then
  (jX11_hours_43 N M a0)
  else
  ((fX11_in M (((a4).toInt64)) ((0 : Int64)) ((1 : Int64))).bind fun v10 =>
  if v10 = 0 then
  (jX11_hours_43 N M a0)
  else
  ((fX11_readAll N M a0).bind fun M12 =>
  (fX11_met N M12 a0 a1 ((rmI a2 ((1000 : Int32)))) ((a2 / (1000 : Int32))) ((0 : Int32))).bind fun v16 =>
  LX11_hours_77 N N M12 a0 a1 a2 a3 a4 ((0 : Int32)) v16 ((1 : Int32))))))
def fX10_isPeriod (M : Mm) (a0 : Int32) : Option (Int32) :=
  (fX10_within M a0 ((12 : Int32)) ((999 : Int32))).bind fun v2 =>
  (zr v2).bind fun v3 =>
  some (v3)
def BX7_spreadBy_64 (N : Nat) (K64 : Mm → Nat → Int32 → Int32 → Option (Int32 × Mm)) (M : Mm) (x0 : Nat) (x2 : Int32) (x3 : Int32)  : Option (Int32 × Mm) :=
  if (12 : Int32) ≤ x3 then
  (some (x2, M))
  else
  ((gQ M 7 x0 6).bind fun q1 =>
  (fX3_at M q1 x3).bind fun v4 =>
  (gQ M 7 x0 6).bind fun q7 =>
  (fX3_at M q7 x3).bind fun v10 =>
  K64 M x0 ((x2 + (v4 * v10))) ((x3 + (1 : Int32))))
def LX7_spreadBy_64 (N : Nat) : Nat → Mm → Nat → Int32 → Int32 → Option (Int32 × Mm)
  | 0, _, _, _, _ => none
  | n + 1, M, x0, x2, x3 => BX7_spreadBy_64 N (LX7_spreadBy_64 N n) M x0 x2 x3
def BX7_spreadBy_18 (N : Nat) (K18 : Mm → Nat → Int32 → Int32 → Option (Int32 × Mm)) (M : Mm) (x0 : Nat) (x1 : Int32) (x2 : Int32)  : Option (Int32 × Mm) :=
  (gQ M 7 x0 5).bind fun q1 =>
  (fX3_size M q1).bind fun v4 =>
  if v4 ≤ x2 then
  (LX7_spreadBy_64 N N M x0 ((0 : Int32)) ((0 : Int32)))
  else
  ((gQ M 7 x0 6).bind fun q7 =>
  (gQ M 7 x0 5).bind fun q9 =>
  (fX3_at M q9 x2).bind fun v12 =>
  (fJ9_floorMod_7cf53 M v12 x1).bind fun v16 =>
  (dI (((12 : Int32) * v16)) x1).bind fun v17 =>
  (fX3_raise M q7 v17 ((1 : Int32))).bind fun M20 =>
  K18 M20 x0 x1 ((x2 + (1 : Int32))))
def LX7_spreadBy_18 (N : Nat) : Nat → Mm → Nat → Int32 → Int32 → Option (Int32 × Mm)
  | 0, _, _, _, _ => none
  | n + 1, M, x0, x1, x2 => BX7_spreadBy_18 N (LX7_spreadBy_18 N n) M x0 x1 x2
def fX7_spreadBy (N : Nat) (M : Mm) (a0 : Nat) (a1 : Int32) : Option (Int32 × Mm) :=
  (gC M 7 a0).bind fun _ =>
  if 0 < a1 then
  ((gQ M 7 a0 6).bind fun q1 =>
  (fX3_fill N M q1 ((12 : Int32)) ((0 : Int32))).bind fun M4 =>
  LX7_spreadBy_18 N N M4 a0 a1 ((0 : Int32)))
  else
  (some ((0 : Int32), M))
def jX10_spread_22 (N : Nat) (M : Mm) (x0 : Nat)  : Option (Int32 × Mm) :=
  bd2 (fX10_error M x0 ((1 : Int32))) fun v2 M3 =>
  some (v2, M3)
def fX10_spread (N : Nat) (M : Mm) (a0 : Nat) (a1 : Int32) (a2 : Int32) (a3 : Int32) : Option (Int32 × Mm) :=
  (gC M 10 a0).bind fun _ =>
  (fX10_isBar M a0 a1).bind fun v2 =>
  if v2 = 0 then
  (jX10_spread_22 N M a0)
  else
  ((fX10_isLine M a2).bind fun v6 =>
  if v6 = 0 then
  (jX10_spread_22 N M a0)
  else
  ((fX10_isPeriod M a3).bind fun v8 =>
  if v8 = 0 then
  (jX10_spread_22 N M a0)
  else
  ((gQ M 10 a0 6).bind fun q9 =>
  (gQ M 10 a0 0).bind fun q11 =>
  (fX7_hear N M q9 q11 a1).bind fun M14 =>
  (gQ M14 10 a0 6).bind fun q17 =>
  (fX7_keepAbove N M14 q17 a2).bind fun M20 =>
  (gQ M20 10 a0 6).bind fun q23 =>
  bd2 (fX7_spreadBy N M20 q23 a3) fun v26 M27 =>
  some (v26, M27))))
def fX11_isPeriod (M : Mm) (a0 : Int32) : Option (Int32) :=
  (fX11_in M (((a0).toInt64)) ((12 : Int64)) ((999 : Int64))).bind fun v2 =>
  (zr v2).bind fun v3 =>
  some (v3)
def BX11_spreadOf_86 (N : Nat) (K86 : Mm → Nat → Int32 → Int32 → Option (Int32 × Mm)) (M : Mm) (x0 : Nat) (x4 : Int32) (x5 : Int32)  : Option (Int32 × Mm) :=
  if (12 : Int32) ≤ x5 then
  (some (x4, M))
  else
  ((gQ M 11 x0 19).bind fun q1 =>
  (aI M 0 q1 x5).bind fun v3 =>
  (gQ M 11 x0 19).bind fun q5 =>
  (aI M 0 q5 x5).bind fun v7 =>
  K86 M x0 ((x4 + (v3 * v7))) ((x5 + (1 : Int32))))
def LX11_spreadOf_86 (N : Nat) : Nat → Mm → Nat → Int32 → Int32 → Option (Int32 × Mm)
  | 0, _, _, _, _ => none
  | n + 1, M, x0, x4, x5 => BX11_spreadOf_86 N (LX11_spreadOf_86 N n) M x0 x4 x5
def BX11_spreadOf_27 (N : Nat) (K27 : Mm → Nat → Int32 → Int32 → Int32 → Int32 → Option (Int32 × Mm)) (M : Mm) (x0 : Nat) (x1 : Int32) (x2 : Int32) (x3 : Int32) (x4 : Int32)  : Option (Int32 × Mm) :=
  (gQ M 11 x0 0).bind fun q1 =>
  (aI M 0 q1 ((1 : Int32))).bind fun v3 =>
  if v3 ≤ x4 then
  (LX11_spreadOf_86 N N M x0 ((0 : Int32)) ((0 : Int32)))
  else
  ((fX11_isCounted M x0 x4 x1 x2).bind fun v6 =>
  if v6 = 0 then
  (K27 M x0 x1 x2 x3 ((x4 + (1 : Int32))))
  else
  ((gQ M 11 x0 19).bind fun q9 =>
  (gQ M 11 x0 4).bind fun q11 =>
  (aI M 0 q11 x4).bind fun v13 =>
  (fX11_rest M v13 x3).bind fun v16 =>
  (dI (((12 : Int32) * v16)) x3).bind fun v17 =>
  (aI M 0 q9 v17).bind fun v19 =>
  (sI M 0 q9 v17 ((v19 + (1 : Int32)))).bind fun M21 =>
  K27 M21 x0 x1 x2 x3 ((x4 + (1 : Int32)))))
def LX11_spreadOf_27 (N : Nat) : Nat → Mm → Nat → Int32 → Int32 → Int32 → Int32 → Option (Int32 × Mm)
  | 0, _, _, _, _, _, _ => none
  | n + 1, M, x0, x1, x2, x3, x4 => BX11_spreadOf_27 N (LX11_spreadOf_27 N n) M x0 x1 x2 x3 x4
def BX11_spreadOf_3 (N : Nat) (K3 : Mm → Nat → Int32 → Int32 → Int32 → Int32 → Option (Int32 × Mm)) (M : Mm) (x0 : Nat) (x1 : Int32) (x2 : Int32) (x3 : Int32) (x4 : Int32)  : Option (Int32 × Mm) :=
  if (12 : Int32) ≤ x4 then
  (LX11_spreadOf_27 N N M x0 x1 x2 x3 ((0 : Int32)))
  else
  ((gQ M 11 x0 19).bind fun q1 =>
  (sI M 0 q1 x4 ((0 : Int32))).bind fun M3 =>
  K3 M3 x0 x1 x2 x3 ((x4 + (1 : Int32))))
def LX11_spreadOf_3 (N : Nat) : Nat → Mm → Nat → Int32 → Int32 → Int32 → Int32 → Option (Int32 × Mm)
  | 0, _, _, _, _, _, _ => none
  | n + 1, M, x0, x1, x2, x3, x4 => BX11_spreadOf_3 N (LX11_spreadOf_3 N n) M x0 x1 x2 x3 x4
def fX11_spreadOf (N : Nat) (M : Mm) (a0 : Nat) (a1 : Int32) (a2 : Int32) (a3 : Int32) : Option (Int32 × Mm) :=
  (gC M 11 a0).bind fun _ =>
  LX11_spreadOf_3 N N M a0 a1 a2 a3 ((0 : Int32))
def jX11_spread_22 (N : Nat) (M : Mm) (x0 : Nat)  : Option (Int32 × Mm) :=
  bd2 (fX11_error M x0 ((1 : Int32))) fun v2 M3 =>
  some (v2, M3)
def fX11_spread (N : Nat) (M : Mm) (a0 : Nat) (a1 : Int32) (a2 : Int32) (a3 : Int32) : Option (Int32 × Mm) :=
  (gC M 11 a0).bind fun _ =>
  (fX11_isBar M a0 a1).bind fun v2 =>
  if v2 = 0 then
  (jX11_spread_22 N M a0)
  else
  ((fX11_isLine M a2).bind fun v6 =>
  if v6 = 0 then
  (jX11_spread_22 N M a0)
  else
  ((fX11_isPeriod M a3).bind fun v8 =>
  if v8 = 0 then
  (jX11_spread_22 N M a0)
  else
  ((fX11_readAll N M a0).bind fun M10 =>
  bd2 (fX11_spreadOf N M10 a0 a1 a2 a3) fun v14 M15 =>
  some (v14, M15))))
def fX10_arePeriods (M : Mm) (a0 : Int32) (a1 : Int32) : Option (Int32) :=
  (fX10_isPeriod M a0).bind fun v2 =>
  if v2 = 0 then
  (some ((0 : Int32)))
  else
  ((fX10_isPeriod M a1).bind fun v4 =>
  if v4 = 0 then
  (some ((0 : Int32)))
  else
  ((fX10_within M ((a1 - a0)) ((0 : Int32)) ((39 : Int32))).bind fun v6 =>
  if v6 = 0 then
  (some ((0 : Int32)))
  else
  (some ((1 : Int32)))))
def BX10_stars_68 (N : Nat) (K68 : Mm → Nat → Int32 → Int32 → Int32 → Int32 → Option (Int32 × Mm)) (M : Mm) (x0 : Nat) (x4 : Int32) (x5 : Int32) (x6 : Int32) (x7 : Int32)  : Option (Int32 × Mm) :=
  if x4 < x7 then
  (some (x5, M))
  else
  ((gQ M 10 x0 6).bind fun q1 =>
  bd2 (fX7_spreadBy N M q1 x7) fun v4 M5 =>
  if v4 ≤ x6 then
  (K68 M5 x0 x4 x5 x6 ((x7 + (1 : Int32))))
  else
  (K68 M5 x0 x4 x7 v4 ((x7 + (1 : Int32)))))
def LX10_stars_68 (N : Nat) : Nat → Mm → Nat → Int32 → Int32 → Int32 → Int32 → Option (Int32 × Mm)
  | 0, _, _, _, _, _, _ => none
  | n + 1, M, x0, x4, x5, x6, x7 => BX10_stars_68 N (LX10_stars_68 N n) M x0 x4 x5 x6 x7
def jX10_stars_24 (N : Nat) (M : Mm) (x0 : Nat)  : Option (Int32 × Mm) :=
  bd2 (fX10_error M x0 ((1 : Int32))) fun v2 M3 =>
  some (v2, M3)
def fX10_stars (N : Nat) (M : Mm) (a0 : Nat) (a1 : Int32) (a2 : Int32) (a3 : Int32) (a4 : Int32) : Option (Int32 × Mm) :=
  (gC M 10 a0).bind fun _ =>
  (fX10_isBar M a0 a1).bind fun v2 =>
  if v2 = 0 then
  (jX10_stars_24 N M a0)
  else
  ((fX10_isLine M a2).bind fun v6 =>
  if v6 = 0 then
  (jX10_stars_24 N M a0)
  else
  ((fX10_arePeriods M a3 a4).bind fun v8 =>
  if v8 = 0 then
  (jX10_stars_24 N M a0)
  else
  ((gQ M 10 a0 6).bind fun q9 =>
  (gQ M 10 a0 0).bind fun q11 =>
  (fX7_hear N M q9 q11 a1).bind fun M14 =>
  (gQ M14 10 a0 6).bind fun q17 =>
  (fX7_keepAbove N M14 q17 a2).bind fun M20 =>
  (gQ M20 10 a0 6).bind fun q23 =>
  bd2 (fX7_spreadBy N M20 q23 a3) fun v26 M27 =>
  LX10_stars_68 N N M27 a0 a4 a3 v26 ((a3 + (1 : Int32))))))
def fX11_areStars (M : Mm) (a0 : Nat) (a1 : Int32) (a2 : Int32) (a3 : Int32) (a4 : Int32) : Option (Int32) :=
  (gC M 11 a0).bind fun _ =>
  (fX11_isBar M a0 a1).bind fun v2 =>
  if v2 = 0 then
  (some ((0 : Int32)))
  else
  ((fX11_isLine M a2).bind fun v6 =>
  if v6 = 0 then
  (some ((0 : Int32)))
  else
  ((fX11_isPeriod M a3).bind fun v8 =>
  if v8 = 0 then
  (some ((0 : Int32)))
  else
  ((fX11_isPeriod M a4).bind fun v10 =>
  if v10 = 0 then
  (some ((0 : Int32)))
  else
  ((fX11_in M ((((a4 - a3)).toInt64)) ((0 : Int64)) ((39 : Int64))).bind fun v12 =>
  if v12 = 0 then
  (some ((0 : Int32)))
  else
  (some ((1 : Int32)))))))
def BX11_stars_39 (N : Nat) (K39 : Mm → Nat → Int32 → Int32 → Int32 → Int32 → Int32 → Int32 → Option (Int32 × Mm)) (M : Mm) (x0 : Nat) (x1 : Int32) (x2 : Int32) (x4 : Int32) (x5 : Int32) (x6 : Int32) (x7 : Int32)  : Option (Int32 × Mm) :=
  if x4 < x7 then
  (some (x5, M))
  else
  (bd2 (fX11_spreadOf N M x0 x1 x2 x7) fun v2 M3 =>
  if x6 < v2 then
  (K39 M3 x0 x1 x2 x4 x7 v2 ((x7 + (1 : Int32))))
  else
  (K39 M3 x0 x1 x2 x4 x5 x6 ((x7 + (1 : Int32)))))
def LX11_stars_39 (N : Nat) : Nat → Mm → Nat → Int32 → Int32 → Int32 → Int32 → Int32 → Int32 → Option (Int32 × Mm)
  | 0, _, _, _, _, _, _, _, _ => none
  | n + 1, M, x0, x1, x2, x4, x5, x6, x7 => BX11_stars_39 N (LX11_stars_39 N n) M x0 x1 x2 x4 x5 x6 x7
def fX11_stars (N : Nat) (M : Mm) (a0 : Nat) (a1 : Int32) (a2 : Int32) (a3 : Int32) (a4 : Int32) : Option (Int32 × Mm) :=
  (gC M 11 a0).bind fun _ =>
  (fX11_areStars M a0 a1 a2 a3 a4).bind fun v2 =>
  if v2 = 0 then
  (bd2 (fX11_error M a0 ((1 : Int32))) fun v15 M16 =>
  some (v15, M16))
  else
  ((fX11_readAll N M a0).bind fun M6 =>
  bd2 (fX11_spreadOf N M6 a0 a1 a2 a3) fun v10 M11 =>
  LX11_stars_39 N N M11 a0 a1 a2 a4 a3 v10 ((a3 + (1 : Int32))))
def BX10_tried_75 (N : Nat) (K75 : Mm → Nat → Int32 → Int32 → Int32 → Int32 → Option (Int32 × Mm)) (M : Mm) (x0 : Nat) (x4 : Int32) (x6 : Int32) (x7 : Int32) (x8 : Int32)  : Option (Int32 × Mm) :=
  if x4 < x8 then
  (some (x7, M))
  else
  ((gQ M 10 x0 6).bind fun q1 =>
  bd2 (fX7_spreadBy N M q1 x8) fun v4 M5 =>
  if v4 < x6 then
  (K75 M5 x0 x4 x6 x7 ((x8 + (1 : Int32))))
  else
  (K75 M5 x0 x4 x6 ((x7 + (1 : Int32))) ((x8 + (1 : Int32)))))
def LX10_tried_75 (N : Nat) : Nat → Mm → Nat → Int32 → Int32 → Int32 → Int32 → Option (Int32 × Mm)
  | 0, _, _, _, _, _, _ => none
  | n + 1, M, x0, x4, x6, x7, x8 => BX10_tried_75 N (LX10_tried_75 N n) M x0 x4 x6 x7 x8
def jX10_tried_32 (N : Nat) (M : Mm) (x0 : Nat)  : Option (Int32 × Mm) :=
  bd2 (fX10_error M x0 ((1 : Int32))) fun v2 M3 =>
  some (v2, M3)
def fX10_tried (N : Nat) (M : Mm) (a0 : Nat) (a1 : Int32) (a2 : Int32) (a3 : Int32) (a4 : Int32) (a5 : Int32) : Option (Int32 × Mm) :=
  (gC M 10 a0).bind fun _ =>
  (fX10_isBar M a0 a1).bind fun v2 =>
  if v2 = 0 then
  (jX10_tried_32 N M a0)
  else
  ((fX10_isLine M a2).bind fun v6 =>
  if v6 = 0 then
  (jX10_tried_32 N M a0)
  else
  ((fX10_arePeriods M a3 a4).bind fun v8 =>
  if v8 = 0 then
  (jX10_tried_32 N M a0)
  else
  ((fX10_isPeriod M a5).bind fun v10 =>
  if v10 = 0 then
  (jX10_tried_32 N M a0)
  else
  ((gQ M 10 a0 6).bind fun q11 =>
  (gQ M 10 a0 0).bind fun q13 =>
  (fX7_hear N M q11 q13 a1).bind fun M16 =>
  (gQ M16 10 a0 6).bind fun q19 =>
  (fX7_keepAbove N M16 q19 a2).bind fun M22 =>
  (gQ M22 10 a0 6).bind fun q25 =>
  bd2 (fX7_spreadBy N M22 q25 a5) fun v28 M29 =>
  LX10_tried_75 N N M29 a0 a4 v28 ((0 : Int32)) a3))))
def BX11_tried_46 (N : Nat) (K46 : Mm → Nat → Int32 → Int32 → Int32 → Int32 → Int32 → Int32 → Option (Int32 × Mm)) (M : Mm) (x0 : Nat) (x1 : Int32) (x2 : Int32) (x4 : Int32) (x6 : Int32) (x7 : Int32) (x8 : Int32)  : Option (Int32 × Mm) :=
  if x4 < x8 then
  (some (x7, M))
  else
  (bd2 (fX11_spreadOf N M x0 x1 x2 x8) fun v2 M3 =>
  if v2 < x6 then
  (K46 M3 x0 x1 x2 x4 x6 ((x7 + (0 : Int32))) ((x8 + (1 : Int32))))
  else
  (K46 M3 x0 x1 x2 x4 x6 ((x7 + (1 : Int32))) ((x8 + (1 : Int32)))))
def LX11_tried_46 (N : Nat) : Nat → Mm → Nat → Int32 → Int32 → Int32 → Int32 → Int32 → Int32 → Option (Int32 × Mm)
  | 0, _, _, _, _, _, _, _, _ => none
  | n + 1, M, x0, x1, x2, x4, x6, x7, x8 => BX11_tried_46 N (LX11_tried_46 N n) M x0 x1 x2 x4 x6 x7 x8
def jX11_tried_20 (N : Nat) (M : Mm) (x0 : Nat)  : Option (Int32 × Mm) :=
  bd2 (fX11_error M x0 ((1 : Int32))) fun v2 M3 =>
  some (v2, M3)
def fX11_tried (N : Nat) (M : Mm) (a0 : Nat) (a1 : Int32) (a2 : Int32) (a3 : Int32) (a4 : Int32) (a5 : Int32) : Option (Int32 × Mm) :=
  (gC M 11 a0).bind fun _ =>
  (fX11_areStars M a0 a1 a2 a3 a4).bind fun v2 =>
  if v2 = 0 then
  (jX11_tried_20 N M a0)
  else
  ((fX11_isPeriod M a5).bind fun v6 =>
  if v6 = 0 then
  (jX11_tried_20 N M a0)
  else
  ((fX11_readAll N M a0).bind fun M8 =>
  bd2 (fX11_spreadOf N M8 a0 a1 a2 a5) fun v12 M13 =>
  LX11_tried_46 N N M13 a0 a1 a2 a4 v12 ((0 : Int32)) a3))
def jX10_weight_17 (M : Mm) (x0 : Nat)  : Option (Int32 × Mm) :=
  bd2 (fX10_error M x0 ((1 : Int32))) fun v2 M3 =>
  some (v2, M3)
def fX10_weight (M : Mm) (a0 : Nat) (a1 : Int32) (a2 : Int32) : Option (Int32 × Mm) :=
  (gC M 10 a0).bind fun _ =>
  (fX10_isLaw M a1).bind fun v2 =>
  if v2 = 0 then
  (jX10_weight_17 M a0)
  else
  ((fX10_within M a2 ((0 : Int32)) ((99 : Int32))).bind fun v4 =>
  if v4 = 0 then
  (jX10_weight_17 M a0)
  else
  ((gQ M 10 a0 0).bind fun q5 =>
  (gQ M 6 q5 11).bind fun q7 =>
  bd2 (fX3_exchange M q7 a1 a2) fun v10 M11 =>
  some (v10, M11)))
def jX11_weight_19 (M : Mm) (x0 : Nat)  : Option (Int32 × Mm) :=
  bd2 (fX11_error M x0 ((1 : Int32))) fun v2 M3 =>
  some (v2, M3)
def fX11_weight (M : Mm) (a0 : Nat) (a1 : Int32) (a2 : Int32) : Option (Int32 × Mm) :=
  (gC M 11 a0).bind fun _ =>
  (fX11_isLaw M a1).bind fun v2 =>
  if v2 = 0 then
  (jX11_weight_19 M a0)
  else
  ((fX11_in M (((a2).toInt64)) ((0 : Int64)) ((99 : Int64))).bind fun v4 =>
  if v4 = 0 then
  (jX11_weight_19 M a0)
  else
  ((gQ M 11 a0 0).bind fun q5 =>
  (aI M 0 q5 (((398 : Int32) + a1))).bind fun v7 =>
  (gQ M 11 a0 0).bind fun q9 =>
  (sI M 0 q9 (((398 : Int32) + a1)) a2).bind fun M11 =>
  some (v7, M11)))
def fX10_isYear (M : Mm) (a0 : Int32) : Option (Int32) :=
  (fX10_within M a0 ((0 : Int32)) ((7 : Int32))).bind fun v2 =>
  (zr v2).bind fun v3 =>
  some (v3)
def jX10_year_17 (M : Mm) (x0 : Nat)  : Option (Int32 × Mm) :=
  bd2 (fX10_error M x0 ((1 : Int32))) fun v2 M3 =>
  some (v2, M3)
def fX10_year (M : Mm) (a0 : Nat) (a1 : Int32) (a2 : Int32) : Option (Int32 × Mm) :=
  (gC M 10 a0).bind fun _ =>
  (fX10_isYear M a1).bind fun v2 =>
  if v2 = 0 then
  (jX10_year_17 M a0)
  else
  ((fX10_within M a2 ((0 : Int32)) ((99 : Int32))).bind fun v4 =>
  if v4 = 0 then
  (jX10_year_17 M a0)
  else
  ((gQ M 10 a0 0).bind fun q5 =>
  (gQ M 6 q5 12).bind fun q7 =>
  bd2 (fX3_exchange M q7 a1 a2) fun v10 M11 =>
  some (v10, M11)))
def fX11_isYear (M : Mm) (a0 : Int32) : Option (Int32) :=
  (fX11_in M (((a0).toInt64)) ((0 : Int64)) ((7 : Int64))).bind fun v2 =>
  (zr v2).bind fun v3 =>
  some (v3)
def jX11_year_19 (M : Mm) (x0 : Nat)  : Option (Int32 × Mm) :=
  bd2 (fX11_error M x0 ((1 : Int32))) fun v2 M3 =>
  some (v2, M3)
def fX11_year (M : Mm) (a0 : Nat) (a1 : Int32) (a2 : Int32) : Option (Int32 × Mm) :=
  (gC M 11 a0).bind fun _ =>
  (fX11_isYear M a1).bind fun v2 =>
  if v2 = 0 then
  (jX11_year_19 M a0)
  else
  ((fX11_in M (((a2).toInt64)) ((0 : Int64)) ((99 : Int64))).bind fun v4 =>
  if v4 = 0 then
  (jX11_year_19 M a0)
  else
  ((gQ M 11 a0 0).bind fun q5 =>
  (aI M 0 q5 (((404 : Int32) + a1))).bind fun v7 =>
  (gQ M 11 a0 0).bind fun q9 =>
  (sI M 0 q9 (((404 : Int32) + a1)) a2).bind fun M11 =>
  some (v7, M11)))
def BX6_shareOf_13 (N : Nat) (K13 : Mm → Nat → Int32 → Int32 → Int64 → Int32 → Option (Int64 × Mm)) (M : Mm) (x0 : Nat) (x1 : Int32) (x2 : Int32) (x3 : Int64) (x5 : Int32)  : Option (Int64 × Mm) :=
  if x2 < x5 then
  (some (x3, M))
  else
  (if (8 : Int32) ≤ x5 then
  (some (x3, M))
  else
  ((gQ M 6 x0 12).bind fun q1 =>
  (fX3_at M q1 x5).bind fun v4 =>
  bd2 (fX6_lawGives N M x0 x1 v4 x5) fun v8 M9 =>
  K13 M9 x0 x1 x2 ((x3 * ((v8).toInt64))) ((x5 + (1 : Int32)))))
def LX6_shareOf_13 (N : Nat) : Nat → Mm → Nat → Int32 → Int32 → Int64 → Int32 → Option (Int64 × Mm)
  | 0, _, _, _, _, _, _ => none
  | n + 1, M, x0, x1, x2, x3, x5 => BX6_shareOf_13 N (LX6_shareOf_13 N n) M x0 x1 x2 x3 x5
def fX6_shareOf (N : Nat) (M : Mm) (a0 : Nat) (a1 : Int32) (a2 : Int32) : Option (Int64 × Mm) :=
  (gC M 6 a0).bind fun _ =>
  (gQ M 6 a0 11).bind fun q1 =>
  (fX3_at M q1 a1).bind fun v4 =>
  LX6_shareOf_13 N N M a0 a1 a2 (((v4).toInt64)) ((0 : Int32))
def BX6_sharesTogether_5 (N : Nat) (K5 : Mm → Nat → Int32 → Int64 → Int32 → Option (Int64 × Mm)) (M : Mm) (x0 : Nat) (x1 : Int32) (x2 : Int64) (x4 : Int32)  : Option (Int64 × Mm) :=
  if (6 : Int32) ≤ x4 then
  (some (x2, M))
  else
  (bd2 (fX6_shareOf N M x0 x4 x1) fun v2 M3 =>
  K5 M3 x0 x1 ((x2 + v2)) ((x4 + (1 : Int32))))
def LX6_sharesTogether_5 (N : Nat) : Nat → Mm → Nat → Int32 → Int64 → Int32 → Option (Int64 × Mm)
  | 0, _, _, _, _, _ => none
  | n + 1, M, x0, x1, x2, x4 => BX6_sharesTogether_5 N (LX6_sharesTogether_5 N n) M x0 x1 x2 x4
def fX6_sharesTogether (N : Nat) (M : Mm) (a0 : Nat) (a1 : Int32) : Option (Int64 × Mm) :=
  (gC M 6 a0).bind fun _ =>
  LX6_sharesTogether_5 N N M a0 a1 ((0 : Int64)) ((0 : Int32))
def jX10_all_21 (N : Nat) (M : Mm) (x0 : Nat)  : Option (Int64 × Mm) :=
  bd2 (fX10_error M x0 ((1 : Int32))) fun v2 M3 =>
  some (((v2).toInt64), M3)
def fX10_all (N : Nat) (M : Mm) (a0 : Nat) (a1 : Int32) (a2 : Int32) (a3 : Int32) : Option (Int64 × Mm) :=
  (gC M 10 a0).bind fun _ =>
  (fX10_isLaw M a1).bind fun v2 =>
  if v2 = 0 then
  (jX10_all_21 N M a0)
  else
  ((fX10_isYear M a2).bind fun v4 =>
  if v4 = 0 then
  (jX10_all_21 N M a0)
  else
  ((fX10_isPart M a3).bind fun v6 =>
  if v6 = 0 then
  (jX10_all_21 N M a0)
  else
  ((gQ M 10 a0 0).bind fun q7 =>
  bd2 (fX6_shareOf N M q7 a1 a2) fun v10 M11 =>
  (gQ M11 10 a0 0).bind fun q14 =>
  bd2 (fX6_sharesTogether N M11 q14 a2) fun v17 M18 =>
  (fX10_inLowestTerms N M18 v10 v17 a3).bind fun v22 =>
  some (v22, M18))))
def BX11_oddsOf_15 (N : Nat) (K15 : Mm → Nat → Int32 → Int32 → Int64 → Int32 → Option (Int64 × Mm)) (M : Mm) (x0 : Nat) (x1 : Int32) (x2 : Int32) (x3 : Int64) (x5 : Int32)  : Option (Int64 × Mm) :=
  if x2 < x5 then
  (some (x3, M))
  else
  ((gQ M 11 x0 0).bind fun q1 =>
  (aI M 0 q1 (((404 : Int32) + x5))).bind fun v3 =>
  bd2 (fX11_lawOf N M x0 x1 v3 x5) fun v6 M7 =>
  K15 M7 x0 x1 x2 ((x3 * ((v6).toInt64))) ((x5 + (1 : Int32))))
def LX11_oddsOf_15 (N : Nat) : Nat → Mm → Nat → Int32 → Int32 → Int64 → Int32 → Option (Int64 × Mm)
  | 0, _, _, _, _, _, _ => none
  | n + 1, M, x0, x1, x2, x3, x5 => BX11_oddsOf_15 N (LX11_oddsOf_15 N n) M x0 x1 x2 x3 x5
def fX11_oddsOf (N : Nat) (M : Mm) (a0 : Nat) (a1 : Int32) (a2 : Int32) : Option (Int64 × Mm) :=
  (gC M 11 a0).bind fun _ =>
  (gQ M 11 a0 0).bind fun q1 =>
  (aI M 0 q1 (((398 : Int32) + a1))).bind fun v3 =>
  LX11_oddsOf_15 N N M a0 a1 a2 (((v3).toInt64)) ((0 : Int32))
def BX11_oddsOfAll_5 (N : Nat) (K5 : Mm → Nat → Int32 → Int64 → Int32 → Option (Int64 × Mm)) (M : Mm) (x0 : Nat) (x1 : Int32) (x2 : Int64) (x4 : Int32)  : Option (Int64 × Mm) :=
  if (6 : Int32) ≤ x4 then
  (some (x2, M))
  else
  (bd2 (fX11_oddsOf N M x0 x4 x1) fun v2 M3 =>
  K5 M3 x0 x1 ((x2 + v2)) ((x4 + (1 : Int32))))
def LX11_oddsOfAll_5 (N : Nat) : Nat → Mm → Nat → Int32 → Int64 → Int32 → Option (Int64 × Mm)
  | 0, _, _, _, _, _ => none
  | n + 1, M, x0, x1, x2, x4 => BX11_oddsOfAll_5 N (LX11_oddsOfAll_5 N n) M x0 x1 x2 x4
def fX11_oddsOfAll (N : Nat) (M : Mm) (a0 : Nat) (a1 : Int32) : Option (Int64 × Mm) :=
  (gC M 11 a0).bind fun _ =>
  LX11_oddsOfAll_5 N N M a0 a1 ((0 : Int64)) ((0 : Int32))
def jX11_all_24 (N : Nat) (M : Mm) (x0 : Nat)  : Option (Int64 × Mm) :=
  bd2 (fX11_error M x0 ((1 : Int32))) fun v2 M3 =>
  some (((v2).toInt64), M3)
def fX11_all (N : Nat) (M : Mm) (a0 : Nat) (a1 : Int32) (a2 : Int32) (a3 : Int32) : Option (Int64 × Mm) :=
  (gC M 11 a0).bind fun _ =>
  (fX11_isLaw M a1).bind fun v2 =>
  if v2 = 0 then
  (jX11_all_24 N M a0)
  else
  ((fX11_isYear M a2).bind fun v4 =>
  if v4 = 0 then
  (jX11_all_24 N M a0)
  else
  ((fX11_in M (((a3).toInt64)) ((0 : Int64)) ((1 : Int64))).bind fun v6 =>
  if v6 = 0 then
  (jX11_all_24 N M a0)
  else
  (bd2 (fX11_oddsOfAll N M a0 a2) fun v8 M9 =>
  if (lg_cmp v8 ((0 : Int64))) = 0 then
  (some (((a3).toInt64), M9))
  else
  (bd2 (fX11_oddsOf N M9 a0 a1 a2) fun v13 M14 =>
  (fX11_common N M14 v13 v8).bind fun v18 =>
  if a3 = 0 then
  ((dJ v13 v18).bind fun v21 =>
  some (v21, M14))
  else
  ((dJ v8 v18).bind fun v19 =>
  some (v19, M14))))))
def fJ9_max_f86c9 (M : Mm) (a0 : Int64) (a2 : Int64) : Option (Int64) :=
  if (lg_cmp a0 a2) < 0 then
  (some (a2))
  else
  (some (a0))
def BX10_say_36 (N : Nat) (K36 : Mm → Nat → Int32 → Int64 → Int64 → Int32 → Option (Int32 × Mm)) (M : Mm) (x0 : Nat) (x1 : Int32) (x2 : Int64) (x4 : Int64) (x6 : Int32)  : Option (Int32 × Mm) :=
  if (6 : Int32) ≤ x6 then
  (if (lg_cmp (((10 : Int64) * x4)) (((9 : Int64) * x2))) < 0 then
  (if (lg_cmp (((2 : Int64) * x4)) x2) < 0 then
  (some ((0 : Int32), M))
  else
  (some ((1 : Int32), M)))
  else
  (some ((2 : Int32), M)))
  else
  ((gQ M 10 x0 0).bind fun q1 =>
  bd2 (fX6_shareOf N M q1 x6 x1) fun v4 M5 =>
  (fJ9_max_f86c9 M5 x4 v4).bind fun v9 =>
  K36 M5 x0 x1 x2 v9 ((x6 + (1 : Int32))))
def LX10_say_36 (N : Nat) : Nat → Mm → Nat → Int32 → Int64 → Int64 → Int32 → Option (Int32 × Mm)
  | 0, _, _, _, _, _, _ => none
  | n + 1, M, x0, x1, x2, x4, x6 => BX10_say_36 N (LX10_say_36 N n) M x0 x1 x2 x4 x6
def fX10_say (N : Nat) (M : Mm) (a0 : Nat) (a1 : Int32) : Option (Int32 × Mm) :=
  (gC M 10 a0).bind fun _ =>
  (fX10_isYear M a1).bind fun v2 =>
  if v2 = 0 then
  (bd2 (fX10_error M a0 ((1 : Int32))) fun v11 M12 =>
  some (v11, M12))
  else
  ((gQ M 10 a0 0).bind fun q3 =>
  bd2 (fX6_sharesTogether N M q3 a1) fun v6 M7 =>
  if (lg_cmp v6 ((0 : Int64))) = 0 then
  (some ((0 : Int32), M7))
  else
  (LX10_say_36 N N M7 a0 a1 v6 ((0 : Int64)) ((0 : Int32))))
def jX11_say_82 (N : Nat) (K25 : Mm → Nat → Int32 → Int64 → Int32 → Int32 → Option (Int32 × Mm)) (M : Mm) (x0 : Nat) (x1 : Int32) (x2 : Int64) (x4 : Int32) (x5 : Int32) (s0 : Int32) : Option (Int32 × Mm) :=
  if s0 ≤ x4 then
  (K25 M x0 x1 x2 x4 ((x5 + (1 : Int32))))
  else
  (K25 M x0 x1 x2 s0 ((x5 + (1 : Int32))))
def BX11_say_25 (N : Nat) (K25 : Mm → Nat → Int32 → Int64 → Int32 → Int32 → Option (Int32 × Mm)) (M : Mm) (x0 : Nat) (x1 : Int32) (x2 : Int64) (x4 : Int32) (x5 : Int32)  : Option (Int32 × Mm) :=
  if (6 : Int32) ≤ x5 then
  (some (x4, M))
  else
  (if (lg_cmp x2 ((0 : Int64))) ≤ 0 then
  (some (x4, M))
  else
  (bd2 (fX11_oddsOf N M x0 x5 x1) fun v2 M3 =>
  if (lg_cmp (((10 : Int64) * v2)) (((9 : Int64) * x2))) < 0 then
  (if (lg_cmp (((2 : Int64) * v2)) x2) < 0 then
  (jX11_say_82 N K25 M3 x0 x1 x2 x4 x5 ((0 : Int32)))
  else
  (jX11_say_82 N K25 M3 x0 x1 x2 x4 x5 ((1 : Int32))))
  else
  (jX11_say_82 N K25 M3 x0 x1 x2 x4 x5 ((2 : Int32)))))
def LX11_say_25 (N : Nat) : Nat → Mm → Nat → Int32 → Int64 → Int32 → Int32 → Option (Int32 × Mm)
  | 0, _, _, _, _, _, _ => none
  | n + 1, M, x0, x1, x2, x4, x5 => BX11_say_25 N (LX11_say_25 N n) M x0 x1 x2 x4 x5
def fX11_say (N : Nat) (M : Mm) (a0 : Nat) (a1 : Int32) : Option (Int32 × Mm) :=
  (gC M 11 a0).bind fun _ =>
  (fX11_isYear M a1).bind fun v2 =>
  if v2 = 0 then
  (bd2 (fX11_error M a0 ((1 : Int32))) fun v9 M10 =>
  some (v9, M10))
  else
  (bd2 (fX11_oddsOfAll N M a0 a1) fun v4 M5 =>
  LX11_say_25 N N M5 a0 a1 v4 ((0 : Int32)) ((0 : Int32)))
def BX10_find_31 (N : Nat) (K22 : Mm → Nat → Int32 → Int32 → Int32 → Option (Int32 × Mm)) (K31 : Mm → Nat → Int32 → Int32 → Int32 → Int32 → Option (Int32 × Mm)) (M : Mm) (x0 : Nat) (x1 : Int32) (x2 : Int32) (x3 : Int32) (x4 : Int32)  : Option (Int32 × Mm) :=
  if (8 : Int32) ≤ x4 then
  (K22 M x0 x1 x2 ((x3 + (1 : Int32))))
  else
  ((gQ M 10 x0 0).bind fun q1 =>
  bd2 (fX6_lawGives N M q1 x1 x3 x4) fun v4 M5 =>
  (gQ M5 10 x0 0).bind fun q8 =>
  bd2 (fX6_lawGives N M5 q8 x2 x3 x4) fun v11 M12 =>
  if v4 = v11 then
  (K31 M12 x0 x1 x2 x3 ((x4 + (1 : Int32))))
  else
  (some ((((10 : Int32) * x3) + x4), M12)))
def LX10_find_31 (N : Nat) (K22 : Mm → Nat → Int32 → Int32 → Int32 → Option (Int32 × Mm)) : Nat → Mm → Nat → Int32 → Int32 → Int32 → Int32 → Option (Int32 × Mm)
  | 0, _, _, _, _, _, _ => none
  | n + 1, M, x0, x1, x2, x3, x4 => BX10_find_31 N K22 (LX10_find_31 N K22 n) M x0 x1 x2 x3 x4
def BX10_find_22 (N : Nat) (K22 : Mm → Nat → Int32 → Int32 → Int32 → Option (Int32 × Mm)) (M : Mm) (x0 : Nat) (x1 : Int32) (x2 : Int32) (x3 : Int32)  : Option (Int32 × Mm) :=
  if (99 : Int32) < x3 then
  (bd2 (fX10_error M x0 ((2 : Int32))) fun v2 M3 =>
  some (v2, M3))
  else
  (LX10_find_31 N K22 N M x0 x1 x2 x3 ((0 : Int32)))
def LX10_find_22 (N : Nat) : Nat → Mm → Nat → Int32 → Int32 → Int32 → Option (Int32 × Mm)
  | 0, _, _, _, _, _ => none
  | n + 1, M, x0, x1, x2, x3 => BX10_find_22 N (LX10_find_22 N n) M x0 x1 x2 x3
def jX10_find_14 (N : Nat) (M : Mm) (x0 : Nat)  : Option (Int32 × Mm) :=
  bd2 (fX10_error M x0 ((1 : Int32))) fun v2 M3 =>
  some (v2, M3)
def fX10_find (N : Nat) (M : Mm) (a0 : Nat) (a1 : Int32) (a2 : Int32) : Option (Int32 × Mm) :=
  (gC M 10 a0).bind fun _ =>
  (fX10_isLaw M a1).bind fun v2 =>
  if v2 = 0 then
  (jX10_find_14 N M a0)
  else
  ((fX10_isLaw M a2).bind fun v4 =>
  if v4 = 0 then
  (jX10_find_14 N M a0)
  else
  (LX10_find_22 N N M a0 a1 a2 ((0 : Int32))))
def BX11_find_31 (N : Nat) (K22 : Mm → Nat → Int32 → Int32 → Int32 → Option (Int32 × Mm)) (K31 : Mm → Nat → Int32 → Int32 → Int32 → Int32 → Option (Int32 × Mm)) (M : Mm) (x0 : Nat) (x1 : Int32) (x2 : Int32) (x3 : Int32) (x4 : Int32)  : Option (Int32 × Mm) :=
  if (8 : Int32) ≤ x4 then
  (K22 M x0 x1 x2 ((x3 + (1 : Int32))))
  else
  (bd2 (fX11_lawOf N M x0 x1 x3 x4) fun v2 M3 =>
  bd2 (fX11_lawOf N M3 x0 x2 x3 x4) fun v7 M8 =>
  if v2 = v7 then
  (K31 M8 x0 x1 x2 x3 ((x4 + (1 : Int32))))
  else
  (some ((((10 : Int32) * x3) + x4), M8)))
def LX11_find_31 (N : Nat) (K22 : Mm → Nat → Int32 → Int32 → Int32 → Option (Int32 × Mm)) : Nat → Mm → Nat → Int32 → Int32 → Int32 → Int32 → Option (Int32 × Mm)
  | 0, _, _, _, _, _, _ => none
  | n + 1, M, x0, x1, x2, x3, x4 => BX11_find_31 N K22 (LX11_find_31 N K22 n) M x0 x1 x2 x3 x4
def BX11_find_22 (N : Nat) (K22 : Mm → Nat → Int32 → Int32 → Int32 → Option (Int32 × Mm)) (M : Mm) (x0 : Nat) (x1 : Int32) (x2 : Int32) (x3 : Int32)  : Option (Int32 × Mm) :=
  if (100 : Int32) ≤ x3 then
  (bd2 (fX11_error M x0 ((2 : Int32))) fun v2 M3 =>
  some (v2, M3))
  else
  (LX11_find_31 N K22 N M x0 x1 x2 x3 ((0 : Int32)))
def LX11_find_22 (N : Nat) : Nat → Mm → Nat → Int32 → Int32 → Int32 → Option (Int32 × Mm)
  | 0, _, _, _, _, _ => none
  | n + 1, M, x0, x1, x2, x3 => BX11_find_22 N (LX11_find_22 N n) M x0 x1 x2 x3
def jX11_find_14 (N : Nat) (M : Mm) (x0 : Nat)  : Option (Int32 × Mm) :=
  bd2 (fX11_error M x0 ((1 : Int32))) fun v2 M3 =>
  some (v2, M3)
def fX11_find (N : Nat) (M : Mm) (a0 : Nat) (a1 : Int32) (a2 : Int32) : Option (Int32 × Mm) :=
  (gC M 11 a0).bind fun _ =>
  (fX11_isLaw M a1).bind fun v2 =>
  if v2 = 0 then
  (jX11_find_14 N M a0)
  else
  ((fX11_isLaw M a2).bind fun v4 =>
  if v4 = 0 then
  (jX11_find_14 N M a0)
  else
  (LX11_find_22 N N M a0 a1 a2 ((0 : Int32))))
def jX10_quiet_18 (M : Mm) (x0 : Nat)  : Option (Int32 × Mm) :=
  bd2 (fX10_error M x0 ((1 : Int32))) fun v2 M3 =>
  some (v2, M3)
def fX10_quiet (M : Mm) (a0 : Nat) (a1 : Int32) (a2 : Int32) : Option (Int32 × Mm) :=
  (gC M 10 a0).bind fun _ =>
  (fX10_isHeight M a1).bind fun v2 =>
  if v2 = 0 then
  (jX10_quiet_18 M a0)
  else
  ((fX10_within M a2 ((1 : Int32)) ((9999 : Int32))).bind fun v4 =>
  if v4 = 0 then
  (jX10_quiet_18 M a0)
  else
  ((gQ M 10 a0 0).bind fun q5 =>
  (gQ M 6 q5 13).bind fun q7 =>
  (fX3_room M q7).bind fun v10 =>
  if v10 = 0 then
  (bd2 (fX10_error M a0 ((4 : Int32))) fun v40 M41 =>
  some (v40, M41))
  else
  ((gQ M 10 a0 0).bind fun q13 =>
  (gQ M 6 q13 13).bind fun q15 =>
  bd2 (fX3_add M q15 a1) fun v18 M19 =>
  (gQ M19 10 a0 0).bind fun q22 =>
  (gQ M19 6 q22 14).bind fun q24 =>
  bd2 (fX3_add M19 q24 a2) fun v27 M28 =>
  (gQ M28 10 a0 0).bind fun q31 =>
  (gQ M28 6 q31 13).bind fun q33 =>
  (fX3_size M28 q33).bind fun v36 =>
  some (v36, M28))))
def jX11_quiet_24 (M : Mm) (x0 : Nat)  : Option (Int32 × Mm) :=
  bd2 (fX11_error M x0 ((1 : Int32))) fun v2 M3 =>
  some (v2, M3)
def fX11_quiet (M : Mm) (a0 : Nat) (a1 : Int32) (a2 : Int32) : Option (Int32 × Mm) :=
  (gC M 11 a0).bind fun _ =>
  (fX11_in M (((a1).toInt64)) ((1 : Int64)) ((999 : Int64))).bind fun v2 =>
  if v2 = 0 then
  (jX11_quiet_24 M a0)
  else
  ((fX11_in M (((a2).toInt64)) ((1 : Int64)) ((9999 : Int64))).bind fun v4 =>
  if v4 = 0 then
  (jX11_quiet_24 M a0)
  else
  ((gQ M 11 a0 0).bind fun q5 =>
  (aI M 0 q5 ((5 : Int32))).bind fun v7 =>
  if v7 = (8 : Int32) then
  (bd2 (fX11_error M a0 ((4 : Int32))) fun v24 M25 =>
  some (v24, M25))
  else
  ((gQ M 11 a0 0).bind fun q9 =>
  (sI M 0 q9 (((382 : Int32) + ((2 : Int32) * v7))) a1).bind fun M11 =>
  (gQ M11 11 a0 0).bind fun q13 =>
  (sI M11 0 q13 ((((382 : Int32) + ((2 : Int32) * v7)) + (1 : Int32))) a2).bind fun M15 =>
  (gQ M15 11 a0 0).bind fun q17 =>
  (aI M15 0 q17 ((5 : Int32))).bind fun v19 =>
  (sI M15 0 q17 ((5 : Int32)) ((v19 + (1 : Int32)))).bind fun M21 =>
  some ((v7 + (1 : Int32)), M21))))
def BX10_bound_17 (N : Nat) (K17 : Mm → Nat → Int32 → Int32 → Int32 → Option (Int32 × Mm)) (M : Mm) (x0 : Nat) (x1 : Int32) (x2 : Int32) (x3 : Int32)  : Option (Int32 × Mm) :=
  (gQ M 10 x0 0).bind fun q1 =>
  (gQ M 6 q1 13).bind fun q3 =>
  (fX3_size M q3).bind fun v6 =>
  if v6 ≤ x3 then
  (if x2 = 0 then
  (bd2 (fX10_error M x0 ((2 : Int32))) fun v12 M13 =>
  some (v12, M13))
  else
  ((dI ((30000 : Int32)) x2).bind fun v9 =>
  some (v9, M)))
  else
  ((gQ M 10 x0 0).bind fun q16 =>
  (gQ M 6 q16 13).bind fun q18 =>
  (fX3_at M q18 x3).bind fun v21 =>
  if x1 < v21 then
  (K17 M x0 x1 x2 ((x3 + (1 : Int32))))
  else
  ((gQ M 10 x0 0).bind fun q24 =>
  (gQ M 6 q24 14).bind fun q26 =>
  (fX3_at M q26 x3).bind fun v29 =>
  (fJ9_max_7cf53 M x2 v29).bind fun v33 =>
  K17 M x0 x1 v33 ((x3 + (1 : Int32)))))
def LX10_bound_17 (N : Nat) : Nat → Mm → Nat → Int32 → Int32 → Int32 → Option (Int32 × Mm)
  | 0, _, _, _, _, _ => none
  | n + 1, M, x0, x1, x2, x3 => BX10_bound_17 N (LX10_bound_17 N n) M x0 x1 x2 x3
def fX10_bound (N : Nat) (M : Mm) (a0 : Nat) (a1 : Int32) : Option (Int32 × Mm) :=
  (gC M 10 a0).bind fun _ =>
  (fX10_isHeight M a1).bind fun v2 =>
  if v2 = 0 then
  (bd2 (fX10_error M a0 ((1 : Int32))) fun v4 M5 =>
  some (v4, M5))
  else
  (LX10_bound_17 N N M a0 a1 ((0 : Int32)) ((0 : Int32)))
def BX11_bound_22 (N : Nat) (K22 : Mm → Nat → Int32 → Int32 → Int32 → Option (Int32 × Mm)) (M : Mm) (x0 : Nat) (x1 : Int32) (x2 : Int32) (x3 : Int32)  : Option (Int32 × Mm) :=
  (gQ M 11 x0 0).bind fun q1 =>
  (aI M 0 q1 ((5 : Int32))).bind fun v3 =>
  if v3 ≤ x3 then
  (if 0 ≤ x2 then
  (some (x2, M))
  else
  (bd2 (fX11_error M x0 ((2 : Int32))) fun v6 M7 =>
  some (v6, M7)))
  else
  ((gQ M 11 x0 0).bind fun q10 =>
  (aI M 0 q10 ((((382 : Int32) + ((2 : Int32) * x3)) + (1 : Int32)))).bind fun v12 =>
  (dI ((30000 : Int32)) v12).bind fun v14 =>
  (gQ M 11 x0 0).bind fun q16 =>
  (aI M 0 q16 (((382 : Int32) + ((2 : Int32) * x3)))).bind fun v18 =>
  if x1 < v18 then
  (K22 M x0 x1 x2 ((x3 + (1 : Int32))))
  else
  (if x2 < 0 then
  (K22 M x0 x1 v14 ((x3 + (1 : Int32))))
  else
  (if x2 ≤ v14 then
  (K22 M x0 x1 x2 ((x3 + (1 : Int32))))
  else
  (K22 M x0 x1 v14 ((x3 + (1 : Int32)))))))
def LX11_bound_22 (N : Nat) : Nat → Mm → Nat → Int32 → Int32 → Int32 → Option (Int32 × Mm)
  | 0, _, _, _, _, _ => none
  | n + 1, M, x0, x1, x2, x3 => BX11_bound_22 N (LX11_bound_22 N n) M x0 x1 x2 x3
def fX11_bound (N : Nat) (M : Mm) (a0 : Nat) (a1 : Int32) : Option (Int32 × Mm) :=
  (gC M 11 a0).bind fun _ =>
  (fX11_in M (((a1).toInt64)) ((1 : Int64)) ((999 : Int64))).bind fun v2 =>
  if v2 = 0 then
  (bd2 (fX11_error M a0 ((1 : Int32))) fun v4 M5 =>
  some (v4, M5))
  else
  (LX11_bound_22 N N M a0 a1 ((-1 : Int32)) ((0 : Int32)))
def BX10_gone_55 (N : Nat) (K44 : Mm → Nat → Int32 → Int32 → Int32 → Int32 → Int32 → Option (Int32 × Mm)) (K55 : Mm → Nat → Int32 → Int32 → Int32 → Int32 → Int32 → Int32 → Option (Int32 × Mm)) (M : Mm) (x0 : Nat) (x1 : Int32) (x2 : Int32) (x3 : Int32) (x4 : Int32) (x5 : Int32) (x6 : Int32)  : Option (Int32 × Mm) :=
  if x3 ≤ x6 then
  (if x1 ≤ ((2 : Int32) * x4) then
  (K44 M x0 x1 x2 x3 x4 ((x5 + (1 : Int32))))
  else
  (some (x5, M)))
  else
  (K55 M x0 x1 x2 x3 ((x4 - (((x4 * x2) + (999 : Int32)) / (1000 : Int32)))) x5 ((x6 + (1 : Int32))))
def LX10_gone_55 (N : Nat) (K44 : Mm → Nat → Int32 → Int32 → Int32 → Int32 → Int32 → Option (Int32 × Mm)) : Nat → Mm → Nat → Int32 → Int32 → Int32 → Int32 → Int32 → Int32 → Option (Int32 × Mm)
  | 0, _, _, _, _, _, _, _, _ => none
  | n + 1, M, x0, x1, x2, x3, x4, x5, x6 => BX10_gone_55 N K44 (LX10_gone_55 N K44 n) M x0 x1 x2 x3 x4 x5 x6
def BX10_gone_44 (N : Nat) (K44 : Mm → Nat → Int32 → Int32 → Int32 → Int32 → Int32 → Option (Int32 × Mm)) (M : Mm) (x0 : Nat) (x1 : Int32) (x2 : Int32) (x3 : Int32) (x4 : Int32) (x5 : Int32)  : Option (Int32 × Mm) :=
  if (999 : Int32) < x5 then
  (bd2 (fX10_error M x0 ((2 : Int32))) fun v2 M3 =>
  some (v2, M3))
  else
  (LX10_gone_55 N K44 N M x0 x1 x2 x3 x4 x5 ((0 : Int32)))
def LX10_gone_44 (N : Nat) : Nat → Mm → Nat → Int32 → Int32 → Int32 → Int32 → Int32 → Option (Int32 × Mm)
  | 0, _, _, _, _, _, _, _ => none
  | n + 1, M, x0, x1, x2, x3, x4, x5 => BX10_gone_44 N (LX10_gone_44 N n) M x0 x1 x2 x3 x4 x5
def jX10_gone_32 (N : Nat) (M : Mm) (x0 : Nat)  : Option (Int32 × Mm) :=
  bd2 (fX10_error M x0 ((1 : Int32))) fun v2 M3 =>
  some (v2, M3)
def fX10_gone (N : Nat) (M : Mm) (a0 : Nat) (a1 : Int32) (a2 : Int32) (a3 : Int32) : Option (Int32 × Mm) :=
  (gC M 10 a0).bind fun _ =>
  (fX10_within M a1 ((1 : Int32)) ((99999 : Int32))).bind fun v2 =>
  if v2 = 0 then
  (jX10_gone_32 N M a0)
  else
  ((fX10_within M a2 ((1 : Int32)) ((999 : Int32))).bind fun v4 =>
  if v4 = 0 then
  (jX10_gone_32 N M a0)
  else
  ((fX10_within M a3 ((1 : Int32)) ((9 : Int32))).bind fun v6 =>
  if v6 = 0 then
  (jX10_gone_32 N M a0)
  else
  (LX10_gone_44 N N M a0 a1 a2 a3 a1 ((1 : Int32)))))
def BX11_gone_59 (N : Nat) (K48 : Mm → Nat → Int32 → Int32 → Int32 → Int32 → Int32 → Option (Int32 × Mm)) (K59 : Mm → Nat → Int32 → Int32 → Int32 → Int32 → Int32 → Int32 → Option (Int32 × Mm)) (M : Mm) (x0 : Nat) (x1 : Int32) (x2 : Int32) (x3 : Int32) (x4 : Int32) (x5 : Int32) (x6 : Int32)  : Option (Int32 × Mm) :=
  if x3 ≤ x6 then
  (if x1 ≤ ((2 : Int32) * x4) then
  (K48 M x0 x1 x2 x3 x4 ((x5 + (1 : Int32))))
  else
  (some (x5, M)))
  else
  (K59 M x0 x1 x2 x3 ((x4 - (((x4 * x2) + (999 : Int32)) / (1000 : Int32)))) x5 ((x6 + (1 : Int32))))
def LX11_gone_59 (N : Nat) (K48 : Mm → Nat → Int32 → Int32 → Int32 → Int32 → Int32 → Option (Int32 × Mm)) : Nat → Mm → Nat → Int32 → Int32 → Int32 → Int32 → Int32 → Int32 → Option (Int32 × Mm)
  | 0, _, _, _, _, _, _, _, _ => none
  | n + 1, M, x0, x1, x2, x3, x4, x5, x6 => BX11_gone_59 N K48 (LX11_gone_59 N K48 n) M x0 x1 x2 x3 x4 x5 x6
def BX11_gone_48 (N : Nat) (K48 : Mm → Nat → Int32 → Int32 → Int32 → Int32 → Int32 → Option (Int32 × Mm)) (M : Mm) (x0 : Nat) (x1 : Int32) (x2 : Int32) (x3 : Int32) (x4 : Int32) (x5 : Int32)  : Option (Int32 × Mm) :=
  if (1000 : Int32) ≤ x5 then
  (bd2 (fX11_error M x0 ((2 : Int32))) fun v2 M3 =>
  some (v2, M3))
  else
  (LX11_gone_59 N K48 N M x0 x1 x2 x3 x4 x5 ((0 : Int32)))
def LX11_gone_48 (N : Nat) : Nat → Mm → Nat → Int32 → Int32 → Int32 → Int32 → Int32 → Option (Int32 × Mm)
  | 0, _, _, _, _, _, _, _ => none
  | n + 1, M, x0, x1, x2, x3, x4, x5 => BX11_gone_48 N (LX11_gone_48 N n) M x0 x1 x2 x3 x4 x5
def jX11_gone_36 (N : Nat) (M : Mm) (x0 : Nat)  : Option (Int32 × Mm) :=
  bd2 (fX11_error M x0 ((1 : Int32))) fun v2 M3 =>
  some (v2, M3)
def fX11_gone (N : Nat) (M : Mm) (a0 : Nat) (a1 : Int32) (a2 : Int32) (a3 : Int32) : Option (Int32 × Mm) :=
  (gC M 11 a0).bind fun _ =>
  (fX11_in M (((a1).toInt64)) ((1 : Int64)) ((99999 : Int64))).bind fun v2 =>
  if v2 = 0 then
  (jX11_gone_36 N M a0)
  else
  ((fX11_in M (((a2).toInt64)) ((1 : Int64)) ((999 : Int64))).bind fun v4 =>
  if v4 = 0 then
  (jX11_gone_36 N M a0)
  else
  ((fX11_in M (((a3).toInt64)) ((1 : Int64)) ((9 : Int64))).bind fun v6 =>
  if v6 = 0 then
  (jX11_gone_36 N M a0)
  else
  (LX11_gone_48 N N M a0 a1 a2 a3 a1 ((1 : Int32)))))
def fX10_seed (M : Mm) (a0 : Nat) (a1 : Int32) : Option (Int32 × Mm) :=
  (gC M 10 a0).bind fun _ =>
  (gQ M 10 a0 0).bind fun q1 =>
  (gI M 6 q1 16).bind fun v3 =>
  (gQ M 10 a0 0).bind fun q5 =>
  (pF M 6 q5 16 (.int a1)).bind fun M7 =>
  some (v3, M7)
def fX11_seed (M : Mm) (a0 : Nat) (a1 : Int32) : Option (Int32 × Mm) :=
  (gC M 11 a0).bind fun _ =>
  (gQ M 11 a0 0).bind fun q1 =>
  (aI M 0 q1 ((8 : Int32))).bind fun v3 =>
  (gQ M 11 a0 0).bind fun q5 =>
  (sI M 0 q5 ((8 : Int32)) a1).bind fun M7 =>
  some (v3, M7)
def fX6_draw (M : Mm) (a0 : Nat) : Option (Int32 × Mm) :=
  (gC M 6 a0).bind fun _ =>
  (gI M 6 a0 16).bind fun v1 =>
  (pF M 6 a0 16 (.int (((v1 * (1103515245 : Int32)) + (12345 : Int32))))).bind fun M3 =>
  (gI M3 6 a0 16).bind fun v5 =>
  some ((((v5).toUInt32 >>> (((8 : Int32)).toUInt32 &&& Int32.toUInt32 31)).toInt32), M3)
def fX6_drawTenth (M : Mm) (a0 : Nat) : Option (Int32 × Mm) :=
  (gC M 6 a0).bind fun _ =>
  bd2 (fX6_draw M a0) fun v2 M3 =>
  some ((rmI v2 ((2400 : Int32))), M3)
def fX6_drawHeight (M : Mm) (a0 : Nat) : Option (Int32 × Mm) :=
  (gC M 6 a0).bind fun _ =>
  bd2 (fX6_draw M a0) fun v2 M3 =>
  some (((rmI v2 ((999 : Int32))) + (1 : Int32)), M3)
def BX10_made_46 (N : Nat) (K46 : Mm → Nat → Int32 → Int32 → Int32 → Option (Int32 × Mm)) (M : Mm) (x0 : Nat) (x1 : Int32) (x2 : Int32) (x3 : Int32)  : Option (Int32 × Mm) :=
  if x2 ≤ x3 then
  ((gQ M 10 x0 0).bind fun q1 =>
  (fX6_rings M q1).bind fun v4 =>
  some (v4, M))
  else
  ((gQ M 10 x0 0).bind fun q7 =>
  bd2 (fX6_drawTenth M q7) fun v10 M11 =>
  (gQ M11 10 x0 0).bind fun q14 =>
  (gQ M11 10 x0 0).bind fun q16 =>
  bd2 (fX6_drawHeight M11 q16) fun v19 M20 =>
  bd2 (fX6_addRing M20 q14 x1 v10 v19) fun v24 M25 =>
  K46 M25 x0 x1 x2 ((x3 + (1 : Int32))))
def LX10_made_46 (N : Nat) : Nat → Mm → Nat → Int32 → Int32 → Int32 → Option (Int32 × Mm)
  | 0, _, _, _, _, _ => none
  | n + 1, M, x0, x1, x2, x3 => BX10_made_46 N (LX10_made_46 N n) M x0 x1 x2 x3
def jX10_made_18 (N : Nat) (M : Mm) (x0 : Nat)  : Option (Int32 × Mm) :=
  bd2 (fX10_error M x0 ((1 : Int32))) fun v2 M3 =>
  some (v2, M3)
def fX10_made (N : Nat) (M : Mm) (a0 : Nat) (a1 : Int32) (a2 : Int32) : Option (Int32 × Mm) :=
  (gC M 10 a0).bind fun _ =>
  (fX10_isBar M a0 a1).bind fun v2 =>
  if v2 = 0 then
  (jX10_made_18 N M a0)
  else
  ((fX10_within M a2 ((1 : Int32)) ((20 : Int32))).bind fun v6 =>
  if v6 = 0 then
  (jX10_made_18 N M a0)
  else
  ((gQ M 10 a0 0).bind fun q7 =>
  (gQ M 6 q7 2).bind fun q9 =>
  (fX3_room M q9).bind fun v12 =>
  if a2 ≤ v12 then
  (LX10_made_46 N N M a0 a1 a2 ((0 : Int32)))
  else
  (bd2 (fX10_error M a0 ((4 : Int32))) fun v16 M17 =>
  some (v16, M17))))
def fX11_draw (M : Mm) (a0 : Nat) : Option (Int32 × Mm) :=
  (gC M 11 a0).bind fun _ =>
  (gQ M 11 a0 0).bind fun q1 =>
  (gQ M 11 a0 0).bind fun q3 =>
  (aI M 0 q3 ((8 : Int32))).bind fun v5 =>
  (sI M 0 q1 ((8 : Int32)) (((v5 * (1103515245 : Int32)) + (12345 : Int32)))).bind fun M7 =>
  (gQ M7 11 a0 0).bind fun q9 =>
  (aI M7 0 q9 ((8 : Int32))).bind fun v11 =>
  some ((((v11).toUInt32 >>> (((8 : Int32)).toUInt32 &&& Int32.toUInt32 31)).toInt32), M7)
def BX11_made_47 (N : Nat) (K47 : Mm → Nat → Int32 → Int32 → Int32 → Option (Int32 × Mm)) (M : Mm) (x0 : Nat) (x1 : Int32) (x2 : Int32) (x3 : Int32)  : Option (Int32 × Mm) :=
  if x2 ≤ x3 then
  ((gQ M 11 x0 0).bind fun q1 =>
  (aI M 0 q1 ((1 : Int32))).bind fun v3 =>
  some (v3, M))
  else
  (bd2 (fX11_draw M x0) fun v6 M7 =>
  bd2 (fX11_draw M7 x0) fun v11 M12 =>
  (fX11_rings M12 x0 x1 ((rmI v6 ((2400 : Int32)))) (((1 : Int32) + (rmI v11 ((999 : Int32)))))).bind fun M16 =>
  K47 M16 x0 x1 x2 ((x3 + (1 : Int32))))
def LX11_made_47 (N : Nat) : Nat → Mm → Nat → Int32 → Int32 → Int32 → Option (Int32 × Mm)
  | 0, _, _, _, _, _ => none
  | n + 1, M, x0, x1, x2, x3 => BX11_made_47 N (LX11_made_47 N n) M x0 x1 x2 x3
def jX11_made_20 (N : Nat) (M : Mm) (x0 : Nat)  : Option (Int32 × Mm) :=
  bd2 (fX11_error M x0 ((1 : Int32))) fun v2 M3 =>
  some (v2, M3)
def fX11_made (N : Nat) (M : Mm) (a0 : Nat) (a1 : Int32) (a2 : Int32) : Option (Int32 × Mm) :=
  (gC M 11 a0).bind fun _ =>
  (fX11_isBar M a0 a1).bind fun v2 =>
  if v2 = 0 then
  (jX11_made_20 N M a0)
  else
  ((fX11_in M (((a2).toInt64)) ((1 : Int64)) ((20 : Int64))).bind fun v6 =>
  if v6 = 0 then
  (jX11_made_20 N M a0)
  else
  ((gQ M 11 a0 0).bind fun q7 =>
  (aI M 0 q7 ((1 : Int32))).bind fun v9 =>
  if (v9 + a2) ≤ (96 : Int32) then
  (LX11_made_47 N N M a0 a1 a2 ((0 : Int32)))
  else
  (bd2 (fX11_error M a0 ((4 : Int32))) fun v12 M13 =>
  some (v12, M13))))
def BX10_both_48 (N : Nat) (K48 : Mm → Nat → Int32 → Int32 → Int32 → Option (Int32 × Mm)) (M : Mm) (x0 : Nat) (x1 : Int32) (x2 : Int32) (x3 : Int32)  : Option (Int32 × Mm) :=
  if x2 ≤ x3 then
  ((gQ M 10 x0 0).bind fun q1 =>
  (fX6_rings M q1).bind fun v4 =>
  some (v4, M))
  else
  ((gQ M 10 x0 0).bind fun q7 =>
  bd2 (fX6_drawTenth M q7) fun v10 M11 =>
  (gQ M11 10 x0 0).bind fun q14 =>
  bd2 (fX6_drawHeight M11 q14) fun v17 M18 =>
  (gQ M18 10 x0 0).bind fun q21 =>
  bd2 (fX6_addRing M18 q21 ((x1 / (10 : Int32))) v10 v17) fun v24 M25 =>
  (gQ M25 10 x0 0).bind fun q28 =>
  bd2 (fX6_addRing M25 q28 ((rmI x1 ((10 : Int32)))) v10 v17) fun v31 M32 =>
  K48 M32 x0 x1 x2 ((x3 + (1 : Int32))))
def LX10_both_48 (N : Nat) : Nat → Mm → Nat → Int32 → Int32 → Int32 → Option (Int32 × Mm)
  | 0, _, _, _, _, _ => none
  | n + 1, M, x0, x1, x2, x3 => BX10_both_48 N (LX10_both_48 N n) M x0 x1 x2 x3
def jX10_both_18 (N : Nat) (M : Mm) (x0 : Nat)  : Option (Int32 × Mm) :=
  bd2 (fX10_error M x0 ((1 : Int32))) fun v2 M3 =>
  some (v2, M3)
def fX10_both (N : Nat) (M : Mm) (a0 : Nat) (a1 : Int32) (a2 : Int32) : Option (Int32 × Mm) :=
  (gC M 10 a0).bind fun _ =>
  (fX10_isPair M a0 a1).bind fun v2 =>
  if v2 = 0 then
  (jX10_both_18 N M a0)
  else
  ((fX10_within M a2 ((1 : Int32)) ((10 : Int32))).bind fun v6 =>
  if v6 = 0 then
  (jX10_both_18 N M a0)
  else
  ((gQ M 10 a0 0).bind fun q7 =>
  (gQ M 6 q7 2).bind fun q9 =>
  (fX3_room M q9).bind fun v12 =>
  if ((2 : Int32) * a2) ≤ v12 then
  (LX10_both_48 N N M a0 a1 a2 ((0 : Int32)))
  else
  (bd2 (fX10_error M a0 ((4 : Int32))) fun v16 M17 =>
  some (v16, M17))))
def BX11_both__49 (N : Nat) (K49 : Mm → Nat → Int32 → Int32 → Int32 → Option (Int32 × Mm)) (M : Mm) (x0 : Nat) (x1 : Int32) (x2 : Int32) (x3 : Int32)  : Option (Int32 × Mm) :=
  if x2 ≤ x3 then
  ((gQ M 11 x0 0).bind fun q1 =>
  (aI M 0 q1 ((1 : Int32))).bind fun v3 =>
  some (v3, M))
  else
  (bd2 (fX11_draw M x0) fun v6 M7 =>
  bd2 (fX11_draw M7 x0) fun v11 M12 =>
  (fX11_rings M12 x0 ((x1 / (10 : Int32))) ((rmI v6 ((2400 : Int32)))) (((1 : Int32) + (rmI v11 ((999 : Int32)))))).bind fun M16 =>
  (fX11_rings M16 x0 ((rmI x1 ((10 : Int32)))) ((rmI v6 ((2400 : Int32)))) (((1 : Int32) + (rmI v11 ((999 : Int32)))))).bind fun M20 =>
  K49 M20 x0 x1 x2 ((x3 + (1 : Int32))))
def LX11_both__49 (N : Nat) : Nat → Mm → Nat → Int32 → Int32 → Int32 → Option (Int32 × Mm)
  | 0, _, _, _, _, _ => none
  | n + 1, M, x0, x1, x2, x3 => BX11_both__49 N (LX11_both__49 N n) M x0 x1 x2 x3
def jX11_both__20 (N : Nat) (M : Mm) (x0 : Nat)  : Option (Int32 × Mm) :=
  bd2 (fX11_error M x0 ((1 : Int32))) fun v2 M3 =>
  some (v2, M3)
def fX11_both_ (N : Nat) (M : Mm) (a0 : Nat) (a1 : Int32) (a2 : Int32) : Option (Int32 × Mm) :=
  (gC M 11 a0).bind fun _ =>
  (fX11_isPair M a0 a1).bind fun v2 =>
  if v2 = 0 then
  (jX11_both__20 N M a0)
  else
  ((fX11_in M (((a2).toInt64)) ((1 : Int64)) ((10 : Int64))).bind fun v6 =>
  if v6 = 0 then
  (jX11_both__20 N M a0)
  else
  ((gQ M 11 a0 0).bind fun q7 =>
  (aI M 0 q7 ((1 : Int32))).bind fun v9 =>
  if (v9 + ((2 : Int32) * a2)) ≤ (96 : Int32) then
  (LX11_both__49 N N M a0 a1 a2 ((0 : Int32)))
  else
  (bd2 (fX11_error M a0 ((4 : Int32))) fun v12 M13 =>
  some (v12, M13))))
def jX9_bodyFrom_51 (N : Nat) (K4 : Mm → Int32 → Int32 → Int32 → Option (Int32)) (M : Mm) (x1 : Int32) (x2 : Int32) (x3 : Int32)  : Option (Int32) :=
  (fX0_kindAbove M x2).bind fun v2 =>
  K4 M x1 v2 ((x3 + (1 : Int32)))
def BX9_bodyFrom_4 (N : Nat) (K4 : Mm → Int32 → Int32 → Int32 → Option (Int32)) (M : Mm) (x1 : Int32) (x2 : Int32) (x3 : Int32)  : Option (Int32) :=
  if (8 : Int32) ≤ x3 then
  (some ((0 : Int32)))
  else
  (if x2 < 0 then
  (some ((0 : Int32)))
  else
  (if (((4 : Int32) * x2) + x1) < 0 then
  (jX9_bodyFrom_51 N K4 M x1 x2 x3)
  else
  (if (32 : Int32) ≤ (((4 : Int32) * x2) + x1) then
  (jX9_bodyFrom_51 N K4 M x1 x2 x3)
  else
  ((bBo ((((4 : Int32) * x2) + x1))).bind fun v1 =>
  if v1 = 0 then
  (jX9_bodyFrom_51 N K4 M x1 x2 x3)
  else
  ((bBo ((((4 : Int32) * x2) + x1))).bind fun v3 =>
  some (v3))))))
def LX9_bodyFrom_4 (N : Nat) : Nat → Mm → Int32 → Int32 → Int32 → Option (Int32)
  | 0, _, _, _, _ => none
  | n + 1, M, x1, x2, x3 => BX9_bodyFrom_4 N (LX9_bodyFrom_4 N n) M x1 x2 x3
def fX9_bodyFrom (N : Nat) (M : Mm) (a0 : Int32) (a1 : Int32) : Option (Int32) :=
  LX9_bodyFrom_4 N N M a1 a0 ((0 : Int32))
def FX9_ownBody (q0 : Mm → Nat → Nat → Int32 → Int32 → Int32 → Option (Int32 × Mm)) (q1 : Mm → Nat → Nat → Int32 → Int32 → Int32 → Option (Int32 × Mm)) (q2 : Mm → Nat → Nat → Int32 → Int32 → Int32 → Int32 → Option (Int32 × Mm)) (N : Nat) (M : Mm) (a0 : Nat) (a1 : Nat) (a2 : Int32) (a3 : Int32) (a4 : Int32) : Option (Int32 × Mm) :=
  (gC M 9 a0).bind fun _ =>
  (gI M 0 a1 1).bind fun v1 =>
  (fX0_kindAbove M (((a2 / (10 : Int32)) - (1 : Int32)))).bind fun v4 =>
  if a2 = (20 : Int32) then
  (bd2 (q2 M a0 a1 v4 ((1 : Int32)) a3 a4) fun v6 M7 =>
  some ((v6 - (1 : Int32)), M7))
  else
  (if a2 = (30 : Int32) then
  (bd2 (q2 M a0 a1 v4 ((0 : Int32)) a3 a4) fun v11 M12 =>
  bd2 (q2 M12 a0 a1 v1 ((2 : Int32)) ((1 : Int32)) a4) fun v16 M17 =>
  some ((v11 + v16), M17))
  else
  (if a2 = (40 : Int32) then
  (bd2 (q2 M a0 a1 v1 ((1 : Int32)) ((2 : Int32)) a4) fun v21 M22 =>
  bd2 (q2 M22 a0 a1 v4 ((3 : Int32)) a3 a4) fun v26 M27 =>
  some ((v21 - v26), M27))
  else
  (if a2 = (50 : Int32) then
  (bd2 (q2 M a0 a1 v4 ((2 : Int32)) a3 a4) fun v31 M32 =>
  some ((v31 * (3 : Int32)), M32))
  else
  (if a2 = (60 : Int32) then
  (bd2 (q2 M a0 a1 v4 ((1 : Int32)) a3 a4) fun v36 M37 =>
  bd2 (q2 M37 a0 a1 v1 ((0 : Int32)) a3 a4) fun v41 M42 =>
  some ((v36 + v41), M42))
  else
  (if a2 = (70 : Int32) then
  (bd2 (q2 M a0 a1 v4 ((0 : Int32)) a3 a4) fun v46 M47 =>
  some ((-v46), M47))
  else
  (if a2 = (71 : Int32) then
  (bd2 (q2 M a0 a1 v4 ((3 : Int32)) ((a3 + (1 : Int32))) a4) fun v51 M52 =>
  some (v51, M52))
  else
  (if a2 = (80 : Int32) then
  (bd2 (q2 M a0 a1 v4 ((1 : Int32)) a3 a4) fun v56 M57 =>
  (gI M57 0 a1 0).bind fun v60 =>
  some ((v56 ^^^ v60), M57))
  else
  (if a2 = (81 : Int32) then
  (bd2 (q2 M a0 a1 v1 ((2 : Int32)) a3 a4) fun v63 M64 =>
  bd2 (q2 M64 a0 a1 v4 ((3 : Int32)) a3 a4) fun v68 M69 =>
  some ((v63 + v68), M69))
  else
  (some ((0 : Int32), M))))))))))
def FX9_plainBody (q0 : Mm → Nat → Nat → Int32 → Int32 → Int32 → Option (Int32 × Mm)) (q1 : Mm → Nat → Nat → Int32 → Int32 → Int32 → Option (Int32 × Mm)) (q2 : Mm → Nat → Nat → Int32 → Int32 → Int32 → Int32 → Option (Int32 × Mm)) (N : Nat) (M : Mm) (a0 : Nat) (a1 : Nat) (a2 : Int32) (a3 : Int32) (a4 : Int32) : Option (Int32 × Mm) :=
  (gC M 9 a0).bind fun _ =>
  if a2 = (10 : Int32) then
  ((gI M 0 a1 0).bind fun v1 =>
  some ((a3 + v1), M))
  else
  (if a2 = (11 : Int32) then
  ((gI M 0 a1 1).bind fun v3 =>
  bd2 (q2 M a0 a1 v3 ((0 : Int32)) a3 a4) fun v6 M7 =>
  some ((v6 * (2 : Int32)), M7))
  else
  (if a2 = (12 : Int32) then
  ((gI M 0 a1 3).bind fun v10 =>
  some ((a3 - v10), M))
  else
  ((gI M 0 a1 1).bind fun v12 =>
  bd2 (q2 M a0 a1 v12 ((1 : Int32)) a3 a4) fun v15 M16 =>
  (gI M16 0 a1 1).bind fun v19 =>
  bd2 (q2 M16 a0 a1 v19 ((2 : Int32)) a3 a4) fun v22 M23 =>
  some ((v15 ^^^ v22), M23))))
def FX9_speak (q0 : Mm → Nat → Nat → Int32 → Int32 → Int32 → Option (Int32 × Mm)) (q1 : Mm → Nat → Nat → Int32 → Int32 → Int32 → Option (Int32 × Mm)) (q2 : Mm → Nat → Nat → Int32 → Int32 → Int32 → Int32 → Option (Int32 × Mm)) (N : Nat) (M : Mm) (a0 : Nat) (a1 : Nat) (a2 : Int32) (a3 : Int32) (a4 : Int32) (a5 : Int32) : Option (Int32 × Mm) :=
  (gC M 9 a0).bind fun _ =>
  (fX9_bodyFrom N M a2 a3).bind fun v2 =>
  if (20 : Int32) ≤ a5 then
  (some ((0 : Int32), M))
  else
  (if v2 = 0 then
  (some ((0 : Int32), M))
  else
  ((gQ M 9 a0 0).bind fun q3 =>
  bd2 (fX3_add M q3 v2) fun v6 M7 =>
  if (20 : Int32) ≤ v2 then
  (bd2 (q0 M7 a0 a1 v2 a4 ((a5 + (1 : Int32)))) fun v11 M12 =>
  some (v11, M12))
  else
  (bd2 (q1 M7 a0 a1 v2 a4 ((a5 + (1 : Int32)))) fun v16 M17 =>
  some (v16, M17))))
def GX9_ownBody (N : Nat) : Nat → (Mm → Nat → Nat → Int32 → Int32 → Int32 → Option (Int32 × Mm)) × (Mm → Nat → Nat → Int32 → Int32 → Int32 → Option (Int32 × Mm)) × (Mm → Nat → Nat → Int32 → Int32 → Int32 → Int32 → Option (Int32 × Mm))
  | 0 => (fun _ _ _ _ _ _ => none, fun _ _ _ _ _ _ => none, fun _ _ _ _ _ _ _ => none)
  | n + 1 => (FX9_ownBody (GX9_ownBody N n).1 (GX9_ownBody N n).2.1 (GX9_ownBody N n).2.2 N, FX9_plainBody (GX9_ownBody N n).1 (GX9_ownBody N n).2.1 (GX9_ownBody N n).2.2 N, FX9_speak (GX9_ownBody N n).1 (GX9_ownBody N n).2.1 (GX9_ownBody N n).2.2 N)
def fX9_ownBody (N : Nat) (M : Mm) (a0 : Nat) (a1 : Nat) (a2 : Int32) (a3 : Int32) (a4 : Int32) : Option (Int32 × Mm) := (GX9_ownBody N 100).1 M a0 a1 a2 a3 a4
def fX9_plainBody (N : Nat) (M : Mm) (a0 : Nat) (a1 : Nat) (a2 : Int32) (a3 : Int32) (a4 : Int32) : Option (Int32 × Mm) := (GX9_ownBody N 100).2.1 M a0 a1 a2 a3 a4
def fX9_speak (N : Nat) (M : Mm) (a0 : Nat) (a1 : Nat) (a2 : Int32) (a3 : Int32) (a4 : Int32) (a5 : Int32) : Option (Int32 × Mm) := (GX9_ownBody N 100).2.2 M a0 a1 a2 a3 a4 a5
def fX9_begin (N : Nat) (M : Mm) (a0 : Nat) (a1 : Nat) (a2 : Int32) (a3 : Int32) : Option (Int32 × Mm) :=
  (gC M 9 a0).bind fun _ =>
  (gQ M 9 a0 0).bind fun q1 =>
  (fX3_clear M q1).bind fun M4 =>
  (gI M4 0 a1 1).bind fun v7 =>
  bd2 (fX9_speak N M4 a0 a1 v7 a2 a3 ((0 : Int32))) fun v10 M11 =>
  some (v10, M11)
def jX10_voice_24 (N : Nat) (M : Mm) (x0 : Nat)  : Option (Int32 × Mm) :=
  bd2 (fX10_error M x0 ((1 : Int32))) fun v2 M3 =>
  some (v2, M3)
def fX10_voice (N : Nat) (M : Mm) (a0 : Nat) (a1 : Int32) (a2 : Int32) (a3 : Int32) : Option (Int32 × Mm) :=
  (gC M 10 a0).bind fun _ =>
  (gQ M 10 a0 0).bind fun q1 =>
  (fX6_countingAt M q1 a1).bind fun r4 =>
  om r4 (jX10_voice_24 N M a0)
  (fun q7 => (fX10_within M a2 ((0 : Int32)) ((3 : Int32))).bind fun v9 =>
  if v9 = 0 then
  (jX10_voice_24 N M a0)
  else
  ((gQ M 10 a0 8).bind fun q10 =>
  bd2 (fX9_begin N M q10 q7 a2 a3) fun v13 M14 =>
  some (v13, M14)))
def fX11_begins (M : Mm) (a0 : Nat) (a1 : Int32) : Option (Mm) :=
  (gC M 11 a0).bind fun _ =>
  (gI M 11 a0 21).bind fun v1 =>
  if v1 = (40 : Int32) then
  (some M)
  else
  ((gQ M 11 a0 20).bind fun q3 =>
  (gI M 11 a0 21).bind fun v5 =>
  (sI M 0 q3 v5 a1).bind fun M7 =>
  (gI M7 11 a0 21).bind fun v9 =>
  (pF M7 11 a0 21 (.int ((v9 + (1 : Int32))))).bind fun M11 =>
  some M11)
def fX11_plainRings (M : Mm) (a0 : Nat) (a1 : Int32) : Option (Int32 × Mm) :=
  (gC M 11 a0).bind fun _ =>
  (fX11_begins M a0 ((10 : Int32))).bind fun M2 =>
  (gI M2 11 a0 23).bind fun v5 =>
  some ((a1 + v5), M2)
def fX11_plainBounds (M : Mm) (a0 : Nat) (a1 : Int32) : Option (Int32 × Mm) :=
  (gC M 11 a0).bind fun _ =>
  (fX11_begins M a0 ((12 : Int32))).bind fun M2 =>
  (gI M2 11 a0 24).bind fun v5 =>
  some ((a1 - v5), M2)
def fX11_bounds (M : Mm) (a0 : Nat) (a1 : Int32) : Option (Int32 × Mm) :=
  (gC M 11 a0).bind fun _ =>
  (gI M 11 a0 22).bind fun v1 =>
  if v1 = (4 : Int32) then
  ((fX11_begins M a0 ((50 : Int32))).bind fun M4 =>
  bd2 (fX11_plainBounds M4 a0 a1) fun v8 M9 =>
  some ((v8 * (3 : Int32)), M9))
  else
  (bd2 (fX11_plainBounds M a0 a1) fun v13 M14 =>
  some (v13, M14))
def fX11_rings_ (M : Mm) (a0 : Nat) (a1 : Int32) : Option (Int32 × Mm) :=
  (gC M 11 a0).bind fun _ =>
  (gI M 11 a0 22).bind fun v1 =>
  if v1 = (2 : Int32) then
  ((fX11_begins M a0 ((30 : Int32))).bind fun M22 =>
  bd2 (fX11_plainRings M22 a0 a1) fun v26 M27 =>
  bd2 (fX11_bounds M27 a0 ((1 : Int32))) fun v31 M32 =>
  some ((v26 + v31), M32))
  else
  ((gI M 11 a0 22).bind fun v3 =>
  (fX11_isUnder M v3 ((6 : Int32))).bind fun v6 =>
  if v6 = 0 then
  (bd2 (fX11_plainRings M a0 a1) fun v8 M9 =>
  some (v8, M9))
  else
  ((fX11_begins M a0 ((70 : Int32))).bind fun M13 =>
  bd2 (fX11_plainRings M13 a0 a1) fun v17 M18 =>
  some ((-v17), M18)))
def fX11_plainMeets (M : Mm) (a0 : Nat) (a1 : Int32) : Option (Int32 × Mm) :=
  (gC M 11 a0).bind fun _ =>
  (fX11_begins M a0 ((11 : Int32))).bind fun M2 =>
  bd2 (fX11_rings_ M2 a0 a1) fun v6 M7 =>
  some ((v6 * (2 : Int32)), M7)
def fX11_meets_ (M : Mm) (a0 : Nat) (a1 : Int32) : Option (Int32 × Mm) :=
  (gC M 11 a0).bind fun _ =>
  (gI M 11 a0 22).bind fun v1 =>
  if v1 = (1 : Int32) then
  ((fX11_begins M a0 ((20 : Int32))).bind fun M4 =>
  bd2 (fX11_plainMeets M4 a0 a1) fun v8 M9 =>
  some ((v8 - (1 : Int32)), M9))
  else
  (if v1 = (5 : Int32) then
  ((fX11_begins M a0 ((60 : Int32))).bind fun M13 =>
  bd2 (fX11_plainMeets M13 a0 a1) fun v17 M18 =>
  bd2 (fX11_rings_ M18 a0 a1) fun v22 M23 =>
  some ((v17 + v22), M23))
  else
  (if v1 = (7 : Int32) then
  ((fX11_begins M a0 ((80 : Int32))).bind fun M27 =>
  bd2 (fX11_plainMeets M27 a0 a1) fun v31 M32 =>
  (gI M32 11 a0 23).bind fun v35 =>
  some ((v31 ^^^ v35), M32))
  else
  (bd2 (fX11_plainMeets M a0 a1) fun v38 M39 =>
  some (v38, M39))))
def fX11_plainTells (M : Mm) (a0 : Nat) (a1 : Int32) : Option (Int32 × Mm) :=
  (gC M 11 a0).bind fun _ =>
  (fX11_begins M a0 ((13 : Int32))).bind fun M2 =>
  bd2 (fX11_meets_ M2 a0 a1) fun v6 M7 =>
  bd2 (fX11_bounds M7 a0 a1) fun v11 M12 =>
  some ((v6 ^^^ v11), M12)
def fX11_slidTells (M : Mm) (a0 : Nat) (a1 : Int32) : Option (Int32 × Mm) :=
  (gC M 11 a0).bind fun _ =>
  (fX11_begins M a0 ((71 : Int32))).bind fun M2 =>
  bd2 (fX11_plainTells M2 a0 ((a1 + (1 : Int32)))) fun v6 M7 =>
  some (v6, M7)
def fX11_tells (M : Mm) (a0 : Nat) (a1 : Int32) : Option (Int32 × Mm) :=
  (gC M 11 a0).bind fun _ =>
  (gI M 11 a0 22).bind fun v1 =>
  if v1 = (3 : Int32) then
  ((fX11_begins M a0 ((40 : Int32))).bind fun M32 =>
  bd2 (fX11_meets_ M32 a0 ((2 : Int32))) fun v36 M37 =>
  bd2 (fX11_plainTells M37 a0 a1) fun v41 M42 =>
  some ((v36 - v41), M42))
  else
  ((gI M 11 a0 22).bind fun v3 =>
  if v3 = (7 : Int32) then
  ((fX11_begins M a0 ((81 : Int32))).bind fun M18 =>
  bd2 (fX11_bounds M18 a0 a1) fun v22 M23 =>
  bd2 (fX11_slidTells M23 a0 a1) fun v27 M28 =>
  some ((v22 + v27), M28))
  else
  ((gI M 11 a0 22).bind fun v5 =>
  if v5 = (6 : Int32) then
  (bd2 (fX11_slidTells M a0 a1) fun v13 M14 =>
  some (v13, M14))
  else
  (bd2 (fX11_plainTells M a0 a1) fun v8 M9 =>
  some (v8, M9))))
def jX11_voice_20 (M : Mm) (x0 : Nat)  : Option (Int32 × Mm) :=
  bd2 (fX11_error M x0 ((1 : Int32))) fun v2 M3 =>
  some (v2, M3)
def fX11_voice (M : Mm) (a0 : Nat) (a1 : Int32) (a2 : Int32) (a3 : Int32) : Option (Int32 × Mm) :=
  (gC M 11 a0).bind fun _ =>
  (fX11_isCounting M a0 a1).bind fun v2 =>
  if v2 = 0 then
  (jX11_voice_20 M a0)
  else
  ((fX11_in M (((a2).toInt64)) ((0 : Int64)) ((3 : Int64))).bind fun v6 =>
  if v6 = 0 then
  (jX11_voice_20 M a0)
  else
  ((pF M 11 a0 21 (.int ((0 : Int32)))).bind fun M7 =>
  (fX11_of M7 a0 a1 ((0 : Int32))).bind fun v10 =>
  (pF M7 11 a0 22 (.int v10)).bind fun M13 =>
  (pF M13 11 a0 23 (.int a1)).bind fun M15 =>
  (fX11_of M15 a0 a1 ((2 : Int32))).bind fun v18 =>
  (pF M15 11 a0 24 (.int v18)).bind fun M21 =>
  if a2 = 0 then
  (bd2 (fX11_rings_ M21 a0 a3) fun v39 M40 =>
  some (v39, M40))
  else
  (if a2 = (1 : Int32) then
  (bd2 (fX11_meets_ M21 a0 a3) fun v34 M35 =>
  some (v34, M35))
  else
  (if a2 = (2 : Int32) then
  (bd2 (fX11_bounds M21 a0 a3) fun v29 M30 =>
  some (v29, M30))
  else
  (bd2 (fX11_tells M21 a0 a3) fun v24 M25 =>
  some (v24, M25))))))
def fX10_trace (M : Mm) (a0 : Nat) (a1 : Int32) : Option (Int32 × Mm) :=
  (gC M 10 a0).bind fun _ =>
  (gQ M 10 a0 8).bind fun q1 =>
  (gQ M 9 q1 0).bind fun q3 =>
  (fX3_size M q3).bind fun v6 =>
  (fX10_within M a1 ((0 : Int32)) ((v6 - (1 : Int32)))).bind fun v10 =>
  if v10 = 0 then
  (bd2 (fX10_error M a0 ((2 : Int32))) fun v20 M21 =>
  some (v20, M21))
  else
  ((gQ M 10 a0 8).bind fun q11 =>
  (gQ M 9 q11 0).bind fun q13 =>
  (fX3_at M q13 a1).bind fun v16 =>
  some (v16, M))
def fX11_trace (M : Mm) (a0 : Nat) (a1 : Int32) : Option (Int32 × Mm) :=
  (gC M 11 a0).bind fun _ =>
  (gI M 11 a0 21).bind fun v1 =>
  (fX11_in M (((a1).toInt64)) ((0 : Int64)) ((((v1 - (1 : Int32))).toInt64))).bind fun v4 =>
  if v4 = 0 then
  (bd2 (fX11_error M a0 ((2 : Int32))) fun v6 M7 =>
  some (v6, M7))
  else
  ((gQ M 11 a0 20).bind fun q10 =>
  (aI M 0 q10 a1).bind fun v12 =>
  some (v12, M))
def fX4_become (N : Nat) (M : Mm) (a0 : Nat) (a1 : Int32) (a2 : Int32) : Option (Mm) :=
  (gC M 4 a0).bind fun _ =>
  (pF M 4 a0 1 (.int a1)).bind fun M1 =>
  (gQ M1 4 a0 0).bind fun q3 =>
  (fX3_fill N M1 q3 a2 ((0 : Int32))).bind fun M6 =>
  some M6
def jX10_sheet_82 (N : Nat) (M : Mm)  (s0 : Nat) (s1 : Int32) (s2 : Int32) : Option (Int32 × Mm) :=
  (fX4_become N M s0 s1 s2).bind fun M2 =>
  some ((1 : Int32), M2)
def jX10_sheet_70 (N : Nat) (M : Mm) (x2 : Int32) (x3 : Int32) (x4 : Nat)  : Option (Int32 × Mm) :=
  if x2 = 0 then
  (jX10_sheet_82 N M x4 x2 ((0 : Int32)))
  else
  (jX10_sheet_82 N M x4 x2 x3)
def jX10_sheet_54 (N : Nat) (M : Mm) (x0 : Nat) (x2 : Int32) (x3 : Int32) (x4 : Nat)  : Option (Int32 × Mm) :=
  if x2 = 0 then
  (jX10_sheet_70 N M x2 x3 x4)
  else
  (if x3 ≤ (40 : Int32) then
  (jX10_sheet_70 N M x2 x3 x4)
  else
  (bd2 (fX10_error M x0 ((1 : Int32))) fun v2 M3 =>
  some (v2, M3)))
def jX10_sheet_40 (N : Nat) (M : Mm) (x0 : Nat) (x2 : Int32) (x3 : Int32) (x4 : Nat)  : Option (Int32 × Mm) :=
  if x2 = 0 then
  (jX10_sheet_54 N M x0 x2 x3 x4)
  else
  (if 0 ≤ x3 then
  (jX10_sheet_54 N M x0 x2 x3 x4)
  else
  (bd2 (fX10_error M x0 ((3 : Int32))) fun v2 M3 =>
  some (v2, M3)))
def jX10_sheet_34 (N : Nat) (M : Mm) (x0 : Nat)  : Option (Int32 × Mm) :=
  bd2 (fX10_error M x0 ((1 : Int32))) fun v2 M3 =>
  some (v2, M3)
def fX10_sheet (N : Nat) (M : Mm) (a0 : Nat) (a1 : Int32) (a2 : Int32) (a3 : Int32) : Option (Int32 × Mm) :=
  (gC M 10 a0).bind fun _ =>
  (fX10_sheetAt M a0 a1).bind fun r2 =>
  om r2 (jX10_sheet_34 N M a0)
  (fun q5 => if a2 = 0 then
  (jX10_sheet_40 N M a0 a2 a3 q5)
  else
  (if a2 = (8 : Int32) then
  (jX10_sheet_40 N M a0 a2 a3 q5)
  else
  (if a2 = (16 : Int32) then
  (jX10_sheet_40 N M a0 a2 a3 q5)
  else
  (if a2 = (32 : Int32) then
  (jX10_sheet_40 N M a0 a2 a3 q5)
  else
  (jX10_sheet_34 N M a0)))))
def BX11_sheet_90 (N : Nat) (K90 : Mm → Nat → Int32 → Int32 → Option (Int32 × Mm)) (M : Mm) (x0 : Nat) (x1 : Int32) (x4 : Int32)  : Option (Int32 × Mm) :=
  if (40 : Int32) ≤ x4 then
  (some ((1 : Int32), M))
  else
  ((gQ M 11 x0 8).bind fun q1 =>
  (sI M 0 q1 ((((40 : Int32) * x1) + x4)) ((0 : Int32))).bind fun M3 =>
  K90 M3 x0 x1 ((x4 + (1 : Int32))))
def LX11_sheet_90 (N : Nat) : Nat → Mm → Nat → Int32 → Int32 → Option (Int32 × Mm)
  | 0, _, _, _, _ => none
  | n + 1, M, x0, x1, x4 => BX11_sheet_90 N (LX11_sheet_90 N n) M x0 x1 x4
def jX11_sheet_65 (N : Nat) (M : Mm) (x0 : Nat) (x1 : Int32) (x2 : Int32) (x3 : Int32)  : Option (Int32 × Mm) :=
  (gQ M 11 x0 6).bind fun q1 =>
  (sI M 0 q1 x1 x2).bind fun M3 =>
  (gQ M3 11 x0 7).bind fun q5 =>
  if x2 = 0 then
  ((sI M3 0 q5 x1 ((0 : Int32))).bind fun M9 =>
  LX11_sheet_90 N N M9 x0 x1 ((0 : Int32)))
  else
  ((sI M3 0 q5 x1 x3).bind fun M7 =>
  LX11_sheet_90 N N M7 x0 x1 ((0 : Int32)))
def jX11_sheet_49 (N : Nat) (M : Mm) (x0 : Nat) (x1 : Int32) (x2 : Int32) (x3 : Int32)  : Option (Int32 × Mm) :=
  if x2 = 0 then
  (jX11_sheet_65 N M x0 x1 x2 x3)
  else
  (if x3 ≤ (40 : Int32) then
  (jX11_sheet_65 N M x0 x1 x2 x3)
  else
  (bd2 (fX11_error M x0 ((1 : Int32))) fun v2 M3 =>
  some (v2, M3)))
def jX11_sheet_35 (N : Nat) (M : Mm) (x0 : Nat) (x1 : Int32) (x2 : Int32) (x3 : Int32)  : Option (Int32 × Mm) :=
  if x2 = 0 then
  (jX11_sheet_49 N M x0 x1 x2 x3)
  else
  (if 0 ≤ x3 then
  (jX11_sheet_49 N M x0 x1 x2 x3)
  else
  (bd2 (fX11_error M x0 ((3 : Int32))) fun v2 M3 =>
  some (v2, M3)))
def jX11_sheet_29 (N : Nat) (M : Mm) (x0 : Nat)  : Option (Int32 × Mm) :=
  bd2 (fX11_error M x0 ((1 : Int32))) fun v2 M3 =>
  some (v2, M3)
def fX11_sheet (N : Nat) (M : Mm) (a0 : Nat) (a1 : Int32) (a2 : Int32) (a3 : Int32) : Option (Int32 × Mm) :=
  (gC M 11 a0).bind fun _ =>
  (fX11_isSheet M a1).bind fun v2 =>
  if v2 = 0 then
  (jX11_sheet_29 N M a0)
  else
  (if a2 = 0 then
  (jX11_sheet_35 N M a0 a1 a2 a3)
  else
  (if a2 = (8 : Int32) then
  (jX11_sheet_35 N M a0 a1 a2 a3)
  else
  (if a2 = (16 : Int32) then
  (jX11_sheet_35 N M a0 a1 a2 a3)
  else
  (if a2 = (32 : Int32) then
  (jX11_sheet_35 N M a0 a1 a2 a3)
  else
  (jX11_sheet_29 N M a0)))))
def jX4_write_34 (M : Mm)  (s0 : Nat) (s1 : Int32) (s2 : Int32) : Option (Mm) :=
  bd2 (fX3_exchange M s0 s1 s2) fun v2 M3 =>
  some M3
def fX4_write (M : Mm) (a0 : Nat) (a1 : Int32) (a2 : Int32) : Option (Mm) :=
  (gC M 4 a0).bind fun _ =>
  (gQ M 4 a0 0).bind fun q1 =>
  (gI M 4 a0 1).bind fun v3 =>
  if v3 = (8 : Int32) then
  (jX4_write_34 M q1 a1 (((a2).toInt8.toInt32)))
  else
  ((gI M 4 a0 1).bind fun v5 =>
  if v5 = (16 : Int32) then
  (jX4_write_34 M q1 a1 (((a2).toInt16.toInt32)))
  else
  (jX4_write_34 M q1 a1 a2))
def fX10_put (M : Mm) (a0 : Nat) (a1 : Int32) (a2 : Int32) (a3 : Int32) : Option (Int32 × Mm) :=
  (gC M 10 a0).bind fun _ =>
  (fX10_sheetAt M a0 a1).bind fun r2 =>
  om r2 (bd2 (fX10_error M a0 ((1 : Int32))) fun v7 M8 =>
  some (v7, M8))
  (fun q5 => (fX4_isMissing M q5).bind fun v12 =>
  if v12 = 0 then
  ((fX4_hasNumber M q5 a2).bind fun v16 =>
  if v16 = 0 then
  (bd2 (fX10_error M a0 ((1 : Int32))) fun v24 M25 =>
  some (v24, M25))
  else
  ((fX4_write M q5 a2 a3).bind fun M20 =>
  some ((1 : Int32), M20)))
  else
  (bd2 (fX10_error M a0 ((2 : Int32))) fun v29 M30 =>
  some (v29, M30)))
def fX11_put (M : Mm) (a0 : Nat) (a1 : Int32) (a2 : Int32) (a3 : Int32) : Option (Int32 × Mm) :=
  (gC M 11 a0).bind fun _ =>
  (fX11_isSheet M a1).bind fun v2 =>
  if v2 = 0 then
  (bd2 (fX11_error M a0 ((1 : Int32))) fun v40 M41 =>
  some (v40, M41))
  else
  ((gQ M 11 a0 6).bind fun q3 =>
  (aI M 0 q3 a1).bind fun v5 =>
  if v5 = 0 then
  (bd2 (fX11_error M a0 ((2 : Int32))) fun v35 M36 =>
  some (v35, M36))
  else
  ((gQ M 11 a0 7).bind fun q7 =>
  (aI M 0 q7 a1).bind fun v9 =>
  (fX11_in M (((a2).toInt64)) ((0 : Int64)) ((((v9 - (1 : Int32))).toInt64))).bind fun v12 =>
  if v12 = 0 then
  (bd2 (fX11_error M a0 ((1 : Int32))) fun v30 M31 =>
  some (v30, M31))
  else
  ((gQ M 11 a0 8).bind fun q13 =>
  (gQ M 11 a0 6).bind fun q15 =>
  (aI M 0 q15 a1).bind fun v17 =>
  if v17 = (8 : Int32) then
  ((sI M 0 q13 ((((40 : Int32) * a1) + a2)) (((a3).toInt8.toInt32))).bind fun M27 =>
  some ((1 : Int32), M27))
  else
  ((gQ M 11 a0 6).bind fun q19 =>
  (aI M 0 q19 a1).bind fun v21 =>
  if v21 = (16 : Int32) then
  ((sI M 0 q13 ((((40 : Int32) * a1) + a2)) (((a3).toInt16.toInt32))).bind fun M25 =>
  some ((1 : Int32), M25))
  else
  ((sI M 0 q13 ((((40 : Int32) * a1) + a2)) a3).bind fun M23 =>
  some ((1 : Int32), M23))))))
def fX4_hasNumbers (M : Mm) (a0 : Nat) (a1 : Int32) (a2 : Int32) : Option (Int32) :=
  (gC M 4 a0).bind fun _ =>
  if a2 < 0 then
  (some ((0 : Int32)))
  else
  (if a1 < 0 then
  (some ((0 : Int32)))
  else
  ((gQ M 4 a0 0).bind fun q1 =>
  (fX3_size M q1).bind fun v4 =>
  if v4 < a2 then
  (some ((0 : Int32)))
  else
  ((gQ M 4 a0 0).bind fun q7 =>
  (fX3_size M q7).bind fun v10 =>
  if (v10 - a2) < a1 then
  (some ((0 : Int32)))
  else
  (some ((1 : Int32))))))
def fX3_takeFrom (M : Mm) (a0 : Nat) (a1 : Nat) (a2 : Int32) (a3 : Int32) (a4 : Int32) : Option (Mm) :=
  (gC M 3 a0).bind fun _ =>
  if a4 < 0 then
  (some M)
  else
  (if a2 < 0 then
  (some M)
  else
  (if a3 < 0 then
  (some M)
  else
  ((gI M 3 a1 1).bind fun v1 =>
  if (v1 - a4) < a2 then
  (some M)
  else
  ((gI M 3 a0 1).bind fun v3 =>
  if (v3 - a4) < a3 then
  (some M)
  else
  ((gQ M 3 a1 0).bind fun q5 =>
  (gQ M 3 a0 0).bind fun q7 =>
  (cpI M q5 a2 q7 a3 a4).bind fun M9 =>
  some M9)))))
def jX10_move_94 (M : Mm) (x0 : Nat)  : Option (Int32 × Mm) :=
  bd2 (fX10_error M x0 ((1 : Int32))) fun v2 M3 =>
  some (v2, M3)
def jX10_move_46 (M : Mm) (x0 : Nat)  : Option (Int32 × Mm) :=
  bd2 (fX10_error M x0 ((2 : Int32))) fun v2 M3 =>
  some (v2, M3)
def jX10_move_24 (M : Mm) (x0 : Nat)  : Option (Int32 × Mm) :=
  bd2 (fX10_error M x0 ((1 : Int32))) fun v2 M3 =>
  some (v2, M3)
def fX10_move (M : Mm) (a0 : Nat) (a1 : Int32) (a2 : Int32) (a3 : Int32) (a4 : Int32) (a5 : Int32) : Option (Int32 × Mm) :=
  (gC M 10 a0).bind fun _ =>
  (fX10_sheetAt M a0 a1).bind fun r2 =>
  (fX10_sheetAt M a0 a3).bind fun r6 =>
  om r2 (jX10_move_24 M a0)
  (fun q9 => om r6 (jX10_move_24 M a0)
  (fun q10 => (fX4_isMissing M q9).bind fun v12 =>
  if v12 = 0 then
  ((fX4_isMissing M q10).bind fun v16 =>
  if v16 = 0 then
  ((gI M 4 q9 1).bind fun v19 =>
  (gI M 4 q10 1).bind fun v21 =>
  if v19 = v21 then
  ((fX4_hasNumbers M q9 a2 a5).bind fun v24 =>
  if v24 = 0 then
  (jX10_move_94 M a0)
  else
  ((fX4_hasNumbers M q10 a4 a5).bind fun v28 =>
  if v28 = 0 then
  (jX10_move_94 M a0)
  else
  ((gQ M 4 q10 0).bind fun q31 =>
  (gQ M 4 q9 0).bind fun q33 =>
  (fX3_takeFrom M q31 q33 a2 a4 a5).bind fun M36 =>
  some (a5, M36))))
  else
  (bd2 (fX10_error M a0 ((5 : Int32))) fun v40 M41 =>
  some (v40, M41)))
  else
  (jX10_move_46 M a0))
  else
  (jX10_move_46 M a0)))
def jX11_move_157 (N : Nat) (K133 : Mm → Nat → Int32 → Int32 → Int32 → Int32 → Int32 → Int32 → Int32 → Option (Int32 × Mm)) (M : Mm) (x0 : Nat) (x1 : Int32) (x2 : Int32) (x3 : Int32) (x4 : Int32) (x5 : Int32) (x6 : Int32) (x7 : Int32) (s0 : Int32) : Option (Int32 × Mm) :=
  (gQ M 11 x0 8).bind fun q1 =>
  (gQ M 11 x0 8).bind fun q3 =>
  (aI M 0 q3 (((((40 : Int32) * x1) + x2) + s0))).bind fun v5 =>
  (sI M 0 q1 (((((40 : Int32) * x3) + x4) + s0)) v5).bind fun M7 =>
  K133 M7 x0 x1 x2 x3 x4 x5 x6 ((x7 + (1 : Int32)))
def BX11_move_133 (N : Nat) (K133 : Mm → Nat → Int32 → Int32 → Int32 → Int32 → Int32 → Int32 → Int32 → Option (Int32 × Mm)) (M : Mm) (x0 : Nat) (x1 : Int32) (x2 : Int32) (x3 : Int32) (x4 : Int32) (x5 : Int32) (x6 : Int32) (x7 : Int32)  : Option (Int32 × Mm) :=
  if x5 ≤ x7 then
  (some (x5, M))
  else
  (if x6 = 0 then
  (jX11_move_157 N K133 M x0 x1 x2 x3 x4 x5 x6 x7 x7)
  else
  (jX11_move_157 N K133 M x0 x1 x2 x3 x4 x5 x6 x7 (((x5 - (1 : Int32)) - x7))))
def LX11_move_133 (N : Nat) : Nat → Mm → Nat → Int32 → Int32 → Int32 → Int32 → Int32 → Int32 → Int32 → Option (Int32 × Mm)
  | 0, _, _, _, _, _, _, _, _, _ => none
  | n + 1, M, x0, x1, x2, x3, x4, x5, x6, x7 => BX11_move_133 N (LX11_move_133 N n) M x0 x1 x2 x3 x4 x5 x6 x7
def jX11_move_106 (N : Nat) (M : Mm) (x0 : Nat)  : Option (Int32 × Mm) :=
  bd2 (fX11_error M x0 ((1 : Int32))) fun v2 M3 =>
  some (v2, M3)
def jX11_move_38 (N : Nat) (M : Mm) (x0 : Nat)  : Option (Int32 × Mm) :=
  bd2 (fX11_error M x0 ((2 : Int32))) fun v2 M3 =>
  some (v2, M3)
def jX11_move_14 (N : Nat) (M : Mm) (x0 : Nat)  : Option (Int32 × Mm) :=
  bd2 (fX11_error M x0 ((1 : Int32))) fun v2 M3 =>
  some (v2, M3)
def fX11_move (N : Nat) (M : Mm) (a0 : Nat) (a1 : Int32) (a2 : Int32) (a3 : Int32) (a4 : Int32) (a5 : Int32) : Option (Int32 × Mm) :=
  (gC M 11 a0).bind fun _ =>
  (fX11_isSheet M a1).bind fun v2 =>
  if v2 = 0 then
  (jX11_move_14 N M a0)
  else
  ((fX11_isSheet M a3).bind fun v4 =>
  if v4 = 0 then
  (jX11_move_14 N M a0)
  else
  ((gQ M 11 a0 6).bind fun q5 =>
  (aI M 0 q5 a1).bind fun v7 =>
  if v7 = 0 then
  (jX11_move_38 N M a0)
  else
  ((gQ M 11 a0 6).bind fun q9 =>
  (aI M 0 q9 a3).bind fun v11 =>
  if v11 = 0 then
  (jX11_move_38 N M a0)
  else
  ((gQ M 11 a0 6).bind fun q13 =>
  (aI M 0 q13 a1).bind fun v15 =>
  (gQ M 11 a0 6).bind fun q17 =>
  (aI M 0 q17 a3).bind fun v19 =>
  if v15 = v19 then
  (if a5 < 0 then
  (jX11_move_106 N M a0)
  else
  (if a2 < 0 then
  (jX11_move_106 N M a0)
  else
  (if a4 < 0 then
  (jX11_move_106 N M a0)
  else
  ((gQ M 11 a0 7).bind fun q21 =>
  (aI M 0 q21 a1).bind fun v23 =>
  if (v23 - a2) < a5 then
  (jX11_move_106 N M a0)
  else
  ((gQ M 11 a0 7).bind fun q25 =>
  (aI M 0 q25 a3).bind fun v27 =>
  if a5 ≤ (v27 - a4) then
  (if a1 = a3 then
  (if a4 ≤ a2 then
  (LX11_move_133 N N M a0 a1 a2 a3 a4 a5 ((0 : Int32)) ((0 : Int32)))
  else
  (LX11_move_133 N N M a0 a1 a2 a3 a4 a5 ((1 : Int32)) ((0 : Int32))))
  else
  (LX11_move_133 N N M a0 a1 a2 a3 a4 a5 ((0 : Int32)) ((0 : Int32))))
  else
  (jX11_move_106 N M a0))))))
  else
  (bd2 (fX11_error M a0 ((5 : Int32))) fun v30 M31 =>
  some (v30, M31))))))
def jX6_become_142 (N : Nat) (M : Mm) (x0 : Nat) (x1 : Nat)  : Option (Mm) :=
  (gI M 6 x1 8).bind fun v1 =>
  (pF M 6 x0 8 (.int v1)).bind fun M3 =>
  (gQ M3 6 x0 9).bind fun q5 =>
  (gQ M3 6 x1 9).bind fun q7 =>
  (fX3_become M3 q5 q7).bind fun M10 =>
  (gQ M10 6 x0 10).bind fun q13 =>
  (gQ M10 6 x1 10).bind fun q15 =>
  (fX3_become M10 q13 q15).bind fun M18 =>
  (gQ M18 6 x0 11).bind fun q21 =>
  (gQ M18 6 x1 11).bind fun q23 =>
  (fX3_become M18 q21 q23).bind fun M26 =>
  (gQ M26 6 x0 12).bind fun q29 =>
  (gQ M26 6 x1 12).bind fun q31 =>
  (fX3_become M26 q29 q31).bind fun M34 =>
  (gQ M34 6 x0 13).bind fun q37 =>
  (gQ M34 6 x1 13).bind fun q39 =>
  (fX3_become M34 q37 q39).bind fun M42 =>
  (gQ M42 6 x0 14).bind fun q45 =>
  (gQ M42 6 x1 14).bind fun q47 =>
  (fX3_become M42 q45 q47).bind fun M50 =>
  (gQ M50 6 x0 15).bind fun q53 =>
  (gQ M50 6 x1 15).bind fun q55 =>
  (fX3_become M50 q53 q55).bind fun M58 =>
  (gI M58 6 x1 16).bind fun v61 =>
  (pF M58 6 x0 16 (.int v61)).bind fun M63 =>
  some M63
def BX6_become_106 (N : Nat) (K106 : Mm → Nat → Nat → Int32 → Option (Mm)) (M : Mm) (x0 : Nat) (x1 : Nat) (x2 : Int32)  : Option (Mm) :=
  (gQ M 6 x0 7).bind fun q1 =>
  (aL M q1).bind fun v3 =>
  if v3 ≤ x2 then
  (jX6_become_142 N M x0 x1)
  else
  ((gQ M 6 x1 7).bind fun q5 =>
  (aL M q5).bind fun v7 =>
  if v7 ≤ x2 then
  (jX6_become_142 N M x0 x1)
  else
  ((gQ M 6 x0 7).bind fun q9 =>
  (gQ M 6 x1 7).bind fun q11 =>
  (aR M 3 q11 x2).bind fun r13 =>
  (sR M 3 0 q9 x2 r13).bind fun M15 =>
  K106 M15 x0 x1 ((x2 + (1 : Int32)))))
def LX6_become_106 (N : Nat) : Nat → Mm → Nat → Nat → Int32 → Option (Mm)
  | 0, _, _, _, _ => none
  | n + 1, M, x0, x1, x2 => BX6_become_106 N (LX6_become_106 N n) M x0 x1 x2
def BX6_become_68 (N : Nat) (K68 : Mm → Nat → Nat → Int32 → Option (Mm)) (M : Mm) (x0 : Nat) (x1 : Nat) (x2 : Int32)  : Option (Mm) :=
  (gQ M 6 x0 6).bind fun q1 =>
  (aL M q1).bind fun v3 =>
  if v3 ≤ x2 then
  (LX6_become_106 N N M x0 x1 ((0 : Int32)))
  else
  ((gQ M 6 x1 6).bind fun q5 =>
  (aL M q5).bind fun v7 =>
  if v7 ≤ x2 then
  (LX6_become_106 N N M x0 x1 ((0 : Int32)))
  else
  ((gQ M 6 x0 6).bind fun q9 =>
  (gQ M 6 x1 6).bind fun q11 =>
  (aR M 2 q11 x2).bind fun r13 =>
  (sR M 2 8 q9 x2 r13).bind fun M15 =>
  K68 M15 x0 x1 ((x2 + (1 : Int32)))))
def LX6_become_68 (N : Nat) : Nat → Mm → Nat → Nat → Int32 → Option (Mm)
  | 0, _, _, _, _ => none
  | n + 1, M, x0, x1, x2 => BX6_become_68 N (LX6_become_68 N n) M x0 x1 x2
def fX6_become (N : Nat) (M : Mm) (a0 : Nat) (a1 : Nat) : Option (Mm) :=
  (gC M 6 a0).bind fun _ =>
  (gQ M 6 a0 0).bind fun q1 =>
  (gQ M 6 a1 0).bind fun q3 =>
  (fX3_become M q1 q3).bind fun M6 =>
  (gQ M6 6 a0 1).bind fun q9 =>
  (gQ M6 6 a1 1).bind fun q11 =>
  (fX3_become M6 q9 q11).bind fun M14 =>
  (gQ M14 6 a0 2).bind fun q17 =>
  (gQ M14 6 a1 2).bind fun q19 =>
  (fX3_become M14 q17 q19).bind fun M22 =>
  (gQ M22 6 a0 3).bind fun q25 =>
  (gQ M22 6 a1 3).bind fun q27 =>
  (fX3_become M22 q25 q27).bind fun M30 =>
  (gQ M30 6 a0 4).bind fun q33 =>
  (gQ M30 6 a1 4).bind fun q35 =>
  (fX3_become M30 q33 q35).bind fun M38 =>
  (gQ M38 6 a0 5).bind fun q41 =>
  (gQ M38 6 a1 5).bind fun q43 =>
  (fX3_become M38 q41 q43).bind fun M46 =>
  LX6_become_68 N N M46 a0 a1 ((0 : Int32))
def fX10_image (N : Nat) (M : Mm) (a0 : Nat) : Option (Int32 × Mm) :=
  (gC M 10 a0).bind fun _ =>
  (gQ M 10 a0 1).bind fun q1 =>
  (gQ M 10 a0 0).bind fun q3 =>
  (fX6_become N M q1 q3).bind fun M6 =>
  (gI M6 10 a0 2).bind fun v9 =>
  (pF M6 10 a0 2 (.int ((v9 + (1 : Int32))))).bind fun M11 =>
  (gI M11 10 a0 2).bind fun v13 =>
  some (v13, M11)
def BX11_image_2 (N : Nat) (K2 : Mm → Nat → Int32 → Option (Int32 × Mm)) (M : Mm) (x0 : Nat) (x1 : Int32)  : Option (Int32 × Mm) :=
  if (950 : Int32) ≤ x1 then
  ((gI M 11 x0 2).bind fun v1 =>
  (pF M 11 x0 2 (.int ((v1 + (1 : Int32))))).bind fun M3 =>
  (gI M3 11 x0 2).bind fun v5 =>
  some (v5, M3))
  else
  ((gQ M 11 x0 1).bind fun q7 =>
  (gQ M 11 x0 0).bind fun q9 =>
  (aI M 0 q9 x1).bind fun v11 =>
  (sI M 0 q7 x1 v11).bind fun M13 =>
  K2 M13 x0 ((x1 + (1 : Int32))))
def LX11_image_2 (N : Nat) : Nat → Mm → Nat → Int32 → Option (Int32 × Mm)
  | 0, _, _, _ => none
  | n + 1, M, x0, x1 => BX11_image_2 N (LX11_image_2 N n) M x0 x1
def fX11_image (N : Nat) (M : Mm) (a0 : Nat) : Option (Int32 × Mm) :=
  (gC M 11 a0).bind fun _ =>
  LX11_image_2 N N M a0 ((0 : Int32))
def fX10_restore (N : Nat) (M : Mm) (a0 : Nat) : Option (Int32 × Mm) :=
  (gC M 10 a0).bind fun _ =>
  (gI M 10 a0 2).bind fun v1 =>
  if v1 = 0 then
  (bd2 (fX10_error M a0 ((2 : Int32))) fun v18 M19 =>
  some (v18, M19))
  else
  ((gQ M 10 a0 0).bind fun q3 =>
  (gQ M 10 a0 1).bind fun q5 =>
  (fX6_become N M q3 q5).bind fun M8 =>
  (gQ M8 10 a0 0).bind fun q11 =>
  (fX6_rings M8 q11).bind fun v14 =>
  some (v14, M8))
def BX11_restore_15 (N : Nat) (K15 : Mm → Nat → Int32 → Option (Int32 × Mm)) (M : Mm) (x0 : Nat) (x1 : Int32)  : Option (Int32 × Mm) :=
  if (950 : Int32) ≤ x1 then
  ((gQ M 11 x0 0).bind fun q1 =>
  (aI M 0 q1 ((1 : Int32))).bind fun v3 =>
  some (v3, M))
  else
  ((gQ M 11 x0 0).bind fun q5 =>
  (gQ M 11 x0 1).bind fun q7 =>
  (aI M 0 q7 x1).bind fun v9 =>
  (sI M 0 q5 x1 v9).bind fun M11 =>
  K15 M11 x0 ((x1 + (1 : Int32))))
def LX11_restore_15 (N : Nat) : Nat → Mm → Nat → Int32 → Option (Int32 × Mm)
  | 0, _, _, _ => none
  | n + 1, M, x0, x1 => BX11_restore_15 N (LX11_restore_15 N n) M x0 x1
def fX11_restore (N : Nat) (M : Mm) (a0 : Nat) : Option (Int32 × Mm) :=
  (gC M 11 a0).bind fun _ =>
  (gI M 11 a0 2).bind fun v1 =>
  if v1 = 0 then
  (bd2 (fX11_error M a0 ((2 : Int32))) fun v4 M5 =>
  some (v4, M5))
  else
  (LX11_restore_15 N N M a0 ((0 : Int32)))
def fX10_tell (M : Mm) (a0 : Nat) (a1 : Int32) : Option (Int32 × Mm) :=
  (gC M 10 a0).bind fun _ =>
  (gQ M 10 a0 0).bind fun q1 =>
  (gQ M 6 q1 15).bind fun q3 =>
  bd2 (fX3_add M q3 a1) fun v6 M7 =>
  if v6 = 0 then
  (bd2 (fX10_error M7 a0 ((4 : Int32))) fun v19 M20 =>
  some (v19, M20))
  else
  ((gQ M7 10 a0 0).bind fun q10 =>
  (gQ M7 6 q10 15).bind fun q12 =>
  (fX3_size M7 q12).bind fun v15 =>
  some (v15, M7))
def fX11_tell (M : Mm) (a0 : Nat) (a1 : Int32) : Option (Int32 × Mm) :=
  (gC M 11 a0).bind fun _ =>
  (gQ M 11 a0 0).bind fun q1 =>
  (aI M 0 q1 ((7 : Int32))).bind fun v3 =>
  if v3 = (20 : Int32) then
  (bd2 (fX11_error M a0 ((4 : Int32))) fun v24 M25 =>
  some (v24, M25))
  else
  ((gQ M 11 a0 0).bind fun q5 =>
  (gQ M 11 a0 0).bind fun q7 =>
  (aI M 0 q7 ((7 : Int32))).bind fun v9 =>
  (sI M 0 q5 (((462 : Int32) + v9)) a1).bind fun M11 =>
  (gQ M11 11 a0 0).bind fun q13 =>
  (aI M11 0 q13 ((7 : Int32))).bind fun v15 =>
  (sI M11 0 q13 ((7 : Int32)) ((v15 + (1 : Int32)))).bind fun M17 =>
  (gQ M17 11 a0 0).bind fun q19 =>
  (aI M17 0 q19 ((7 : Int32))).bind fun v21 =>
  some (v21, M17))
def BX3_firstUnlike_14 (N : Nat) (K14 : Mm → Nat → Nat → Int32 → Int32 → Option (Int32)) (M : Mm) (x0 : Nat) (x1 : Nat) (x2 : Int32) (x3 : Int32)  : Option (Int32) :=
  if x2 ≤ x3 then
  (some ((-1 : Int32)))
  else
  ((fX3_has M x0 x3).bind fun v2 =>
  if v2 = 0 then
  (some (x3))
  else
  ((fX3_has M x1 x3).bind fun v6 =>
  if v6 = 0 then
  (some (x3))
  else
  ((fX3_at M x0 x3).bind fun v10 =>
  (fX3_at M x1 x3).bind fun v14 =>
  if v10 = v14 then
  (K14 M x0 x1 x2 ((x3 + (1 : Int32))))
  else
  (some (x3)))))
def LX3_firstUnlike_14 (N : Nat) : Nat → Mm → Nat → Nat → Int32 → Int32 → Option (Int32)
  | 0, _, _, _, _, _ => none
  | n + 1, M, x0, x1, x2, x3 => BX3_firstUnlike_14 N (LX3_firstUnlike_14 N n) M x0 x1 x2 x3
def fX3_firstUnlike (N : Nat) (M : Mm) (a0 : Nat) (a1 : Nat) : Option (Int32) :=
  (gC M 3 a0).bind fun _ =>
  (gI M 3 a0 1).bind fun v1 =>
  (gI M 3 a1 1).bind fun v3 =>
  (fJ9_max_7cf53 M v1 v3).bind fun v6 =>
  LX3_firstUnlike_14 N N M a0 a1 v6 ((0 : Int32))
def fX10_check (N : Nat) (M : Mm) (a0 : Nat) (a1 : Int32) : Option (Int32 × Mm) :=
  (gC M 10 a0).bind fun _ =>
  (gQ M 10 a0 0).bind fun q1 =>
  (fX6_countingAt M q1 a1).bind fun r4 =>
  om r4 ((gQ M 10 a0 0).bind fun q8 =>
  (gQ M 6 q8 15).bind fun q10 =>
  (fX3_clear M q10).bind fun M13 =>
  bd2 (fX10_error M13 a0 ((1 : Int32))) fun v17 M18 =>
  some (v17, M18))
  (fun q7 => (gQ M 10 a0 5).bind fun q21 =>
  (gQ M 10 a0 0).bind fun q23 =>
  (gI M 0 q7 2).bind fun v25 =>
  (fX1_hear N M q21 q23 v25).bind fun M28 =>
  (gQ M28 10 a0 5).bind fun q31 =>
  (gI M28 0 q7 3).bind fun v33 =>
  (fX1_drawLine N M28 q31 v33).bind fun M36 =>
  (gQ M36 10 a0 5).bind fun q39 =>
  (gI M36 0 q7 4).bind fun v41 =>
  bd2 (fX1_meeting N M36 q39 v41 ((0 : Int32))) fun v44 M45 =>
  (gQ M45 10 a0 0).bind fun q48 =>
  (gQ M45 6 q48 15).bind fun q50 =>
  (gQ M45 10 a0 5).bind fun q52 =>
  (gQ M45 1 q52 2).bind fun q54 =>
  (fX3_firstUnlike N M45 q50 q54).bind fun v57 =>
  (gQ M45 10 a0 0).bind fun q60 =>
  (gQ M45 6 q60 15).bind fun q62 =>
  (fX3_clear M45 q62).bind fun M65 =>
  some (((1 : Int32) + v57), M65))
def BX11_check_50 (N : Nat) (K50 : Mm → Nat → Int32 → Int32 → Int32 → Int32 → Int32 → Option (Int32 × Mm)) (M : Mm) (x0 : Nat) (x1 : Int32) (x2 : Int32) (x3 : Int32) (x4 : Int32) (x5 : Int32)  : Option (Int32 × Mm) :=
  (gQ M 11 x0 0).bind fun q1 =>
  (aI M 0 q1 ((1 : Int32))).bind fun v3 =>
  if v3 ≤ x5 then
  (if x4 = x2 then
  (some ((0 : Int32), M))
  else
  (some (((1 : Int32) + x4), M)))
  else
  ((fX11_taped N M x0 x3 x5).bind fun v6 =>
  if v6 < 0 then
  (K50 M x0 x1 x2 x3 x4 ((x5 + (1 : Int32))))
  else
  ((fX11_of M x0 x1 ((2 : Int32))).bind fun v10 =>
  (fX11_isCounted M x0 v6 x3 v10).bind fun v14 =>
  if v14 = 0 then
  (K50 M x0 x1 x2 x3 x4 ((x5 + (1 : Int32))))
  else
  ((fX11_of M x0 x1 ((1 : Int32))).bind fun v18 =>
  (fX11_of M x0 x1 ((2 : Int32))).bind fun v22 =>
  (fX11_of M x0 x1 ((3 : Int32))).bind fun v26 =>
  (fX11_isMet N M x0 v6 ((rmI v18 ((10 : Int32)))) v22 v26 ((0 : Int32))).bind fun v30 =>
  if v30 = 0 then
  (K50 M x0 x1 x2 x3 x4 ((x5 + (1 : Int32))))
  else
  (if x4 = x2 then
  (some (((1 : Int32) + x4), M))
  else
  ((gQ M 11 x0 0).bind fun q33 =>
  (aI M 0 q33 (((462 : Int32) + x4))).bind fun v35 =>
  if v35 = v6 then
  (K50 M x0 x1 x2 x3 ((x4 + (1 : Int32))) ((x5 + (1 : Int32))))
  else
  (some (((1 : Int32) + x4), M)))))))
def LX11_check_50 (N : Nat) : Nat → Mm → Nat → Int32 → Int32 → Int32 → Int32 → Int32 → Option (Int32 × Mm)
  | 0, _, _, _, _, _, _, _ => none
  | n + 1, M, x0, x1, x2, x3, x4, x5 => BX11_check_50 N (LX11_check_50 N n) M x0 x1 x2 x3 x4 x5
def fX11_check (N : Nat) (M : Mm) (a0 : Nat) (a1 : Int32) : Option (Int32 × Mm) :=
  (gC M 11 a0).bind fun _ =>
  (gQ M 11 a0 0).bind fun q1 =>
  (aI M 0 q1 ((7 : Int32))).bind fun v3 =>
  (gQ M 11 a0 0).bind fun q5 =>
  (sI M 0 q5 ((7 : Int32)) ((0 : Int32))).bind fun M7 =>
  (fX11_isCounting M7 a0 a1).bind fun v10 =>
  if v10 = 0 then
  (bd2 (fX11_error M7 a0 ((1 : Int32))) fun v22 M23 =>
  some (v22, M23))
  else
  ((fX11_readAll N M7 a0).bind fun M14 =>
  (fX11_of M14 a0 a1 ((1 : Int32))).bind fun v18 =>
  LX11_check_50 N N M14 a0 a1 v3 ((v18 / (10 : Int32))) ((0 : Int32)) ((0 : Int32)))
def fX10_count (M : Mm) (a0 : Nat) (a1 : Int32) : Option (Int32 × Mm) :=
  (gC M 10 a0).bind fun _ =>
  if a1 = (0 : Int32) then
  ((gQ M 10 a0 0).bind fun q1 =>
  (gQ M 6 q1 1).bind fun q3 =>
  (fX3_size M q3).bind fun v6 =>
  some (v6, M))
  else
  (if a1 = (1 : Int32) then
  ((gQ M 10 a0 0).bind fun q9 =>
  (fX6_rings M q9).bind fun v12 =>
  some (v12, M))
  else
  (if a1 = (2 : Int32) then
  ((gQ M 10 a0 0).bind fun q15 =>
  (fX6_countings M q15).bind fun v18 =>
  some (v18, M))
  else
  (if a1 = (3 : Int32) then
  ((gQ M 10 a0 0).bind fun q21 =>
  (gQ M 6 q21 9).bind fun q23 =>
  (fX3_size M q23).bind fun v26 =>
  some (v26, M))
  else
  (if a1 = (4 : Int32) then
  ((gQ M 10 a0 0).bind fun q29 =>
  (gQ M 6 q29 10).bind fun q31 =>
  (fX3_size M q31).bind fun v34 =>
  some (v34, M))
  else
  (if a1 = (5 : Int32) then
  ((gQ M 10 a0 0).bind fun q37 =>
  (gQ M 6 q37 13).bind fun q39 =>
  (fX3_size M q39).bind fun v42 =>
  some (v42, M))
  else
  (if a1 = (6 : Int32) then
  ((gQ M 10 a0 0).bind fun q45 =>
  (gQ M 6 q45 5).bind fun q47 =>
  (fX3_size M q47).bind fun v50 =>
  some (v50, M))
  else
  (if a1 = (7 : Int32) then
  ((gQ M 10 a0 0).bind fun q53 =>
  (gQ M 6 q53 15).bind fun q55 =>
  (fX3_size M q55).bind fun v58 =>
  some (v58, M))
  else
  (if a1 = (8 : Int32) then
  ((gQ M 10 a0 8).bind fun q61 =>
  (gQ M 9 q61 0).bind fun q63 =>
  (fX3_size M q63).bind fun v66 =>
  some (v66, M))
  else
  (if a1 = (9 : Int32) then
  ((gQ M 10 a0 0).bind fun q69 =>
  (gI M 6 q69 16).bind fun v71 =>
  some (v71, M))
  else
  (bd2 (fX10_error M a0 ((1 : Int32))) fun v74 M75 =>
  some (v74, M75)))))))))))
def fX11_count (M : Mm) (a0 : Nat) (a1 : Int32) : Option (Int32 × Mm) :=
  (gC M 11 a0).bind fun _ =>
  (fX11_in M (((a1).toInt64)) ((0 : Int64)) ((7 : Int64))).bind fun v2 =>
  if v2 = 0 then
  (if a1 = (8 : Int32) then
  ((gI M 11 a0 21).bind fun v12 =>
  some (v12, M))
  else
  (if a1 = (9 : Int32) then
  ((gQ M 11 a0 0).bind fun q8 =>
  (aI M 0 q8 ((8 : Int32))).bind fun v10 =>
  some (v10, M))
  else
  (bd2 (fX11_error M a0 ((1 : Int32))) fun v4 M5 =>
  some (v4, M5))))
  else
  ((gQ M 11 a0 0).bind fun q14 =>
  (aI M 0 q14 a1).bind fun v16 =>
  some (v16, M))
def fX10_told (M : Mm) (a0 : Nat) (a1 : Int32) : Option (Int32 × Mm) :=
  (gC M 10 a0).bind fun _ =>
  (fX10_within M a1 ((1 : Int32)) ((5 : Int32))).bind fun v2 =>
  if v2 = 0 then
  (bd2 (fX10_error M a0 ((1 : Int32))) fun v10 M11 =>
  some (v10, M11))
  else
  ((gQ M 10 a0 3).bind fun q3 =>
  (fX3_at M q3 a1).bind fun v6 =>
  some (v6, M))
def fX11_told (M : Mm) (a0 : Nat) (a1 : Int32) : Option (Int32 × Mm) :=
  (gC M 11 a0).bind fun _ =>
  (fX11_in M (((a1).toInt64)) ((1 : Int64)) ((5 : Int64))).bind fun v2 =>
  if v2 = 0 then
  (bd2 (fX11_error M a0 ((1 : Int32))) fun v4 M5 =>
  some (v4, M5))
  else
  ((gQ M 11 a0 3).bind fun q8 =>
  (aI M 0 q8 a1).bind fun v10 =>
  some (v10, M))
