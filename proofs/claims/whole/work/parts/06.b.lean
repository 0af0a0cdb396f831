set_option maxHeartbeats 4000000 in
set_option maxRecDepth 100000 in
theorem wjL_law_1942 {p : Program} {l : Launch} {e : Env} {s : State} {m : MethodId} {below : List Frame} {meth : Method} {c : Code} {P : PT} {b L N : Nat} {xs : Nat → Int32} {M9 : Mm} (hX : Cl p s m c meth b P) (hXs : va_X b L xs s s.heap) (hbl : b < s.heap.size) (hbA : ¬ pB P ≤ b) {K18 : Mm → Nat → Nat → Int32 → Option (Int32 × Mm)} {cl n : Nat} (hcl : cl + 5 * (n + 1) ≤ 7000) (hK18 : ∀ (cl : Nat) (_ : cl + 5 * n ≤ 7000) (M : Mm) (x1 x2 : Nat) (x3 : Int32), K18 M x1 x2 x3 = some (1, M9) → Wl p l e s m below meth c b P cl 18 [(0, .ref b), (1, .ref (pB P + x1)), (2, .ref (pB P + x2)), (3, .int x3)] [] M) (M : Mm) (x1 x2 : Nat) (x3 : Int32) (h : jL_law_1942 N L xs K18 M x1 x2 x3 = some (1, M9)) : Wl p l e s m below meth c b P cl 1942 [(0, .ref b), (1, .ref (pB P + x1)), (2, .ref (pB P + x2)), (3, .int x3)] [] M := by
  unfold jL_law_1942 at h
  obtain ⟨X, hr, hlk, hBs⟩ := id hX
  have hx := X.1.1
  have hb := X.1.2.1
  intro H locs ls hM hl
  refine lv_aload_n (pc := 1942) hx hb dL_law_1942 rfl (lv_at hl 1 rfl) ?_
  refine lv_aload_n (pc := 1943) hx hb dL_law_1943 rfl (lv_at hl 0 rfl) ?_
  refine lv_iload_n (pc := 1944) hx hb dL_law_1944 rfl (lv_at hl 3 rfl) ?_
  refine lv_iconst (pc := 1945) (v := (1 : Int32)) hx hb dL_law_1945 (by decide) ?_
  refine lv_iadd (pc := 1946) hx hb dL_law_1946 ?_
  obtain ⟨v1, e2, h⟩ := ob h
  obtain ⟨hin, rfl⟩ := sX_spec e2
  refine va_sld (pc := 1947) hx hb hXs hbl hbA hM.2 hin dL_law_1947 ?_
  obtain ⟨v4, M5, e3, h⟩ := ob2 h
  obtain ⟨fs6, hb7⟩ := (rX10_told e3)
  refine bz_callV1 (pc := 1948) (As := [.int (xs ((x3 + (1 : Int32))).toNatClampNeg)]) (rest := []) X hM hl.1 k_RL_211 (ctX10_told l e3) rfl hb7 rfl rfl ⟨(Nat.le_of_ble_eq_true rfl), (Nat.le_of_ble_eq_true rfl)⟩ (Nat.le_of_ble_eq_true rfl) ⟨by show _ ≤ 600000; omega, by show _ ≤ 7302250; omega⟩ dL_law_1948 (fun H locs hM => ?_)
  refine lv_aload_n (pc := 1951) hx hb dL_law_1951 rfl (lv_at hl 2 rfl) ?_
  refine lv_aload_n (pc := 1952) hx hb dL_law_1952 rfl (lv_at hl 0 rfl) ?_
  refine lv_iload_n (pc := 1953) hx hb dL_law_1953 rfl (lv_at hl 3 rfl) ?_
  refine lv_iconst (pc := 1954) (v := (1 : Int32)) hx hb dL_law_1954 (by decide) ?_
  refine lv_iadd (pc := 1955) hx hb dL_law_1955 ?_
  obtain ⟨v8, e9, h⟩ := ob h
  obtain ⟨hin, rfl⟩ := sX_spec e9
  refine va_sld (pc := 1956) hx hb hXs hbl hbA hM.2 hin dL_law_1956 ?_
  obtain ⟨v11, M12, e10, h⟩ := ob2 h
  obtain ⟨fs13, hb14⟩ := (rX11_told e10)
  refine bz_callV1 (pc := 1957) (As := [.int (xs ((x3 + (1 : Int32))).toNatClampNeg)]) (rest := [.int v4]) X hM hl.1 k_RL_214 (ctX11_told l e10) rfl hb14 rfl rfl ⟨(Nat.le_of_ble_eq_true rfl), (Nat.le_of_ble_eq_true rfl)⟩ (Nat.le_of_ble_eq_true rfl) ⟨by show _ ≤ 600000; omega, by show _ ≤ 7302250; omega⟩ dL_law_1957 (fun H locs hM => ?_)
  refine lv_icmp_eq (pc := 1960) (tgt := 1965) hx hb dL_law_1960 (by decide) (fun hc => ?_) (fun hc => ?_)
  · have h := if_t hc h
    refine lv_iinc (pc := 1965) (v := (x3 + (6 : Int32))) (lv' := [(3, .int (x3 + (6 : Int32))), (0, .ref b), (1, .ref (pB P + x1)), (2, .ref (pB P + x2))]) hx hb dL_law_1965 hl (k := 3) rfl rfl (by decide) rfl (fun ls hl => ?_)
    refine lv_goto (pc := 1968) (tgt := 18) hx hb dL_law_1968 (by decide) ?_
    refine W.widen (k := cl + 5) (n := 1000 * (cl + 5)) (by omega) (by omega) ?_
    exact hK18 (cl + 5) (by omega) _ _ _ _ h H locs ls hM (lv_sub hl [1, 2, 3, 0] rfl)
  · have h := if_f hc h
    refine lv_iconst (pc := 1963) (v := (0 : Int32)) hx hb dL_law_1963 (by decide) ?_
    exact absurd (so2 h).1 (by decide)
set_option maxHeartbeats 4000000 in
set_option maxRecDepth 100000 in
theorem wjL_law_1919 {p : Program} {l : Launch} {e : Env} {s : State} {m : MethodId} {below : List Frame} {meth : Method} {c : Code} {P : PT} {b L N : Nat} {xs : Nat → Int32} {M9 : Mm} (hX : Cl p s m c meth b P) (hXs : va_X b L xs s s.heap) (hbl : b < s.heap.size) (hbA : ¬ pB P ≤ b) {K18 : Mm → Nat → Nat → Int32 → Option (Int32 × Mm)} {cl n : Nat} (hcl : cl + 5 * (n + 1) ≤ 7000) (hK18 : ∀ (cl : Nat) (_ : cl + 5 * n ≤ 7000) (M : Mm) (x1 x2 : Nat) (x3 : Int32), K18 M x1 x2 x3 = some (1, M9) → Wl p l e s m below meth c b P cl 18 [(0, .ref b), (1, .ref (pB P + x1)), (2, .ref (pB P + x2)), (3, .int x3)] [] M) (M : Mm) (x1 x2 : Nat) (x3 : Int32) (h : jL_law_1919 N L xs K18 M x1 x2 x3 = some (1, M9)) : Wl p l e s m below meth c b P cl 1919 [(0, .ref b), (1, .ref (pB P + x1)), (2, .ref (pB P + x2)), (3, .int x3)] [] M := by
  unfold jL_law_1919 at h
  obtain ⟨X, hr, hlk, hBs⟩ := id hX
  have hx := X.1.1
  have hb := X.1.2.1
  intro H locs ls hM hl
  refine lv_aload_n (pc := 1919) hx hb dL_law_1919 rfl (lv_at hl 1 rfl) ?_
  refine lv_aload_n (pc := 1920) hx hb dL_law_1920 rfl (lv_at hl 0 rfl) ?_
  refine lv_iload_n (pc := 1921) hx hb dL_law_1921 rfl (lv_at hl 3 rfl) ?_
  refine lv_iconst (pc := 1922) (v := (1 : Int32)) hx hb dL_law_1922 (by decide) ?_
  refine lv_iadd (pc := 1923) hx hb dL_law_1923 ?_
  obtain ⟨v1, e2, h⟩ := ob h
  obtain ⟨hin, rfl⟩ := sX_spec e2
  refine va_sld (pc := 1924) hx hb hXs hbl hbA hM.2 hin dL_law_1924 ?_
  obtain ⟨v4, M5, e3, h⟩ := ob2 h
  obtain ⟨fs6, hb7⟩ := (rX10_count e3)
  refine bz_callV1 (pc := 1925) (As := [.int (xs ((x3 + (1 : Int32))).toNatClampNeg)]) (rest := []) X hM hl.1 k_RL_207 (ctX10_count l e3) rfl hb7 rfl rfl ⟨(Nat.le_of_ble_eq_true rfl), (Nat.le_of_ble_eq_true rfl)⟩ (Nat.le_of_ble_eq_true rfl) ⟨by show _ ≤ 600000; omega, by show _ ≤ 7302250; omega⟩ dL_law_1925 (fun H locs hM => ?_)
  refine lv_aload_n (pc := 1928) hx hb dL_law_1928 rfl (lv_at hl 2 rfl) ?_
  refine lv_aload_n (pc := 1929) hx hb dL_law_1929 rfl (lv_at hl 0 rfl) ?_
  refine lv_iload_n (pc := 1930) hx hb dL_law_1930 rfl (lv_at hl 3 rfl) ?_
  refine lv_iconst (pc := 1931) (v := (1 : Int32)) hx hb dL_law_1931 (by decide) ?_
  refine lv_iadd (pc := 1932) hx hb dL_law_1932 ?_
  obtain ⟨v8, e9, h⟩ := ob h
  obtain ⟨hin, rfl⟩ := sX_spec e9
  refine va_sld (pc := 1933) hx hb hXs hbl hbA hM.2 hin dL_law_1933 ?_
  obtain ⟨v11, M12, e10, h⟩ := ob2 h
  obtain ⟨fs13, hb14⟩ := (rX11_count e10)
  refine bz_callV1 (pc := 1934) (As := [.int (xs ((x3 + (1 : Int32))).toNatClampNeg)]) (rest := [.int v4]) X hM hl.1 k_RL_210 (ctX11_count l e10) rfl hb14 rfl rfl ⟨(Nat.le_of_ble_eq_true rfl), (Nat.le_of_ble_eq_true rfl)⟩ (Nat.le_of_ble_eq_true rfl) ⟨by show _ ≤ 600000; omega, by show _ ≤ 7302250; omega⟩ dL_law_1934 (fun H locs hM => ?_)
  refine lv_icmp_eq (pc := 1937) (tgt := 1965) hx hb dL_law_1937 (by decide) (fun hc => ?_) (fun hc => ?_)
  · have h := if_t hc h
    refine lv_iinc (pc := 1965) (v := (x3 + (6 : Int32))) (lv' := [(3, .int (x3 + (6 : Int32))), (0, .ref b), (1, .ref (pB P + x1)), (2, .ref (pB P + x2))]) hx hb dL_law_1965 hl (k := 3) rfl rfl (by decide) rfl (fun ls hl => ?_)
    refine lv_goto (pc := 1968) (tgt := 18) hx hb dL_law_1968 (by decide) ?_
    refine W.widen (k := cl + 5) (n := 1000 * (cl + 5)) (by omega) (by omega) ?_
    exact hK18 (cl + 5) (by omega) _ _ _ _ h H locs ls hM (lv_sub hl [1, 2, 3, 0] rfl)
  · have h := if_f hc h
    refine lv_iconst (pc := 1940) (v := (0 : Int32)) hx hb dL_law_1940 (by decide) ?_
    exact absurd (so2 h).1 (by decide)
set_option maxHeartbeats 4000000 in
set_option maxRecDepth 100000 in
theorem wjL_law_1896 {p : Program} {l : Launch} {e : Env} {s : State} {m : MethodId} {below : List Frame} {meth : Method} {c : Code} {P : PT} {b L N : Nat} {xs : Nat → Int32} {M9 : Mm} (hX : Cl p s m c meth b P) (hXs : va_X b L xs s s.heap) (hbl : b < s.heap.size) (hbA : ¬ pB P ≤ b) {K18 : Mm → Nat → Nat → Int32 → Option (Int32 × Mm)} {cl n : Nat} (hcl : cl + 5 * (n + 1) ≤ 7000) (hK18 : ∀ (cl : Nat) (_ : cl + 5 * n ≤ 7000) (M : Mm) (x1 x2 : Nat) (x3 : Int32), K18 M x1 x2 x3 = some (1, M9) → Wl p l e s m below meth c b P cl 18 [(0, .ref b), (1, .ref (pB P + x1)), (2, .ref (pB P + x2)), (3, .int x3)] [] M) (M : Mm) (x1 x2 : Nat) (x3 : Int32) (h : jL_law_1896 N L xs K18 M x1 x2 x3 = some (1, M9)) : Wl p l e s m below meth c b P cl 1896 [(0, .ref b), (1, .ref (pB P + x1)), (2, .ref (pB P + x2)), (3, .int x3)] [] M := by
  unfold jL_law_1896 at h
  obtain ⟨X, hr, hlk, hBs⟩ := id hX
  have hx := X.1.1
  have hb := X.1.2.1
  intro H locs ls hM hl
  refine lv_aload_n (pc := 1896) hx hb dL_law_1896 rfl (lv_at hl 1 rfl) ?_
  refine lv_aload_n (pc := 1897) hx hb dL_law_1897 rfl (lv_at hl 0 rfl) ?_
  refine lv_iload_n (pc := 1898) hx hb dL_law_1898 rfl (lv_at hl 3 rfl) ?_
  refine lv_iconst (pc := 1899) (v := (1 : Int32)) hx hb dL_law_1899 (by decide) ?_
  refine lv_iadd (pc := 1900) hx hb dL_law_1900 ?_
  obtain ⟨v1, e2, h⟩ := ob h
  obtain ⟨hin, rfl⟩ := sX_spec e2
  refine va_sld (pc := 1901) hx hb hXs hbl hbA hM.2 hin dL_law_1901 ?_
  obtain ⟨v4, M5, e3, h⟩ := ob2 h
  obtain ⟨fs6, hb7⟩ := (rX10_check e3)
  refine bz_callV1 (pc := 1902) (As := [.int (xs ((x3 + (1 : Int32))).toNatClampNeg)]) (rest := []) X hM hl.1 k_RL_203 (ctX10_check l e3) rfl hb7 rfl rfl ⟨(Nat.le_of_ble_eq_true rfl), (Nat.le_of_ble_eq_true rfl)⟩ (Nat.le_of_ble_eq_true rfl) ⟨by show _ ≤ 600000; omega, by show _ ≤ 7302250; omega⟩ dL_law_1902 (fun H locs hM => ?_)
  refine lv_aload_n (pc := 1905) hx hb dL_law_1905 rfl (lv_at hl 2 rfl) ?_
  refine lv_aload_n (pc := 1906) hx hb dL_law_1906 rfl (lv_at hl 0 rfl) ?_
  refine lv_iload_n (pc := 1907) hx hb dL_law_1907 rfl (lv_at hl 3 rfl) ?_
  refine lv_iconst (pc := 1908) (v := (1 : Int32)) hx hb dL_law_1908 (by decide) ?_
  refine lv_iadd (pc := 1909) hx hb dL_law_1909 ?_
  obtain ⟨v8, e9, h⟩ := ob h
  obtain ⟨hin, rfl⟩ := sX_spec e9
  refine va_sld (pc := 1910) hx hb hXs hbl hbA hM.2 hin dL_law_1910 ?_
  obtain ⟨v11, M12, e10, h⟩ := ob2 h
  obtain ⟨fs13, hb14⟩ := (rX11_check e10)
  refine bz_callV1 (pc := 1911) (As := [.int (xs ((x3 + (1 : Int32))).toNatClampNeg)]) (rest := [.int v4]) X hM hl.1 k_RL_206 (ctX11_check l e10) rfl hb14 rfl rfl ⟨(Nat.le_of_ble_eq_true rfl), (Nat.le_of_ble_eq_true rfl)⟩ (Nat.le_of_ble_eq_true rfl) ⟨by show _ ≤ 600000; omega, by show _ ≤ 7302250; omega⟩ dL_law_1911 (fun H locs hM => ?_)
  refine lv_icmp_eq (pc := 1914) (tgt := 1965) hx hb dL_law_1914 (by decide) (fun hc => ?_) (fun hc => ?_)
  · have h := if_t hc h
    refine lv_iinc (pc := 1965) (v := (x3 + (6 : Int32))) (lv' := [(3, .int (x3 + (6 : Int32))), (0, .ref b), (1, .ref (pB P + x1)), (2, .ref (pB P + x2))]) hx hb dL_law_1965 hl (k := 3) rfl rfl (by decide) rfl (fun ls hl => ?_)
    refine lv_goto (pc := 1968) (tgt := 18) hx hb dL_law_1968 (by decide) ?_
    refine W.widen (k := cl + 5) (n := 1000 * (cl + 5)) (by omega) (by omega) ?_
    exact hK18 (cl + 5) (by omega) _ _ _ _ h H locs ls hM (lv_sub hl [1, 2, 3, 0] rfl)
  · have h := if_f hc h
    refine lv_iconst (pc := 1917) (v := (0 : Int32)) hx hb dL_law_1917 (by decide) ?_
    exact absurd (so2 h).1 (by decide)
set_option maxHeartbeats 4000000 in
set_option maxRecDepth 100000 in
theorem wjL_law_1873 {p : Program} {l : Launch} {e : Env} {s : State} {m : MethodId} {below : List Frame} {meth : Method} {c : Code} {P : PT} {b L N : Nat} {xs : Nat → Int32} {M9 : Mm} (hX : Cl p s m c meth b P) (hXs : va_X b L xs s s.heap) (hbl : b < s.heap.size) (hbA : ¬ pB P ≤ b) {K18 : Mm → Nat → Nat → Int32 → Option (Int32 × Mm)} {cl n : Nat} (hcl : cl + 5 * (n + 1) ≤ 7000) (hK18 : ∀ (cl : Nat) (_ : cl + 5 * n ≤ 7000) (M : Mm) (x1 x2 : Nat) (x3 : Int32), K18 M x1 x2 x3 = some (1, M9) → Wl p l e s m below meth c b P cl 18 [(0, .ref b), (1, .ref (pB P + x1)), (2, .ref (pB P + x2)), (3, .int x3)] [] M) (M : Mm) (x1 x2 : Nat) (x3 : Int32) (h : jL_law_1873 N L xs K18 M x1 x2 x3 = some (1, M9)) : Wl p l e s m below meth c b P cl 1873 [(0, .ref b), (1, .ref (pB P + x1)), (2, .ref (pB P + x2)), (3, .int x3)] [] M := by
  unfold jL_law_1873 at h
  obtain ⟨X, hr, hlk, hBs⟩ := id hX
  have hx := X.1.1
  have hb := X.1.2.1
  intro H locs ls hM hl
  refine lv_aload_n (pc := 1873) hx hb dL_law_1873 rfl (lv_at hl 1 rfl) ?_
  refine lv_aload_n (pc := 1874) hx hb dL_law_1874 rfl (lv_at hl 0 rfl) ?_
  refine lv_iload_n (pc := 1875) hx hb dL_law_1875 rfl (lv_at hl 3 rfl) ?_
  refine lv_iconst (pc := 1876) (v := (1 : Int32)) hx hb dL_law_1876 (by decide) ?_
  refine lv_iadd (pc := 1877) hx hb dL_law_1877 ?_
  obtain ⟨v1, e2, h⟩ := ob h
  obtain ⟨hin, rfl⟩ := sX_spec e2
  refine va_sld (pc := 1878) hx hb hXs hbl hbA hM.2 hin dL_law_1878 ?_
  obtain ⟨v4, M5, e3, h⟩ := ob2 h
  obtain ⟨fs6, hb7⟩ := (rX10_tell e3)
  refine bz_callV1 (pc := 1879) (As := [.int (xs ((x3 + (1 : Int32))).toNatClampNeg)]) (rest := []) X hM hl.1 k_RL_199 (ctX10_tell l e3) rfl hb7 rfl rfl ⟨(Nat.le_of_ble_eq_true rfl), (Nat.le_of_ble_eq_true rfl)⟩ (Nat.le_of_ble_eq_true rfl) ⟨by show _ ≤ 600000; omega, by show _ ≤ 7302250; omega⟩ dL_law_1879 (fun H locs hM => ?_)
  refine lv_aload_n (pc := 1882) hx hb dL_law_1882 rfl (lv_at hl 2 rfl) ?_
  refine lv_aload_n (pc := 1883) hx hb dL_law_1883 rfl (lv_at hl 0 rfl) ?_
  refine lv_iload_n (pc := 1884) hx hb dL_law_1884 rfl (lv_at hl 3 rfl) ?_
  refine lv_iconst (pc := 1885) (v := (1 : Int32)) hx hb dL_law_1885 (by decide) ?_
  refine lv_iadd (pc := 1886) hx hb dL_law_1886 ?_
  obtain ⟨v8, e9, h⟩ := ob h
  obtain ⟨hin, rfl⟩ := sX_spec e9
  refine va_sld (pc := 1887) hx hb hXs hbl hbA hM.2 hin dL_law_1887 ?_
  obtain ⟨v11, M12, e10, h⟩ := ob2 h
  obtain ⟨fs13, hb14⟩ := (rX11_tell e10)
  refine bz_callV1 (pc := 1888) (As := [.int (xs ((x3 + (1 : Int32))).toNatClampNeg)]) (rest := [.int v4]) X hM hl.1 k_RL_202 (ctX11_tell l e10) rfl hb14 rfl rfl ⟨(Nat.le_of_ble_eq_true rfl), (Nat.le_of_ble_eq_true rfl)⟩ (Nat.le_of_ble_eq_true rfl) ⟨by show _ ≤ 600000; omega, by show _ ≤ 7302250; omega⟩ dL_law_1888 (fun H locs hM => ?_)
  refine lv_icmp_eq (pc := 1891) (tgt := 1965) hx hb dL_law_1891 (by decide) (fun hc => ?_) (fun hc => ?_)
  · have h := if_t hc h
    refine lv_iinc (pc := 1965) (v := (x3 + (6 : Int32))) (lv' := [(3, .int (x3 + (6 : Int32))), (0, .ref b), (1, .ref (pB P + x1)), (2, .ref (pB P + x2))]) hx hb dL_law_1965 hl (k := 3) rfl rfl (by decide) rfl (fun ls hl => ?_)
    refine lv_goto (pc := 1968) (tgt := 18) hx hb dL_law_1968 (by decide) ?_
    refine W.widen (k := cl + 5) (n := 1000 * (cl + 5)) (by omega) (by omega) ?_
    exact hK18 (cl + 5) (by omega) _ _ _ _ h H locs ls hM (lv_sub hl [1, 2, 3, 0] rfl)
  · have h := if_f hc h
    refine lv_iconst (pc := 1894) (v := (0 : Int32)) hx hb dL_law_1894 (by decide) ?_
    exact absurd (so2 h).1 (by decide)
set_option maxHeartbeats 4000000 in
set_option maxRecDepth 100000 in
theorem wjL_law_1860 {p : Program} {l : Launch} {e : Env} {s : State} {m : MethodId} {below : List Frame} {meth : Method} {c : Code} {P : PT} {b L N : Nat} {xs : Nat → Int32} {M9 : Mm} (hX : Cl p s m c meth b P) (hXs : va_X b L xs s s.heap) (hbl : b < s.heap.size) (hbA : ¬ pB P ≤ b) {K18 : Mm → Nat → Nat → Int32 → Option (Int32 × Mm)} {cl n : Nat} (hcl : cl + 5 * (n + 1) ≤ 7000) (hK18 : ∀ (cl : Nat) (_ : cl + 5 * n ≤ 7000) (M : Mm) (x1 x2 : Nat) (x3 : Int32), K18 M x1 x2 x3 = some (1, M9) → Wl p l e s m below meth c b P cl 18 [(0, .ref b), (1, .ref (pB P + x1)), (2, .ref (pB P + x2)), (3, .int x3)] [] M) (M : Mm) (x1 x2 : Nat) (x3 : Int32) (h : jL_law_1860 N L xs K18 M x1 x2 x3 = some (1, M9)) : Wl p l e s m below meth c b P cl 1860 [(0, .ref b), (1, .ref (pB P + x1)), (2, .ref (pB P + x2)), (3, .int x3)] [] M := by
  unfold jL_law_1860 at h
  obtain ⟨X, hr, hlk, hBs⟩ := id hX
  have hx := X.1.1
  have hb := X.1.2.1
  intro H locs ls hM hl
  refine lv_aload_n (pc := 1860) hx hb dL_law_1860 rfl (lv_at hl 1 rfl) ?_
  obtain ⟨v2, M3, e1, h⟩ := ob2 h
  obtain ⟨fs4, hb5⟩ := (rX10_restore e1)
  refine bz_callV1 (pc := 1861) (As := []) (rest := []) X hM hl.1 k_RL_195 (ctX10_restore l e1) rfl hb5 rfl rfl ⟨(Nat.le_of_ble_eq_true rfl), (Nat.le_of_ble_eq_true rfl)⟩ (Nat.le_of_ble_eq_true rfl) ⟨by show _ ≤ 600000; omega, by show _ ≤ 7302250; omega⟩ dL_law_1861 (fun H locs hM => ?_)
  refine lv_aload_n (pc := 1864) hx hb dL_law_1864 rfl (lv_at hl 2 rfl) ?_
  obtain ⟨v7, M8, e6, h⟩ := ob2 h
  obtain ⟨fs9, hb10⟩ := (rX11_restore e6)
  refine bz_callV1 (pc := 1865) (As := []) (rest := [.int v2]) X hM hl.1 k_RL_198 (ctX11_restore l e6) rfl hb10 rfl rfl ⟨(Nat.le_of_ble_eq_true rfl), (Nat.le_of_ble_eq_true rfl)⟩ (Nat.le_of_ble_eq_true rfl) ⟨by show _ ≤ 600000; omega, by show _ ≤ 7302250; omega⟩ dL_law_1865 (fun H locs hM => ?_)
  refine lv_icmp_eq (pc := 1868) (tgt := 1965) hx hb dL_law_1868 (by decide) (fun hc => ?_) (fun hc => ?_)
  · have h := if_t hc h
    refine lv_iinc (pc := 1965) (v := (x3 + (6 : Int32))) (lv' := [(3, .int (x3 + (6 : Int32))), (0, .ref b), (1, .ref (pB P + x1)), (2, .ref (pB P + x2))]) hx hb dL_law_1965 hl (k := 3) rfl rfl (by decide) rfl (fun ls hl => ?_)
    refine lv_goto (pc := 1968) (tgt := 18) hx hb dL_law_1968 (by decide) ?_
    refine W.widen (k := cl + 5) (n := 1000 * (cl + 5)) (by omega) (by omega) ?_
    exact hK18 (cl + 5) (by omega) _ _ _ _ h H locs ls hM (lv_sub hl [1, 2, 3, 0] rfl)
  · have h := if_f hc h
    refine lv_iconst (pc := 1871) (v := (0 : Int32)) hx hb dL_law_1871 (by decide) ?_
    exact absurd (so2 h).1 (by decide)
set_option maxHeartbeats 4000000 in
set_option maxRecDepth 100000 in
theorem wjL_law_1847 {p : Program} {l : Launch} {e : Env} {s : State} {m : MethodId} {below : List Frame} {meth : Method} {c : Code} {P : PT} {b L N : Nat} {xs : Nat → Int32} {M9 : Mm} (hX : Cl p s m c meth b P) (hXs : va_X b L xs s s.heap) (hbl : b < s.heap.size) (hbA : ¬ pB P ≤ b) {K18 : Mm → Nat → Nat → Int32 → Option (Int32 × Mm)} {cl n : Nat} (hcl : cl + 5 * (n + 1) ≤ 7000) (hK18 : ∀ (cl : Nat) (_ : cl + 5 * n ≤ 7000) (M : Mm) (x1 x2 : Nat) (x3 : Int32), K18 M x1 x2 x3 = some (1, M9) → Wl p l e s m below meth c b P cl 18 [(0, .ref b), (1, .ref (pB P + x1)), (2, .ref (pB P + x2)), (3, .int x3)] [] M) (M : Mm) (x1 x2 : Nat) (x3 : Int32) (h : jL_law_1847 N L xs K18 M x1 x2 x3 = some (1, M9)) : Wl p l e s m below meth c b P cl 1847 [(0, .ref b), (1, .ref (pB P + x1)), (2, .ref (pB P + x2)), (3, .int x3)] [] M := by
  unfold jL_law_1847 at h
  obtain ⟨X, hr, hlk, hBs⟩ := id hX
  have hx := X.1.1
  have hb := X.1.2.1
  intro H locs ls hM hl
  refine lv_aload_n (pc := 1847) hx hb dL_law_1847 rfl (lv_at hl 1 rfl) ?_
  obtain ⟨v2, M3, e1, h⟩ := ob2 h
  obtain ⟨fs4, hb5⟩ := (rX10_image e1)
  refine bz_callV1 (pc := 1848) (As := []) (rest := []) X hM hl.1 k_RL_190 (ctX10_image l e1) rfl hb5 rfl rfl ⟨(Nat.le_of_ble_eq_true rfl), (Nat.le_of_ble_eq_true rfl)⟩ (Nat.le_of_ble_eq_true rfl) ⟨by show _ ≤ 600000; omega, by show _ ≤ 7302250; omega⟩ dL_law_1848 (fun H locs hM => ?_)
  refine lv_aload_n (pc := 1851) hx hb dL_law_1851 rfl (lv_at hl 2 rfl) ?_
  obtain ⟨v7, M8, e6, h⟩ := ob2 h
  obtain ⟨fs9, hb10⟩ := (rX11_image e6)
  refine bz_callV1 (pc := 1852) (As := []) (rest := [.int v2]) X hM hl.1 k_RL_194 (ctX11_image l e6) rfl hb10 rfl rfl ⟨(Nat.le_of_ble_eq_true rfl), (Nat.le_of_ble_eq_true rfl)⟩ (Nat.le_of_ble_eq_true rfl) ⟨by show _ ≤ 600000; omega, by show _ ≤ 7302250; omega⟩ dL_law_1852 (fun H locs hM => ?_)
  refine lv_icmp_eq (pc := 1855) (tgt := 1965) hx hb dL_law_1855 (by decide) (fun hc => ?_) (fun hc => ?_)
  · have h := if_t hc h
    refine lv_iinc (pc := 1965) (v := (x3 + (6 : Int32))) (lv' := [(3, .int (x3 + (6 : Int32))), (0, .ref b), (1, .ref (pB P + x1)), (2, .ref (pB P + x2))]) hx hb dL_law_1965 hl (k := 3) rfl rfl (by decide) rfl (fun ls hl => ?_)
    refine lv_goto (pc := 1968) (tgt := 18) hx hb dL_law_1968 (by decide) ?_
    refine W.widen (k := cl + 5) (n := 1000 * (cl + 5)) (by omega) (by omega) ?_
    exact hK18 (cl + 5) (by omega) _ _ _ _ h H locs ls hM (lv_sub hl [1, 2, 3, 0] rfl)
  · have h := if_f hc h
    refine lv_iconst (pc := 1858) (v := (0 : Int32)) hx hb dL_law_1858 (by decide) ?_
    exact absurd (so2 h).1 (by decide)
set_option maxHeartbeats 4000000 in
set_option maxRecDepth 100000 in
theorem wjL_law_1784 {p : Program} {l : Launch} {e : Env} {s : State} {m : MethodId} {below : List Frame} {meth : Method} {c : Code} {P : PT} {b L N : Nat} {xs : Nat → Int32} {M9 : Mm} (hX : Cl p s m c meth b P) (hXs : va_X b L xs s s.heap) (hbl : b < s.heap.size) (hbA : ¬ pB P ≤ b) {K18 : Mm → Nat → Nat → Int32 → Option (Int32 × Mm)} {cl n : Nat} (hcl : cl + 5 * (n + 1) ≤ 7000) (hK18 : ∀ (cl : Nat) (_ : cl + 5 * n ≤ 7000) (M : Mm) (x1 x2 : Nat) (x3 : Int32), K18 M x1 x2 x3 = some (1, M9) → Wl p l e s m below meth c b P cl 18 [(0, .ref b), (1, .ref (pB P + x1)), (2, .ref (pB P + x2)), (3, .int x3)] [] M) (M : Mm) (x1 x2 : Nat) (x3 : Int32) (h : jL_law_1784 N L xs K18 M x1 x2 x3 = some (1, M9)) : Wl p l e s m below meth c b P cl 1784 [(0, .ref b), (1, .ref (pB P + x1)), (2, .ref (pB P + x2)), (3, .int x3)] [] M := by
  unfold jL_law_1784 at h
  obtain ⟨X, hr, hlk, hBs⟩ := id hX
  have hx := X.1.1
  have hb := X.1.2.1
  intro H locs ls hM hl
  refine lv_aload_n (pc := 1784) hx hb dL_law_1784 rfl (lv_at hl 1 rfl) ?_
  refine lv_aload_n (pc := 1785) hx hb dL_law_1785 rfl (lv_at hl 0 rfl) ?_
  refine lv_iload_n (pc := 1786) hx hb dL_law_1786 rfl (lv_at hl 3 rfl) ?_
  refine lv_iconst (pc := 1787) (v := (1 : Int32)) hx hb dL_law_1787 (by decide) ?_
  refine lv_iadd (pc := 1788) hx hb dL_law_1788 ?_
  obtain ⟨v1, e2, h⟩ := ob h
  obtain ⟨hin, rfl⟩ := sX_spec e2
  refine va_sld (pc := 1789) hx hb hXs hbl hbA hM.2 hin dL_law_1789 ?_
  refine lv_aload_n (pc := 1790) hx hb dL_law_1790 rfl (lv_at hl 0 rfl) ?_
  refine lv_iload_n (pc := 1791) hx hb dL_law_1791 rfl (lv_at hl 3 rfl) ?_
  refine lv_iconst (pc := 1792) (v := (2 : Int32)) hx hb dL_law_1792 (by decide) ?_
  refine lv_iadd (pc := 1793) hx hb dL_law_1793 ?_
  obtain ⟨v3, e4, h⟩ := ob h
  obtain ⟨hin, rfl⟩ := sX_spec e4
  refine va_sld (pc := 1794) hx hb hXs hbl hbA hM.2 hin dL_law_1794 ?_
  refine lv_aload_n (pc := 1795) hx hb dL_law_1795 rfl (lv_at hl 0 rfl) ?_
  refine lv_iload_n (pc := 1796) hx hb dL_law_1796 rfl (lv_at hl 3 rfl) ?_
  refine lv_iconst (pc := 1797) (v := (3 : Int32)) hx hb dL_law_1797 (by decide) ?_
  refine lv_iadd (pc := 1798) hx hb dL_law_1798 ?_
  obtain ⟨v5, e6, h⟩ := ob h
  obtain ⟨hin, rfl⟩ := sX_spec e6
  refine va_sld (pc := 1799) hx hb hXs hbl hbA hM.2 hin dL_law_1799 ?_
  refine lv_aload_n (pc := 1800) hx hb dL_law_1800 rfl (lv_at hl 0 rfl) ?_
  refine lv_iload_n (pc := 1801) hx hb dL_law_1801 rfl (lv_at hl 3 rfl) ?_
  refine lv_iconst (pc := 1802) (v := (4 : Int32)) hx hb dL_law_1802 (by decide) ?_
  refine lv_iadd (pc := 1803) hx hb dL_law_1803 ?_
  obtain ⟨v7, e8, h⟩ := ob h
  obtain ⟨hin, rfl⟩ := sX_spec e8
  refine va_sld (pc := 1804) hx hb hXs hbl hbA hM.2 hin dL_law_1804 ?_
  refine lv_aload_n (pc := 1805) hx hb dL_law_1805 rfl (lv_at hl 0 rfl) ?_
  refine lv_iload_n (pc := 1806) hx hb dL_law_1806 rfl (lv_at hl 3 rfl) ?_
  refine lv_iconst (pc := 1807) (v := (5 : Int32)) hx hb dL_law_1807 (by decide) ?_
  refine lv_iadd (pc := 1808) hx hb dL_law_1808 ?_
  obtain ⟨v9, e10, h⟩ := ob h
  obtain ⟨hin, rfl⟩ := sX_spec e10
  refine va_sld (pc := 1809) hx hb hXs hbl hbA hM.2 hin dL_law_1809 ?_
  obtain ⟨v12, M13, e11, h⟩ := ob2 h
  obtain ⟨fs14, hb15⟩ := (rX10_move e11)
  refine bz_callV1 (pc := 1810) (As := [.int (xs ((x3 + (1 : Int32))).toNatClampNeg), .int (xs ((x3 + (2 : Int32))).toNatClampNeg), .int (xs ((x3 + (3 : Int32))).toNatClampNeg), .int (xs ((x3 + (4 : Int32))).toNatClampNeg), .int (xs ((x3 + (5 : Int32))).toNatClampNeg)]) (rest := []) X hM hl.1 k_RL_186 (ctX10_move l e11) rfl hb15 rfl rfl ⟨(Nat.le_of_ble_eq_true rfl), (Nat.le_of_ble_eq_true rfl)⟩ (Nat.le_of_ble_eq_true rfl) ⟨by show _ ≤ 600000; omega, by show _ ≤ 7302250; omega⟩ dL_law_1810 (fun H locs hM => ?_)
  refine lv_aload_n (pc := 1813) hx hb dL_law_1813 rfl (lv_at hl 2 rfl) ?_
  refine lv_aload_n (pc := 1814) hx hb dL_law_1814 rfl (lv_at hl 0 rfl) ?_
  refine lv_iload_n (pc := 1815) hx hb dL_law_1815 rfl (lv_at hl 3 rfl) ?_
  refine lv_iconst (pc := 1816) (v := (1 : Int32)) hx hb dL_law_1816 (by decide) ?_
  refine lv_iadd (pc := 1817) hx hb dL_law_1817 ?_
  obtain ⟨v16, e17, h⟩ := ob h
  obtain ⟨hin, rfl⟩ := sX_spec e17
  refine va_sld (pc := 1818) hx hb hXs hbl hbA hM.2 hin dL_law_1818 ?_
  refine lv_aload_n (pc := 1819) hx hb dL_law_1819 rfl (lv_at hl 0 rfl) ?_
  refine lv_iload_n (pc := 1820) hx hb dL_law_1820 rfl (lv_at hl 3 rfl) ?_
  refine lv_iconst (pc := 1821) (v := (2 : Int32)) hx hb dL_law_1821 (by decide) ?_
  refine lv_iadd (pc := 1822) hx hb dL_law_1822 ?_
  obtain ⟨v18, e19, h⟩ := ob h
  obtain ⟨hin, rfl⟩ := sX_spec e19
  refine va_sld (pc := 1823) hx hb hXs hbl hbA hM.2 hin dL_law_1823 ?_
  refine lv_aload_n (pc := 1824) hx hb dL_law_1824 rfl (lv_at hl 0 rfl) ?_
  refine lv_iload_n (pc := 1825) hx hb dL_law_1825 rfl (lv_at hl 3 rfl) ?_
  refine lv_iconst (pc := 1826) (v := (3 : Int32)) hx hb dL_law_1826 (by decide) ?_
  refine lv_iadd (pc := 1827) hx hb dL_law_1827 ?_
  obtain ⟨v20, e21, h⟩ := ob h
  obtain ⟨hin, rfl⟩ := sX_spec e21
  refine va_sld (pc := 1828) hx hb hXs hbl hbA hM.2 hin dL_law_1828 ?_
  refine lv_aload_n (pc := 1829) hx hb dL_law_1829 rfl (lv_at hl 0 rfl) ?_
  refine lv_iload_n (pc := 1830) hx hb dL_law_1830 rfl (lv_at hl 3 rfl) ?_
  refine lv_iconst (pc := 1831) (v := (4 : Int32)) hx hb dL_law_1831 (by decide) ?_
  refine lv_iadd (pc := 1832) hx hb dL_law_1832 ?_
  obtain ⟨v22, e23, h⟩ := ob h
  obtain ⟨hin, rfl⟩ := sX_spec e23
  refine va_sld (pc := 1833) hx hb hXs hbl hbA hM.2 hin dL_law_1833 ?_
  refine lv_aload_n (pc := 1834) hx hb dL_law_1834 rfl (lv_at hl 0 rfl) ?_
  refine lv_iload_n (pc := 1835) hx hb dL_law_1835 rfl (lv_at hl 3 rfl) ?_
  refine lv_iconst (pc := 1836) (v := (5 : Int32)) hx hb dL_law_1836 (by decide) ?_
  refine lv_iadd (pc := 1837) hx hb dL_law_1837 ?_
  obtain ⟨v24, e25, h⟩ := ob h
  obtain ⟨hin, rfl⟩ := sX_spec e25
  refine va_sld (pc := 1838) hx hb hXs hbl hbA hM.2 hin dL_law_1838 ?_
  obtain ⟨v27, M28, e26, h⟩ := ob2 h
  obtain ⟨fs29, hb30⟩ := (rX11_move e26)
  refine bz_callV1 (pc := 1839) (As := [.int (xs ((x3 + (1 : Int32))).toNatClampNeg), .int (xs ((x3 + (2 : Int32))).toNatClampNeg), .int (xs ((x3 + (3 : Int32))).toNatClampNeg), .int (xs ((x3 + (4 : Int32))).toNatClampNeg), .int (xs ((x3 + (5 : Int32))).toNatClampNeg)]) (rest := [.int v12]) X hM hl.1 k_RL_189 (ctX11_move l e26) rfl hb30 rfl rfl ⟨(Nat.le_of_ble_eq_true rfl), (Nat.le_of_ble_eq_true rfl)⟩ (Nat.le_of_ble_eq_true rfl) ⟨by show _ ≤ 600000; omega, by show _ ≤ 7302250; omega⟩ dL_law_1839 (fun H locs hM => ?_)
  refine lv_icmp_eq (pc := 1842) (tgt := 1965) hx hb dL_law_1842 (by decide) (fun hc => ?_) (fun hc => ?_)
  · have h := if_t hc h
    refine lv_iinc (pc := 1965) (v := (x3 + (6 : Int32))) (lv' := [(3, .int (x3 + (6 : Int32))), (0, .ref b), (1, .ref (pB P + x1)), (2, .ref (pB P + x2))]) hx hb dL_law_1965 hl (k := 3) rfl rfl (by decide) rfl (fun ls hl => ?_)
    refine lv_goto (pc := 1968) (tgt := 18) hx hb dL_law_1968 (by decide) ?_
    refine W.widen (k := cl + 5) (n := 1000 * (cl + 5)) (by omega) (by omega) ?_
    exact hK18 (cl + 5) (by omega) _ _ _ _ h H locs ls hM (lv_sub hl [1, 2, 3, 0] rfl)
  · have h := if_f hc h
    refine lv_iconst (pc := 1845) (v := (0 : Int32)) hx hb dL_law_1845 (by decide) ?_
    exact absurd (so2 h).1 (by decide)
set_option maxHeartbeats 4000000 in
set_option maxRecDepth 100000 in
theorem wjL_law_1741 {p : Program} {l : Launch} {e : Env} {s : State} {m : MethodId} {below : List Frame} {meth : Method} {c : Code} {P : PT} {b L N : Nat} {xs : Nat → Int32} {M9 : Mm} (hX : Cl p s m c meth b P) (hXs : va_X b L xs s s.heap) (hbl : b < s.heap.size) (hbA : ¬ pB P ≤ b) {K18 : Mm → Nat → Nat → Int32 → Option (Int32 × Mm)} {cl n : Nat} (hcl : cl + 5 * (n + 1) ≤ 7000) (hK18 : ∀ (cl : Nat) (_ : cl + 5 * n ≤ 7000) (M : Mm) (x1 x2 : Nat) (x3 : Int32), K18 M x1 x2 x3 = some (1, M9) → Wl p l e s m below meth c b P cl 18 [(0, .ref b), (1, .ref (pB P + x1)), (2, .ref (pB P + x2)), (3, .int x3)] [] M) (M : Mm) (x1 x2 : Nat) (x3 : Int32) (h : jL_law_1741 N L xs K18 M x1 x2 x3 = some (1, M9)) : Wl p l e s m below meth c b P cl 1741 [(0, .ref b), (1, .ref (pB P + x1)), (2, .ref (pB P + x2)), (3, .int x3)] [] M := by
  unfold jL_law_1741 at h
  obtain ⟨X, hr, hlk, hBs⟩ := id hX
  have hx := X.1.1
  have hb := X.1.2.1
  intro H locs ls hM hl
  refine lv_aload_n (pc := 1741) hx hb dL_law_1741 rfl (lv_at hl 1 rfl) ?_
  refine lv_aload_n (pc := 1742) hx hb dL_law_1742 rfl (lv_at hl 0 rfl) ?_
  refine lv_iload_n (pc := 1743) hx hb dL_law_1743 rfl (lv_at hl 3 rfl) ?_
  refine lv_iconst (pc := 1744) (v := (1 : Int32)) hx hb dL_law_1744 (by decide) ?_
  refine lv_iadd (pc := 1745) hx hb dL_law_1745 ?_
  obtain ⟨v1, e2, h⟩ := ob h
  obtain ⟨hin, rfl⟩ := sX_spec e2
  refine va_sld (pc := 1746) hx hb hXs hbl hbA hM.2 hin dL_law_1746 ?_
  refine lv_aload_n (pc := 1747) hx hb dL_law_1747 rfl (lv_at hl 0 rfl) ?_
  refine lv_iload_n (pc := 1748) hx hb dL_law_1748 rfl (lv_at hl 3 rfl) ?_
  refine lv_iconst (pc := 1749) (v := (2 : Int32)) hx hb dL_law_1749 (by decide) ?_
  refine lv_iadd (pc := 1750) hx hb dL_law_1750 ?_
  obtain ⟨v3, e4, h⟩ := ob h
  obtain ⟨hin, rfl⟩ := sX_spec e4
  refine va_sld (pc := 1751) hx hb hXs hbl hbA hM.2 hin dL_law_1751 ?_
  refine lv_aload_n (pc := 1752) hx hb dL_law_1752 rfl (lv_at hl 0 rfl) ?_
  refine lv_iload_n (pc := 1753) hx hb dL_law_1753 rfl (lv_at hl 3 rfl) ?_
  refine lv_iconst (pc := 1754) (v := (3 : Int32)) hx hb dL_law_1754 (by decide) ?_
  refine lv_iadd (pc := 1755) hx hb dL_law_1755 ?_
  obtain ⟨v5, e6, h⟩ := ob h
  obtain ⟨hin, rfl⟩ := sX_spec e6
  refine va_sld (pc := 1756) hx hb hXs hbl hbA hM.2 hin dL_law_1756 ?_
  obtain ⟨v8, M9, e7, h⟩ := ob2 h
  obtain ⟨fs10, hb11⟩ := (rX10_put e7)
  refine bz_callV1 (pc := 1757) (As := [.int (xs ((x3 + (1 : Int32))).toNatClampNeg), .int (xs ((x3 + (2 : Int32))).toNatClampNeg), .int (xs ((x3 + (3 : Int32))).toNatClampNeg)]) (rest := []) X hM hl.1 k_RL_182 (ctX10_put l e7) rfl hb11 rfl rfl ⟨(Nat.le_of_ble_eq_true rfl), (Nat.le_of_ble_eq_true rfl)⟩ (Nat.le_of_ble_eq_true rfl) ⟨by show _ ≤ 600000; omega, by show _ ≤ 7302250; omega⟩ dL_law_1757 (fun H locs hM => ?_)
  refine lv_aload_n (pc := 1760) hx hb dL_law_1760 rfl (lv_at hl 2 rfl) ?_
  refine lv_aload_n (pc := 1761) hx hb dL_law_1761 rfl (lv_at hl 0 rfl) ?_
  refine lv_iload_n (pc := 1762) hx hb dL_law_1762 rfl (lv_at hl 3 rfl) ?_
  refine lv_iconst (pc := 1763) (v := (1 : Int32)) hx hb dL_law_1763 (by decide) ?_
  refine lv_iadd (pc := 1764) hx hb dL_law_1764 ?_
  obtain ⟨v12, e13, h⟩ := ob h
  obtain ⟨hin, rfl⟩ := sX_spec e13
  refine va_sld (pc := 1765) hx hb hXs hbl hbA hM.2 hin dL_law_1765 ?_
  refine lv_aload_n (pc := 1766) hx hb dL_law_1766 rfl (lv_at hl 0 rfl) ?_
  refine lv_iload_n (pc := 1767) hx hb dL_law_1767 rfl (lv_at hl 3 rfl) ?_
  refine lv_iconst (pc := 1768) (v := (2 : Int32)) hx hb dL_law_1768 (by decide) ?_
  refine lv_iadd (pc := 1769) hx hb dL_law_1769 ?_
  obtain ⟨v14, e15, h⟩ := ob h
  obtain ⟨hin, rfl⟩ := sX_spec e15
  refine va_sld (pc := 1770) hx hb hXs hbl hbA hM.2 hin dL_law_1770 ?_
  refine lv_aload_n (pc := 1771) hx hb dL_law_1771 rfl (lv_at hl 0 rfl) ?_
  refine lv_iload_n (pc := 1772) hx hb dL_law_1772 rfl (lv_at hl 3 rfl) ?_
  refine lv_iconst (pc := 1773) (v := (3 : Int32)) hx hb dL_law_1773 (by decide) ?_
  refine lv_iadd (pc := 1774) hx hb dL_law_1774 ?_
  obtain ⟨v16, e17, h⟩ := ob h
  obtain ⟨hin, rfl⟩ := sX_spec e17
  refine va_sld (pc := 1775) hx hb hXs hbl hbA hM.2 hin dL_law_1775 ?_
  obtain ⟨v19, M20, e18, h⟩ := ob2 h
  obtain ⟨fs21, hb22⟩ := (rX11_put e18)
  refine bz_callV1 (pc := 1776) (As := [.int (xs ((x3 + (1 : Int32))).toNatClampNeg), .int (xs ((x3 + (2 : Int32))).toNatClampNeg), .int (xs ((x3 + (3 : Int32))).toNatClampNeg)]) (rest := [.int v8]) X hM hl.1 k_RL_185 (ctX11_put l e18) rfl hb22 rfl rfl ⟨(Nat.le_of_ble_eq_true rfl), (Nat.le_of_ble_eq_true rfl)⟩ (Nat.le_of_ble_eq_true rfl) ⟨by show _ ≤ 600000; omega, by show _ ≤ 7302250; omega⟩ dL_law_1776 (fun H locs hM => ?_)
  refine lv_icmp_eq (pc := 1779) (tgt := 1965) hx hb dL_law_1779 (by decide) (fun hc => ?_) (fun hc => ?_)
  · have h := if_t hc h
    refine lv_iinc (pc := 1965) (v := (x3 + (6 : Int32))) (lv' := [(3, .int (x3 + (6 : Int32))), (0, .ref b), (1, .ref (pB P + x1)), (2, .ref (pB P + x2))]) hx hb dL_law_1965 hl (k := 3) rfl rfl (by decide) rfl (fun ls hl => ?_)
    refine lv_goto (pc := 1968) (tgt := 18) hx hb dL_law_1968 (by decide) ?_
    refine W.widen (k := cl + 5) (n := 1000 * (cl + 5)) (by omega) (by omega) ?_
    exact hK18 (cl + 5) (by omega) _ _ _ _ h H locs ls hM (lv_sub hl [1, 2, 3, 0] rfl)
  · have h := if_f hc h
    refine lv_iconst (pc := 1782) (v := (0 : Int32)) hx hb dL_law_1782 (by decide) ?_
    exact absurd (so2 h).1 (by decide)
set_option maxHeartbeats 4000000 in
set_option maxRecDepth 100000 in
theorem wjL_law_1698 {p : Program} {l : Launch} {e : Env} {s : State} {m : MethodId} {below : List Frame} {meth : Method} {c : Code} {P : PT} {b L N : Nat} {xs : Nat → Int32} {M9 : Mm} (hX : Cl p s m c meth b P) (hXs : va_X b L xs s s.heap) (hbl : b < s.heap.size) (hbA : ¬ pB P ≤ b) {K18 : Mm → Nat → Nat → Int32 → Option (Int32 × Mm)} {cl n : Nat} (hcl : cl + 5 * (n + 1) ≤ 7000) (hK18 : ∀ (cl : Nat) (_ : cl + 5 * n ≤ 7000) (M : Mm) (x1 x2 : Nat) (x3 : Int32), K18 M x1 x2 x3 = some (1, M9) → Wl p l e s m below meth c b P cl 18 [(0, .ref b), (1, .ref (pB P + x1)), (2, .ref (pB P + x2)), (3, .int x3)] [] M) (M : Mm) (x1 x2 : Nat) (x3 : Int32) (h : jL_law_1698 N L xs K18 M x1 x2 x3 = some (1, M9)) : Wl p l e s m below meth c b P cl 1698 [(0, .ref b), (1, .ref (pB P + x1)), (2, .ref (pB P + x2)), (3, .int x3)] [] M := by
  unfold jL_law_1698 at h
  obtain ⟨X, hr, hlk, hBs⟩ := id hX
  have hx := X.1.1
  have hb := X.1.2.1
  intro H locs ls hM hl
  refine lv_aload_n (pc := 1698) hx hb dL_law_1698 rfl (lv_at hl 1 rfl) ?_
  refine lv_aload_n (pc := 1699) hx hb dL_law_1699 rfl (lv_at hl 0 rfl) ?_
  refine lv_iload_n (pc := 1700) hx hb dL_law_1700 rfl (lv_at hl 3 rfl) ?_
  refine lv_iconst (pc := 1701) (v := (1 : Int32)) hx hb dL_law_1701 (by decide) ?_
  refine lv_iadd (pc := 1702) hx hb dL_law_1702 ?_
  obtain ⟨v1, e2, h⟩ := ob h
  obtain ⟨hin, rfl⟩ := sX_spec e2
  refine va_sld (pc := 1703) hx hb hXs hbl hbA hM.2 hin dL_law_1703 ?_
  refine lv_aload_n (pc := 1704) hx hb dL_law_1704 rfl (lv_at hl 0 rfl) ?_
  refine lv_iload_n (pc := 1705) hx hb dL_law_1705 rfl (lv_at hl 3 rfl) ?_
  refine lv_iconst (pc := 1706) (v := (2 : Int32)) hx hb dL_law_1706 (by decide) ?_
  refine lv_iadd (pc := 1707) hx hb dL_law_1707 ?_
  obtain ⟨v3, e4, h⟩ := ob h
  obtain ⟨hin, rfl⟩ := sX_spec e4
  refine va_sld (pc := 1708) hx hb hXs hbl hbA hM.2 hin dL_law_1708 ?_
  refine lv_aload_n (pc := 1709) hx hb dL_law_1709 rfl (lv_at hl 0 rfl) ?_
  refine lv_iload_n (pc := 1710) hx hb dL_law_1710 rfl (lv_at hl 3 rfl) ?_
  refine lv_iconst (pc := 1711) (v := (3 : Int32)) hx hb dL_law_1711 (by decide) ?_
  refine lv_iadd (pc := 1712) hx hb dL_law_1712 ?_
  obtain ⟨v5, e6, h⟩ := ob h
  obtain ⟨hin, rfl⟩ := sX_spec e6
  refine va_sld (pc := 1713) hx hb hXs hbl hbA hM.2 hin dL_law_1713 ?_
  obtain ⟨v8, M9, e7, h⟩ := ob2 h
  obtain ⟨fs10, hb11⟩ := (rX10_sheet e7)
  refine bz_callV1 (pc := 1714) (As := [.int (xs ((x3 + (1 : Int32))).toNatClampNeg), .int (xs ((x3 + (2 : Int32))).toNatClampNeg), .int (xs ((x3 + (3 : Int32))).toNatClampNeg)]) (rest := []) X hM hl.1 k_RL_178 (ctX10_sheet l e7) rfl hb11 rfl rfl ⟨(Nat.le_of_ble_eq_true rfl), (Nat.le_of_ble_eq_true rfl)⟩ (Nat.le_of_ble_eq_true rfl) ⟨by show _ ≤ 600000; omega, by show _ ≤ 7302250; omega⟩ dL_law_1714 (fun H locs hM => ?_)
  refine lv_aload_n (pc := 1717) hx hb dL_law_1717 rfl (lv_at hl 2 rfl) ?_
  refine lv_aload_n (pc := 1718) hx hb dL_law_1718 rfl (lv_at hl 0 rfl) ?_
  refine lv_iload_n (pc := 1719) hx hb dL_law_1719 rfl (lv_at hl 3 rfl) ?_
  refine lv_iconst (pc := 1720) (v := (1 : Int32)) hx hb dL_law_1720 (by decide) ?_
  refine lv_iadd (pc := 1721) hx hb dL_law_1721 ?_
  obtain ⟨v12, e13, h⟩ := ob h
  obtain ⟨hin, rfl⟩ := sX_spec e13
  refine va_sld (pc := 1722) hx hb hXs hbl hbA hM.2 hin dL_law_1722 ?_
  refine lv_aload_n (pc := 1723) hx hb dL_law_1723 rfl (lv_at hl 0 rfl) ?_
  refine lv_iload_n (pc := 1724) hx hb dL_law_1724 rfl (lv_at hl 3 rfl) ?_
  refine lv_iconst (pc := 1725) (v := (2 : Int32)) hx hb dL_law_1725 (by decide) ?_
  refine lv_iadd (pc := 1726) hx hb dL_law_1726 ?_
  obtain ⟨v14, e15, h⟩ := ob h
  obtain ⟨hin, rfl⟩ := sX_spec e15
  refine va_sld (pc := 1727) hx hb hXs hbl hbA hM.2 hin dL_law_1727 ?_
  refine lv_aload_n (pc := 1728) hx hb dL_law_1728 rfl (lv_at hl 0 rfl) ?_
  refine lv_iload_n (pc := 1729) hx hb dL_law_1729 rfl (lv_at hl 3 rfl) ?_
  refine lv_iconst (pc := 1730) (v := (3 : Int32)) hx hb dL_law_1730 (by decide) ?_
  refine lv_iadd (pc := 1731) hx hb dL_law_1731 ?_
  obtain ⟨v16, e17, h⟩ := ob h
  obtain ⟨hin, rfl⟩ := sX_spec e17
  refine va_sld (pc := 1732) hx hb hXs hbl hbA hM.2 hin dL_law_1732 ?_
  obtain ⟨v19, M20, e18, h⟩ := ob2 h
  obtain ⟨fs21, hb22⟩ := (rX11_sheet e18)
  refine bz_callV1 (pc := 1733) (As := [.int (xs ((x3 + (1 : Int32))).toNatClampNeg), .int (xs ((x3 + (2 : Int32))).toNatClampNeg), .int (xs ((x3 + (3 : Int32))).toNatClampNeg)]) (rest := [.int v8]) X hM hl.1 k_RL_181 (ctX11_sheet l e18) rfl hb22 rfl rfl ⟨(Nat.le_of_ble_eq_true rfl), (Nat.le_of_ble_eq_true rfl)⟩ (Nat.le_of_ble_eq_true rfl) ⟨by show _ ≤ 600000; omega, by show _ ≤ 7302250; omega⟩ dL_law_1733 (fun H locs hM => ?_)
  refine lv_icmp_eq (pc := 1736) (tgt := 1965) hx hb dL_law_1736 (by decide) (fun hc => ?_) (fun hc => ?_)
  · have h := if_t hc h
    refine lv_iinc (pc := 1965) (v := (x3 + (6 : Int32))) (lv' := [(3, .int (x3 + (6 : Int32))), (0, .ref b), (1, .ref (pB P + x1)), (2, .ref (pB P + x2))]) hx hb dL_law_1965 hl (k := 3) rfl rfl (by decide) rfl (fun ls hl => ?_)
    refine lv_goto (pc := 1968) (tgt := 18) hx hb dL_law_1968 (by decide) ?_
    refine W.widen (k := cl + 5) (n := 1000 * (cl + 5)) (by omega) (by omega) ?_
    exact hK18 (cl + 5) (by omega) _ _ _ _ h H locs ls hM (lv_sub hl [1, 2, 3, 0] rfl)
  · have h := if_f hc h
    refine lv_iconst (pc := 1739) (v := (0 : Int32)) hx hb dL_law_1739 (by decide) ?_
    exact absurd (so2 h).1 (by decide)
set_option maxHeartbeats 4000000 in
set_option maxRecDepth 100000 in
theorem wjL_law_1675 {p : Program} {l : Launch} {e : Env} {s : State} {m : MethodId} {below : List Frame} {meth : Method} {c : Code} {P : PT} {b L N : Nat} {xs : Nat → Int32} {M9 : Mm} (hX : Cl p s m c meth b P) (hXs : va_X b L xs s s.heap) (hbl : b < s.heap.size) (hbA : ¬ pB P ≤ b) {K18 : Mm → Nat → Nat → Int32 → Option (Int32 × Mm)} {cl n : Nat} (hcl : cl + 5 * (n + 1) ≤ 7000) (hK18 : ∀ (cl : Nat) (_ : cl + 5 * n ≤ 7000) (M : Mm) (x1 x2 : Nat) (x3 : Int32), K18 M x1 x2 x3 = some (1, M9) → Wl p l e s m below meth c b P cl 18 [(0, .ref b), (1, .ref (pB P + x1)), (2, .ref (pB P + x2)), (3, .int x3)] [] M) (M : Mm) (x1 x2 : Nat) (x3 : Int32) (h : jL_law_1675 N L xs K18 M x1 x2 x3 = some (1, M9)) : Wl p l e s m below meth c b P cl 1675 [(0, .ref b), (1, .ref (pB P + x1)), (2, .ref (pB P + x2)), (3, .int x3)] [] M := by
  unfold jL_law_1675 at h
  obtain ⟨X, hr, hlk, hBs⟩ := id hX
  have hx := X.1.1
  have hb := X.1.2.1
  intro H locs ls hM hl
  refine lv_aload_n (pc := 1675) hx hb dL_law_1675 rfl (lv_at hl 1 rfl) ?_
  refine lv_aload_n (pc := 1676) hx hb dL_law_1676 rfl (lv_at hl 0 rfl) ?_
  refine lv_iload_n (pc := 1677) hx hb dL_law_1677 rfl (lv_at hl 3 rfl) ?_
  refine lv_iconst (pc := 1678) (v := (1 : Int32)) hx hb dL_law_1678 (by decide) ?_
  refine lv_iadd (pc := 1679) hx hb dL_law_1679 ?_
  obtain ⟨v1, e2, h⟩ := ob h
  obtain ⟨hin, rfl⟩ := sX_spec e2
  refine va_sld (pc := 1680) hx hb hXs hbl hbA hM.2 hin dL_law_1680 ?_
  obtain ⟨v4, M5, e3, h⟩ := ob2 h
  obtain ⟨fs6, hb7⟩ := (rX10_trace e3)
  refine bz_callV1 (pc := 1681) (As := [.int (xs ((x3 + (1 : Int32))).toNatClampNeg)]) (rest := []) X hM hl.1 k_RL_174 (ctX10_trace l e3) rfl hb7 rfl rfl ⟨(Nat.le_of_ble_eq_true rfl), (Nat.le_of_ble_eq_true rfl)⟩ (Nat.le_of_ble_eq_true rfl) ⟨by show _ ≤ 600000; omega, by show _ ≤ 7302250; omega⟩ dL_law_1681 (fun H locs hM => ?_)
  refine lv_aload_n (pc := 1684) hx hb dL_law_1684 rfl (lv_at hl 2 rfl) ?_
  refine lv_aload_n (pc := 1685) hx hb dL_law_1685 rfl (lv_at hl 0 rfl) ?_
  refine lv_iload_n (pc := 1686) hx hb dL_law_1686 rfl (lv_at hl 3 rfl) ?_
  refine lv_iconst (pc := 1687) (v := (1 : Int32)) hx hb dL_law_1687 (by decide) ?_
  refine lv_iadd (pc := 1688) hx hb dL_law_1688 ?_
  obtain ⟨v8, e9, h⟩ := ob h
  obtain ⟨hin, rfl⟩ := sX_spec e9
  refine va_sld (pc := 1689) hx hb hXs hbl hbA hM.2 hin dL_law_1689 ?_
  obtain ⟨v11, M12, e10, h⟩ := ob2 h
  obtain ⟨fs13, hb14⟩ := (rX11_trace e10)
  refine bz_callV1 (pc := 1690) (As := [.int (xs ((x3 + (1 : Int32))).toNatClampNeg)]) (rest := [.int v4]) X hM hl.1 k_RL_177 (ctX11_trace l e10) rfl hb14 rfl rfl ⟨(Nat.le_of_ble_eq_true rfl), (Nat.le_of_ble_eq_true rfl)⟩ (Nat.le_of_ble_eq_true rfl) ⟨by show _ ≤ 600000; omega, by show _ ≤ 7302250; omega⟩ dL_law_1690 (fun H locs hM => ?_)
  refine lv_icmp_eq (pc := 1693) (tgt := 1965) hx hb dL_law_1693 (by decide) (fun hc => ?_) (fun hc => ?_)
  · have h := if_t hc h
    refine lv_iinc (pc := 1965) (v := (x3 + (6 : Int32))) (lv' := [(3, .int (x3 + (6 : Int32))), (0, .ref b), (1, .ref (pB P + x1)), (2, .ref (pB P + x2))]) hx hb dL_law_1965 hl (k := 3) rfl rfl (by decide) rfl (fun ls hl => ?_)
    refine lv_goto (pc := 1968) (tgt := 18) hx hb dL_law_1968 (by decide) ?_
    refine W.widen (k := cl + 5) (n := 1000 * (cl + 5)) (by omega) (by omega) ?_
    exact hK18 (cl + 5) (by omega) _ _ _ _ h H locs ls hM (lv_sub hl [1, 2, 3, 0] rfl)
  · have h := if_f hc h
    refine lv_iconst (pc := 1696) (v := (0 : Int32)) hx hb dL_law_1696 (by decide) ?_
    exact absurd (so2 h).1 (by decide)
set_option maxHeartbeats 4000000 in
set_option maxRecDepth 100000 in
theorem wjL_law_1632 {p : Program} {l : Launch} {e : Env} {s : State} {m : MethodId} {below : List Frame} {meth : Method} {c : Code} {P : PT} {b L N : Nat} {xs : Nat → Int32} {M9 : Mm} (hX : Cl p s m c meth b P) (hXs : va_X b L xs s s.heap) (hbl : b < s.heap.size) (hbA : ¬ pB P ≤ b) {K18 : Mm → Nat → Nat → Int32 → Option (Int32 × Mm)} {cl n : Nat} (hcl : cl + 5 * (n + 1) ≤ 7000) (hK18 : ∀ (cl : Nat) (_ : cl + 5 * n ≤ 7000) (M : Mm) (x1 x2 : Nat) (x3 : Int32), K18 M x1 x2 x3 = some (1, M9) → Wl p l e s m below meth c b P cl 18 [(0, .ref b), (1, .ref (pB P + x1)), (2, .ref (pB P + x2)), (3, .int x3)] [] M) (M : Mm) (x1 x2 : Nat) (x3 : Int32) (h : jL_law_1632 N L xs K18 M x1 x2 x3 = some (1, M9)) : Wl p l e s m below meth c b P cl 1632 [(0, .ref b), (1, .ref (pB P + x1)), (2, .ref (pB P + x2)), (3, .int x3)] [] M := by
  unfold jL_law_1632 at h
  obtain ⟨X, hr, hlk, hBs⟩ := id hX
  have hx := X.1.1
  have hb := X.1.2.1
  intro H locs ls hM hl
  refine lv_aload_n (pc := 1632) hx hb dL_law_1632 rfl (lv_at hl 1 rfl) ?_
  refine lv_aload_n (pc := 1633) hx hb dL_law_1633 rfl (lv_at hl 0 rfl) ?_
  refine lv_iload_n (pc := 1634) hx hb dL_law_1634 rfl (lv_at hl 3 rfl) ?_
  refine lv_iconst (pc := 1635) (v := (1 : Int32)) hx hb dL_law_1635 (by decide) ?_
  refine lv_iadd (pc := 1636) hx hb dL_law_1636 ?_
  obtain ⟨v1, e2, h⟩ := ob h
  obtain ⟨hin, rfl⟩ := sX_spec e2
  refine va_sld (pc := 1637) hx hb hXs hbl hbA hM.2 hin dL_law_1637 ?_
  refine lv_aload_n (pc := 1638) hx hb dL_law_1638 rfl (lv_at hl 0 rfl) ?_
  refine lv_iload_n (pc := 1639) hx hb dL_law_1639 rfl (lv_at hl 3 rfl) ?_
  refine lv_iconst (pc := 1640) (v := (2 : Int32)) hx hb dL_law_1640 (by decide) ?_
  refine lv_iadd (pc := 1641) hx hb dL_law_1641 ?_
  obtain ⟨v3, e4, h⟩ := ob h
  obtain ⟨hin, rfl⟩ := sX_spec e4
  refine va_sld (pc := 1642) hx hb hXs hbl hbA hM.2 hin dL_law_1642 ?_
  refine lv_aload_n (pc := 1643) hx hb dL_law_1643 rfl (lv_at hl 0 rfl) ?_
  refine lv_iload_n (pc := 1644) hx hb dL_law_1644 rfl (lv_at hl 3 rfl) ?_
  refine lv_iconst (pc := 1645) (v := (3 : Int32)) hx hb dL_law_1645 (by decide) ?_
  refine lv_iadd (pc := 1646) hx hb dL_law_1646 ?_
  obtain ⟨v5, e6, h⟩ := ob h
  obtain ⟨hin, rfl⟩ := sX_spec e6
  refine va_sld (pc := 1647) hx hb hXs hbl hbA hM.2 hin dL_law_1647 ?_
  obtain ⟨v8, M9, e7, h⟩ := ob2 h
  obtain ⟨fs10, hb11⟩ := (rX10_voice e7)
  refine bz_callV1 (pc := 1648) (As := [.int (xs ((x3 + (1 : Int32))).toNatClampNeg), .int (xs ((x3 + (2 : Int32))).toNatClampNeg), .int (xs ((x3 + (3 : Int32))).toNatClampNeg)]) (rest := []) X hM hl.1 k_RL_170 (ctX10_voice l e7) rfl hb11 rfl rfl ⟨(Nat.le_of_ble_eq_true rfl), (Nat.le_of_ble_eq_true rfl)⟩ (Nat.le_of_ble_eq_true rfl) ⟨by show _ ≤ 600000; omega, by show _ ≤ 7302250; omega⟩ dL_law_1648 (fun H locs hM => ?_)
  refine lv_aload_n (pc := 1651) hx hb dL_law_1651 rfl (lv_at hl 2 rfl) ?_
  refine lv_aload_n (pc := 1652) hx hb dL_law_1652 rfl (lv_at hl 0 rfl) ?_
  refine lv_iload_n (pc := 1653) hx hb dL_law_1653 rfl (lv_at hl 3 rfl) ?_
  refine lv_iconst (pc := 1654) (v := (1 : Int32)) hx hb dL_law_1654 (by decide) ?_
  refine lv_iadd (pc := 1655) hx hb dL_law_1655 ?_
  obtain ⟨v12, e13, h⟩ := ob h
  obtain ⟨hin, rfl⟩ := sX_spec e13
  refine va_sld (pc := 1656) hx hb hXs hbl hbA hM.2 hin dL_law_1656 ?_
  refine lv_aload_n (pc := 1657) hx hb dL_law_1657 rfl (lv_at hl 0 rfl) ?_
  refine lv_iload_n (pc := 1658) hx hb dL_law_1658 rfl (lv_at hl 3 rfl) ?_
  refine lv_iconst (pc := 1659) (v := (2 : Int32)) hx hb dL_law_1659 (by decide) ?_
  refine lv_iadd (pc := 1660) hx hb dL_law_1660 ?_
  obtain ⟨v14, e15, h⟩ := ob h
  obtain ⟨hin, rfl⟩ := sX_spec e15
  refine va_sld (pc := 1661) hx hb hXs hbl hbA hM.2 hin dL_law_1661 ?_
  refine lv_aload_n (pc := 1662) hx hb dL_law_1662 rfl (lv_at hl 0 rfl) ?_
  refine lv_iload_n (pc := 1663) hx hb dL_law_1663 rfl (lv_at hl 3 rfl) ?_
  refine lv_iconst (pc := 1664) (v := (3 : Int32)) hx hb dL_law_1664 (by decide) ?_
  refine lv_iadd (pc := 1665) hx hb dL_law_1665 ?_
  obtain ⟨v16, e17, h⟩ := ob h
  obtain ⟨hin, rfl⟩ := sX_spec e17
  refine va_sld (pc := 1666) hx hb hXs hbl hbA hM.2 hin dL_law_1666 ?_
  obtain ⟨v19, M20, e18, h⟩ := ob2 h
  obtain ⟨fs21, hb22⟩ := (rX11_voice e18)
  refine bz_callV1 (pc := 1667) (As := [.int (xs ((x3 + (1 : Int32))).toNatClampNeg), .int (xs ((x3 + (2 : Int32))).toNatClampNeg), .int (xs ((x3 + (3 : Int32))).toNatClampNeg)]) (rest := [.int v8]) X hM hl.1 k_RL_173 (ctX11_voice l e18) rfl hb22 rfl rfl ⟨(Nat.le_of_ble_eq_true rfl), (Nat.le_of_ble_eq_true rfl)⟩ (Nat.le_of_ble_eq_true rfl) ⟨by show _ ≤ 600000; omega, by show _ ≤ 7302250; omega⟩ dL_law_1667 (fun H locs hM => ?_)
  refine lv_icmp_eq (pc := 1670) (tgt := 1965) hx hb dL_law_1670 (by decide) (fun hc => ?_) (fun hc => ?_)
  · have h := if_t hc h
    refine lv_iinc (pc := 1965) (v := (x3 + (6 : Int32))) (lv' := [(3, .int (x3 + (6 : Int32))), (0, .ref b), (1, .ref (pB P + x1)), (2, .ref (pB P + x2))]) hx hb dL_law_1965 hl (k := 3) rfl rfl (by decide) rfl (fun ls hl => ?_)
    refine lv_goto (pc := 1968) (tgt := 18) hx hb dL_law_1968 (by decide) ?_
    refine W.widen (k := cl + 5) (n := 1000 * (cl + 5)) (by omega) (by omega) ?_
    exact hK18 (cl + 5) (by omega) _ _ _ _ h H locs ls hM (lv_sub hl [1, 2, 3, 0] rfl)
  · have h := if_f hc h
    refine lv_iconst (pc := 1673) (v := (0 : Int32)) hx hb dL_law_1673 (by decide) ?_
    exact absurd (so2 h).1 (by decide)
set_option maxHeartbeats 4000000 in
set_option maxRecDepth 100000 in
theorem wjL_law_1599 {p : Program} {l : Launch} {e : Env} {s : State} {m : MethodId} {below : List Frame} {meth : Method} {c : Code} {P : PT} {b L N : Nat} {xs : Nat → Int32} {M9 : Mm} (hX : Cl p s m c meth b P) (hXs : va_X b L xs s s.heap) (hbl : b < s.heap.size) (hbA : ¬ pB P ≤ b) {K18 : Mm → Nat → Nat → Int32 → Option (Int32 × Mm)} {cl n : Nat} (hcl : cl + 5 * (n + 1) ≤ 7000) (hK18 : ∀ (cl : Nat) (_ : cl + 5 * n ≤ 7000) (M : Mm) (x1 x2 : Nat) (x3 : Int32), K18 M x1 x2 x3 = some (1, M9) → Wl p l e s m below meth c b P cl 18 [(0, .ref b), (1, .ref (pB P + x1)), (2, .ref (pB P + x2)), (3, .int x3)] [] M) (M : Mm) (x1 x2 : Nat) (x3 : Int32) (h : jL_law_1599 N L xs K18 M x1 x2 x3 = some (1, M9)) : Wl p l e s m below meth c b P cl 1599 [(0, .ref b), (1, .ref (pB P + x1)), (2, .ref (pB P + x2)), (3, .int x3)] [] M := by
  unfold jL_law_1599 at h
  obtain ⟨X, hr, hlk, hBs⟩ := id hX
  have hx := X.1.1
  have hb := X.1.2.1
  intro H locs ls hM hl
  refine lv_aload_n (pc := 1599) hx hb dL_law_1599 rfl (lv_at hl 1 rfl) ?_
  refine lv_aload_n (pc := 1600) hx hb dL_law_1600 rfl (lv_at hl 0 rfl) ?_
  refine lv_iload_n (pc := 1601) hx hb dL_law_1601 rfl (lv_at hl 3 rfl) ?_
  refine lv_iconst (pc := 1602) (v := (1 : Int32)) hx hb dL_law_1602 (by decide) ?_
  refine lv_iadd (pc := 1603) hx hb dL_law_1603 ?_
  obtain ⟨v1, e2, h⟩ := ob h
  obtain ⟨hin, rfl⟩ := sX_spec e2
  refine va_sld (pc := 1604) hx hb hXs hbl hbA hM.2 hin dL_law_1604 ?_
  refine lv_aload_n (pc := 1605) hx hb dL_law_1605 rfl (lv_at hl 0 rfl) ?_
  refine lv_iload_n (pc := 1606) hx hb dL_law_1606 rfl (lv_at hl 3 rfl) ?_
  refine lv_iconst (pc := 1607) (v := (2 : Int32)) hx hb dL_law_1607 (by decide) ?_
  refine lv_iadd (pc := 1608) hx hb dL_law_1608 ?_
  obtain ⟨v3, e4, h⟩ := ob h
  obtain ⟨hin, rfl⟩ := sX_spec e4
  refine va_sld (pc := 1609) hx hb hXs hbl hbA hM.2 hin dL_law_1609 ?_
  obtain ⟨v6, M7, e5, h⟩ := ob2 h
  obtain ⟨fs8, hb9⟩ := (rX10_both e5)
  refine bz_callV1 (pc := 1610) (As := [.int (xs ((x3 + (1 : Int32))).toNatClampNeg), .int (xs ((x3 + (2 : Int32))).toNatClampNeg)]) (rest := []) X hM hl.1 k_RL_166 (ctX10_both l e5) rfl hb9 rfl rfl ⟨(Nat.le_of_ble_eq_true rfl), (Nat.le_of_ble_eq_true rfl)⟩ (Nat.le_of_ble_eq_true rfl) ⟨by show _ ≤ 600000; omega, by show _ ≤ 7302250; omega⟩ dL_law_1610 (fun H locs hM => ?_)
  refine lv_aload_n (pc := 1613) hx hb dL_law_1613 rfl (lv_at hl 2 rfl) ?_
  refine lv_aload_n (pc := 1614) hx hb dL_law_1614 rfl (lv_at hl 0 rfl) ?_
  refine lv_iload_n (pc := 1615) hx hb dL_law_1615 rfl (lv_at hl 3 rfl) ?_
  refine lv_iconst (pc := 1616) (v := (1 : Int32)) hx hb dL_law_1616 (by decide) ?_
  refine lv_iadd (pc := 1617) hx hb dL_law_1617 ?_
  obtain ⟨v10, e11, h⟩ := ob h
  obtain ⟨hin, rfl⟩ := sX_spec e11
  refine va_sld (pc := 1618) hx hb hXs hbl hbA hM.2 hin dL_law_1618 ?_
  refine lv_aload_n (pc := 1619) hx hb dL_law_1619 rfl (lv_at hl 0 rfl) ?_
  refine lv_iload_n (pc := 1620) hx hb dL_law_1620 rfl (lv_at hl 3 rfl) ?_
  refine lv_iconst (pc := 1621) (v := (2 : Int32)) hx hb dL_law_1621 (by decide) ?_
  refine lv_iadd (pc := 1622) hx hb dL_law_1622 ?_
  obtain ⟨v12, e13, h⟩ := ob h
  obtain ⟨hin, rfl⟩ := sX_spec e13
  refine va_sld (pc := 1623) hx hb hXs hbl hbA hM.2 hin dL_law_1623 ?_
  obtain ⟨v15, M16, e14, h⟩ := ob2 h
  obtain ⟨fs17, hb18⟩ := (rX11_both_ e14)
  refine bz_callV1 (pc := 1624) (As := [.int (xs ((x3 + (1 : Int32))).toNatClampNeg), .int (xs ((x3 + (2 : Int32))).toNatClampNeg)]) (rest := [.int v6]) X hM hl.1 k_RL_169 (ctX11_both_ l e14) rfl hb18 rfl rfl ⟨(Nat.le_of_ble_eq_true rfl), (Nat.le_of_ble_eq_true rfl)⟩ (Nat.le_of_ble_eq_true rfl) ⟨by show _ ≤ 600000; omega, by show _ ≤ 7302250; omega⟩ dL_law_1624 (fun H locs hM => ?_)
  refine lv_icmp_eq (pc := 1627) (tgt := 1965) hx hb dL_law_1627 (by decide) (fun hc => ?_) (fun hc => ?_)
  · have h := if_t hc h
    refine lv_iinc (pc := 1965) (v := (x3 + (6 : Int32))) (lv' := [(3, .int (x3 + (6 : Int32))), (0, .ref b), (1, .ref (pB P + x1)), (2, .ref (pB P + x2))]) hx hb dL_law_1965 hl (k := 3) rfl rfl (by decide) rfl (fun ls hl => ?_)
    refine lv_goto (pc := 1968) (tgt := 18) hx hb dL_law_1968 (by decide) ?_
    refine W.widen (k := cl + 5) (n := 1000 * (cl + 5)) (by omega) (by omega) ?_
    exact hK18 (cl + 5) (by omega) _ _ _ _ h H locs ls hM (lv_sub hl [1, 2, 3, 0] rfl)
  · have h := if_f hc h
    refine lv_iconst (pc := 1630) (v := (0 : Int32)) hx hb dL_law_1630 (by decide) ?_
    exact absurd (so2 h).1 (by decide)
set_option maxHeartbeats 4000000 in
set_option maxRecDepth 100000 in
theorem wjL_law_1566 {p : Program} {l : Launch} {e : Env} {s : State} {m : MethodId} {below : List Frame} {meth : Method} {c : Code} {P : PT} {b L N : Nat} {xs : Nat → Int32} {M9 : Mm} (hX : Cl p s m c meth b P) (hXs : va_X b L xs s s.heap) (hbl : b < s.heap.size) (hbA : ¬ pB P ≤ b) {K18 : Mm → Nat → Nat → Int32 → Option (Int32 × Mm)} {cl n : Nat} (hcl : cl + 5 * (n + 1) ≤ 7000) (hK18 : ∀ (cl : Nat) (_ : cl + 5 * n ≤ 7000) (M : Mm) (x1 x2 : Nat) (x3 : Int32), K18 M x1 x2 x3 = some (1, M9) → Wl p l e s m below meth c b P cl 18 [(0, .ref b), (1, .ref (pB P + x1)), (2, .ref (pB P + x2)), (3, .int x3)] [] M) (M : Mm) (x1 x2 : Nat) (x3 : Int32) (h : jL_law_1566 N L xs K18 M x1 x2 x3 = some (1, M9)) : Wl p l e s m below meth c b P cl 1566 [(0, .ref b), (1, .ref (pB P + x1)), (2, .ref (pB P + x2)), (3, .int x3)] [] M := by
  unfold jL_law_1566 at h
  obtain ⟨X, hr, hlk, hBs⟩ := id hX
  have hx := X.1.1
  have hb := X.1.2.1
  intro H locs ls hM hl
  refine lv_aload_n (pc := 1566) hx hb dL_law_1566 rfl (lv_at hl 1 rfl) ?_
  refine lv_aload_n (pc := 1567) hx hb dL_law_1567 rfl (lv_at hl 0 rfl) ?_
  refine lv_iload_n (pc := 1568) hx hb dL_law_1568 rfl (lv_at hl 3 rfl) ?_
  refine lv_iconst (pc := 1569) (v := (1 : Int32)) hx hb dL_law_1569 (by decide) ?_
  refine lv_iadd (pc := 1570) hx hb dL_law_1570 ?_
  obtain ⟨v1, e2, h⟩ := ob h
  obtain ⟨hin, rfl⟩ := sX_spec e2
  refine va_sld (pc := 1571) hx hb hXs hbl hbA hM.2 hin dL_law_1571 ?_
  refine lv_aload_n (pc := 1572) hx hb dL_law_1572 rfl (lv_at hl 0 rfl) ?_
  refine lv_iload_n (pc := 1573) hx hb dL_law_1573 rfl (lv_at hl 3 rfl) ?_
  refine lv_iconst (pc := 1574) (v := (2 : Int32)) hx hb dL_law_1574 (by decide) ?_
  refine lv_iadd (pc := 1575) hx hb dL_law_1575 ?_
  obtain ⟨v3, e4, h⟩ := ob h
  obtain ⟨hin, rfl⟩ := sX_spec e4
  refine va_sld (pc := 1576) hx hb hXs hbl hbA hM.2 hin dL_law_1576 ?_
  obtain ⟨v6, M7, e5, h⟩ := ob2 h
  obtain ⟨fs8, hb9⟩ := (rX10_made e5)
  refine bz_callV1 (pc := 1577) (As := [.int (xs ((x3 + (1 : Int32))).toNatClampNeg), .int (xs ((x3 + (2 : Int32))).toNatClampNeg)]) (rest := []) X hM hl.1 k_RL_162 (ctX10_made l e5) rfl hb9 rfl rfl ⟨(Nat.le_of_ble_eq_true rfl), (Nat.le_of_ble_eq_true rfl)⟩ (Nat.le_of_ble_eq_true rfl) ⟨by show _ ≤ 600000; omega, by show _ ≤ 7302250; omega⟩ dL_law_1577 (fun H locs hM => ?_)
  refine lv_aload_n (pc := 1580) hx hb dL_law_1580 rfl (lv_at hl 2 rfl) ?_
  refine lv_aload_n (pc := 1581) hx hb dL_law_1581 rfl (lv_at hl 0 rfl) ?_
  refine lv_iload_n (pc := 1582) hx hb dL_law_1582 rfl (lv_at hl 3 rfl) ?_
  refine lv_iconst (pc := 1583) (v := (1 : Int32)) hx hb dL_law_1583 (by decide) ?_
  refine lv_iadd (pc := 1584) hx hb dL_law_1584 ?_
  obtain ⟨v10, e11, h⟩ := ob h
  obtain ⟨hin, rfl⟩ := sX_spec e11
  refine va_sld (pc := 1585) hx hb hXs hbl hbA hM.2 hin dL_law_1585 ?_
  refine lv_aload_n (pc := 1586) hx hb dL_law_1586 rfl (lv_at hl 0 rfl) ?_
  refine lv_iload_n (pc := 1587) hx hb dL_law_1587 rfl (lv_at hl 3 rfl) ?_
  refine lv_iconst (pc := 1588) (v := (2 : Int32)) hx hb dL_law_1588 (by decide) ?_
  refine lv_iadd (pc := 1589) hx hb dL_law_1589 ?_
  obtain ⟨v12, e13, h⟩ := ob h
  obtain ⟨hin, rfl⟩ := sX_spec e13
  refine va_sld (pc := 1590) hx hb hXs hbl hbA hM.2 hin dL_law_1590 ?_
  obtain ⟨v15, M16, e14, h⟩ := ob2 h
  obtain ⟨fs17, hb18⟩ := (rX11_made e14)
  refine bz_callV1 (pc := 1591) (As := [.int (xs ((x3 + (1 : Int32))).toNatClampNeg), .int (xs ((x3 + (2 : Int32))).toNatClampNeg)]) (rest := [.int v6]) X hM hl.1 k_RL_165 (ctX11_made l e14) rfl hb18 rfl rfl ⟨(Nat.le_of_ble_eq_true rfl), (Nat.le_of_ble_eq_true rfl)⟩ (Nat.le_of_ble_eq_true rfl) ⟨by show _ ≤ 600000; omega, by show _ ≤ 7302250; omega⟩ dL_law_1591 (fun H locs hM => ?_)
  refine lv_icmp_eq (pc := 1594) (tgt := 1965) hx hb dL_law_1594 (by decide) (fun hc => ?_) (fun hc => ?_)
  · have h := if_t hc h
    refine lv_iinc (pc := 1965) (v := (x3 + (6 : Int32))) (lv' := [(3, .int (x3 + (6 : Int32))), (0, .ref b), (1, .ref (pB P + x1)), (2, .ref (pB P + x2))]) hx hb dL_law_1965 hl (k := 3) rfl rfl (by decide) rfl (fun ls hl => ?_)
    refine lv_goto (pc := 1968) (tgt := 18) hx hb dL_law_1968 (by decide) ?_
    refine W.widen (k := cl + 5) (n := 1000 * (cl + 5)) (by omega) (by omega) ?_
    exact hK18 (cl + 5) (by omega) _ _ _ _ h H locs ls hM (lv_sub hl [1, 2, 3, 0] rfl)
  · have h := if_f hc h
    refine lv_iconst (pc := 1597) (v := (0 : Int32)) hx hb dL_law_1597 (by decide) ?_
    exact absurd (so2 h).1 (by decide)
set_option maxHeartbeats 4000000 in
set_option maxRecDepth 100000 in
theorem wjL_law_1543 {p : Program} {l : Launch} {e : Env} {s : State} {m : MethodId} {below : List Frame} {meth : Method} {c : Code} {P : PT} {b L N : Nat} {xs : Nat → Int32} {M9 : Mm} (hX : Cl p s m c meth b P) (hXs : va_X b L xs s s.heap) (hbl : b < s.heap.size) (hbA : ¬ pB P ≤ b) {K18 : Mm → Nat → Nat → Int32 → Option (Int32 × Mm)} {cl n : Nat} (hcl : cl + 5 * (n + 1) ≤ 7000) (hK18 : ∀ (cl : Nat) (_ : cl + 5 * n ≤ 7000) (M : Mm) (x1 x2 : Nat) (x3 : Int32), K18 M x1 x2 x3 = some (1, M9) → Wl p l e s m below meth c b P cl 18 [(0, .ref b), (1, .ref (pB P + x1)), (2, .ref (pB P + x2)), (3, .int x3)] [] M) (M : Mm) (x1 x2 : Nat) (x3 : Int32) (h : jL_law_1543 N L xs K18 M x1 x2 x3 = some (1, M9)) : Wl p l e s m below meth c b P cl 1543 [(0, .ref b), (1, .ref (pB P + x1)), (2, .ref (pB P + x2)), (3, .int x3)] [] M := by
  unfold jL_law_1543 at h
  obtain ⟨X, hr, hlk, hBs⟩ := id hX
  have hx := X.1.1
  have hb := X.1.2.1
  intro H locs ls hM hl
  refine lv_aload_n (pc := 1543) hx hb dL_law_1543 rfl (lv_at hl 1 rfl) ?_
  refine lv_aload_n (pc := 1544) hx hb dL_law_1544 rfl (lv_at hl 0 rfl) ?_
  refine lv_iload_n (pc := 1545) hx hb dL_law_1545 rfl (lv_at hl 3 rfl) ?_
  refine lv_iconst (pc := 1546) (v := (1 : Int32)) hx hb dL_law_1546 (by decide) ?_
  refine lv_iadd (pc := 1547) hx hb dL_law_1547 ?_
  obtain ⟨v1, e2, h⟩ := ob h
  obtain ⟨hin, rfl⟩ := sX_spec e2
  refine va_sld (pc := 1548) hx hb hXs hbl hbA hM.2 hin dL_law_1548 ?_
  obtain ⟨v4, M5, e3, h⟩ := ob2 h
  obtain ⟨fs6, hb7⟩ := (rX10_seed e3)
  refine bz_callV1 (pc := 1549) (As := [.int (xs ((x3 + (1 : Int32))).toNatClampNeg)]) (rest := []) X hM hl.1 k_RL_158 (ctX10_seed l e3) rfl hb7 rfl rfl ⟨(Nat.le_of_ble_eq_true rfl), (Nat.le_of_ble_eq_true rfl)⟩ (Nat.le_of_ble_eq_true rfl) ⟨by show _ ≤ 600000; omega, by show _ ≤ 7302250; omega⟩ dL_law_1549 (fun H locs hM => ?_)
  refine lv_aload_n (pc := 1552) hx hb dL_law_1552 rfl (lv_at hl 2 rfl) ?_
  refine lv_aload_n (pc := 1553) hx hb dL_law_1553 rfl (lv_at hl 0 rfl) ?_
  refine lv_iload_n (pc := 1554) hx hb dL_law_1554 rfl (lv_at hl 3 rfl) ?_
  refine lv_iconst (pc := 1555) (v := (1 : Int32)) hx hb dL_law_1555 (by decide) ?_
  refine lv_iadd (pc := 1556) hx hb dL_law_1556 ?_
  obtain ⟨v8, e9, h⟩ := ob h
  obtain ⟨hin, rfl⟩ := sX_spec e9
  refine va_sld (pc := 1557) hx hb hXs hbl hbA hM.2 hin dL_law_1557 ?_
  obtain ⟨v11, M12, e10, h⟩ := ob2 h
  obtain ⟨fs13, hb14⟩ := (rX11_seed e10)
  refine bz_callV1 (pc := 1558) (As := [.int (xs ((x3 + (1 : Int32))).toNatClampNeg)]) (rest := [.int v4]) X hM hl.1 k_RL_161 (ctX11_seed l e10) rfl hb14 rfl rfl ⟨(Nat.le_of_ble_eq_true rfl), (Nat.le_of_ble_eq_true rfl)⟩ (Nat.le_of_ble_eq_true rfl) ⟨by show _ ≤ 600000; omega, by show _ ≤ 7302250; omega⟩ dL_law_1558 (fun H locs hM => ?_)
  refine lv_icmp_eq (pc := 1561) (tgt := 1965) hx hb dL_law_1561 (by decide) (fun hc => ?_) (fun hc => ?_)
  · have h := if_t hc h
    refine lv_iinc (pc := 1965) (v := (x3 + (6 : Int32))) (lv' := [(3, .int (x3 + (6 : Int32))), (0, .ref b), (1, .ref (pB P + x1)), (2, .ref (pB P + x2))]) hx hb dL_law_1965 hl (k := 3) rfl rfl (by decide) rfl (fun ls hl => ?_)
    refine lv_goto (pc := 1968) (tgt := 18) hx hb dL_law_1968 (by decide) ?_
    refine W.widen (k := cl + 5) (n := 1000 * (cl + 5)) (by omega) (by omega) ?_
    exact hK18 (cl + 5) (by omega) _ _ _ _ h H locs ls hM (lv_sub hl [1, 2, 3, 0] rfl)
  · have h := if_f hc h
    refine lv_iconst (pc := 1564) (v := (0 : Int32)) hx hb dL_law_1564 (by decide) ?_
    exact absurd (so2 h).1 (by decide)
set_option maxHeartbeats 4000000 in
set_option maxRecDepth 100000 in
theorem wjL_law_1500 {p : Program} {l : Launch} {e : Env} {s : State} {m : MethodId} {below : List Frame} {meth : Method} {c : Code} {P : PT} {b L N : Nat} {xs : Nat → Int32} {M9 : Mm} (hX : Cl p s m c meth b P) (hXs : va_X b L xs s s.heap) (hbl : b < s.heap.size) (hbA : ¬ pB P ≤ b) {K18 : Mm → Nat → Nat → Int32 → Option (Int32 × Mm)} {cl n : Nat} (hcl : cl + 5 * (n + 1) ≤ 7000) (hK18 : ∀ (cl : Nat) (_ : cl + 5 * n ≤ 7000) (M : Mm) (x1 x2 : Nat) (x3 : Int32), K18 M x1 x2 x3 = some (1, M9) → Wl p l e s m below meth c b P cl 18 [(0, .ref b), (1, .ref (pB P + x1)), (2, .ref (pB P + x2)), (3, .int x3)] [] M) (M : Mm) (x1 x2 : Nat) (x3 : Int32) (h : jL_law_1500 N L xs K18 M x1 x2 x3 = some (1, M9)) : Wl p l e s m below meth c b P cl 1500 [(0, .ref b), (1, .ref (pB P + x1)), (2, .ref (pB P + x2)), (3, .int x3)] [] M := by
  unfold jL_law_1500 at h
  obtain ⟨X, hr, hlk, hBs⟩ := id hX
  have hx := X.1.1
  have hb := X.1.2.1
  intro H locs ls hM hl
  refine lv_aload_n (pc := 1500) hx hb dL_law_1500 rfl (lv_at hl 1 rfl) ?_
  refine lv_aload_n (pc := 1501) hx hb dL_law_1501 rfl (lv_at hl 0 rfl) ?_
  refine lv_iload_n (pc := 1502) hx hb dL_law_1502 rfl (lv_at hl 3 rfl) ?_
  refine lv_iconst (pc := 1503) (v := (1 : Int32)) hx hb dL_law_1503 (by decide) ?_
  refine lv_iadd (pc := 1504) hx hb dL_law_1504 ?_
  obtain ⟨v1, e2, h⟩ := ob h
  obtain ⟨hin, rfl⟩ := sX_spec e2
  refine va_sld (pc := 1505) hx hb hXs hbl hbA hM.2 hin dL_law_1505 ?_
  refine lv_aload_n (pc := 1506) hx hb dL_law_1506 rfl (lv_at hl 0 rfl) ?_
  refine lv_iload_n (pc := 1507) hx hb dL_law_1507 rfl (lv_at hl 3 rfl) ?_
  refine lv_iconst (pc := 1508) (v := (2 : Int32)) hx hb dL_law_1508 (by decide) ?_
  refine lv_iadd (pc := 1509) hx hb dL_law_1509 ?_
  obtain ⟨v3, e4, h⟩ := ob h
  obtain ⟨hin, rfl⟩ := sX_spec e4
  refine va_sld (pc := 1510) hx hb hXs hbl hbA hM.2 hin dL_law_1510 ?_
  refine lv_aload_n (pc := 1511) hx hb dL_law_1511 rfl (lv_at hl 0 rfl) ?_
  refine lv_iload_n (pc := 1512) hx hb dL_law_1512 rfl (lv_at hl 3 rfl) ?_
  refine lv_iconst (pc := 1513) (v := (3 : Int32)) hx hb dL_law_1513 (by decide) ?_
  refine lv_iadd (pc := 1514) hx hb dL_law_1514 ?_
  obtain ⟨v5, e6, h⟩ := ob h
  obtain ⟨hin, rfl⟩ := sX_spec e6
  refine va_sld (pc := 1515) hx hb hXs hbl hbA hM.2 hin dL_law_1515 ?_
  obtain ⟨v8, M9, e7, h⟩ := ob2 h
  obtain ⟨fs10, hb11⟩ := (rX10_gone e7)
  refine bz_callV1 (pc := 1516) (As := [.int (xs ((x3 + (1 : Int32))).toNatClampNeg), .int (xs ((x3 + (2 : Int32))).toNatClampNeg), .int (xs ((x3 + (3 : Int32))).toNatClampNeg)]) (rest := []) X hM hl.1 k_RL_154 (ctX10_gone l e7) rfl hb11 rfl rfl ⟨(Nat.le_of_ble_eq_true rfl), (Nat.le_of_ble_eq_true rfl)⟩ (Nat.le_of_ble_eq_true rfl) ⟨by show _ ≤ 600000; omega, by show _ ≤ 7302250; omega⟩ dL_law_1516 (fun H locs hM => ?_)
  refine lv_aload_n (pc := 1519) hx hb dL_law_1519 rfl (lv_at hl 2 rfl) ?_
  refine lv_aload_n (pc := 1520) hx hb dL_law_1520 rfl (lv_at hl 0 rfl) ?_
  refine lv_iload_n (pc := 1521) hx hb dL_law_1521 rfl (lv_at hl 3 rfl) ?_
  refine lv_iconst (pc := 1522) (v := (1 : Int32)) hx hb dL_law_1522 (by decide) ?_
  refine lv_iadd (pc := 1523) hx hb dL_law_1523 ?_
  obtain ⟨v12, e13, h⟩ := ob h
  obtain ⟨hin, rfl⟩ := sX_spec e13
  refine va_sld (pc := 1524) hx hb hXs hbl hbA hM.2 hin dL_law_1524 ?_
  refine lv_aload_n (pc := 1525) hx hb dL_law_1525 rfl (lv_at hl 0 rfl) ?_
  refine lv_iload_n (pc := 1526) hx hb dL_law_1526 rfl (lv_at hl 3 rfl) ?_
  refine lv_iconst (pc := 1527) (v := (2 : Int32)) hx hb dL_law_1527 (by decide) ?_
  refine lv_iadd (pc := 1528) hx hb dL_law_1528 ?_
  obtain ⟨v14, e15, h⟩ := ob h
  obtain ⟨hin, rfl⟩ := sX_spec e15
  refine va_sld (pc := 1529) hx hb hXs hbl hbA hM.2 hin dL_law_1529 ?_
  refine lv_aload_n (pc := 1530) hx hb dL_law_1530 rfl (lv_at hl 0 rfl) ?_
  refine lv_iload_n (pc := 1531) hx hb dL_law_1531 rfl (lv_at hl 3 rfl) ?_
  refine lv_iconst (pc := 1532) (v := (3 : Int32)) hx hb dL_law_1532 (by decide) ?_
  refine lv_iadd (pc := 1533) hx hb dL_law_1533 ?_
  obtain ⟨v16, e17, h⟩ := ob h
  obtain ⟨hin, rfl⟩ := sX_spec e17
  refine va_sld (pc := 1534) hx hb hXs hbl hbA hM.2 hin dL_law_1534 ?_
  obtain ⟨v19, M20, e18, h⟩ := ob2 h
  obtain ⟨fs21, hb22⟩ := (rX11_gone e18)
  refine bz_callV1 (pc := 1535) (As := [.int (xs ((x3 + (1 : Int32))).toNatClampNeg), .int (xs ((x3 + (2 : Int32))).toNatClampNeg), .int (xs ((x3 + (3 : Int32))).toNatClampNeg)]) (rest := [.int v8]) X hM hl.1 k_RL_157 (ctX11_gone l e18) rfl hb22 rfl rfl ⟨(Nat.le_of_ble_eq_true rfl), (Nat.le_of_ble_eq_true rfl)⟩ (Nat.le_of_ble_eq_true rfl) ⟨by show _ ≤ 600000; omega, by show _ ≤ 7302250; omega⟩ dL_law_1535 (fun H locs hM => ?_)
  refine lv_icmp_eq (pc := 1538) (tgt := 1965) hx hb dL_law_1538 (by decide) (fun hc => ?_) (fun hc => ?_)
  · have h := if_t hc h
    refine lv_iinc (pc := 1965) (v := (x3 + (6 : Int32))) (lv' := [(3, .int (x3 + (6 : Int32))), (0, .ref b), (1, .ref (pB P + x1)), (2, .ref (pB P + x2))]) hx hb dL_law_1965 hl (k := 3) rfl rfl (by decide) rfl (fun ls hl => ?_)
    refine lv_goto (pc := 1968) (tgt := 18) hx hb dL_law_1968 (by decide) ?_
    refine W.widen (k := cl + 5) (n := 1000 * (cl + 5)) (by omega) (by omega) ?_
    exact hK18 (cl + 5) (by omega) _ _ _ _ h H locs ls hM (lv_sub hl [1, 2, 3, 0] rfl)
  · have h := if_f hc h
    refine lv_iconst (pc := 1541) (v := (0 : Int32)) hx hb dL_law_1541 (by decide) ?_
    exact absurd (so2 h).1 (by decide)
set_option maxHeartbeats 4000000 in
set_option maxRecDepth 100000 in
theorem wjL_law_1477 {p : Program} {l : Launch} {e : Env} {s : State} {m : MethodId} {below : List Frame} {meth : Method} {c : Code} {P : PT} {b L N : Nat} {xs : Nat → Int32} {M9 : Mm} (hX : Cl p s m c meth b P) (hXs : va_X b L xs s s.heap) (hbl : b < s.heap.size) (hbA : ¬ pB P ≤ b) {K18 : Mm → Nat → Nat → Int32 → Option (Int32 × Mm)} {cl n : Nat} (hcl : cl + 5 * (n + 1) ≤ 7000) (hK18 : ∀ (cl : Nat) (_ : cl + 5 * n ≤ 7000) (M : Mm) (x1 x2 : Nat) (x3 : Int32), K18 M x1 x2 x3 = some (1, M9) → Wl p l e s m below meth c b P cl 18 [(0, .ref b), (1, .ref (pB P + x1)), (2, .ref (pB P + x2)), (3, .int x3)] [] M) (M : Mm) (x1 x2 : Nat) (x3 : Int32) (h : jL_law_1477 N L xs K18 M x1 x2 x3 = some (1, M9)) : Wl p l e s m below meth c b P cl 1477 [(0, .ref b), (1, .ref (pB P + x1)), (2, .ref (pB P + x2)), (3, .int x3)] [] M := by
  unfold jL_law_1477 at h
  obtain ⟨X, hr, hlk, hBs⟩ := id hX
  have hx := X.1.1
  have hb := X.1.2.1
  intro H locs ls hM hl
  refine lv_aload_n (pc := 1477) hx hb dL_law_1477 rfl (lv_at hl 1 rfl) ?_
  refine lv_aload_n (pc := 1478) hx hb dL_law_1478 rfl (lv_at hl 0 rfl) ?_
  refine lv_iload_n (pc := 1479) hx hb dL_law_1479 rfl (lv_at hl 3 rfl) ?_
  refine lv_iconst (pc := 1480) (v := (1 : Int32)) hx hb dL_law_1480 (by decide) ?_
  refine lv_iadd (pc := 1481) hx hb dL_law_1481 ?_
  obtain ⟨v1, e2, h⟩ := ob h
  obtain ⟨hin, rfl⟩ := sX_spec e2
  refine va_sld (pc := 1482) hx hb hXs hbl hbA hM.2 hin dL_law_1482 ?_
  obtain ⟨v4, M5, e3, h⟩ := ob2 h
  obtain ⟨fs6, hb7⟩ := (rX10_bound e3)
  refine bz_callV1 (pc := 1483) (As := [.int (xs ((x3 + (1 : Int32))).toNatClampNeg)]) (rest := []) X hM hl.1 k_RL_150 (ctX10_bound l e3) rfl hb7 rfl rfl ⟨(Nat.le_of_ble_eq_true rfl), (Nat.le_of_ble_eq_true rfl)⟩ (Nat.le_of_ble_eq_true rfl) ⟨by show _ ≤ 600000; omega, by show _ ≤ 7302250; omega⟩ dL_law_1483 (fun H locs hM => ?_)
  refine lv_aload_n (pc := 1486) hx hb dL_law_1486 rfl (lv_at hl 2 rfl) ?_
  refine lv_aload_n (pc := 1487) hx hb dL_law_1487 rfl (lv_at hl 0 rfl) ?_
  refine lv_iload_n (pc := 1488) hx hb dL_law_1488 rfl (lv_at hl 3 rfl) ?_
  refine lv_iconst (pc := 1489) (v := (1 : Int32)) hx hb dL_law_1489 (by decide) ?_
  refine lv_iadd (pc := 1490) hx hb dL_law_1490 ?_
  obtain ⟨v8, e9, h⟩ := ob h
  obtain ⟨hin, rfl⟩ := sX_spec e9
  refine va_sld (pc := 1491) hx hb hXs hbl hbA hM.2 hin dL_law_1491 ?_
  obtain ⟨v11, M12, e10, h⟩ := ob2 h
  obtain ⟨fs13, hb14⟩ := (rX11_bound e10)
  refine bz_callV1 (pc := 1492) (As := [.int (xs ((x3 + (1 : Int32))).toNatClampNeg)]) (rest := [.int v4]) X hM hl.1 k_RL_153 (ctX11_bound l e10) rfl hb14 rfl rfl ⟨(Nat.le_of_ble_eq_true rfl), (Nat.le_of_ble_eq_true rfl)⟩ (Nat.le_of_ble_eq_true rfl) ⟨by show _ ≤ 600000; omega, by show _ ≤ 7302250; omega⟩ dL_law_1492 (fun H locs hM => ?_)
  refine lv_icmp_eq (pc := 1495) (tgt := 1965) hx hb dL_law_1495 (by decide) (fun hc => ?_) (fun hc => ?_)
  · have h := if_t hc h
    refine lv_iinc (pc := 1965) (v := (x3 + (6 : Int32))) (lv' := [(3, .int (x3 + (6 : Int32))), (0, .ref b), (1, .ref (pB P + x1)), (2, .ref (pB P + x2))]) hx hb dL_law_1965 hl (k := 3) rfl rfl (by decide) rfl (fun ls hl => ?_)
    refine lv_goto (pc := 1968) (tgt := 18) hx hb dL_law_1968 (by decide) ?_
    refine W.widen (k := cl + 5) (n := 1000 * (cl + 5)) (by omega) (by omega) ?_
    exact hK18 (cl + 5) (by omega) _ _ _ _ h H locs ls hM (lv_sub hl [1, 2, 3, 0] rfl)
  · have h := if_f hc h
    refine lv_iconst (pc := 1498) (v := (0 : Int32)) hx hb dL_law_1498 (by decide) ?_
    exact absurd (so2 h).1 (by decide)
set_option maxHeartbeats 4000000 in
set_option maxRecDepth 100000 in
theorem wjL_law_1444 {p : Program} {l : Launch} {e : Env} {s : State} {m : MethodId} {below : List Frame} {meth : Method} {c : Code} {P : PT} {b L N : Nat} {xs : Nat → Int32} {M9 : Mm} (hX : Cl p s m c meth b P) (hXs : va_X b L xs s s.heap) (hbl : b < s.heap.size) (hbA : ¬ pB P ≤ b) {K18 : Mm → Nat → Nat → Int32 → Option (Int32 × Mm)} {cl n : Nat} (hcl : cl + 5 * (n + 1) ≤ 7000) (hK18 : ∀ (cl : Nat) (_ : cl + 5 * n ≤ 7000) (M : Mm) (x1 x2 : Nat) (x3 : Int32), K18 M x1 x2 x3 = some (1, M9) → Wl p l e s m below meth c b P cl 18 [(0, .ref b), (1, .ref (pB P + x1)), (2, .ref (pB P + x2)), (3, .int x3)] [] M) (M : Mm) (x1 x2 : Nat) (x3 : Int32) (h : jL_law_1444 N L xs K18 M x1 x2 x3 = some (1, M9)) : Wl p l e s m below meth c b P cl 1444 [(0, .ref b), (1, .ref (pB P + x1)), (2, .ref (pB P + x2)), (3, .int x3)] [] M := by
  unfold jL_law_1444 at h
  obtain ⟨X, hr, hlk, hBs⟩ := id hX
  have hx := X.1.1
  have hb := X.1.2.1
  intro H locs ls hM hl
  refine lv_aload_n (pc := 1444) hx hb dL_law_1444 rfl (lv_at hl 1 rfl) ?_
  refine lv_aload_n (pc := 1445) hx hb dL_law_1445 rfl (lv_at hl 0 rfl) ?_
  refine lv_iload_n (pc := 1446) hx hb dL_law_1446 rfl (lv_at hl 3 rfl) ?_
  refine lv_iconst (pc := 1447) (v := (1 : Int32)) hx hb dL_law_1447 (by decide) ?_
  refine lv_iadd (pc := 1448) hx hb dL_law_1448 ?_
  obtain ⟨v1, e2, h⟩ := ob h
  obtain ⟨hin, rfl⟩ := sX_spec e2
  refine va_sld (pc := 1449) hx hb hXs hbl hbA hM.2 hin dL_law_1449 ?_
  refine lv_aload_n (pc := 1450) hx hb dL_law_1450 rfl (lv_at hl 0 rfl) ?_
  refine lv_iload_n (pc := 1451) hx hb dL_law_1451 rfl (lv_at hl 3 rfl) ?_
  refine lv_iconst (pc := 1452) (v := (2 : Int32)) hx hb dL_law_1452 (by decide) ?_
  refine lv_iadd (pc := 1453) hx hb dL_law_1453 ?_
  obtain ⟨v3, e4, h⟩ := ob h
  obtain ⟨hin, rfl⟩ := sX_spec e4
  refine va_sld (pc := 1454) hx hb hXs hbl hbA hM.2 hin dL_law_1454 ?_
  obtain ⟨v6, M7, e5, h⟩ := ob2 h
  obtain ⟨fs8, hb9⟩ := (rX10_quiet e5)
  refine bz_callV1 (pc := 1455) (As := [.int (xs ((x3 + (1 : Int32))).toNatClampNeg), .int (xs ((x3 + (2 : Int32))).toNatClampNeg)]) (rest := []) X hM hl.1 k_RL_146 (ctX10_quiet l e5) rfl hb9 rfl rfl ⟨(Nat.le_of_ble_eq_true rfl), (Nat.le_of_ble_eq_true rfl)⟩ (Nat.le_of_ble_eq_true rfl) ⟨by show _ ≤ 600000; omega, by show _ ≤ 7302250; omega⟩ dL_law_1455 (fun H locs hM => ?_)
  refine lv_aload_n (pc := 1458) hx hb dL_law_1458 rfl (lv_at hl 2 rfl) ?_
  refine lv_aload_n (pc := 1459) hx hb dL_law_1459 rfl (lv_at hl 0 rfl) ?_
  refine lv_iload_n (pc := 1460) hx hb dL_law_1460 rfl (lv_at hl 3 rfl) ?_
  refine lv_iconst (pc := 1461) (v := (1 : Int32)) hx hb dL_law_1461 (by decide) ?_
  refine lv_iadd (pc := 1462) hx hb dL_law_1462 ?_
  obtain ⟨v10, e11, h⟩ := ob h
  obtain ⟨hin, rfl⟩ := sX_spec e11
  refine va_sld (pc := 1463) hx hb hXs hbl hbA hM.2 hin dL_law_1463 ?_
  refine lv_aload_n (pc := 1464) hx hb dL_law_1464 rfl (lv_at hl 0 rfl) ?_
  refine lv_iload_n (pc := 1465) hx hb dL_law_1465 rfl (lv_at hl 3 rfl) ?_
  refine lv_iconst (pc := 1466) (v := (2 : Int32)) hx hb dL_law_1466 (by decide) ?_
  refine lv_iadd (pc := 1467) hx hb dL_law_1467 ?_
  obtain ⟨v12, e13, h⟩ := ob h
  obtain ⟨hin, rfl⟩ := sX_spec e13
  refine va_sld (pc := 1468) hx hb hXs hbl hbA hM.2 hin dL_law_1468 ?_
  obtain ⟨v15, M16, e14, h⟩ := ob2 h
  obtain ⟨fs17, hb18⟩ := (rX11_quiet e14)
  refine bz_callV1 (pc := 1469) (As := [.int (xs ((x3 + (1 : Int32))).toNatClampNeg), .int (xs ((x3 + (2 : Int32))).toNatClampNeg)]) (rest := [.int v6]) X hM hl.1 k_RL_149 (ctX11_quiet l e14) rfl hb18 rfl rfl ⟨(Nat.le_of_ble_eq_true rfl), (Nat.le_of_ble_eq_true rfl)⟩ (Nat.le_of_ble_eq_true rfl) ⟨by show _ ≤ 600000; omega, by show _ ≤ 7302250; omega⟩ dL_law_1469 (fun H locs hM => ?_)
  refine lv_icmp_eq (pc := 1472) (tgt := 1965) hx hb dL_law_1472 (by decide) (fun hc => ?_) (fun hc => ?_)
  · have h := if_t hc h
    refine lv_iinc (pc := 1965) (v := (x3 + (6 : Int32))) (lv' := [(3, .int (x3 + (6 : Int32))), (0, .ref b), (1, .ref (pB P + x1)), (2, .ref (pB P + x2))]) hx hb dL_law_1965 hl (k := 3) rfl rfl (by decide) rfl (fun ls hl => ?_)
    refine lv_goto (pc := 1968) (tgt := 18) hx hb dL_law_1968 (by decide) ?_
    refine W.widen (k := cl + 5) (n := 1000 * (cl + 5)) (by omega) (by omega) ?_
    exact hK18 (cl + 5) (by omega) _ _ _ _ h H locs ls hM (lv_sub hl [1, 2, 3, 0] rfl)
  · have h := if_f hc h
    refine lv_iconst (pc := 1475) (v := (0 : Int32)) hx hb dL_law_1475 (by decide) ?_
    exact absurd (so2 h).1 (by decide)
set_option maxHeartbeats 4000000 in
set_option maxRecDepth 100000 in
theorem wjL_law_1411 {p : Program} {l : Launch} {e : Env} {s : State} {m : MethodId} {below : List Frame} {meth : Method} {c : Code} {P : PT} {b L N : Nat} {xs : Nat → Int32} {M9 : Mm} (hX : Cl p s m c meth b P) (hXs : va_X b L xs s s.heap) (hbl : b < s.heap.size) (hbA : ¬ pB P ≤ b) {K18 : Mm → Nat → Nat → Int32 → Option (Int32 × Mm)} {cl n : Nat} (hcl : cl + 5 * (n + 1) ≤ 7000) (hK18 : ∀ (cl : Nat) (_ : cl + 5 * n ≤ 7000) (M : Mm) (x1 x2 : Nat) (x3 : Int32), K18 M x1 x2 x3 = some (1, M9) → Wl p l e s m below meth c b P cl 18 [(0, .ref b), (1, .ref (pB P + x1)), (2, .ref (pB P + x2)), (3, .int x3)] [] M) (M : Mm) (x1 x2 : Nat) (x3 : Int32) (h : jL_law_1411 N L xs K18 M x1 x2 x3 = some (1, M9)) : Wl p l e s m below meth c b P cl 1411 [(0, .ref b), (1, .ref (pB P + x1)), (2, .ref (pB P + x2)), (3, .int x3)] [] M := by
  unfold jL_law_1411 at h
  obtain ⟨X, hr, hlk, hBs⟩ := id hX
  have hx := X.1.1
  have hb := X.1.2.1
  intro H locs ls hM hl
  refine lv_aload_n (pc := 1411) hx hb dL_law_1411 rfl (lv_at hl 1 rfl) ?_
  refine lv_aload_n (pc := 1412) hx hb dL_law_1412 rfl (lv_at hl 0 rfl) ?_
  refine lv_iload_n (pc := 1413) hx hb dL_law_1413 rfl (lv_at hl 3 rfl) ?_
  refine lv_iconst (pc := 1414) (v := (1 : Int32)) hx hb dL_law_1414 (by decide) ?_
  refine lv_iadd (pc := 1415) hx hb dL_law_1415 ?_
  obtain ⟨v1, e2, h⟩ := ob h
  obtain ⟨hin, rfl⟩ := sX_spec e2
  refine va_sld (pc := 1416) hx hb hXs hbl hbA hM.2 hin dL_law_1416 ?_
  refine lv_aload_n (pc := 1417) hx hb dL_law_1417 rfl (lv_at hl 0 rfl) ?_
  refine lv_iload_n (pc := 1418) hx hb dL_law_1418 rfl (lv_at hl 3 rfl) ?_
  refine lv_iconst (pc := 1419) (v := (2 : Int32)) hx hb dL_law_1419 (by decide) ?_
  refine lv_iadd (pc := 1420) hx hb dL_law_1420 ?_
  obtain ⟨v3, e4, h⟩ := ob h
  obtain ⟨hin, rfl⟩ := sX_spec e4
  refine va_sld (pc := 1421) hx hb hXs hbl hbA hM.2 hin dL_law_1421 ?_
  obtain ⟨v6, M7, e5, h⟩ := ob2 h
  obtain ⟨fs8, hb9⟩ := (rX10_find e5)
  refine bz_callV1 (pc := 1422) (As := [.int (xs ((x3 + (1 : Int32))).toNatClampNeg), .int (xs ((x3 + (2 : Int32))).toNatClampNeg)]) (rest := []) X hM hl.1 k_RL_142 (ctX10_find l e5) rfl hb9 rfl rfl ⟨(Nat.le_of_ble_eq_true rfl), (Nat.le_of_ble_eq_true rfl)⟩ (Nat.le_of_ble_eq_true rfl) ⟨by show _ ≤ 600000; omega, by show _ ≤ 7302250; omega⟩ dL_law_1422 (fun H locs hM => ?_)
  refine lv_aload_n (pc := 1425) hx hb dL_law_1425 rfl (lv_at hl 2 rfl) ?_
  refine lv_aload_n (pc := 1426) hx hb dL_law_1426 rfl (lv_at hl 0 rfl) ?_
  refine lv_iload_n (pc := 1427) hx hb dL_law_1427 rfl (lv_at hl 3 rfl) ?_
  refine lv_iconst (pc := 1428) (v := (1 : Int32)) hx hb dL_law_1428 (by decide) ?_
  refine lv_iadd (pc := 1429) hx hb dL_law_1429 ?_
  obtain ⟨v10, e11, h⟩ := ob h
  obtain ⟨hin, rfl⟩ := sX_spec e11
  refine va_sld (pc := 1430) hx hb hXs hbl hbA hM.2 hin dL_law_1430 ?_
  refine lv_aload_n (pc := 1431) hx hb dL_law_1431 rfl (lv_at hl 0 rfl) ?_
  refine lv_iload_n (pc := 1432) hx hb dL_law_1432 rfl (lv_at hl 3 rfl) ?_
  refine lv_iconst (pc := 1433) (v := (2 : Int32)) hx hb dL_law_1433 (by decide) ?_
  refine lv_iadd (pc := 1434) hx hb dL_law_1434 ?_
  obtain ⟨v12, e13, h⟩ := ob h
  obtain ⟨hin, rfl⟩ := sX_spec e13
  refine va_sld (pc := 1435) hx hb hXs hbl hbA hM.2 hin dL_law_1435 ?_
  obtain ⟨v15, M16, e14, h⟩ := ob2 h
  obtain ⟨fs17, hb18⟩ := (rX11_find e14)
  refine bz_callV1 (pc := 1436) (As := [.int (xs ((x3 + (1 : Int32))).toNatClampNeg), .int (xs ((x3 + (2 : Int32))).toNatClampNeg)]) (rest := [.int v6]) X hM hl.1 k_RL_145 (ctX11_find l e14) rfl hb18 rfl rfl ⟨(Nat.le_of_ble_eq_true rfl), (Nat.le_of_ble_eq_true rfl)⟩ (Nat.le_of_ble_eq_true rfl) ⟨by show _ ≤ 600000; omega, by show _ ≤ 7302250; omega⟩ dL_law_1436 (fun H locs hM => ?_)
  refine lv_icmp_eq (pc := 1439) (tgt := 1965) hx hb dL_law_1439 (by decide) (fun hc => ?_) (fun hc => ?_)
  · have h := if_t hc h
    refine lv_iinc (pc := 1965) (v := (x3 + (6 : Int32))) (lv' := [(3, .int (x3 + (6 : Int32))), (0, .ref b), (1, .ref (pB P + x1)), (2, .ref (pB P + x2))]) hx hb dL_law_1965 hl (k := 3) rfl rfl (by decide) rfl (fun ls hl => ?_)
    refine lv_goto (pc := 1968) (tgt := 18) hx hb dL_law_1968 (by decide) ?_
    refine W.widen (k := cl + 5) (n := 1000 * (cl + 5)) (by omega) (by omega) ?_
    exact hK18 (cl + 5) (by omega) _ _ _ _ h H locs ls hM (lv_sub hl [1, 2, 3, 0] rfl)
  · have h := if_f hc h
    refine lv_iconst (pc := 1442) (v := (0 : Int32)) hx hb dL_law_1442 (by decide) ?_
    exact absurd (so2 h).1 (by decide)
set_option maxHeartbeats 4000000 in
set_option maxRecDepth 100000 in
theorem wjL_law_1388 {p : Program} {l : Launch} {e : Env} {s : State} {m : MethodId} {below : List Frame} {meth : Method} {c : Code} {P : PT} {b L N : Nat} {xs : Nat → Int32} {M9 : Mm} (hX : Cl p s m c meth b P) (hXs : va_X b L xs s s.heap) (hbl : b < s.heap.size) (hbA : ¬ pB P ≤ b) {K18 : Mm → Nat → Nat → Int32 → Option (Int32 × Mm)} {cl n : Nat} (hcl : cl + 5 * (n + 1) ≤ 7000) (hK18 : ∀ (cl : Nat) (_ : cl + 5 * n ≤ 7000) (M : Mm) (x1 x2 : Nat) (x3 : Int32), K18 M x1 x2 x3 = some (1, M9) → Wl p l e s m below meth c b P cl 18 [(0, .ref b), (1, .ref (pB P + x1)), (2, .ref (pB P + x2)), (3, .int x3)] [] M) (M : Mm) (x1 x2 : Nat) (x3 : Int32) (h : jL_law_1388 N L xs K18 M x1 x2 x3 = some (1, M9)) : Wl p l e s m below meth c b P cl 1388 [(0, .ref b), (1, .ref (pB P + x1)), (2, .ref (pB P + x2)), (3, .int x3)] [] M := by
  unfold jL_law_1388 at h
  obtain ⟨X, hr, hlk, hBs⟩ := id hX
  have hx := X.1.1
  have hb := X.1.2.1
  intro H locs ls hM hl
  refine lv_aload_n (pc := 1388) hx hb dL_law_1388 rfl (lv_at hl 1 rfl) ?_
  refine lv_aload_n (pc := 1389) hx hb dL_law_1389 rfl (lv_at hl 0 rfl) ?_
  refine lv_iload_n (pc := 1390) hx hb dL_law_1390 rfl (lv_at hl 3 rfl) ?_
  refine lv_iconst (pc := 1391) (v := (1 : Int32)) hx hb dL_law_1391 (by decide) ?_
  refine lv_iadd (pc := 1392) hx hb dL_law_1392 ?_
  obtain ⟨v1, e2, h⟩ := ob h
  obtain ⟨hin, rfl⟩ := sX_spec e2
  refine va_sld (pc := 1393) hx hb hXs hbl hbA hM.2 hin dL_law_1393 ?_
  obtain ⟨v4, M5, e3, h⟩ := ob2 h
  obtain ⟨fs6, hb7⟩ := (rX10_say e3)
  refine bz_callV1 (pc := 1394) (As := [.int (xs ((x3 + (1 : Int32))).toNatClampNeg)]) (rest := []) X hM hl.1 k_RL_138 (ctX10_say l e3) rfl hb7 rfl rfl ⟨(Nat.le_of_ble_eq_true rfl), (Nat.le_of_ble_eq_true rfl)⟩ (Nat.le_of_ble_eq_true rfl) ⟨by show _ ≤ 600000; omega, by show _ ≤ 7302250; omega⟩ dL_law_1394 (fun H locs hM => ?_)
  refine lv_aload_n (pc := 1397) hx hb dL_law_1397 rfl (lv_at hl 2 rfl) ?_
  refine lv_aload_n (pc := 1398) hx hb dL_law_1398 rfl (lv_at hl 0 rfl) ?_
  refine lv_iload_n (pc := 1399) hx hb dL_law_1399 rfl (lv_at hl 3 rfl) ?_
  refine lv_iconst (pc := 1400) (v := (1 : Int32)) hx hb dL_law_1400 (by decide) ?_
  refine lv_iadd (pc := 1401) hx hb dL_law_1401 ?_
  obtain ⟨v8, e9, h⟩ := ob h
  obtain ⟨hin, rfl⟩ := sX_spec e9
  refine va_sld (pc := 1402) hx hb hXs hbl hbA hM.2 hin dL_law_1402 ?_
  obtain ⟨v11, M12, e10, h⟩ := ob2 h
  obtain ⟨fs13, hb14⟩ := (rX11_say e10)
  refine bz_callV1 (pc := 1403) (As := [.int (xs ((x3 + (1 : Int32))).toNatClampNeg)]) (rest := [.int v4]) X hM hl.1 k_RL_141 (ctX11_say l e10) rfl hb14 rfl rfl ⟨(Nat.le_of_ble_eq_true rfl), (Nat.le_of_ble_eq_true rfl)⟩ (Nat.le_of_ble_eq_true rfl) ⟨by show _ ≤ 600000; omega, by show _ ≤ 7302250; omega⟩ dL_law_1403 (fun H locs hM => ?_)
  refine lv_icmp_eq (pc := 1406) (tgt := 1965) hx hb dL_law_1406 (by decide) (fun hc => ?_) (fun hc => ?_)
  · have h := if_t hc h
    refine lv_iinc (pc := 1965) (v := (x3 + (6 : Int32))) (lv' := [(3, .int (x3 + (6 : Int32))), (0, .ref b), (1, .ref (pB P + x1)), (2, .ref (pB P + x2))]) hx hb dL_law_1965 hl (k := 3) rfl rfl (by decide) rfl (fun ls hl => ?_)
    refine lv_goto (pc := 1968) (tgt := 18) hx hb dL_law_1968 (by decide) ?_
    refine W.widen (k := cl + 5) (n := 1000 * (cl + 5)) (by omega) (by omega) ?_
    exact hK18 (cl + 5) (by omega) _ _ _ _ h H locs ls hM (lv_sub hl [1, 2, 3, 0] rfl)
  · have h := if_f hc h
    refine lv_iconst (pc := 1409) (v := (0 : Int32)) hx hb dL_law_1409 (by decide) ?_
    exact absurd (so2 h).1 (by decide)
set_option maxHeartbeats 4000000 in
set_option maxRecDepth 100000 in
theorem wjL_law_1344 {p : Program} {l : Launch} {e : Env} {s : State} {m : MethodId} {below : List Frame} {meth : Method} {c : Code} {P : PT} {b L N : Nat} {xs : Nat → Int32} {M9 : Mm} (hX : Cl p s m c meth b P) (hXs : va_X b L xs s s.heap) (hbl : b < s.heap.size) (hbA : ¬ pB P ≤ b) {K18 : Mm → Nat → Nat → Int32 → Option (Int32 × Mm)} {cl n : Nat} (hcl : cl + 5 * (n + 1) ≤ 7000) (hK18 : ∀ (cl : Nat) (_ : cl + 5 * n ≤ 7000) (M : Mm) (x1 x2 : Nat) (x3 : Int32), K18 M x1 x2 x3 = some (1, M9) → Wl p l e s m below meth c b P cl 18 [(0, .ref b), (1, .ref (pB P + x1)), (2, .ref (pB P + x2)), (3, .int x3)] [] M) (M : Mm) (x1 x2 : Nat) (x3 : Int32) (h : jL_law_1344 N L xs K18 M x1 x2 x3 = some (1, M9)) : Wl p l e s m below meth c b P cl 1344 [(0, .ref b), (1, .ref (pB P + x1)), (2, .ref (pB P + x2)), (3, .int x3)] [] M := by
  unfold jL_law_1344 at h
  obtain ⟨X, hr, hlk, hBs⟩ := id hX
  have hx := X.1.1
  have hb := X.1.2.1
  intro H locs ls hM hl
  refine lv_aload_n (pc := 1344) hx hb dL_law_1344 rfl (lv_at hl 1 rfl) ?_
  refine lv_aload_n (pc := 1345) hx hb dL_law_1345 rfl (lv_at hl 0 rfl) ?_
  refine lv_iload_n (pc := 1346) hx hb dL_law_1346 rfl (lv_at hl 3 rfl) ?_
  refine lv_iconst (pc := 1347) (v := (1 : Int32)) hx hb dL_law_1347 (by decide) ?_
  refine lv_iadd (pc := 1348) hx hb dL_law_1348 ?_
  obtain ⟨v1, e2, h⟩ := ob h
  obtain ⟨hin, rfl⟩ := sX_spec e2
  refine va_sld (pc := 1349) hx hb hXs hbl hbA hM.2 hin dL_law_1349 ?_
  refine lv_aload_n (pc := 1350) hx hb dL_law_1350 rfl (lv_at hl 0 rfl) ?_
  refine lv_iload_n (pc := 1351) hx hb dL_law_1351 rfl (lv_at hl 3 rfl) ?_
  refine lv_iconst (pc := 1352) (v := (2 : Int32)) hx hb dL_law_1352 (by decide) ?_
  refine lv_iadd (pc := 1353) hx hb dL_law_1353 ?_
  obtain ⟨v3, e4, h⟩ := ob h
  obtain ⟨hin, rfl⟩ := sX_spec e4
  refine va_sld (pc := 1354) hx hb hXs hbl hbA hM.2 hin dL_law_1354 ?_
  refine lv_aload_n (pc := 1355) hx hb dL_law_1355 rfl (lv_at hl 0 rfl) ?_
  refine lv_iload_n (pc := 1356) hx hb dL_law_1356 rfl (lv_at hl 3 rfl) ?_
  refine lv_iconst (pc := 1357) (v := (3 : Int32)) hx hb dL_law_1357 (by decide) ?_
  refine lv_iadd (pc := 1358) hx hb dL_law_1358 ?_
  obtain ⟨v5, e6, h⟩ := ob h
  obtain ⟨hin, rfl⟩ := sX_spec e6
  refine va_sld (pc := 1359) hx hb hXs hbl hbA hM.2 hin dL_law_1359 ?_
  obtain ⟨v8, M9, e7, h⟩ := ob2 h
  obtain ⟨fs10, hb11⟩ := (rX10_all e7)
  refine bz_callV1 (pc := 1360) (As := [.int (xs ((x3 + (1 : Int32))).toNatClampNeg), .int (xs ((x3 + (2 : Int32))).toNatClampNeg), .int (xs ((x3 + (3 : Int32))).toNatClampNeg)]) (rest := []) X hM hl.1 k_RL_133 (ctX10_all l e7) rfl hb11 rfl rfl ⟨(Nat.le_of_ble_eq_true rfl), (Nat.le_of_ble_eq_true rfl)⟩ (Nat.le_of_ble_eq_true rfl) ⟨by show _ ≤ 600000; omega, by show _ ≤ 7302250; omega⟩ dL_law_1360 (fun H locs hM => ?_)
  refine lv_aload_n (pc := 1363) hx hb dL_law_1363 rfl (lv_at hl 2 rfl) ?_
  refine lv_aload_n (pc := 1364) hx hb dL_law_1364 rfl (lv_at hl 0 rfl) ?_
  refine lv_iload_n (pc := 1365) hx hb dL_law_1365 rfl (lv_at hl 3 rfl) ?_
  refine lv_iconst (pc := 1366) (v := (1 : Int32)) hx hb dL_law_1366 (by decide) ?_
  refine lv_iadd (pc := 1367) hx hb dL_law_1367 ?_
  obtain ⟨v12, e13, h⟩ := ob h
  obtain ⟨hin, rfl⟩ := sX_spec e13
  refine va_sld (pc := 1368) hx hb hXs hbl hbA hM.2 hin dL_law_1368 ?_
  refine lv_aload_n (pc := 1369) hx hb dL_law_1369 rfl (lv_at hl 0 rfl) ?_
  refine lv_iload_n (pc := 1370) hx hb dL_law_1370 rfl (lv_at hl 3 rfl) ?_
  refine lv_iconst (pc := 1371) (v := (2 : Int32)) hx hb dL_law_1371 (by decide) ?_
  refine lv_iadd (pc := 1372) hx hb dL_law_1372 ?_
  obtain ⟨v14, e15, h⟩ := ob h
  obtain ⟨hin, rfl⟩ := sX_spec e15
  refine va_sld (pc := 1373) hx hb hXs hbl hbA hM.2 hin dL_law_1373 ?_
  refine lv_aload_n (pc := 1374) hx hb dL_law_1374 rfl (lv_at hl 0 rfl) ?_
  refine lv_iload_n (pc := 1375) hx hb dL_law_1375 rfl (lv_at hl 3 rfl) ?_
  refine lv_iconst (pc := 1376) (v := (3 : Int32)) hx hb dL_law_1376 (by decide) ?_
  refine lv_iadd (pc := 1377) hx hb dL_law_1377 ?_
  obtain ⟨v16, e17, h⟩ := ob h
  obtain ⟨hin, rfl⟩ := sX_spec e17
  refine va_sld (pc := 1378) hx hb hXs hbl hbA hM.2 hin dL_law_1378 ?_
  obtain ⟨v19, M20, e18, h⟩ := ob2 h
  obtain ⟨fs21, hb22⟩ := (rX11_all e18)
  refine bz_callV1 (pc := 1379) (As := [.int (xs ((x3 + (1 : Int32))).toNatClampNeg), .int (xs ((x3 + (2 : Int32))).toNatClampNeg), .int (xs ((x3 + (3 : Int32))).toNatClampNeg)]) (rest := [.long v8]) X hM hl.1 k_RL_137 (ctX11_all l e18) rfl hb22 rfl rfl ⟨(Nat.le_of_ble_eq_true rfl), (Nat.le_of_ble_eq_true rfl)⟩ (Nat.le_of_ble_eq_true rfl) ⟨by show _ ≤ 600000; omega, by show _ ≤ 7302250; omega⟩ dL_law_1379 (fun H locs hM => ?_)
  refine W.lcmp (pc := 1382) hx hb dL_law_1382 ?_
  refine lv_if_eq (pc := 1383) (tgt := 1965) hx hb dL_law_1383 (by decide) (fun hc => ?_) (fun hc => ?_)
  · have h := if_t hc h
    refine lv_iinc (pc := 1965) (v := (x3 + (6 : Int32))) (lv' := [(3, .int (x3 + (6 : Int32))), (0, .ref b), (1, .ref (pB P + x1)), (2, .ref (pB P + x2))]) hx hb dL_law_1965 hl (k := 3) rfl rfl (by decide) rfl (fun ls hl => ?_)
    refine lv_goto (pc := 1968) (tgt := 18) hx hb dL_law_1968 (by decide) ?_
    refine W.widen (k := cl + 5) (n := 1000 * (cl + 5)) (by omega) (by omega) ?_
    exact hK18 (cl + 5) (by omega) _ _ _ _ h H locs ls hM (lv_sub hl [1, 2, 3, 0] rfl)
  · have h := if_f hc h
    refine lv_iconst (pc := 1386) (v := (0 : Int32)) hx hb dL_law_1386 (by decide) ?_
    exact absurd (so2 h).1 (by decide)
set_option maxHeartbeats 4000000 in
set_option maxRecDepth 100000 in
theorem wjL_law_1311 {p : Program} {l : Launch} {e : Env} {s : State} {m : MethodId} {below : List Frame} {meth : Method} {c : Code} {P : PT} {b L N : Nat} {xs : Nat → Int32} {M9 : Mm} (hX : Cl p s m c meth b P) (hXs : va_X b L xs s s.heap) (hbl : b < s.heap.size) (hbA : ¬ pB P ≤ b) {K18 : Mm → Nat → Nat → Int32 → Option (Int32 × Mm)} {cl n : Nat} (hcl : cl + 5 * (n + 1) ≤ 7000) (hK18 : ∀ (cl : Nat) (_ : cl + 5 * n ≤ 7000) (M : Mm) (x1 x2 : Nat) (x3 : Int32), K18 M x1 x2 x3 = some (1, M9) → Wl p l e s m below meth c b P cl 18 [(0, .ref b), (1, .ref (pB P + x1)), (2, .ref (pB P + x2)), (3, .int x3)] [] M) (M : Mm) (x1 x2 : Nat) (x3 : Int32) (h : jL_law_1311 N L xs K18 M x1 x2 x3 = some (1, M9)) : Wl p l e s m below meth c b P cl 1311 [(0, .ref b), (1, .ref (pB P + x1)), (2, .ref (pB P + x2)), (3, .int x3)] [] M := by
  unfold jL_law_1311 at h
  obtain ⟨X, hr, hlk, hBs⟩ := id hX
  have hx := X.1.1
  have hb := X.1.2.1
  intro H locs ls hM hl
  refine lv_aload_n (pc := 1311) hx hb dL_law_1311 rfl (lv_at hl 1 rfl) ?_
  refine lv_aload_n (pc := 1312) hx hb dL_law_1312 rfl (lv_at hl 0 rfl) ?_
  refine lv_iload_n (pc := 1313) hx hb dL_law_1313 rfl (lv_at hl 3 rfl) ?_
  refine lv_iconst (pc := 1314) (v := (1 : Int32)) hx hb dL_law_1314 (by decide) ?_
  refine lv_iadd (pc := 1315) hx hb dL_law_1315 ?_
  obtain ⟨v1, e2, h⟩ := ob h
  obtain ⟨hin, rfl⟩ := sX_spec e2
  refine va_sld (pc := 1316) hx hb hXs hbl hbA hM.2 hin dL_law_1316 ?_
  refine lv_aload_n (pc := 1317) hx hb dL_law_1317 rfl (lv_at hl 0 rfl) ?_
  refine lv_iload_n (pc := 1318) hx hb dL_law_1318 rfl (lv_at hl 3 rfl) ?_
  refine lv_iconst (pc := 1319) (v := (2 : Int32)) hx hb dL_law_1319 (by decide) ?_
  refine lv_iadd (pc := 1320) hx hb dL_law_1320 ?_
  obtain ⟨v3, e4, h⟩ := ob h
  obtain ⟨hin, rfl⟩ := sX_spec e4
  refine va_sld (pc := 1321) hx hb hXs hbl hbA hM.2 hin dL_law_1321 ?_
  obtain ⟨v6, M7, e5, h⟩ := ob2 h
  obtain ⟨fs8, hb9⟩ := (rX10_year e5)
  refine bz_callV1 (pc := 1322) (As := [.int (xs ((x3 + (1 : Int32))).toNatClampNeg), .int (xs ((x3 + (2 : Int32))).toNatClampNeg)]) (rest := []) X hM hl.1 k_RL_129 (ctX10_year l e5) rfl hb9 rfl rfl ⟨(Nat.le_of_ble_eq_true rfl), (Nat.le_of_ble_eq_true rfl)⟩ (Nat.le_of_ble_eq_true rfl) ⟨by show _ ≤ 600000; omega, by show _ ≤ 7302250; omega⟩ dL_law_1322 (fun H locs hM => ?_)
  refine lv_aload_n (pc := 1325) hx hb dL_law_1325 rfl (lv_at hl 2 rfl) ?_
  refine lv_aload_n (pc := 1326) hx hb dL_law_1326 rfl (lv_at hl 0 rfl) ?_
  refine lv_iload_n (pc := 1327) hx hb dL_law_1327 rfl (lv_at hl 3 rfl) ?_
  refine lv_iconst (pc := 1328) (v := (1 : Int32)) hx hb dL_law_1328 (by decide) ?_
  refine lv_iadd (pc := 1329) hx hb dL_law_1329 ?_
  obtain ⟨v10, e11, h⟩ := ob h
  obtain ⟨hin, rfl⟩ := sX_spec e11
  refine va_sld (pc := 1330) hx hb hXs hbl hbA hM.2 hin dL_law_1330 ?_
  refine lv_aload_n (pc := 1331) hx hb dL_law_1331 rfl (lv_at hl 0 rfl) ?_
  refine lv_iload_n (pc := 1332) hx hb dL_law_1332 rfl (lv_at hl 3 rfl) ?_
  refine lv_iconst (pc := 1333) (v := (2 : Int32)) hx hb dL_law_1333 (by decide) ?_
  refine lv_iadd (pc := 1334) hx hb dL_law_1334 ?_
  obtain ⟨v12, e13, h⟩ := ob h
  obtain ⟨hin, rfl⟩ := sX_spec e13
  refine va_sld (pc := 1335) hx hb hXs hbl hbA hM.2 hin dL_law_1335 ?_
  obtain ⟨v15, M16, e14, h⟩ := ob2 h
  obtain ⟨fs17, hb18⟩ := (rX11_year e14)
  refine bz_callV1 (pc := 1336) (As := [.int (xs ((x3 + (1 : Int32))).toNatClampNeg), .int (xs ((x3 + (2 : Int32))).toNatClampNeg)]) (rest := [.int v6]) X hM hl.1 k_RL_132 (ctX11_year l e14) rfl hb18 rfl rfl ⟨(Nat.le_of_ble_eq_true rfl), (Nat.le_of_ble_eq_true rfl)⟩ (Nat.le_of_ble_eq_true rfl) ⟨by show _ ≤ 600000; omega, by show _ ≤ 7302250; omega⟩ dL_law_1336 (fun H locs hM => ?_)
  refine lv_icmp_eq (pc := 1339) (tgt := 1965) hx hb dL_law_1339 (by decide) (fun hc => ?_) (fun hc => ?_)
  · have h := if_t hc h
    refine lv_iinc (pc := 1965) (v := (x3 + (6 : Int32))) (lv' := [(3, .int (x3 + (6 : Int32))), (0, .ref b), (1, .ref (pB P + x1)), (2, .ref (pB P + x2))]) hx hb dL_law_1965 hl (k := 3) rfl rfl (by decide) rfl (fun ls hl => ?_)
    refine lv_goto (pc := 1968) (tgt := 18) hx hb dL_law_1968 (by decide) ?_
    refine W.widen (k := cl + 5) (n := 1000 * (cl + 5)) (by omega) (by omega) ?_
    exact hK18 (cl + 5) (by omega) _ _ _ _ h H locs ls hM (lv_sub hl [1, 2, 3, 0] rfl)
  · have h := if_f hc h
    refine lv_iconst (pc := 1342) (v := (0 : Int32)) hx hb dL_law_1342 (by decide) ?_
    exact absurd (so2 h).1 (by decide)
set_option maxHeartbeats 4000000 in
set_option maxRecDepth 100000 in
theorem wjL_law_1278 {p : Program} {l : Launch} {e : Env} {s : State} {m : MethodId} {below : List Frame} {meth : Method} {c : Code} {P : PT} {b L N : Nat} {xs : Nat → Int32} {M9 : Mm} (hX : Cl p s m c meth b P) (hXs : va_X b L xs s s.heap) (hbl : b < s.heap.size) (hbA : ¬ pB P ≤ b) {K18 : Mm → Nat → Nat → Int32 → Option (Int32 × Mm)} {cl n : Nat} (hcl : cl + 5 * (n + 1) ≤ 7000) (hK18 : ∀ (cl : Nat) (_ : cl + 5 * n ≤ 7000) (M : Mm) (x1 x2 : Nat) (x3 : Int32), K18 M x1 x2 x3 = some (1, M9) → Wl p l e s m below meth c b P cl 18 [(0, .ref b), (1, .ref (pB P + x1)), (2, .ref (pB P + x2)), (3, .int x3)] [] M) (M : Mm) (x1 x2 : Nat) (x3 : Int32) (h : jL_law_1278 N L xs K18 M x1 x2 x3 = some (1, M9)) : Wl p l e s m below meth c b P cl 1278 [(0, .ref b), (1, .ref (pB P + x1)), (2, .ref (pB P + x2)), (3, .int x3)] [] M := by
  unfold jL_law_1278 at h
  obtain ⟨X, hr, hlk, hBs⟩ := id hX
  have hx := X.1.1
  have hb := X.1.2.1
  intro H locs ls hM hl
  refine lv_aload_n (pc := 1278) hx hb dL_law_1278 rfl (lv_at hl 1 rfl) ?_
  refine lv_aload_n (pc := 1279) hx hb dL_law_1279 rfl (lv_at hl 0 rfl) ?_
  refine lv_iload_n (pc := 1280) hx hb dL_law_1280 rfl (lv_at hl 3 rfl) ?_
  refine lv_iconst (pc := 1281) (v := (1 : Int32)) hx hb dL_law_1281 (by decide) ?_
  refine lv_iadd (pc := 1282) hx hb dL_law_1282 ?_
  obtain ⟨v1, e2, h⟩ := ob h
  obtain ⟨hin, rfl⟩ := sX_spec e2
  refine va_sld (pc := 1283) hx hb hXs hbl hbA hM.2 hin dL_law_1283 ?_
  refine lv_aload_n (pc := 1284) hx hb dL_law_1284 rfl (lv_at hl 0 rfl) ?_
  refine lv_iload_n (pc := 1285) hx hb dL_law_1285 rfl (lv_at hl 3 rfl) ?_
  refine lv_iconst (pc := 1286) (v := (2 : Int32)) hx hb dL_law_1286 (by decide) ?_
  refine lv_iadd (pc := 1287) hx hb dL_law_1287 ?_
  obtain ⟨v3, e4, h⟩ := ob h
  obtain ⟨hin, rfl⟩ := sX_spec e4
  refine va_sld (pc := 1288) hx hb hXs hbl hbA hM.2 hin dL_law_1288 ?_
  obtain ⟨v6, M7, e5, h⟩ := ob2 h
  obtain ⟨fs8, hb9⟩ := (rX10_weight e5)
  refine bz_callV1 (pc := 1289) (As := [.int (xs ((x3 + (1 : Int32))).toNatClampNeg), .int (xs ((x3 + (2 : Int32))).toNatClampNeg)]) (rest := []) X hM hl.1 k_RL_125 (ctX10_weight l e5) rfl hb9 rfl rfl ⟨(Nat.le_of_ble_eq_true rfl), (Nat.le_of_ble_eq_true rfl)⟩ (Nat.le_of_ble_eq_true rfl) ⟨by show _ ≤ 600000; omega, by show _ ≤ 7302250; omega⟩ dL_law_1289 (fun H locs hM => ?_)
  refine lv_aload_n (pc := 1292) hx hb dL_law_1292 rfl (lv_at hl 2 rfl) ?_
  refine lv_aload_n (pc := 1293) hx hb dL_law_1293 rfl (lv_at hl 0 rfl) ?_
  refine lv_iload_n (pc := 1294) hx hb dL_law_1294 rfl (lv_at hl 3 rfl) ?_
  refine lv_iconst (pc := 1295) (v := (1 : Int32)) hx hb dL_law_1295 (by decide) ?_
  refine lv_iadd (pc := 1296) hx hb dL_law_1296 ?_
  obtain ⟨v10, e11, h⟩ := ob h
  obtain ⟨hin, rfl⟩ := sX_spec e11
  refine va_sld (pc := 1297) hx hb hXs hbl hbA hM.2 hin dL_law_1297 ?_
  refine lv_aload_n (pc := 1298) hx hb dL_law_1298 rfl (lv_at hl 0 rfl) ?_
  refine lv_iload_n (pc := 1299) hx hb dL_law_1299 rfl (lv_at hl 3 rfl) ?_
  refine lv_iconst (pc := 1300) (v := (2 : Int32)) hx hb dL_law_1300 (by decide) ?_
  refine lv_iadd (pc := 1301) hx hb dL_law_1301 ?_
  obtain ⟨v12, e13, h⟩ := ob h
  obtain ⟨hin, rfl⟩ := sX_spec e13
  refine va_sld (pc := 1302) hx hb hXs hbl hbA hM.2 hin dL_law_1302 ?_
  obtain ⟨v15, M16, e14, h⟩ := ob2 h
  obtain ⟨fs17, hb18⟩ := (rX11_weight e14)
  refine bz_callV1 (pc := 1303) (As := [.int (xs ((x3 + (1 : Int32))).toNatClampNeg), .int (xs ((x3 + (2 : Int32))).toNatClampNeg)]) (rest := [.int v6]) X hM hl.1 k_RL_128 (ctX11_weight l e14) rfl hb18 rfl rfl ⟨(Nat.le_of_ble_eq_true rfl), (Nat.le_of_ble_eq_true rfl)⟩ (Nat.le_of_ble_eq_true rfl) ⟨by show _ ≤ 600000; omega, by show _ ≤ 7302250; omega⟩ dL_law_1303 (fun H locs hM => ?_)
  refine lv_icmp_eq (pc := 1306) (tgt := 1965) hx hb dL_law_1306 (by decide) (fun hc => ?_) (fun hc => ?_)
  · have h := if_t hc h
    refine lv_iinc (pc := 1965) (v := (x3 + (6 : Int32))) (lv' := [(3, .int (x3 + (6 : Int32))), (0, .ref b), (1, .ref (pB P + x1)), (2, .ref (pB P + x2))]) hx hb dL_law_1965 hl (k := 3) rfl rfl (by decide) rfl (fun ls hl => ?_)
    refine lv_goto (pc := 1968) (tgt := 18) hx hb dL_law_1968 (by decide) ?_
    refine W.widen (k := cl + 5) (n := 1000 * (cl + 5)) (by omega) (by omega) ?_
    exact hK18 (cl + 5) (by omega) _ _ _ _ h H locs ls hM (lv_sub hl [1, 2, 3, 0] rfl)
  · have h := if_f hc h
    refine lv_iconst (pc := 1309) (v := (0 : Int32)) hx hb dL_law_1309 (by decide) ?_
    exact absurd (so2 h).1 (by decide)
set_option maxHeartbeats 4000000 in
set_option maxRecDepth 100000 in
theorem wjL_law_1215 {p : Program} {l : Launch} {e : Env} {s : State} {m : MethodId} {below : List Frame} {meth : Method} {c : Code} {P : PT} {b L N : Nat} {xs : Nat → Int32} {M9 : Mm} (hX : Cl p s m c meth b P) (hXs : va_X b L xs s s.heap) (hbl : b < s.heap.size) (hbA : ¬ pB P ≤ b) {K18 : Mm → Nat → Nat → Int32 → Option (Int32 × Mm)} {cl n : Nat} (hcl : cl + 5 * (n + 1) ≤ 7000) (hK18 : ∀ (cl : Nat) (_ : cl + 5 * n ≤ 7000) (M : Mm) (x1 x2 : Nat) (x3 : Int32), K18 M x1 x2 x3 = some (1, M9) → Wl p l e s m below meth c b P cl 18 [(0, .ref b), (1, .ref (pB P + x1)), (2, .ref (pB P + x2)), (3, .int x3)] [] M) (M : Mm) (x1 x2 : Nat) (x3 : Int32) (h : jL_law_1215 N L xs K18 M x1 x2 x3 = some (1, M9)) : Wl p l e s m below meth c b P cl 1215 [(0, .ref b), (1, .ref (pB P + x1)), (2, .ref (pB P + x2)), (3, .int x3)] [] M := by
  unfold jL_law_1215 at h
  obtain ⟨X, hr, hlk, hBs⟩ := id hX
  have hx := X.1.1
  have hb := X.1.2.1
  intro H locs ls hM hl
  refine lv_aload_n (pc := 1215) hx hb dL_law_1215 rfl (lv_at hl 1 rfl) ?_
  refine lv_aload_n (pc := 1216) hx hb dL_law_1216 rfl (lv_at hl 0 rfl) ?_
  refine lv_iload_n (pc := 1217) hx hb dL_law_1217 rfl (lv_at hl 3 rfl) ?_
  refine lv_iconst (pc := 1218) (v := (1 : Int32)) hx hb dL_law_1218 (by decide) ?_
  refine lv_iadd (pc := 1219) hx hb dL_law_1219 ?_
  obtain ⟨v1, e2, h⟩ := ob h
  obtain ⟨hin, rfl⟩ := sX_spec e2
  refine va_sld (pc := 1220) hx hb hXs hbl hbA hM.2 hin dL_law_1220 ?_
  refine lv_aload_n (pc := 1221) hx hb dL_law_1221 rfl (lv_at hl 0 rfl) ?_
  refine lv_iload_n (pc := 1222) hx hb dL_law_1222 rfl (lv_at hl 3 rfl) ?_
  refine lv_iconst (pc := 1223) (v := (2 : Int32)) hx hb dL_law_1223 (by decide) ?_
  refine lv_iadd (pc := 1224) hx hb dL_law_1224 ?_
  obtain ⟨v3, e4, h⟩ := ob h
  obtain ⟨hin, rfl⟩ := sX_spec e4
  refine va_sld (pc := 1225) hx hb hXs hbl hbA hM.2 hin dL_law_1225 ?_
  refine lv_aload_n (pc := 1226) hx hb dL_law_1226 rfl (lv_at hl 0 rfl) ?_
  refine lv_iload_n (pc := 1227) hx hb dL_law_1227 rfl (lv_at hl 3 rfl) ?_
  refine lv_iconst (pc := 1228) (v := (3 : Int32)) hx hb dL_law_1228 (by decide) ?_
  refine lv_iadd (pc := 1229) hx hb dL_law_1229 ?_
  obtain ⟨v5, e6, h⟩ := ob h
  obtain ⟨hin, rfl⟩ := sX_spec e6
  refine va_sld (pc := 1230) hx hb hXs hbl hbA hM.2 hin dL_law_1230 ?_
  refine lv_aload_n (pc := 1231) hx hb dL_law_1231 rfl (lv_at hl 0 rfl) ?_
  refine lv_iload_n (pc := 1232) hx hb dL_law_1232 rfl (lv_at hl 3 rfl) ?_
  refine lv_iconst (pc := 1233) (v := (4 : Int32)) hx hb dL_law_1233 (by decide) ?_
  refine lv_iadd (pc := 1234) hx hb dL_law_1234 ?_
  obtain ⟨v7, e8, h⟩ := ob h
  obtain ⟨hin, rfl⟩ := sX_spec e8
  refine va_sld (pc := 1235) hx hb hXs hbl hbA hM.2 hin dL_law_1235 ?_
  refine lv_aload_n (pc := 1236) hx hb dL_law_1236 rfl (lv_at hl 0 rfl) ?_
  refine lv_iload_n (pc := 1237) hx hb dL_law_1237 rfl (lv_at hl 3 rfl) ?_
  refine lv_iconst (pc := 1238) (v := (5 : Int32)) hx hb dL_law_1238 (by decide) ?_
  refine lv_iadd (pc := 1239) hx hb dL_law_1239 ?_
  obtain ⟨v9, e10, h⟩ := ob h
  obtain ⟨hin, rfl⟩ := sX_spec e10
  refine va_sld (pc := 1240) hx hb hXs hbl hbA hM.2 hin dL_law_1240 ?_
  obtain ⟨v12, M13, e11, h⟩ := ob2 h
  obtain ⟨fs14, hb15⟩ := (rX10_tried e11)
  refine bz_callV1 (pc := 1241) (As := [.int (xs ((x3 + (1 : Int32))).toNatClampNeg), .int (xs ((x3 + (2 : Int32))).toNatClampNeg), .int (xs ((x3 + (3 : Int32))).toNatClampNeg), .int (xs ((x3 + (4 : Int32))).toNatClampNeg), .int (xs ((x3 + (5 : Int32))).toNatClampNeg)]) (rest := []) X hM hl.1 k_RL_121 (ctX10_tried l e11) rfl hb15 rfl rfl ⟨(Nat.le_of_ble_eq_true rfl), (Nat.le_of_ble_eq_true rfl)⟩ (Nat.le_of_ble_eq_true rfl) ⟨by show _ ≤ 600000; omega, by show _ ≤ 7302250; omega⟩ dL_law_1241 (fun H locs hM => ?_)
  refine lv_aload_n (pc := 1244) hx hb dL_law_1244 rfl (lv_at hl 2 rfl) ?_
  refine lv_aload_n (pc := 1245) hx hb dL_law_1245 rfl (lv_at hl 0 rfl) ?_
  refine lv_iload_n (pc := 1246) hx hb dL_law_1246 rfl (lv_at hl 3 rfl) ?_
  refine lv_iconst (pc := 1247) (v := (1 : Int32)) hx hb dL_law_1247 (by decide) ?_
  refine lv_iadd (pc := 1248) hx hb dL_law_1248 ?_
  obtain ⟨v16, e17, h⟩ := ob h
  obtain ⟨hin, rfl⟩ := sX_spec e17
  refine va_sld (pc := 1249) hx hb hXs hbl hbA hM.2 hin dL_law_1249 ?_
  refine lv_aload_n (pc := 1250) hx hb dL_law_1250 rfl (lv_at hl 0 rfl) ?_
  refine lv_iload_n (pc := 1251) hx hb dL_law_1251 rfl (lv_at hl 3 rfl) ?_
  refine lv_iconst (pc := 1252) (v := (2 : Int32)) hx hb dL_law_1252 (by decide) ?_
  refine lv_iadd (pc := 1253) hx hb dL_law_1253 ?_
  obtain ⟨v18, e19, h⟩ := ob h
  obtain ⟨hin, rfl⟩ := sX_spec e19
  refine va_sld (pc := 1254) hx hb hXs hbl hbA hM.2 hin dL_law_1254 ?_
  refine lv_aload_n (pc := 1255) hx hb dL_law_1255 rfl (lv_at hl 0 rfl) ?_
  refine lv_iload_n (pc := 1256) hx hb dL_law_1256 rfl (lv_at hl 3 rfl) ?_
  refine lv_iconst (pc := 1257) (v := (3 : Int32)) hx hb dL_law_1257 (by decide) ?_
  refine lv_iadd (pc := 1258) hx hb dL_law_1258 ?_
  obtain ⟨v20, e21, h⟩ := ob h
  obtain ⟨hin, rfl⟩ := sX_spec e21
  refine va_sld (pc := 1259) hx hb hXs hbl hbA hM.2 hin dL_law_1259 ?_
  refine lv_aload_n (pc := 1260) hx hb dL_law_1260 rfl (lv_at hl 0 rfl) ?_
  refine lv_iload_n (pc := 1261) hx hb dL_law_1261 rfl (lv_at hl 3 rfl) ?_
  refine lv_iconst (pc := 1262) (v := (4 : Int32)) hx hb dL_law_1262 (by decide) ?_
  refine lv_iadd (pc := 1263) hx hb dL_law_1263 ?_
  obtain ⟨v22, e23, h⟩ := ob h
  obtain ⟨hin, rfl⟩ := sX_spec e23
  refine va_sld (pc := 1264) hx hb hXs hbl hbA hM.2 hin dL_law_1264 ?_
  refine lv_aload_n (pc := 1265) hx hb dL_law_1265 rfl (lv_at hl 0 rfl) ?_
  refine lv_iload_n (pc := 1266) hx hb dL_law_1266 rfl (lv_at hl 3 rfl) ?_
  refine lv_iconst (pc := 1267) (v := (5 : Int32)) hx hb dL_law_1267 (by decide) ?_
  refine lv_iadd (pc := 1268) hx hb dL_law_1268 ?_
  obtain ⟨v24, e25, h⟩ := ob h
  obtain ⟨hin, rfl⟩ := sX_spec e25
  refine va_sld (pc := 1269) hx hb hXs hbl hbA hM.2 hin dL_law_1269 ?_
  obtain ⟨v27, M28, e26, h⟩ := ob2 h
  obtain ⟨fs29, hb30⟩ := (rX11_tried e26)
  refine bz_callV1 (pc := 1270) (As := [.int (xs ((x3 + (1 : Int32))).toNatClampNeg), .int (xs ((x3 + (2 : Int32))).toNatClampNeg), .int (xs ((x3 + (3 : Int32))).toNatClampNeg), .int (xs ((x3 + (4 : Int32))).toNatClampNeg), .int (xs ((x3 + (5 : Int32))).toNatClampNeg)]) (rest := [.int v12]) X hM hl.1 k_RL_124 (ctX11_tried l e26) rfl hb30 rfl rfl ⟨(Nat.le_of_ble_eq_true rfl), (Nat.le_of_ble_eq_true rfl)⟩ (Nat.le_of_ble_eq_true rfl) ⟨by show _ ≤ 600000; omega, by show _ ≤ 7302250; omega⟩ dL_law_1270 (fun H locs hM => ?_)
  refine lv_icmp_eq (pc := 1273) (tgt := 1965) hx hb dL_law_1273 (by decide) (fun hc => ?_) (fun hc => ?_)
  · have h := if_t hc h
    refine lv_iinc (pc := 1965) (v := (x3 + (6 : Int32))) (lv' := [(3, .int (x3 + (6 : Int32))), (0, .ref b), (1, .ref (pB P + x1)), (2, .ref (pB P + x2))]) hx hb dL_law_1965 hl (k := 3) rfl rfl (by decide) rfl (fun ls hl => ?_)
    refine lv_goto (pc := 1968) (tgt := 18) hx hb dL_law_1968 (by decide) ?_
    refine W.widen (k := cl + 5) (n := 1000 * (cl + 5)) (by omega) (by omega) ?_
    exact hK18 (cl + 5) (by omega) _ _ _ _ h H locs ls hM (lv_sub hl [1, 2, 3, 0] rfl)
  · have h := if_f hc h
    refine lv_iconst (pc := 1276) (v := (0 : Int32)) hx hb dL_law_1276 (by decide) ?_
    exact absurd (so2 h).1 (by decide)
set_option maxHeartbeats 4000000 in
set_option maxRecDepth 100000 in
theorem wjL_law_1162 {p : Program} {l : Launch} {e : Env} {s : State} {m : MethodId} {below : List Frame} {meth : Method} {c : Code} {P : PT} {b L N : Nat} {xs : Nat → Int32} {M9 : Mm} (hX : Cl p s m c meth b P) (hXs : va_X b L xs s s.heap) (hbl : b < s.heap.size) (hbA : ¬ pB P ≤ b) {K18 : Mm → Nat → Nat → Int32 → Option (Int32 × Mm)} {cl n : Nat} (hcl : cl + 5 * (n + 1) ≤ 7000) (hK18 : ∀ (cl : Nat) (_ : cl + 5 * n ≤ 7000) (M : Mm) (x1 x2 : Nat) (x3 : Int32), K18 M x1 x2 x3 = some (1, M9) → Wl p l e s m below meth c b P cl 18 [(0, .ref b), (1, .ref (pB P + x1)), (2, .ref (pB P + x2)), (3, .int x3)] [] M) (M : Mm) (x1 x2 : Nat) (x3 : Int32) (h : jL_law_1162 N L xs K18 M x1 x2 x3 = some (1, M9)) : Wl p l e s m below meth c b P cl 1162 [(0, .ref b), (1, .ref (pB P + x1)), (2, .ref (pB P + x2)), (3, .int x3)] [] M := by
  unfold jL_law_1162 at h
  obtain ⟨X, hr, hlk, hBs⟩ := id hX
  have hx := X.1.1
  have hb := X.1.2.1
  intro H locs ls hM hl
  refine lv_aload_n (pc := 1162) hx hb dL_law_1162 rfl (lv_at hl 1 rfl) ?_
  refine lv_aload_n (pc := 1163) hx hb dL_law_1163 rfl (lv_at hl 0 rfl) ?_
  refine lv_iload_n (pc := 1164) hx hb dL_law_1164 rfl (lv_at hl 3 rfl) ?_
  refine lv_iconst (pc := 1165) (v := (1 : Int32)) hx hb dL_law_1165 (by decide) ?_
  refine lv_iadd (pc := 1166) hx hb dL_law_1166 ?_
  obtain ⟨v1, e2, h⟩ := ob h
  obtain ⟨hin, rfl⟩ := sX_spec e2
  refine va_sld (pc := 1167) hx hb hXs hbl hbA hM.2 hin dL_law_1167 ?_
  refine lv_aload_n (pc := 1168) hx hb dL_law_1168 rfl (lv_at hl 0 rfl) ?_
  refine lv_iload_n (pc := 1169) hx hb dL_law_1169 rfl (lv_at hl 3 rfl) ?_
  refine lv_iconst (pc := 1170) (v := (2 : Int32)) hx hb dL_law_1170 (by decide) ?_
  refine lv_iadd (pc := 1171) hx hb dL_law_1171 ?_
  obtain ⟨v3, e4, h⟩ := ob h
  obtain ⟨hin, rfl⟩ := sX_spec e4
  refine va_sld (pc := 1172) hx hb hXs hbl hbA hM.2 hin dL_law_1172 ?_
  refine lv_aload_n (pc := 1173) hx hb dL_law_1173 rfl (lv_at hl 0 rfl) ?_
  refine lv_iload_n (pc := 1174) hx hb dL_law_1174 rfl (lv_at hl 3 rfl) ?_
  refine lv_iconst (pc := 1175) (v := (3 : Int32)) hx hb dL_law_1175 (by decide) ?_
  refine lv_iadd (pc := 1176) hx hb dL_law_1176 ?_
  obtain ⟨v5, e6, h⟩ := ob h
  obtain ⟨hin, rfl⟩ := sX_spec e6
  refine va_sld (pc := 1177) hx hb hXs hbl hbA hM.2 hin dL_law_1177 ?_
  refine lv_aload_n (pc := 1178) hx hb dL_law_1178 rfl (lv_at hl 0 rfl) ?_
  refine lv_iload_n (pc := 1179) hx hb dL_law_1179 rfl (lv_at hl 3 rfl) ?_
  refine lv_iconst (pc := 1180) (v := (4 : Int32)) hx hb dL_law_1180 (by decide) ?_
  refine lv_iadd (pc := 1181) hx hb dL_law_1181 ?_
  obtain ⟨v7, e8, h⟩ := ob h
  obtain ⟨hin, rfl⟩ := sX_spec e8
  refine va_sld (pc := 1182) hx hb hXs hbl hbA hM.2 hin dL_law_1182 ?_
  obtain ⟨v10, M11, e9, h⟩ := ob2 h
  obtain ⟨fs12, hb13⟩ := (rX10_stars e9)
  refine bz_callV1 (pc := 1183) (As := [.int (xs ((x3 + (1 : Int32))).toNatClampNeg), .int (xs ((x3 + (2 : Int32))).toNatClampNeg), .int (xs ((x3 + (3 : Int32))).toNatClampNeg), .int (xs ((x3 + (4 : Int32))).toNatClampNeg)]) (rest := []) X hM hl.1 k_RL_117 (ctX10_stars l e9) rfl hb13 rfl rfl ⟨(Nat.le_of_ble_eq_true rfl), (Nat.le_of_ble_eq_true rfl)⟩ (Nat.le_of_ble_eq_true rfl) ⟨by show _ ≤ 600000; omega, by show _ ≤ 7302250; omega⟩ dL_law_1183 (fun H locs hM => ?_)
  refine lv_aload_n (pc := 1186) hx hb dL_law_1186 rfl (lv_at hl 2 rfl) ?_
  refine lv_aload_n (pc := 1187) hx hb dL_law_1187 rfl (lv_at hl 0 rfl) ?_
  refine lv_iload_n (pc := 1188) hx hb dL_law_1188 rfl (lv_at hl 3 rfl) ?_
  refine lv_iconst (pc := 1189) (v := (1 : Int32)) hx hb dL_law_1189 (by decide) ?_
  refine lv_iadd (pc := 1190) hx hb dL_law_1190 ?_
  obtain ⟨v14, e15, h⟩ := ob h
  obtain ⟨hin, rfl⟩ := sX_spec e15
  refine va_sld (pc := 1191) hx hb hXs hbl hbA hM.2 hin dL_law_1191 ?_
  refine lv_aload_n (pc := 1192) hx hb dL_law_1192 rfl (lv_at hl 0 rfl) ?_
  refine lv_iload_n (pc := 1193) hx hb dL_law_1193 rfl (lv_at hl 3 rfl) ?_
  refine lv_iconst (pc := 1194) (v := (2 : Int32)) hx hb dL_law_1194 (by decide) ?_
  refine lv_iadd (pc := 1195) hx hb dL_law_1195 ?_
  obtain ⟨v16, e17, h⟩ := ob h
  obtain ⟨hin, rfl⟩ := sX_spec e17
  refine va_sld (pc := 1196) hx hb hXs hbl hbA hM.2 hin dL_law_1196 ?_
  refine lv_aload_n (pc := 1197) hx hb dL_law_1197 rfl (lv_at hl 0 rfl) ?_
  refine lv_iload_n (pc := 1198) hx hb dL_law_1198 rfl (lv_at hl 3 rfl) ?_
  refine lv_iconst (pc := 1199) (v := (3 : Int32)) hx hb dL_law_1199 (by decide) ?_
  refine lv_iadd (pc := 1200) hx hb dL_law_1200 ?_
  obtain ⟨v18, e19, h⟩ := ob h
  obtain ⟨hin, rfl⟩ := sX_spec e19
  refine va_sld (pc := 1201) hx hb hXs hbl hbA hM.2 hin dL_law_1201 ?_
  refine lv_aload_n (pc := 1202) hx hb dL_law_1202 rfl (lv_at hl 0 rfl) ?_
  refine lv_iload_n (pc := 1203) hx hb dL_law_1203 rfl (lv_at hl 3 rfl) ?_
  refine lv_iconst (pc := 1204) (v := (4 : Int32)) hx hb dL_law_1204 (by decide) ?_
  refine lv_iadd (pc := 1205) hx hb dL_law_1205 ?_
  obtain ⟨v20, e21, h⟩ := ob h
  obtain ⟨hin, rfl⟩ := sX_spec e21
  refine va_sld (pc := 1206) hx hb hXs hbl hbA hM.2 hin dL_law_1206 ?_
  obtain ⟨v23, M24, e22, h⟩ := ob2 h
  obtain ⟨fs25, hb26⟩ := (rX11_stars e22)
  refine bz_callV1 (pc := 1207) (As := [.int (xs ((x3 + (1 : Int32))).toNatClampNeg), .int (xs ((x3 + (2 : Int32))).toNatClampNeg), .int (xs ((x3 + (3 : Int32))).toNatClampNeg), .int (xs ((x3 + (4 : Int32))).toNatClampNeg)]) (rest := [.int v10]) X hM hl.1 k_RL_120 (ctX11_stars l e22) rfl hb26 rfl rfl ⟨(Nat.le_of_ble_eq_true rfl), (Nat.le_of_ble_eq_true rfl)⟩ (Nat.le_of_ble_eq_true rfl) ⟨by show _ ≤ 600000; omega, by show _ ≤ 7302250; omega⟩ dL_law_1207 (fun H locs hM => ?_)
  refine lv_icmp_eq (pc := 1210) (tgt := 1965) hx hb dL_law_1210 (by decide) (fun hc => ?_) (fun hc => ?_)
  · have h := if_t hc h
    refine lv_iinc (pc := 1965) (v := (x3 + (6 : Int32))) (lv' := [(3, .int (x3 + (6 : Int32))), (0, .ref b), (1, .ref (pB P + x1)), (2, .ref (pB P + x2))]) hx hb dL_law_1965 hl (k := 3) rfl rfl (by decide) rfl (fun ls hl => ?_)
    refine lv_goto (pc := 1968) (tgt := 18) hx hb dL_law_1968 (by decide) ?_
    refine W.widen (k := cl + 5) (n := 1000 * (cl + 5)) (by omega) (by omega) ?_
    exact hK18 (cl + 5) (by omega) _ _ _ _ h H locs ls hM (lv_sub hl [1, 2, 3, 0] rfl)
  · have h := if_f hc h
    refine lv_iconst (pc := 1213) (v := (0 : Int32)) hx hb dL_law_1213 (by decide) ?_
    exact absurd (so2 h).1 (by decide)
set_option maxHeartbeats 4000000 in
set_option maxRecDepth 100000 in
theorem wjL_law_1119 {p : Program} {l : Launch} {e : Env} {s : State} {m : MethodId} {below : List Frame} {meth : Method} {c : Code} {P : PT} {b L N : Nat} {xs : Nat → Int32} {M9 : Mm} (hX : Cl p s m c meth b P) (hXs : va_X b L xs s s.heap) (hbl : b < s.heap.size) (hbA : ¬ pB P ≤ b) {K18 : Mm → Nat → Nat → Int32 → Option (Int32 × Mm)} {cl n : Nat} (hcl : cl + 5 * (n + 1) ≤ 7000) (hK18 : ∀ (cl : Nat) (_ : cl + 5 * n ≤ 7000) (M : Mm) (x1 x2 : Nat) (x3 : Int32), K18 M x1 x2 x3 = some (1, M9) → Wl p l e s m below meth c b P cl 18 [(0, .ref b), (1, .ref (pB P + x1)), (2, .ref (pB P + x2)), (3, .int x3)] [] M) (M : Mm) (x1 x2 : Nat) (x3 : Int32) (h : jL_law_1119 N L xs K18 M x1 x2 x3 = some (1, M9)) : Wl p l e s m below meth c b P cl 1119 [(0, .ref b), (1, .ref (pB P + x1)), (2, .ref (pB P + x2)), (3, .int x3)] [] M := by
  unfold jL_law_1119 at h
  obtain ⟨X, hr, hlk, hBs⟩ := id hX
  have hx := X.1.1
  have hb := X.1.2.1
  intro H locs ls hM hl
  refine lv_aload_n (pc := 1119) hx hb dL_law_1119 rfl (lv_at hl 1 rfl) ?_
  refine lv_aload_n (pc := 1120) hx hb dL_law_1120 rfl (lv_at hl 0 rfl) ?_
  refine lv_iload_n (pc := 1121) hx hb dL_law_1121 rfl (lv_at hl 3 rfl) ?_
  refine lv_iconst (pc := 1122) (v := (1 : Int32)) hx hb dL_law_1122 (by decide) ?_
  refine lv_iadd (pc := 1123) hx hb dL_law_1123 ?_
  obtain ⟨v1, e2, h⟩ := ob h
  obtain ⟨hin, rfl⟩ := sX_spec e2
  refine va_sld (pc := 1124) hx hb hXs hbl hbA hM.2 hin dL_law_1124 ?_
  refine lv_aload_n (pc := 1125) hx hb dL_law_1125 rfl (lv_at hl 0 rfl) ?_
  refine lv_iload_n (pc := 1126) hx hb dL_law_1126 rfl (lv_at hl 3 rfl) ?_
  refine lv_iconst (pc := 1127) (v := (2 : Int32)) hx hb dL_law_1127 (by decide) ?_
  refine lv_iadd (pc := 1128) hx hb dL_law_1128 ?_
  obtain ⟨v3, e4, h⟩ := ob h
  obtain ⟨hin, rfl⟩ := sX_spec e4
  refine va_sld (pc := 1129) hx hb hXs hbl hbA hM.2 hin dL_law_1129 ?_
  refine lv_aload_n (pc := 1130) hx hb dL_law_1130 rfl (lv_at hl 0 rfl) ?_
  refine lv_iload_n (pc := 1131) hx hb dL_law_1131 rfl (lv_at hl 3 rfl) ?_
  refine lv_iconst (pc := 1132) (v := (3 : Int32)) hx hb dL_law_1132 (by decide) ?_
  refine lv_iadd (pc := 1133) hx hb dL_law_1133 ?_
  obtain ⟨v5, e6, h⟩ := ob h
  obtain ⟨hin, rfl⟩ := sX_spec e6
  refine va_sld (pc := 1134) hx hb hXs hbl hbA hM.2 hin dL_law_1134 ?_
  obtain ⟨v8, M9, e7, h⟩ := ob2 h
  obtain ⟨fs10, hb11⟩ := (rX10_spread e7)
  refine bz_callV1 (pc := 1135) (As := [.int (xs ((x3 + (1 : Int32))).toNatClampNeg), .int (xs ((x3 + (2 : Int32))).toNatClampNeg), .int (xs ((x3 + (3 : Int32))).toNatClampNeg)]) (rest := []) X hM hl.1 k_RL_113 (ctX10_spread l e7) rfl hb11 rfl rfl ⟨(Nat.le_of_ble_eq_true rfl), (Nat.le_of_ble_eq_true rfl)⟩ (Nat.le_of_ble_eq_true rfl) ⟨by show _ ≤ 600000; omega, by show _ ≤ 7302250; omega⟩ dL_law_1135 (fun H locs hM => ?_)
  refine lv_aload_n (pc := 1138) hx hb dL_law_1138 rfl (lv_at hl 2 rfl) ?_
  refine lv_aload_n (pc := 1139) hx hb dL_law_1139 rfl (lv_at hl 0 rfl) ?_
  refine lv_iload_n (pc := 1140) hx hb dL_law_1140 rfl (lv_at hl 3 rfl) ?_
  refine lv_iconst (pc := 1141) (v := (1 : Int32)) hx hb dL_law_1141 (by decide) ?_
  refine lv_iadd (pc := 1142) hx hb dL_law_1142 ?_
  obtain ⟨v12, e13, h⟩ := ob h
  obtain ⟨hin, rfl⟩ := sX_spec e13
  refine va_sld (pc := 1143) hx hb hXs hbl hbA hM.2 hin dL_law_1143 ?_
  refine lv_aload_n (pc := 1144) hx hb dL_law_1144 rfl (lv_at hl 0 rfl) ?_
  refine lv_iload_n (pc := 1145) hx hb dL_law_1145 rfl (lv_at hl 3 rfl) ?_
  refine lv_iconst (pc := 1146) (v := (2 : Int32)) hx hb dL_law_1146 (by decide) ?_
  refine lv_iadd (pc := 1147) hx hb dL_law_1147 ?_
  obtain ⟨v14, e15, h⟩ := ob h
  obtain ⟨hin, rfl⟩ := sX_spec e15
  refine va_sld (pc := 1148) hx hb hXs hbl hbA hM.2 hin dL_law_1148 ?_
  refine lv_aload_n (pc := 1149) hx hb dL_law_1149 rfl (lv_at hl 0 rfl) ?_
  refine lv_iload_n (pc := 1150) hx hb dL_law_1150 rfl (lv_at hl 3 rfl) ?_
  refine lv_iconst (pc := 1151) (v := (3 : Int32)) hx hb dL_law_1151 (by decide) ?_
  refine lv_iadd (pc := 1152) hx hb dL_law_1152 ?_
  obtain ⟨v16, e17, h⟩ := ob h
  obtain ⟨hin, rfl⟩ := sX_spec e17
  refine va_sld (pc := 1153) hx hb hXs hbl hbA hM.2 hin dL_law_1153 ?_
  obtain ⟨v19, M20, e18, h⟩ := ob2 h
  obtain ⟨fs21, hb22⟩ := (rX11_spread e18)
  refine bz_callV1 (pc := 1154) (As := [.int (xs ((x3 + (1 : Int32))).toNatClampNeg), .int (xs ((x3 + (2 : Int32))).toNatClampNeg), .int (xs ((x3 + (3 : Int32))).toNatClampNeg)]) (rest := [.int v8]) X hM hl.1 k_RL_116 (ctX11_spread l e18) rfl hb22 rfl rfl ⟨(Nat.le_of_ble_eq_true rfl), (Nat.le_of_ble_eq_true rfl)⟩ (Nat.le_of_ble_eq_true rfl) ⟨by show _ ≤ 600000; omega, by show _ ≤ 7302250; omega⟩ dL_law_1154 (fun H locs hM => ?_)
  refine lv_icmp_eq (pc := 1157) (tgt := 1965) hx hb dL_law_1157 (by decide) (fun hc => ?_) (fun hc => ?_)
  · have h := if_t hc h
    refine lv_iinc (pc := 1965) (v := (x3 + (6 : Int32))) (lv' := [(3, .int (x3 + (6 : Int32))), (0, .ref b), (1, .ref (pB P + x1)), (2, .ref (pB P + x2))]) hx hb dL_law_1965 hl (k := 3) rfl rfl (by decide) rfl (fun ls hl => ?_)
    refine lv_goto (pc := 1968) (tgt := 18) hx hb dL_law_1968 (by decide) ?_
    refine W.widen (k := cl + 5) (n := 1000 * (cl + 5)) (by omega) (by omega) ?_
    exact hK18 (cl + 5) (by omega) _ _ _ _ h H locs ls hM (lv_sub hl [1, 2, 3, 0] rfl)
  · have h := if_f hc h
    refine lv_iconst (pc := 1160) (v := (0 : Int32)) hx hb dL_law_1160 (by decide) ?_
    exact absurd (so2 h).1 (by decide)
set_option maxHeartbeats 4000000 in
set_option maxRecDepth 100000 in
theorem wjL_law_1066 {p : Program} {l : Launch} {e : Env} {s : State} {m : MethodId} {below : List Frame} {meth : Method} {c : Code} {P : PT} {b L N : Nat} {xs : Nat → Int32} {M9 : Mm} (hX : Cl p s m c meth b P) (hXs : va_X b L xs s s.heap) (hbl : b < s.heap.size) (hbA : ¬ pB P ≤ b) {K18 : Mm → Nat → Nat → Int32 → Option (Int32 × Mm)} {cl n : Nat} (hcl : cl + 5 * (n + 1) ≤ 7000) (hK18 : ∀ (cl : Nat) (_ : cl + 5 * n ≤ 7000) (M : Mm) (x1 x2 : Nat) (x3 : Int32), K18 M x1 x2 x3 = some (1, M9) → Wl p l e s m below meth c b P cl 18 [(0, .ref b), (1, .ref (pB P + x1)), (2, .ref (pB P + x2)), (3, .int x3)] [] M) (M : Mm) (x1 x2 : Nat) (x3 : Int32) (h : jL_law_1066 N L xs K18 M x1 x2 x3 = some (1, M9)) : Wl p l e s m below meth c b P cl 1066 [(0, .ref b), (1, .ref (pB P + x1)), (2, .ref (pB P + x2)), (3, .int x3)] [] M := by
  unfold jL_law_1066 at h
  obtain ⟨X, hr, hlk, hBs⟩ := id hX
  have hx := X.1.1
  have hb := X.1.2.1
  intro H locs ls hM hl
  refine lv_aload_n (pc := 1066) hx hb dL_law_1066 rfl (lv_at hl 1 rfl) ?_
  refine lv_aload_n (pc := 1067) hx hb dL_law_1067 rfl (lv_at hl 0 rfl) ?_
  refine lv_iload_n (pc := 1068) hx hb dL_law_1068 rfl (lv_at hl 3 rfl) ?_
  refine lv_iconst (pc := 1069) (v := (1 : Int32)) hx hb dL_law_1069 (by decide) ?_
  refine lv_iadd (pc := 1070) hx hb dL_law_1070 ?_
  obtain ⟨v1, e2, h⟩ := ob h
  obtain ⟨hin, rfl⟩ := sX_spec e2
  refine va_sld (pc := 1071) hx hb hXs hbl hbA hM.2 hin dL_law_1071 ?_
  refine lv_aload_n (pc := 1072) hx hb dL_law_1072 rfl (lv_at hl 0 rfl) ?_
  refine lv_iload_n (pc := 1073) hx hb dL_law_1073 rfl (lv_at hl 3 rfl) ?_
  refine lv_iconst (pc := 1074) (v := (2 : Int32)) hx hb dL_law_1074 (by decide) ?_
  refine lv_iadd (pc := 1075) hx hb dL_law_1075 ?_
  obtain ⟨v3, e4, h⟩ := ob h
  obtain ⟨hin, rfl⟩ := sX_spec e4
  refine va_sld (pc := 1076) hx hb hXs hbl hbA hM.2 hin dL_law_1076 ?_
  refine lv_aload_n (pc := 1077) hx hb dL_law_1077 rfl (lv_at hl 0 rfl) ?_
  refine lv_iload_n (pc := 1078) hx hb dL_law_1078 rfl (lv_at hl 3 rfl) ?_
  refine lv_iconst (pc := 1079) (v := (3 : Int32)) hx hb dL_law_1079 (by decide) ?_
  refine lv_iadd (pc := 1080) hx hb dL_law_1080 ?_
  obtain ⟨v5, e6, h⟩ := ob h
  obtain ⟨hin, rfl⟩ := sX_spec e6
  refine va_sld (pc := 1081) hx hb hXs hbl hbA hM.2 hin dL_law_1081 ?_
  refine lv_aload_n (pc := 1082) hx hb dL_law_1082 rfl (lv_at hl 0 rfl) ?_
  refine lv_iload_n (pc := 1083) hx hb dL_law_1083 rfl (lv_at hl 3 rfl) ?_
  refine lv_iconst (pc := 1084) (v := (4 : Int32)) hx hb dL_law_1084 (by decide) ?_
  refine lv_iadd (pc := 1085) hx hb dL_law_1085 ?_
  obtain ⟨v7, e8, h⟩ := ob h
  obtain ⟨hin, rfl⟩ := sX_spec e8
  refine va_sld (pc := 1086) hx hb hXs hbl hbA hM.2 hin dL_law_1086 ?_
  obtain ⟨v10, M11, e9, h⟩ := ob2 h
  obtain ⟨fs12, hb13⟩ := (rX10_hours e9)
  refine bz_callV1 (pc := 1087) (As := [.int (xs ((x3 + (1 : Int32))).toNatClampNeg), .int (xs ((x3 + (2 : Int32))).toNatClampNeg), .int (xs ((x3 + (3 : Int32))).toNatClampNeg), .int (xs ((x3 + (4 : Int32))).toNatClampNeg)]) (rest := []) X hM hl.1 k_RL_109 (ctX10_hours l e9) rfl hb13 rfl rfl ⟨(Nat.le_of_ble_eq_true rfl), (Nat.le_of_ble_eq_true rfl)⟩ (Nat.le_of_ble_eq_true rfl) ⟨by show _ ≤ 600000; omega, by show _ ≤ 7302250; omega⟩ dL_law_1087 (fun H locs hM => ?_)
  refine lv_aload_n (pc := 1090) hx hb dL_law_1090 rfl (lv_at hl 2 rfl) ?_
  refine lv_aload_n (pc := 1091) hx hb dL_law_1091 rfl (lv_at hl 0 rfl) ?_
  refine lv_iload_n (pc := 1092) hx hb dL_law_1092 rfl (lv_at hl 3 rfl) ?_
  refine lv_iconst (pc := 1093) (v := (1 : Int32)) hx hb dL_law_1093 (by decide) ?_
  refine lv_iadd (pc := 1094) hx hb dL_law_1094 ?_
  obtain ⟨v14, e15, h⟩ := ob h
  obtain ⟨hin, rfl⟩ := sX_spec e15
  refine va_sld (pc := 1095) hx hb hXs hbl hbA hM.2 hin dL_law_1095 ?_
  refine lv_aload_n (pc := 1096) hx hb dL_law_1096 rfl (lv_at hl 0 rfl) ?_
  refine lv_iload_n (pc := 1097) hx hb dL_law_1097 rfl (lv_at hl 3 rfl) ?_
  refine lv_iconst (pc := 1098) (v := (2 : Int32)) hx hb dL_law_1098 (by decide) ?_
  refine lv_iadd (pc := 1099) hx hb dL_law_1099 ?_
  obtain ⟨v16, e17, h⟩ := ob h
  obtain ⟨hin, rfl⟩ := sX_spec e17
  refine va_sld (pc := 1100) hx hb hXs hbl hbA hM.2 hin dL_law_1100 ?_
  refine lv_aload_n (pc := 1101) hx hb dL_law_1101 rfl (lv_at hl 0 rfl) ?_
  refine lv_iload_n (pc := 1102) hx hb dL_law_1102 rfl (lv_at hl 3 rfl) ?_
  refine lv_iconst (pc := 1103) (v := (3 : Int32)) hx hb dL_law_1103 (by decide) ?_
  refine lv_iadd (pc := 1104) hx hb dL_law_1104 ?_
  obtain ⟨v18, e19, h⟩ := ob h
  obtain ⟨hin, rfl⟩ := sX_spec e19
  refine va_sld (pc := 1105) hx hb hXs hbl hbA hM.2 hin dL_law_1105 ?_
  refine lv_aload_n (pc := 1106) hx hb dL_law_1106 rfl (lv_at hl 0 rfl) ?_
  refine lv_iload_n (pc := 1107) hx hb dL_law_1107 rfl (lv_at hl 3 rfl) ?_
  refine lv_iconst (pc := 1108) (v := (4 : Int32)) hx hb dL_law_1108 (by decide) ?_
  refine lv_iadd (pc := 1109) hx hb dL_law_1109 ?_
  obtain ⟨v20, e21, h⟩ := ob h
  obtain ⟨hin, rfl⟩ := sX_spec e21
  refine va_sld (pc := 1110) hx hb hXs hbl hbA hM.2 hin dL_law_1110 ?_
  obtain ⟨v23, M24, e22, h⟩ := ob2 h
  obtain ⟨fs25, hb26⟩ := (rX11_hours e22)
  refine bz_callV1 (pc := 1111) (As := [.int (xs ((x3 + (1 : Int32))).toNatClampNeg), .int (xs ((x3 + (2 : Int32))).toNatClampNeg), .int (xs ((x3 + (3 : Int32))).toNatClampNeg), .int (xs ((x3 + (4 : Int32))).toNatClampNeg)]) (rest := [.int v10]) X hM hl.1 k_RL_112 (ctX11_hours l e22) rfl hb26 rfl rfl ⟨(Nat.le_of_ble_eq_true rfl), (Nat.le_of_ble_eq_true rfl)⟩ (Nat.le_of_ble_eq_true rfl) ⟨by show _ ≤ 600000; omega, by show _ ≤ 7302250; omega⟩ dL_law_1111 (fun H locs hM => ?_)
  refine lv_icmp_eq (pc := 1114) (tgt := 1965) hx hb dL_law_1114 (by decide) (fun hc => ?_) (fun hc => ?_)
  · have h := if_t hc h
    refine lv_iinc (pc := 1965) (v := (x3 + (6 : Int32))) (lv' := [(3, .int (x3 + (6 : Int32))), (0, .ref b), (1, .ref (pB P + x1)), (2, .ref (pB P + x2))]) hx hb dL_law_1965 hl (k := 3) rfl rfl (by decide) rfl (fun ls hl => ?_)
    refine lv_goto (pc := 1968) (tgt := 18) hx hb dL_law_1968 (by decide) ?_
    refine W.widen (k := cl + 5) (n := 1000 * (cl + 5)) (by omega) (by omega) ?_
    exact hK18 (cl + 5) (by omega) _ _ _ _ h H locs ls hM (lv_sub hl [1, 2, 3, 0] rfl)
  · have h := if_f hc h
    refine lv_iconst (pc := 1117) (v := (0 : Int32)) hx hb dL_law_1117 (by decide) ?_
    exact absurd (so2 h).1 (by decide)
set_option maxHeartbeats 4000000 in
set_option maxRecDepth 100000 in
theorem wjL_law_1023 {p : Program} {l : Launch} {e : Env} {s : State} {m : MethodId} {below : List Frame} {meth : Method} {c : Code} {P : PT} {b L N : Nat} {xs : Nat → Int32} {M9 : Mm} (hX : Cl p s m c meth b P) (hXs : va_X b L xs s s.heap) (hbl : b < s.heap.size) (hbA : ¬ pB P ≤ b) {K18 : Mm → Nat → Nat → Int32 → Option (Int32 × Mm)} {cl n : Nat} (hcl : cl + 5 * (n + 1) ≤ 7000) (hK18 : ∀ (cl : Nat) (_ : cl + 5 * n ≤ 7000) (M : Mm) (x1 x2 : Nat) (x3 : Int32), K18 M x1 x2 x3 = some (1, M9) → Wl p l e s m below meth c b P cl 18 [(0, .ref b), (1, .ref (pB P + x1)), (2, .ref (pB P + x2)), (3, .int x3)] [] M) (M : Mm) (x1 x2 : Nat) (x3 : Int32) (h : jL_law_1023 N L xs K18 M x1 x2 x3 = some (1, M9)) : Wl p l e s m below meth c b P cl 1023 [(0, .ref b), (1, .ref (pB P + x1)), (2, .ref (pB P + x2)), (3, .int x3)] [] M := by
  unfold jL_law_1023 at h
  obtain ⟨X, hr, hlk, hBs⟩ := id hX
  have hx := X.1.1
  have hb := X.1.2.1
  intro H locs ls hM hl
  refine lv_aload_n (pc := 1023) hx hb dL_law_1023 rfl (lv_at hl 1 rfl) ?_
  refine lv_aload_n (pc := 1024) hx hb dL_law_1024 rfl (lv_at hl 0 rfl) ?_
  refine lv_iload_n (pc := 1025) hx hb dL_law_1025 rfl (lv_at hl 3 rfl) ?_
  refine lv_iconst (pc := 1026) (v := (1 : Int32)) hx hb dL_law_1026 (by decide) ?_
  refine lv_iadd (pc := 1027) hx hb dL_law_1027 ?_
  obtain ⟨v1, e2, h⟩ := ob h
  obtain ⟨hin, rfl⟩ := sX_spec e2
  refine va_sld (pc := 1028) hx hb hXs hbl hbA hM.2 hin dL_law_1028 ?_
  refine lv_aload_n (pc := 1029) hx hb dL_law_1029 rfl (lv_at hl 0 rfl) ?_
  refine lv_iload_n (pc := 1030) hx hb dL_law_1030 rfl (lv_at hl 3 rfl) ?_
  refine lv_iconst (pc := 1031) (v := (2 : Int32)) hx hb dL_law_1031 (by decide) ?_
  refine lv_iadd (pc := 1032) hx hb dL_law_1032 ?_
  obtain ⟨v3, e4, h⟩ := ob h
  obtain ⟨hin, rfl⟩ := sX_spec e4
  refine va_sld (pc := 1033) hx hb hXs hbl hbA hM.2 hin dL_law_1033 ?_
  refine lv_aload_n (pc := 1034) hx hb dL_law_1034 rfl (lv_at hl 0 rfl) ?_
  refine lv_iload_n (pc := 1035) hx hb dL_law_1035 rfl (lv_at hl 3 rfl) ?_
  refine lv_iconst (pc := 1036) (v := (3 : Int32)) hx hb dL_law_1036 (by decide) ?_
  refine lv_iadd (pc := 1037) hx hb dL_law_1037 ?_
  obtain ⟨v5, e6, h⟩ := ob h
  obtain ⟨hin, rfl⟩ := sX_spec e6
  refine va_sld (pc := 1038) hx hb hXs hbl hbA hM.2 hin dL_law_1038 ?_
  obtain ⟨v8, M9, e7, h⟩ := ob2 h
  obtain ⟨fs10, hb11⟩ := (rX10_wrong e7)
  refine bz_callV1 (pc := 1039) (As := [.int (xs ((x3 + (1 : Int32))).toNatClampNeg), .int (xs ((x3 + (2 : Int32))).toNatClampNeg), .int (xs ((x3 + (3 : Int32))).toNatClampNeg)]) (rest := []) X hM hl.1 k_RL_105 (ctX10_wrong l e7) rfl hb11 rfl rfl ⟨(Nat.le_of_ble_eq_true rfl), (Nat.le_of_ble_eq_true rfl)⟩ (Nat.le_of_ble_eq_true rfl) ⟨by show _ ≤ 600000; omega, by show _ ≤ 7302250; omega⟩ dL_law_1039 (fun H locs hM => ?_)
  refine lv_aload_n (pc := 1042) hx hb dL_law_1042 rfl (lv_at hl 2 rfl) ?_
  refine lv_aload_n (pc := 1043) hx hb dL_law_1043 rfl (lv_at hl 0 rfl) ?_
  refine lv_iload_n (pc := 1044) hx hb dL_law_1044 rfl (lv_at hl 3 rfl) ?_
  refine lv_iconst (pc := 1045) (v := (1 : Int32)) hx hb dL_law_1045 (by decide) ?_
  refine lv_iadd (pc := 1046) hx hb dL_law_1046 ?_
  obtain ⟨v12, e13, h⟩ := ob h
  obtain ⟨hin, rfl⟩ := sX_spec e13
  refine va_sld (pc := 1047) hx hb hXs hbl hbA hM.2 hin dL_law_1047 ?_
  refine lv_aload_n (pc := 1048) hx hb dL_law_1048 rfl (lv_at hl 0 rfl) ?_
  refine lv_iload_n (pc := 1049) hx hb dL_law_1049 rfl (lv_at hl 3 rfl) ?_
  refine lv_iconst (pc := 1050) (v := (2 : Int32)) hx hb dL_law_1050 (by decide) ?_
  refine lv_iadd (pc := 1051) hx hb dL_law_1051 ?_
  obtain ⟨v14, e15, h⟩ := ob h
  obtain ⟨hin, rfl⟩ := sX_spec e15
  refine va_sld (pc := 1052) hx hb hXs hbl hbA hM.2 hin dL_law_1052 ?_
  refine lv_aload_n (pc := 1053) hx hb dL_law_1053 rfl (lv_at hl 0 rfl) ?_
  refine lv_iload_n (pc := 1054) hx hb dL_law_1054 rfl (lv_at hl 3 rfl) ?_
  refine lv_iconst (pc := 1055) (v := (3 : Int32)) hx hb dL_law_1055 (by decide) ?_
  refine lv_iadd (pc := 1056) hx hb dL_law_1056 ?_
  obtain ⟨v16, e17, h⟩ := ob h
  obtain ⟨hin, rfl⟩ := sX_spec e17
  refine va_sld (pc := 1057) hx hb hXs hbl hbA hM.2 hin dL_law_1057 ?_
  obtain ⟨v19, M20, e18, h⟩ := ob2 h
  obtain ⟨fs21, hb22⟩ := (rX11_wrong e18)
  refine bz_callV1 (pc := 1058) (As := [.int (xs ((x3 + (1 : Int32))).toNatClampNeg), .int (xs ((x3 + (2 : Int32))).toNatClampNeg), .int (xs ((x3 + (3 : Int32))).toNatClampNeg)]) (rest := [.int v8]) X hM hl.1 k_RL_108 (ctX11_wrong l e18) rfl hb22 rfl rfl ⟨(Nat.le_of_ble_eq_true rfl), (Nat.le_of_ble_eq_true rfl)⟩ (Nat.le_of_ble_eq_true rfl) ⟨by show _ ≤ 600000; omega, by show _ ≤ 7302250; omega⟩ dL_law_1058 (fun H locs hM => ?_)
  refine lv_icmp_eq (pc := 1061) (tgt := 1965) hx hb dL_law_1061 (by decide) (fun hc => ?_) (fun hc => ?_)
  · have h := if_t hc h
    refine lv_iinc (pc := 1965) (v := (x3 + (6 : Int32))) (lv' := [(3, .int (x3 + (6 : Int32))), (0, .ref b), (1, .ref (pB P + x1)), (2, .ref (pB P + x2))]) hx hb dL_law_1965 hl (k := 3) rfl rfl (by decide) rfl (fun ls hl => ?_)
    refine lv_goto (pc := 1968) (tgt := 18) hx hb dL_law_1968 (by decide) ?_
    refine W.widen (k := cl + 5) (n := 1000 * (cl + 5)) (by omega) (by omega) ?_
    exact hK18 (cl + 5) (by omega) _ _ _ _ h H locs ls hM (lv_sub hl [1, 2, 3, 0] rfl)
  · have h := if_f hc h
    refine lv_iconst (pc := 1064) (v := (0 : Int32)) hx hb dL_law_1064 (by decide) ?_
    exact absurd (so2 h).1 (by decide)
set_option maxHeartbeats 4000000 in
set_option maxRecDepth 100000 in
theorem wjL_law_980 {p : Program} {l : Launch} {e : Env} {s : State} {m : MethodId} {below : List Frame} {meth : Method} {c : Code} {P : PT} {b L N : Nat} {xs : Nat → Int32} {M9 : Mm} (hX : Cl p s m c meth b P) (hXs : va_X b L xs s s.heap) (hbl : b < s.heap.size) (hbA : ¬ pB P ≤ b) {K18 : Mm → Nat → Nat → Int32 → Option (Int32 × Mm)} {cl n : Nat} (hcl : cl + 5 * (n + 1) ≤ 7000) (hK18 : ∀ (cl : Nat) (_ : cl + 5 * n ≤ 7000) (M : Mm) (x1 x2 : Nat) (x3 : Int32), K18 M x1 x2 x3 = some (1, M9) → Wl p l e s m below meth c b P cl 18 [(0, .ref b), (1, .ref (pB P + x1)), (2, .ref (pB P + x2)), (3, .int x3)] [] M) (M : Mm) (x1 x2 : Nat) (x3 : Int32) (h : jL_law_980 N L xs K18 M x1 x2 x3 = some (1, M9)) : Wl p l e s m below meth c b P cl 980 [(0, .ref b), (1, .ref (pB P + x1)), (2, .ref (pB P + x2)), (3, .int x3)] [] M := by
  unfold jL_law_980 at h
  obtain ⟨X, hr, hlk, hBs⟩ := id hX
  have hx := X.1.1
  have hb := X.1.2.1
  intro H locs ls hM hl
  refine lv_aload_n (pc := 980) hx hb dL_law_980 rfl (lv_at hl 1 rfl) ?_
  refine lv_aload_n (pc := 981) hx hb dL_law_981 rfl (lv_at hl 0 rfl) ?_
  refine lv_iload_n (pc := 982) hx hb dL_law_982 rfl (lv_at hl 3 rfl) ?_
  refine lv_iconst (pc := 983) (v := (1 : Int32)) hx hb dL_law_983 (by decide) ?_
  refine lv_iadd (pc := 984) hx hb dL_law_984 ?_
  obtain ⟨v1, e2, h⟩ := ob h
  obtain ⟨hin, rfl⟩ := sX_spec e2
  refine va_sld (pc := 985) hx hb hXs hbl hbA hM.2 hin dL_law_985 ?_
  refine lv_aload_n (pc := 986) hx hb dL_law_986 rfl (lv_at hl 0 rfl) ?_
  refine lv_iload_n (pc := 987) hx hb dL_law_987 rfl (lv_at hl 3 rfl) ?_
  refine lv_iconst (pc := 988) (v := (2 : Int32)) hx hb dL_law_988 (by decide) ?_
  refine lv_iadd (pc := 989) hx hb dL_law_989 ?_
  obtain ⟨v3, e4, h⟩ := ob h
  obtain ⟨hin, rfl⟩ := sX_spec e4
  refine va_sld (pc := 990) hx hb hXs hbl hbA hM.2 hin dL_law_990 ?_
  refine lv_aload_n (pc := 991) hx hb dL_law_991 rfl (lv_at hl 0 rfl) ?_
  refine lv_iload_n (pc := 992) hx hb dL_law_992 rfl (lv_at hl 3 rfl) ?_
  refine lv_iconst (pc := 993) (v := (3 : Int32)) hx hb dL_law_993 (by decide) ?_
  refine lv_iadd (pc := 994) hx hb dL_law_994 ?_
  obtain ⟨v5, e6, h⟩ := ob h
  obtain ⟨hin, rfl⟩ := sX_spec e6
  refine va_sld (pc := 995) hx hb hXs hbl hbA hM.2 hin dL_law_995 ?_
  obtain ⟨v8, M9, e7, h⟩ := ob2 h
  obtain ⟨fs10, hb11⟩ := (rX10_seen e7)
  refine bz_callV1 (pc := 996) (As := [.int (xs ((x3 + (1 : Int32))).toNatClampNeg), .int (xs ((x3 + (2 : Int32))).toNatClampNeg), .int (xs ((x3 + (3 : Int32))).toNatClampNeg)]) (rest := []) X hM hl.1 k_RL_101 (ctX10_seen l e7) rfl hb11 rfl rfl ⟨(Nat.le_of_ble_eq_true rfl), (Nat.le_of_ble_eq_true rfl)⟩ (Nat.le_of_ble_eq_true rfl) ⟨by show _ ≤ 600000; omega, by show _ ≤ 7302250; omega⟩ dL_law_996 (fun H locs hM => ?_)
  refine lv_aload_n (pc := 999) hx hb dL_law_999 rfl (lv_at hl 2 rfl) ?_
  refine lv_aload_n (pc := 1000) hx hb dL_law_1000 rfl (lv_at hl 0 rfl) ?_
  refine lv_iload_n (pc := 1001) hx hb dL_law_1001 rfl (lv_at hl 3 rfl) ?_
  refine lv_iconst (pc := 1002) (v := (1 : Int32)) hx hb dL_law_1002 (by decide) ?_
  refine lv_iadd (pc := 1003) hx hb dL_law_1003 ?_
  obtain ⟨v12, e13, h⟩ := ob h
  obtain ⟨hin, rfl⟩ := sX_spec e13
  refine va_sld (pc := 1004) hx hb hXs hbl hbA hM.2 hin dL_law_1004 ?_
  refine lv_aload_n (pc := 1005) hx hb dL_law_1005 rfl (lv_at hl 0 rfl) ?_
  refine lv_iload_n (pc := 1006) hx hb dL_law_1006 rfl (lv_at hl 3 rfl) ?_
  refine lv_iconst (pc := 1007) (v := (2 : Int32)) hx hb dL_law_1007 (by decide) ?_
  refine lv_iadd (pc := 1008) hx hb dL_law_1008 ?_
  obtain ⟨v14, e15, h⟩ := ob h
  obtain ⟨hin, rfl⟩ := sX_spec e15
  refine va_sld (pc := 1009) hx hb hXs hbl hbA hM.2 hin dL_law_1009 ?_
  refine lv_aload_n (pc := 1010) hx hb dL_law_1010 rfl (lv_at hl 0 rfl) ?_
  refine lv_iload_n (pc := 1011) hx hb dL_law_1011 rfl (lv_at hl 3 rfl) ?_
  refine lv_iconst (pc := 1012) (v := (3 : Int32)) hx hb dL_law_1012 (by decide) ?_
  refine lv_iadd (pc := 1013) hx hb dL_law_1013 ?_
  obtain ⟨v16, e17, h⟩ := ob h
  obtain ⟨hin, rfl⟩ := sX_spec e17
  refine va_sld (pc := 1014) hx hb hXs hbl hbA hM.2 hin dL_law_1014 ?_
  obtain ⟨v19, M20, e18, h⟩ := ob2 h
  obtain ⟨fs21, hb22⟩ := (rX11_seen e18)
  refine bz_callV1 (pc := 1015) (As := [.int (xs ((x3 + (1 : Int32))).toNatClampNeg), .int (xs ((x3 + (2 : Int32))).toNatClampNeg), .int (xs ((x3 + (3 : Int32))).toNatClampNeg)]) (rest := [.int v8]) X hM hl.1 k_RL_104 (ctX11_seen l e18) rfl hb22 rfl rfl ⟨(Nat.le_of_ble_eq_true rfl), (Nat.le_of_ble_eq_true rfl)⟩ (Nat.le_of_ble_eq_true rfl) ⟨by show _ ≤ 600000; omega, by show _ ≤ 7302250; omega⟩ dL_law_1015 (fun H locs hM => ?_)
  refine lv_icmp_eq (pc := 1018) (tgt := 1965) hx hb dL_law_1018 (by decide) (fun hc => ?_) (fun hc => ?_)
  · have h := if_t hc h
    refine lv_iinc (pc := 1965) (v := (x3 + (6 : Int32))) (lv' := [(3, .int (x3 + (6 : Int32))), (0, .ref b), (1, .ref (pB P + x1)), (2, .ref (pB P + x2))]) hx hb dL_law_1965 hl (k := 3) rfl rfl (by decide) rfl (fun ls hl => ?_)
    refine lv_goto (pc := 1968) (tgt := 18) hx hb dL_law_1968 (by decide) ?_
    refine W.widen (k := cl + 5) (n := 1000 * (cl + 5)) (by omega) (by omega) ?_
    exact hK18 (cl + 5) (by omega) _ _ _ _ h H locs ls hM (lv_sub hl [1, 2, 3, 0] rfl)
  · have h := if_f hc h
    refine lv_iconst (pc := 1021) (v := (0 : Int32)) hx hb dL_law_1021 (by decide) ?_
    exact absurd (so2 h).1 (by decide)
set_option maxHeartbeats 4000000 in
set_option maxRecDepth 100000 in
theorem wjL_law_957 {p : Program} {l : Launch} {e : Env} {s : State} {m : MethodId} {below : List Frame} {meth : Method} {c : Code} {P : PT} {b L N : Nat} {xs : Nat → Int32} {M9 : Mm} (hX : Cl p s m c meth b P) (hXs : va_X b L xs s s.heap) (hbl : b < s.heap.size) (hbA : ¬ pB P ≤ b) {K18 : Mm → Nat → Nat → Int32 → Option (Int32 × Mm)} {cl n : Nat} (hcl : cl + 5 * (n + 1) ≤ 7000) (hK18 : ∀ (cl : Nat) (_ : cl + 5 * n ≤ 7000) (M : Mm) (x1 x2 : Nat) (x3 : Int32), K18 M x1 x2 x3 = some (1, M9) → Wl p l e s m below meth c b P cl 18 [(0, .ref b), (1, .ref (pB P + x1)), (2, .ref (pB P + x2)), (3, .int x3)] [] M) (M : Mm) (x1 x2 : Nat) (x3 : Int32) (h : jL_law_957 N L xs K18 M x1 x2 x3 = some (1, M9)) : Wl p l e s m below meth c b P cl 957 [(0, .ref b), (1, .ref (pB P + x1)), (2, .ref (pB P + x2)), (3, .int x3)] [] M := by
  unfold jL_law_957 at h
  obtain ⟨X, hr, hlk, hBs⟩ := id hX
  have hx := X.1.1
  have hb := X.1.2.1
  intro H locs ls hM hl
  refine lv_aload_n (pc := 957) hx hb dL_law_957 rfl (lv_at hl 1 rfl) ?_
  refine lv_aload_n (pc := 958) hx hb dL_law_958 rfl (lv_at hl 0 rfl) ?_
  refine lv_iload_n (pc := 959) hx hb dL_law_959 rfl (lv_at hl 3 rfl) ?_
  refine lv_iconst (pc := 960) (v := (1 : Int32)) hx hb dL_law_960 (by decide) ?_
  refine lv_iadd (pc := 961) hx hb dL_law_961 ?_
  obtain ⟨v1, e2, h⟩ := ob h
  obtain ⟨hin, rfl⟩ := sX_spec e2
  refine va_sld (pc := 962) hx hb hXs hbl hbA hM.2 hin dL_law_962 ?_
  obtain ⟨v4, M5, e3, h⟩ := ob2 h
  obtain ⟨fs6, hb7⟩ := (rX10_let e3)
  refine bz_callV1 (pc := 963) (As := [.int (xs ((x3 + (1 : Int32))).toNatClampNeg)]) (rest := []) X hM hl.1 k_RL_97 (ctX10_let l e3) rfl hb7 rfl rfl ⟨(Nat.le_of_ble_eq_true rfl), (Nat.le_of_ble_eq_true rfl)⟩ (Nat.le_of_ble_eq_true rfl) ⟨by show _ ≤ 600000; omega, by show _ ≤ 7302250; omega⟩ dL_law_963 (fun H locs hM => ?_)
  refine lv_aload_n (pc := 966) hx hb dL_law_966 rfl (lv_at hl 2 rfl) ?_
  refine lv_aload_n (pc := 967) hx hb dL_law_967 rfl (lv_at hl 0 rfl) ?_
  refine lv_iload_n (pc := 968) hx hb dL_law_968 rfl (lv_at hl 3 rfl) ?_
  refine lv_iconst (pc := 969) (v := (1 : Int32)) hx hb dL_law_969 (by decide) ?_
  refine lv_iadd (pc := 970) hx hb dL_law_970 ?_
  obtain ⟨v8, e9, h⟩ := ob h
  obtain ⟨hin, rfl⟩ := sX_spec e9
  refine va_sld (pc := 971) hx hb hXs hbl hbA hM.2 hin dL_law_971 ?_
  obtain ⟨v11, M12, e10, h⟩ := ob2 h
  obtain ⟨fs13, hb14⟩ := (rX11_let e10)
  refine bz_callV1 (pc := 972) (As := [.int (xs ((x3 + (1 : Int32))).toNatClampNeg)]) (rest := [.int v4]) X hM hl.1 k_RL_100 (ctX11_let l e10) rfl hb14 rfl rfl ⟨(Nat.le_of_ble_eq_true rfl), (Nat.le_of_ble_eq_true rfl)⟩ (Nat.le_of_ble_eq_true rfl) ⟨by show _ ≤ 600000; omega, by show _ ≤ 7302250; omega⟩ dL_law_972 (fun H locs hM => ?_)
  refine lv_icmp_eq (pc := 975) (tgt := 1965) hx hb dL_law_975 (by decide) (fun hc => ?_) (fun hc => ?_)
  · have h := if_t hc h
    refine lv_iinc (pc := 1965) (v := (x3 + (6 : Int32))) (lv' := [(3, .int (x3 + (6 : Int32))), (0, .ref b), (1, .ref (pB P + x1)), (2, .ref (pB P + x2))]) hx hb dL_law_1965 hl (k := 3) rfl rfl (by decide) rfl (fun ls hl => ?_)
    refine lv_goto (pc := 1968) (tgt := 18) hx hb dL_law_1968 (by decide) ?_
    refine W.widen (k := cl + 5) (n := 1000 * (cl + 5)) (by omega) (by omega) ?_
    exact hK18 (cl + 5) (by omega) _ _ _ _ h H locs ls hM (lv_sub hl [1, 2, 3, 0] rfl)
  · have h := if_f hc h
    refine lv_iconst (pc := 978) (v := (0 : Int32)) hx hb dL_law_978 (by decide) ?_
    exact absurd (so2 h).1 (by decide)
set_option maxHeartbeats 4000000 in
set_option maxRecDepth 100000 in
theorem wjL_law_914 {p : Program} {l : Launch} {e : Env} {s : State} {m : MethodId} {below : List Frame} {meth : Method} {c : Code} {P : PT} {b L N : Nat} {xs : Nat → Int32} {M9 : Mm} (hX : Cl p s m c meth b P) (hXs : va_X b L xs s s.heap) (hbl : b < s.heap.size) (hbA : ¬ pB P ≤ b) {K18 : Mm → Nat → Nat → Int32 → Option (Int32 × Mm)} {cl n : Nat} (hcl : cl + 5 * (n + 1) ≤ 7000) (hK18 : ∀ (cl : Nat) (_ : cl + 5 * n ≤ 7000) (M : Mm) (x1 x2 : Nat) (x3 : Int32), K18 M x1 x2 x3 = some (1, M9) → Wl p l e s m below meth c b P cl 18 [(0, .ref b), (1, .ref (pB P + x1)), (2, .ref (pB P + x2)), (3, .int x3)] [] M) (M : Mm) (x1 x2 : Nat) (x3 : Int32) (h : jL_law_914 N L xs K18 M x1 x2 x3 = some (1, M9)) : Wl p l e s m below meth c b P cl 914 [(0, .ref b), (1, .ref (pB P + x1)), (2, .ref (pB P + x2)), (3, .int x3)] [] M := by
  unfold jL_law_914 at h
  obtain ⟨X, hr, hlk, hBs⟩ := id hX
  have hx := X.1.1
  have hb := X.1.2.1
  intro H locs ls hM hl
  refine lv_aload_n (pc := 914) hx hb dL_law_914 rfl (lv_at hl 1 rfl) ?_
  refine lv_aload_n (pc := 915) hx hb dL_law_915 rfl (lv_at hl 0 rfl) ?_
  refine lv_iload_n (pc := 916) hx hb dL_law_916 rfl (lv_at hl 3 rfl) ?_
  refine lv_iconst (pc := 917) (v := (1 : Int32)) hx hb dL_law_917 (by decide) ?_
  refine lv_iadd (pc := 918) hx hb dL_law_918 ?_
  obtain ⟨v1, e2, h⟩ := ob h
  obtain ⟨hin, rfl⟩ := sX_spec e2
  refine va_sld (pc := 919) hx hb hXs hbl hbA hM.2 hin dL_law_919 ?_
  refine lv_aload_n (pc := 920) hx hb dL_law_920 rfl (lv_at hl 0 rfl) ?_
  refine lv_iload_n (pc := 921) hx hb dL_law_921 rfl (lv_at hl 3 rfl) ?_
  refine lv_iconst (pc := 922) (v := (2 : Int32)) hx hb dL_law_922 (by decide) ?_
  refine lv_iadd (pc := 923) hx hb dL_law_923 ?_
  obtain ⟨v3, e4, h⟩ := ob h
  obtain ⟨hin, rfl⟩ := sX_spec e4
  refine va_sld (pc := 924) hx hb hXs hbl hbA hM.2 hin dL_law_924 ?_
  refine lv_aload_n (pc := 925) hx hb dL_law_925 rfl (lv_at hl 0 rfl) ?_
  refine lv_iload_n (pc := 926) hx hb dL_law_926 rfl (lv_at hl 3 rfl) ?_
  refine lv_iconst (pc := 927) (v := (3 : Int32)) hx hb dL_law_927 (by decide) ?_
  refine lv_iadd (pc := 928) hx hb dL_law_928 ?_
  obtain ⟨v5, e6, h⟩ := ob h
  obtain ⟨hin, rfl⟩ := sX_spec e6
  refine va_sld (pc := 929) hx hb hXs hbl hbA hM.2 hin dL_law_929 ?_
  obtain ⟨v8, M9, e7, h⟩ := ob2 h
  obtain ⟨fs10, hb11⟩ := (rX10_paid e7)
  refine bz_callV1 (pc := 930) (As := [.int (xs ((x3 + (1 : Int32))).toNatClampNeg), .int (xs ((x3 + (2 : Int32))).toNatClampNeg), .int (xs ((x3 + (3 : Int32))).toNatClampNeg)]) (rest := []) X hM hl.1 k_RL_93 (ctX10_paid l e7) rfl hb11 rfl rfl ⟨(Nat.le_of_ble_eq_true rfl), (Nat.le_of_ble_eq_true rfl)⟩ (Nat.le_of_ble_eq_true rfl) ⟨by show _ ≤ 600000; omega, by show _ ≤ 7302250; omega⟩ dL_law_930 (fun H locs hM => ?_)
  refine lv_aload_n (pc := 933) hx hb dL_law_933 rfl (lv_at hl 2 rfl) ?_
  refine lv_aload_n (pc := 934) hx hb dL_law_934 rfl (lv_at hl 0 rfl) ?_
  refine lv_iload_n (pc := 935) hx hb dL_law_935 rfl (lv_at hl 3 rfl) ?_
  refine lv_iconst (pc := 936) (v := (1 : Int32)) hx hb dL_law_936 (by decide) ?_
  refine lv_iadd (pc := 937) hx hb dL_law_937 ?_
  obtain ⟨v12, e13, h⟩ := ob h
  obtain ⟨hin, rfl⟩ := sX_spec e13
  refine va_sld (pc := 938) hx hb hXs hbl hbA hM.2 hin dL_law_938 ?_
  refine lv_aload_n (pc := 939) hx hb dL_law_939 rfl (lv_at hl 0 rfl) ?_
  refine lv_iload_n (pc := 940) hx hb dL_law_940 rfl (lv_at hl 3 rfl) ?_
  refine lv_iconst (pc := 941) (v := (2 : Int32)) hx hb dL_law_941 (by decide) ?_
  refine lv_iadd (pc := 942) hx hb dL_law_942 ?_
  obtain ⟨v14, e15, h⟩ := ob h
  obtain ⟨hin, rfl⟩ := sX_spec e15
  refine va_sld (pc := 943) hx hb hXs hbl hbA hM.2 hin dL_law_943 ?_
  refine lv_aload_n (pc := 944) hx hb dL_law_944 rfl (lv_at hl 0 rfl) ?_
  refine lv_iload_n (pc := 945) hx hb dL_law_945 rfl (lv_at hl 3 rfl) ?_
  refine lv_iconst (pc := 946) (v := (3 : Int32)) hx hb dL_law_946 (by decide) ?_
  refine lv_iadd (pc := 947) hx hb dL_law_947 ?_
  obtain ⟨v16, e17, h⟩ := ob h
  obtain ⟨hin, rfl⟩ := sX_spec e17
  refine va_sld (pc := 948) hx hb hXs hbl hbA hM.2 hin dL_law_948 ?_
  obtain ⟨v19, M20, e18, h⟩ := ob2 h
  obtain ⟨fs21, hb22⟩ := (rX11_paid e18)
  refine bz_callV1 (pc := 949) (As := [.int (xs ((x3 + (1 : Int32))).toNatClampNeg), .int (xs ((x3 + (2 : Int32))).toNatClampNeg), .int (xs ((x3 + (3 : Int32))).toNatClampNeg)]) (rest := [.int v8]) X hM hl.1 k_RL_96 (ctX11_paid l e18) rfl hb22 rfl rfl ⟨(Nat.le_of_ble_eq_true rfl), (Nat.le_of_ble_eq_true rfl)⟩ (Nat.le_of_ble_eq_true rfl) ⟨by show _ ≤ 600000; omega, by show _ ≤ 7302250; omega⟩ dL_law_949 (fun H locs hM => ?_)
  refine lv_icmp_eq (pc := 952) (tgt := 1965) hx hb dL_law_952 (by decide) (fun hc => ?_) (fun hc => ?_)
  · have h := if_t hc h
    refine lv_iinc (pc := 1965) (v := (x3 + (6 : Int32))) (lv' := [(3, .int (x3 + (6 : Int32))), (0, .ref b), (1, .ref (pB P + x1)), (2, .ref (pB P + x2))]) hx hb dL_law_1965 hl (k := 3) rfl rfl (by decide) rfl (fun ls hl => ?_)
    refine lv_goto (pc := 1968) (tgt := 18) hx hb dL_law_1968 (by decide) ?_
    refine W.widen (k := cl + 5) (n := 1000 * (cl + 5)) (by omega) (by omega) ?_
    exact hK18 (cl + 5) (by omega) _ _ _ _ h H locs ls hM (lv_sub hl [1, 2, 3, 0] rfl)
  · have h := if_f hc h
    refine lv_iconst (pc := 955) (v := (0 : Int32)) hx hb dL_law_955 (by decide) ?_
    exact absurd (so2 h).1 (by decide)
set_option maxHeartbeats 4000000 in
set_option maxRecDepth 100000 in
theorem wjL_law_881 {p : Program} {l : Launch} {e : Env} {s : State} {m : MethodId} {below : List Frame} {meth : Method} {c : Code} {P : PT} {b L N : Nat} {xs : Nat → Int32} {M9 : Mm} (hX : Cl p s m c meth b P) (hXs : va_X b L xs s s.heap) (hbl : b < s.heap.size) (hbA : ¬ pB P ≤ b) {K18 : Mm → Nat → Nat → Int32 → Option (Int32 × Mm)} {cl n : Nat} (hcl : cl + 5 * (n + 1) ≤ 7000) (hK18 : ∀ (cl : Nat) (_ : cl + 5 * n ≤ 7000) (M : Mm) (x1 x2 : Nat) (x3 : Int32), K18 M x1 x2 x3 = some (1, M9) → Wl p l e s m below meth c b P cl 18 [(0, .ref b), (1, .ref (pB P + x1)), (2, .ref (pB P + x2)), (3, .int x3)] [] M) (M : Mm) (x1 x2 : Nat) (x3 : Int32) (h : jL_law_881 N L xs K18 M x1 x2 x3 = some (1, M9)) : Wl p l e s m below meth c b P cl 881 [(0, .ref b), (1, .ref (pB P + x1)), (2, .ref (pB P + x2)), (3, .int x3)] [] M := by
  unfold jL_law_881 at h
  obtain ⟨X, hr, hlk, hBs⟩ := id hX
  have hx := X.1.1
  have hb := X.1.2.1
  intro H locs ls hM hl
  refine lv_aload_n (pc := 881) hx hb dL_law_881 rfl (lv_at hl 1 rfl) ?_
  refine lv_aload_n (pc := 882) hx hb dL_law_882 rfl (lv_at hl 0 rfl) ?_
  refine lv_iload_n (pc := 883) hx hb dL_law_883 rfl (lv_at hl 3 rfl) ?_
  refine lv_iconst (pc := 884) (v := (1 : Int32)) hx hb dL_law_884 (by decide) ?_
  refine lv_iadd (pc := 885) hx hb dL_law_885 ?_
  obtain ⟨v1, e2, h⟩ := ob h
  obtain ⟨hin, rfl⟩ := sX_spec e2
  refine va_sld (pc := 886) hx hb hXs hbl hbA hM.2 hin dL_law_886 ?_
  refine lv_aload_n (pc := 887) hx hb dL_law_887 rfl (lv_at hl 0 rfl) ?_
  refine lv_iload_n (pc := 888) hx hb dL_law_888 rfl (lv_at hl 3 rfl) ?_
  refine lv_iconst (pc := 889) (v := (2 : Int32)) hx hb dL_law_889 (by decide) ?_
  refine lv_iadd (pc := 890) hx hb dL_law_890 ?_
  obtain ⟨v3, e4, h⟩ := ob h
  obtain ⟨hin, rfl⟩ := sX_spec e4
  refine va_sld (pc := 891) hx hb hXs hbl hbA hM.2 hin dL_law_891 ?_
  obtain ⟨v6, M7, e5, h⟩ := ob2 h
  obtain ⟨fs8, hb9⟩ := (rX10_chosen e5)
  refine bz_callV1 (pc := 892) (As := [.int (xs ((x3 + (1 : Int32))).toNatClampNeg), .int (xs ((x3 + (2 : Int32))).toNatClampNeg)]) (rest := []) X hM hl.1 k_RL_89 (ctX10_chosen l e5) rfl hb9 rfl rfl ⟨(Nat.le_of_ble_eq_true rfl), (Nat.le_of_ble_eq_true rfl)⟩ (Nat.le_of_ble_eq_true rfl) ⟨by show _ ≤ 600000; omega, by show _ ≤ 7302250; omega⟩ dL_law_892 (fun H locs hM => ?_)
  refine lv_aload_n (pc := 895) hx hb dL_law_895 rfl (lv_at hl 2 rfl) ?_
  refine lv_aload_n (pc := 896) hx hb dL_law_896 rfl (lv_at hl 0 rfl) ?_
  refine lv_iload_n (pc := 897) hx hb dL_law_897 rfl (lv_at hl 3 rfl) ?_
  refine lv_iconst (pc := 898) (v := (1 : Int32)) hx hb dL_law_898 (by decide) ?_
  refine lv_iadd (pc := 899) hx hb dL_law_899 ?_
  obtain ⟨v10, e11, h⟩ := ob h
  obtain ⟨hin, rfl⟩ := sX_spec e11
  refine va_sld (pc := 900) hx hb hXs hbl hbA hM.2 hin dL_law_900 ?_
  refine lv_aload_n (pc := 901) hx hb dL_law_901 rfl (lv_at hl 0 rfl) ?_
  refine lv_iload_n (pc := 902) hx hb dL_law_902 rfl (lv_at hl 3 rfl) ?_
  refine lv_iconst (pc := 903) (v := (2 : Int32)) hx hb dL_law_903 (by decide) ?_
  refine lv_iadd (pc := 904) hx hb dL_law_904 ?_
  obtain ⟨v12, e13, h⟩ := ob h
  obtain ⟨hin, rfl⟩ := sX_spec e13
  refine va_sld (pc := 905) hx hb hXs hbl hbA hM.2 hin dL_law_905 ?_
  obtain ⟨v15, M16, e14, h⟩ := ob2 h
  obtain ⟨fs17, hb18⟩ := (rX11_chosen e14)
  refine bz_callV1 (pc := 906) (As := [.int (xs ((x3 + (1 : Int32))).toNatClampNeg), .int (xs ((x3 + (2 : Int32))).toNatClampNeg)]) (rest := [.int v6]) X hM hl.1 k_RL_92 (ctX11_chosen l e14) rfl hb18 rfl rfl ⟨(Nat.le_of_ble_eq_true rfl), (Nat.le_of_ble_eq_true rfl)⟩ (Nat.le_of_ble_eq_true rfl) ⟨by show _ ≤ 600000; omega, by show _ ≤ 7302250; omega⟩ dL_law_906 (fun H locs hM => ?_)
  refine lv_icmp_eq (pc := 909) (tgt := 1965) hx hb dL_law_909 (by decide) (fun hc => ?_) (fun hc => ?_)
  · have h := if_t hc h
    refine lv_iinc (pc := 1965) (v := (x3 + (6 : Int32))) (lv' := [(3, .int (x3 + (6 : Int32))), (0, .ref b), (1, .ref (pB P + x1)), (2, .ref (pB P + x2))]) hx hb dL_law_1965 hl (k := 3) rfl rfl (by decide) rfl (fun ls hl => ?_)
    refine lv_goto (pc := 1968) (tgt := 18) hx hb dL_law_1968 (by decide) ?_
    refine W.widen (k := cl + 5) (n := 1000 * (cl + 5)) (by omega) (by omega) ?_
    exact hK18 (cl + 5) (by omega) _ _ _ _ h H locs ls hM (lv_sub hl [1, 2, 3, 0] rfl)
  · have h := if_f hc h
    refine lv_iconst (pc := 912) (v := (0 : Int32)) hx hb dL_law_912 (by decide) ?_
    exact absurd (so2 h).1 (by decide)
set_option maxHeartbeats 4000000 in
set_option maxRecDepth 100000 in
theorem wjL_law_858 {p : Program} {l : Launch} {e : Env} {s : State} {m : MethodId} {below : List Frame} {meth : Method} {c : Code} {P : PT} {b L N : Nat} {xs : Nat → Int32} {M9 : Mm} (hX : Cl p s m c meth b P) (hXs : va_X b L xs s s.heap) (hbl : b < s.heap.size) (hbA : ¬ pB P ≤ b) {K18 : Mm → Nat → Nat → Int32 → Option (Int32 × Mm)} {cl n : Nat} (hcl : cl + 5 * (n + 1) ≤ 7000) (hK18 : ∀ (cl : Nat) (_ : cl + 5 * n ≤ 7000) (M : Mm) (x1 x2 : Nat) (x3 : Int32), K18 M x1 x2 x3 = some (1, M9) → Wl p l e s m below meth c b P cl 18 [(0, .ref b), (1, .ref (pB P + x1)), (2, .ref (pB P + x2)), (3, .int x3)] [] M) (M : Mm) (x1 x2 : Nat) (x3 : Int32) (h : jL_law_858 N L xs K18 M x1 x2 x3 = some (1, M9)) : Wl p l e s m below meth c b P cl 858 [(0, .ref b), (1, .ref (pB P + x1)), (2, .ref (pB P + x2)), (3, .int x3)] [] M := by
  unfold jL_law_858 at h
  obtain ⟨X, hr, hlk, hBs⟩ := id hX
  have hx := X.1.1
  have hb := X.1.2.1
  intro H locs ls hM hl
  refine lv_aload_n (pc := 858) hx hb dL_law_858 rfl (lv_at hl 1 rfl) ?_
  refine lv_aload_n (pc := 859) hx hb dL_law_859 rfl (lv_at hl 0 rfl) ?_
  refine lv_iload_n (pc := 860) hx hb dL_law_860 rfl (lv_at hl 3 rfl) ?_
  refine lv_iconst (pc := 861) (v := (1 : Int32)) hx hb dL_law_861 (by decide) ?_
  refine lv_iadd (pc := 862) hx hb dL_law_862 ?_
  obtain ⟨v1, e2, h⟩ := ob h
  obtain ⟨hin, rfl⟩ := sX_spec e2
  refine va_sld (pc := 863) hx hb hXs hbl hbA hM.2 hin dL_law_863 ?_
  obtain ⟨v4, M5, e3, h⟩ := ob2 h
  obtain ⟨fs6, hb7⟩ := (rX10_line e3)
  refine bz_callV1 (pc := 864) (As := [.int (xs ((x3 + (1 : Int32))).toNatClampNeg)]) (rest := []) X hM hl.1 k_RL_85 (ctX10_line l e3) rfl hb7 rfl rfl ⟨(Nat.le_of_ble_eq_true rfl), (Nat.le_of_ble_eq_true rfl)⟩ (Nat.le_of_ble_eq_true rfl) ⟨by show _ ≤ 600000; omega, by show _ ≤ 7302250; omega⟩ dL_law_864 (fun H locs hM => ?_)
  refine lv_aload_n (pc := 867) hx hb dL_law_867 rfl (lv_at hl 2 rfl) ?_
  refine lv_aload_n (pc := 868) hx hb dL_law_868 rfl (lv_at hl 0 rfl) ?_
  refine lv_iload_n (pc := 869) hx hb dL_law_869 rfl (lv_at hl 3 rfl) ?_
  refine lv_iconst (pc := 870) (v := (1 : Int32)) hx hb dL_law_870 (by decide) ?_
  refine lv_iadd (pc := 871) hx hb dL_law_871 ?_
  obtain ⟨v8, e9, h⟩ := ob h
  obtain ⟨hin, rfl⟩ := sX_spec e9
  refine va_sld (pc := 872) hx hb hXs hbl hbA hM.2 hin dL_law_872 ?_
  obtain ⟨v11, M12, e10, h⟩ := ob2 h
  obtain ⟨fs13, hb14⟩ := (rX11_line e10)
  refine bz_callV1 (pc := 873) (As := [.int (xs ((x3 + (1 : Int32))).toNatClampNeg)]) (rest := [.int v4]) X hM hl.1 k_RL_88 (ctX11_line l e10) rfl hb14 rfl rfl ⟨(Nat.le_of_ble_eq_true rfl), (Nat.le_of_ble_eq_true rfl)⟩ (Nat.le_of_ble_eq_true rfl) ⟨by show _ ≤ 600000; omega, by show _ ≤ 7302250; omega⟩ dL_law_873 (fun H locs hM => ?_)
  refine lv_icmp_eq (pc := 876) (tgt := 1965) hx hb dL_law_876 (by decide) (fun hc => ?_) (fun hc => ?_)
  · have h := if_t hc h
    refine lv_iinc (pc := 1965) (v := (x3 + (6 : Int32))) (lv' := [(3, .int (x3 + (6 : Int32))), (0, .ref b), (1, .ref (pB P + x1)), (2, .ref (pB P + x2))]) hx hb dL_law_1965 hl (k := 3) rfl rfl (by decide) rfl (fun ls hl => ?_)
    refine lv_goto (pc := 1968) (tgt := 18) hx hb dL_law_1968 (by decide) ?_
    refine W.widen (k := cl + 5) (n := 1000 * (cl + 5)) (by omega) (by omega) ?_
    exact hK18 (cl + 5) (by omega) _ _ _ _ h H locs ls hM (lv_sub hl [1, 2, 3, 0] rfl)
  · have h := if_f hc h
    refine lv_iconst (pc := 879) (v := (0 : Int32)) hx hb dL_law_879 (by decide) ?_
    exact absurd (so2 h).1 (by decide)
set_option maxHeartbeats 4000000 in
set_option maxRecDepth 100000 in
theorem wjL_law_815 {p : Program} {l : Launch} {e : Env} {s : State} {m : MethodId} {below : List Frame} {meth : Method} {c : Code} {P : PT} {b L N : Nat} {xs : Nat → Int32} {M9 : Mm} (hX : Cl p s m c meth b P) (hXs : va_X b L xs s s.heap) (hbl : b < s.heap.size) (hbA : ¬ pB P ≤ b) {K18 : Mm → Nat → Nat → Int32 → Option (Int32 × Mm)} {cl n : Nat} (hcl : cl + 5 * (n + 1) ≤ 7000) (hK18 : ∀ (cl : Nat) (_ : cl + 5 * n ≤ 7000) (M : Mm) (x1 x2 : Nat) (x3 : Int32), K18 M x1 x2 x3 = some (1, M9) → Wl p l e s m below meth c b P cl 18 [(0, .ref b), (1, .ref (pB P + x1)), (2, .ref (pB P + x2)), (3, .int x3)] [] M) (M : Mm) (x1 x2 : Nat) (x3 : Int32) (h : jL_law_815 N L xs K18 M x1 x2 x3 = some (1, M9)) : Wl p l e s m below meth c b P cl 815 [(0, .ref b), (1, .ref (pB P + x1)), (2, .ref (pB P + x2)), (3, .int x3)] [] M := by
  unfold jL_law_815 at h
  obtain ⟨X, hr, hlk, hBs⟩ := id hX
  have hx := X.1.1
  have hb := X.1.2.1
  intro H locs ls hM hl
  refine lv_aload_n (pc := 815) hx hb dL_law_815 rfl (lv_at hl 1 rfl) ?_
  refine lv_aload_n (pc := 816) hx hb dL_law_816 rfl (lv_at hl 0 rfl) ?_
  refine lv_iload_n (pc := 817) hx hb dL_law_817 rfl (lv_at hl 3 rfl) ?_
  refine lv_iconst (pc := 818) (v := (1 : Int32)) hx hb dL_law_818 (by decide) ?_
  refine lv_iadd (pc := 819) hx hb dL_law_819 ?_
  obtain ⟨v1, e2, h⟩ := ob h
  obtain ⟨hin, rfl⟩ := sX_spec e2
  refine va_sld (pc := 820) hx hb hXs hbl hbA hM.2 hin dL_law_820 ?_
  refine lv_aload_n (pc := 821) hx hb dL_law_821 rfl (lv_at hl 0 rfl) ?_
  refine lv_iload_n (pc := 822) hx hb dL_law_822 rfl (lv_at hl 3 rfl) ?_
  refine lv_iconst (pc := 823) (v := (2 : Int32)) hx hb dL_law_823 (by decide) ?_
  refine lv_iadd (pc := 824) hx hb dL_law_824 ?_
  obtain ⟨v3, e4, h⟩ := ob h
  obtain ⟨hin, rfl⟩ := sX_spec e4
  refine va_sld (pc := 825) hx hb hXs hbl hbA hM.2 hin dL_law_825 ?_
  refine lv_aload_n (pc := 826) hx hb dL_law_826 rfl (lv_at hl 0 rfl) ?_
  refine lv_iload_n (pc := 827) hx hb dL_law_827 rfl (lv_at hl 3 rfl) ?_
  refine lv_iconst (pc := 828) (v := (3 : Int32)) hx hb dL_law_828 (by decide) ?_
  refine lv_iadd (pc := 829) hx hb dL_law_829 ?_
  obtain ⟨v5, e6, h⟩ := ob h
  obtain ⟨hin, rfl⟩ := sX_spec e6
  refine va_sld (pc := 830) hx hb hXs hbl hbA hM.2 hin dL_law_830 ?_
  obtain ⟨v8, M9, e7, h⟩ := ob2 h
  obtain ⟨fs10, hb11⟩ := (rX10_ahead e7)
  refine bz_callV1 (pc := 831) (As := [.int (xs ((x3 + (1 : Int32))).toNatClampNeg), .int (xs ((x3 + (2 : Int32))).toNatClampNeg), .int (xs ((x3 + (3 : Int32))).toNatClampNeg)]) (rest := []) X hM hl.1 k_RL_81 (ctX10_ahead l e7) rfl hb11 rfl rfl ⟨(Nat.le_of_ble_eq_true rfl), (Nat.le_of_ble_eq_true rfl)⟩ (Nat.le_of_ble_eq_true rfl) ⟨by show _ ≤ 600000; omega, by show _ ≤ 7302250; omega⟩ dL_law_831 (fun H locs hM => ?_)
  refine lv_aload_n (pc := 834) hx hb dL_law_834 rfl (lv_at hl 2 rfl) ?_
  refine lv_aload_n (pc := 835) hx hb dL_law_835 rfl (lv_at hl 0 rfl) ?_
  refine lv_iload_n (pc := 836) hx hb dL_law_836 rfl (lv_at hl 3 rfl) ?_
  refine lv_iconst (pc := 837) (v := (1 : Int32)) hx hb dL_law_837 (by decide) ?_
  refine lv_iadd (pc := 838) hx hb dL_law_838 ?_
  obtain ⟨v12, e13, h⟩ := ob h
  obtain ⟨hin, rfl⟩ := sX_spec e13
  refine va_sld (pc := 839) hx hb hXs hbl hbA hM.2 hin dL_law_839 ?_
  refine lv_aload_n (pc := 840) hx hb dL_law_840 rfl (lv_at hl 0 rfl) ?_
  refine lv_iload_n (pc := 841) hx hb dL_law_841 rfl (lv_at hl 3 rfl) ?_
  refine lv_iconst (pc := 842) (v := (2 : Int32)) hx hb dL_law_842 (by decide) ?_
  refine lv_iadd (pc := 843) hx hb dL_law_843 ?_
  obtain ⟨v14, e15, h⟩ := ob h
  obtain ⟨hin, rfl⟩ := sX_spec e15
  refine va_sld (pc := 844) hx hb hXs hbl hbA hM.2 hin dL_law_844 ?_
  refine lv_aload_n (pc := 845) hx hb dL_law_845 rfl (lv_at hl 0 rfl) ?_
  refine lv_iload_n (pc := 846) hx hb dL_law_846 rfl (lv_at hl 3 rfl) ?_
  refine lv_iconst (pc := 847) (v := (3 : Int32)) hx hb dL_law_847 (by decide) ?_
  refine lv_iadd (pc := 848) hx hb dL_law_848 ?_
  obtain ⟨v16, e17, h⟩ := ob h
  obtain ⟨hin, rfl⟩ := sX_spec e17
  refine va_sld (pc := 849) hx hb hXs hbl hbA hM.2 hin dL_law_849 ?_
  obtain ⟨v19, M20, e18, h⟩ := ob2 h
  obtain ⟨fs21, hb22⟩ := (rX11_ahead e18)
  refine bz_callV1 (pc := 850) (As := [.int (xs ((x3 + (1 : Int32))).toNatClampNeg), .int (xs ((x3 + (2 : Int32))).toNatClampNeg), .int (xs ((x3 + (3 : Int32))).toNatClampNeg)]) (rest := [.int v8]) X hM hl.1 k_RL_84 (ctX11_ahead l e18) rfl hb22 rfl rfl ⟨(Nat.le_of_ble_eq_true rfl), (Nat.le_of_ble_eq_true rfl)⟩ (Nat.le_of_ble_eq_true rfl) ⟨by show _ ≤ 600000; omega, by show _ ≤ 7302250; omega⟩ dL_law_850 (fun H locs hM => ?_)
  refine lv_icmp_eq (pc := 853) (tgt := 1965) hx hb dL_law_853 (by decide) (fun hc => ?_) (fun hc => ?_)
  · have h := if_t hc h
    refine lv_iinc (pc := 1965) (v := (x3 + (6 : Int32))) (lv' := [(3, .int (x3 + (6 : Int32))), (0, .ref b), (1, .ref (pB P + x1)), (2, .ref (pB P + x2))]) hx hb dL_law_1965 hl (k := 3) rfl rfl (by decide) rfl (fun ls hl => ?_)
    refine lv_goto (pc := 1968) (tgt := 18) hx hb dL_law_1968 (by decide) ?_
    refine W.widen (k := cl + 5) (n := 1000 * (cl + 5)) (by omega) (by omega) ?_
    exact hK18 (cl + 5) (by omega) _ _ _ _ h H locs ls hM (lv_sub hl [1, 2, 3, 0] rfl)
  · have h := if_f hc h
    refine lv_iconst (pc := 856) (v := (0 : Int32)) hx hb dL_law_856 (by decide) ?_
    exact absurd (so2 h).1 (by decide)
set_option maxHeartbeats 4000000 in
set_option maxRecDepth 100000 in
theorem wjL_law_772 {p : Program} {l : Launch} {e : Env} {s : State} {m : MethodId} {below : List Frame} {meth : Method} {c : Code} {P : PT} {b L N : Nat} {xs : Nat → Int32} {M9 : Mm} (hX : Cl p s m c meth b P) (hXs : va_X b L xs s s.heap) (hbl : b < s.heap.size) (hbA : ¬ pB P ≤ b) {K18 : Mm → Nat → Nat → Int32 → Option (Int32 × Mm)} {cl n : Nat} (hcl : cl + 5 * (n + 1) ≤ 7000) (hK18 : ∀ (cl : Nat) (_ : cl + 5 * n ≤ 7000) (M : Mm) (x1 x2 : Nat) (x3 : Int32), K18 M x1 x2 x3 = some (1, M9) → Wl p l e s m below meth c b P cl 18 [(0, .ref b), (1, .ref (pB P + x1)), (2, .ref (pB P + x2)), (3, .int x3)] [] M) (M : Mm) (x1 x2 : Nat) (x3 : Int32) (h : jL_law_772 N L xs K18 M x1 x2 x3 = some (1, M9)) : Wl p l e s m below meth c b P cl 772 [(0, .ref b), (1, .ref (pB P + x1)), (2, .ref (pB P + x2)), (3, .int x3)] [] M := by
  unfold jL_law_772 at h
  obtain ⟨X, hr, hlk, hBs⟩ := id hX
  have hx := X.1.1
  have hb := X.1.2.1
  intro H locs ls hM hl
  refine lv_aload_n (pc := 772) hx hb dL_law_772 rfl (lv_at hl 1 rfl) ?_
  refine lv_aload_n (pc := 773) hx hb dL_law_773 rfl (lv_at hl 0 rfl) ?_
  refine lv_iload_n (pc := 774) hx hb dL_law_774 rfl (lv_at hl 3 rfl) ?_
  refine lv_iconst (pc := 775) (v := (1 : Int32)) hx hb dL_law_775 (by decide) ?_
  refine lv_iadd (pc := 776) hx hb dL_law_776 ?_
  obtain ⟨v1, e2, h⟩ := ob h
  obtain ⟨hin, rfl⟩ := sX_spec e2
  refine va_sld (pc := 777) hx hb hXs hbl hbA hM.2 hin dL_law_777 ?_
  refine lv_aload_n (pc := 778) hx hb dL_law_778 rfl (lv_at hl 0 rfl) ?_
  refine lv_iload_n (pc := 779) hx hb dL_law_779 rfl (lv_at hl 3 rfl) ?_
  refine lv_iconst (pc := 780) (v := (2 : Int32)) hx hb dL_law_780 (by decide) ?_
  refine lv_iadd (pc := 781) hx hb dL_law_781 ?_
  obtain ⟨v3, e4, h⟩ := ob h
  obtain ⟨hin, rfl⟩ := sX_spec e4
  refine va_sld (pc := 782) hx hb hXs hbl hbA hM.2 hin dL_law_782 ?_
  refine lv_aload_n (pc := 783) hx hb dL_law_783 rfl (lv_at hl 0 rfl) ?_
  refine lv_iload_n (pc := 784) hx hb dL_law_784 rfl (lv_at hl 3 rfl) ?_
  refine lv_iconst (pc := 785) (v := (3 : Int32)) hx hb dL_law_785 (by decide) ?_
  refine lv_iadd (pc := 786) hx hb dL_law_786 ?_
  obtain ⟨v5, e6, h⟩ := ob h
  obtain ⟨hin, rfl⟩ := sX_spec e6
  refine va_sld (pc := 787) hx hb hXs hbl hbA hM.2 hin dL_law_787 ?_
  obtain ⟨v8, M9, e7, h⟩ := ob2 h
  obtain ⟨fs10, hb11⟩ := (rX10_chance e7)
  refine bz_callV1 (pc := 788) (As := [.int (xs ((x3 + (1 : Int32))).toNatClampNeg), .int (xs ((x3 + (2 : Int32))).toNatClampNeg), .int (xs ((x3 + (3 : Int32))).toNatClampNeg)]) (rest := []) X hM hl.1 k_RL_77 (ctX10_chance l e7) rfl hb11 rfl rfl ⟨(Nat.le_of_ble_eq_true rfl), (Nat.le_of_ble_eq_true rfl)⟩ (Nat.le_of_ble_eq_true rfl) ⟨by show _ ≤ 600000; omega, by show _ ≤ 7302250; omega⟩ dL_law_788 (fun H locs hM => ?_)
  refine lv_aload_n (pc := 791) hx hb dL_law_791 rfl (lv_at hl 2 rfl) ?_
  refine lv_aload_n (pc := 792) hx hb dL_law_792 rfl (lv_at hl 0 rfl) ?_
  refine lv_iload_n (pc := 793) hx hb dL_law_793 rfl (lv_at hl 3 rfl) ?_
  refine lv_iconst (pc := 794) (v := (1 : Int32)) hx hb dL_law_794 (by decide) ?_
  refine lv_iadd (pc := 795) hx hb dL_law_795 ?_
  obtain ⟨v12, e13, h⟩ := ob h
  obtain ⟨hin, rfl⟩ := sX_spec e13
  refine va_sld (pc := 796) hx hb hXs hbl hbA hM.2 hin dL_law_796 ?_
  refine lv_aload_n (pc := 797) hx hb dL_law_797 rfl (lv_at hl 0 rfl) ?_
  refine lv_iload_n (pc := 798) hx hb dL_law_798 rfl (lv_at hl 3 rfl) ?_
  refine lv_iconst (pc := 799) (v := (2 : Int32)) hx hb dL_law_799 (by decide) ?_
  refine lv_iadd (pc := 800) hx hb dL_law_800 ?_
  obtain ⟨v14, e15, h⟩ := ob h
  obtain ⟨hin, rfl⟩ := sX_spec e15
  refine va_sld (pc := 801) hx hb hXs hbl hbA hM.2 hin dL_law_801 ?_
  refine lv_aload_n (pc := 802) hx hb dL_law_802 rfl (lv_at hl 0 rfl) ?_
  refine lv_iload_n (pc := 803) hx hb dL_law_803 rfl (lv_at hl 3 rfl) ?_
  refine lv_iconst (pc := 804) (v := (3 : Int32)) hx hb dL_law_804 (by decide) ?_
  refine lv_iadd (pc := 805) hx hb dL_law_805 ?_
  obtain ⟨v16, e17, h⟩ := ob h
  obtain ⟨hin, rfl⟩ := sX_spec e17
  refine va_sld (pc := 806) hx hb hXs hbl hbA hM.2 hin dL_law_806 ?_
  obtain ⟨v19, M20, e18, h⟩ := ob2 h
  obtain ⟨fs21, hb22⟩ := (rX11_chance e18)
  refine bz_callV1 (pc := 807) (As := [.int (xs ((x3 + (1 : Int32))).toNatClampNeg), .int (xs ((x3 + (2 : Int32))).toNatClampNeg), .int (xs ((x3 + (3 : Int32))).toNatClampNeg)]) (rest := [.int v8]) X hM hl.1 k_RL_80 (ctX11_chance l e18) rfl hb22 rfl rfl ⟨(Nat.le_of_ble_eq_true rfl), (Nat.le_of_ble_eq_true rfl)⟩ (Nat.le_of_ble_eq_true rfl) ⟨by show _ ≤ 600000; omega, by show _ ≤ 7302250; omega⟩ dL_law_807 (fun H locs hM => ?_)
  refine lv_icmp_eq (pc := 810) (tgt := 1965) hx hb dL_law_810 (by decide) (fun hc => ?_) (fun hc => ?_)
  · have h := if_t hc h
    refine lv_iinc (pc := 1965) (v := (x3 + (6 : Int32))) (lv' := [(3, .int (x3 + (6 : Int32))), (0, .ref b), (1, .ref (pB P + x1)), (2, .ref (pB P + x2))]) hx hb dL_law_1965 hl (k := 3) rfl rfl (by decide) rfl (fun ls hl => ?_)
    refine lv_goto (pc := 1968) (tgt := 18) hx hb dL_law_1968 (by decide) ?_
    refine W.widen (k := cl + 5) (n := 1000 * (cl + 5)) (by omega) (by omega) ?_
    exact hK18 (cl + 5) (by omega) _ _ _ _ h H locs ls hM (lv_sub hl [1, 2, 3, 0] rfl)
  · have h := if_f hc h
    refine lv_iconst (pc := 813) (v := (0 : Int32)) hx hb dL_law_813 (by decide) ?_
    exact absurd (so2 h).1 (by decide)
set_option maxHeartbeats 4000000 in
set_option maxRecDepth 100000 in
theorem wjL_law_749 {p : Program} {l : Launch} {e : Env} {s : State} {m : MethodId} {below : List Frame} {meth : Method} {c : Code} {P : PT} {b L N : Nat} {xs : Nat → Int32} {M9 : Mm} (hX : Cl p s m c meth b P) (hXs : va_X b L xs s s.heap) (hbl : b < s.heap.size) (hbA : ¬ pB P ≤ b) {K18 : Mm → Nat → Nat → Int32 → Option (Int32 × Mm)} {cl n : Nat} (hcl : cl + 5 * (n + 1) ≤ 7000) (hK18 : ∀ (cl : Nat) (_ : cl + 5 * n ≤ 7000) (M : Mm) (x1 x2 : Nat) (x3 : Int32), K18 M x1 x2 x3 = some (1, M9) → Wl p l e s m below meth c b P cl 18 [(0, .ref b), (1, .ref (pB P + x1)), (2, .ref (pB P + x2)), (3, .int x3)] [] M) (M : Mm) (x1 x2 : Nat) (x3 : Int32) (h : jL_law_749 N L xs K18 M x1 x2 x3 = some (1, M9)) : Wl p l e s m below meth c b P cl 749 [(0, .ref b), (1, .ref (pB P + x1)), (2, .ref (pB P + x2)), (3, .int x3)] [] M := by
  unfold jL_law_749 at h
  obtain ⟨X, hr, hlk, hBs⟩ := id hX
  have hx := X.1.1
  have hb := X.1.2.1
  intro H locs ls hM hl
  refine lv_aload_n (pc := 749) hx hb dL_law_749 rfl (lv_at hl 1 rfl) ?_
  refine lv_aload_n (pc := 750) hx hb dL_law_750 rfl (lv_at hl 0 rfl) ?_
  refine lv_iload_n (pc := 751) hx hb dL_law_751 rfl (lv_at hl 3 rfl) ?_
  refine lv_iconst (pc := 752) (v := (1 : Int32)) hx hb dL_law_752 (by decide) ?_
  refine lv_iadd (pc := 753) hx hb dL_law_753 ?_
  obtain ⟨v1, e2, h⟩ := ob h
  obtain ⟨hin, rfl⟩ := sX_spec e2
  refine va_sld (pc := 754) hx hb hXs hbl hbA hM.2 hin dL_law_754 ?_
  obtain ⟨v4, M5, e3, h⟩ := ob2 h
  obtain ⟨fs6, hb7⟩ := (rX10_gives e3)
  refine bz_callV1 (pc := 755) (As := [.int (xs ((x3 + (1 : Int32))).toNatClampNeg)]) (rest := []) X hM hl.1 k_RL_73 (ctX10_gives l e3) rfl hb7 rfl rfl ⟨(Nat.le_of_ble_eq_true rfl), (Nat.le_of_ble_eq_true rfl)⟩ (Nat.le_of_ble_eq_true rfl) ⟨by show _ ≤ 600000; omega, by show _ ≤ 7302250; omega⟩ dL_law_755 (fun H locs hM => ?_)
  refine lv_aload_n (pc := 758) hx hb dL_law_758 rfl (lv_at hl 2 rfl) ?_
  refine lv_aload_n (pc := 759) hx hb dL_law_759 rfl (lv_at hl 0 rfl) ?_
  refine lv_iload_n (pc := 760) hx hb dL_law_760 rfl (lv_at hl 3 rfl) ?_
  refine lv_iconst (pc := 761) (v := (1 : Int32)) hx hb dL_law_761 (by decide) ?_
  refine lv_iadd (pc := 762) hx hb dL_law_762 ?_
  obtain ⟨v8, e9, h⟩ := ob h
  obtain ⟨hin, rfl⟩ := sX_spec e9
  refine va_sld (pc := 763) hx hb hXs hbl hbA hM.2 hin dL_law_763 ?_
  obtain ⟨v11, M12, e10, h⟩ := ob2 h
  obtain ⟨fs13, hb14⟩ := (rX11_gives e10)
  refine bz_callV1 (pc := 764) (As := [.int (xs ((x3 + (1 : Int32))).toNatClampNeg)]) (rest := [.int v4]) X hM hl.1 k_RL_76 (ctX11_gives l e10) rfl hb14 rfl rfl ⟨(Nat.le_of_ble_eq_true rfl), (Nat.le_of_ble_eq_true rfl)⟩ (Nat.le_of_ble_eq_true rfl) ⟨by show _ ≤ 600000; omega, by show _ ≤ 7302250; omega⟩ dL_law_764 (fun H locs hM => ?_)
  refine lv_icmp_eq (pc := 767) (tgt := 1965) hx hb dL_law_767 (by decide) (fun hc => ?_) (fun hc => ?_)
  · have h := if_t hc h
    refine lv_iinc (pc := 1965) (v := (x3 + (6 : Int32))) (lv' := [(3, .int (x3 + (6 : Int32))), (0, .ref b), (1, .ref (pB P + x1)), (2, .ref (pB P + x2))]) hx hb dL_law_1965 hl (k := 3) rfl rfl (by decide) rfl (fun ls hl => ?_)
    refine lv_goto (pc := 1968) (tgt := 18) hx hb dL_law_1968 (by decide) ?_
    refine W.widen (k := cl + 5) (n := 1000 * (cl + 5)) (by omega) (by omega) ?_
    exact hK18 (cl + 5) (by omega) _ _ _ _ h H locs ls hM (lv_sub hl [1, 2, 3, 0] rfl)
  · have h := if_f hc h
    refine lv_iconst (pc := 770) (v := (0 : Int32)) hx hb dL_law_770 (by decide) ?_
    exact absurd (so2 h).1 (by decide)
set_option maxHeartbeats 4000000 in
set_option maxRecDepth 100000 in
theorem wjL_law_716 {p : Program} {l : Launch} {e : Env} {s : State} {m : MethodId} {below : List Frame} {meth : Method} {c : Code} {P : PT} {b L N : Nat} {xs : Nat → Int32} {M9 : Mm} (hX : Cl p s m c meth b P) (hXs : va_X b L xs s s.heap) (hbl : b < s.heap.size) (hbA : ¬ pB P ≤ b) {K18 : Mm → Nat → Nat → Int32 → Option (Int32 × Mm)} {cl n : Nat} (hcl : cl + 5 * (n + 1) ≤ 7000) (hK18 : ∀ (cl : Nat) (_ : cl + 5 * n ≤ 7000) (M : Mm) (x1 x2 : Nat) (x3 : Int32), K18 M x1 x2 x3 = some (1, M9) → Wl p l e s m below meth c b P cl 18 [(0, .ref b), (1, .ref (pB P + x1)), (2, .ref (pB P + x2)), (3, .int x3)] [] M) (M : Mm) (x1 x2 : Nat) (x3 : Int32) (h : jL_law_716 N L xs K18 M x1 x2 x3 = some (1, M9)) : Wl p l e s m below meth c b P cl 716 [(0, .ref b), (1, .ref (pB P + x1)), (2, .ref (pB P + x2)), (3, .int x3)] [] M := by
  unfold jL_law_716 at h
  obtain ⟨X, hr, hlk, hBs⟩ := id hX
  have hx := X.1.1
  have hb := X.1.2.1
  intro H locs ls hM hl
  refine lv_aload_n (pc := 716) hx hb dL_law_716 rfl (lv_at hl 1 rfl) ?_
  refine lv_aload_n (pc := 717) hx hb dL_law_717 rfl (lv_at hl 0 rfl) ?_
  refine lv_iload_n (pc := 718) hx hb dL_law_718 rfl (lv_at hl 3 rfl) ?_
  refine lv_iconst (pc := 719) (v := (1 : Int32)) hx hb dL_law_719 (by decide) ?_
  refine lv_iadd (pc := 720) hx hb dL_law_720 ?_
  obtain ⟨v1, e2, h⟩ := ob h
  obtain ⟨hin, rfl⟩ := sX_spec e2
  refine va_sld (pc := 721) hx hb hXs hbl hbA hM.2 hin dL_law_721 ?_
  refine lv_aload_n (pc := 722) hx hb dL_law_722 rfl (lv_at hl 0 rfl) ?_
  refine lv_iload_n (pc := 723) hx hb dL_law_723 rfl (lv_at hl 3 rfl) ?_
  refine lv_iconst (pc := 724) (v := (2 : Int32)) hx hb dL_law_724 (by decide) ?_
  refine lv_iadd (pc := 725) hx hb dL_law_725 ?_
  obtain ⟨v3, e4, h⟩ := ob h
  obtain ⟨hin, rfl⟩ := sX_spec e4
  refine va_sld (pc := 726) hx hb hXs hbl hbA hM.2 hin dL_law_726 ?_
  obtain ⟨v6, M7, e5, h⟩ := ob2 h
  obtain ⟨fs8, hb9⟩ := (rX10_as e5)
  refine bz_callV1 (pc := 727) (As := [.int (xs ((x3 + (1 : Int32))).toNatClampNeg), .int (xs ((x3 + (2 : Int32))).toNatClampNeg)]) (rest := []) X hM hl.1 k_RL_69 (ctX10_as l e5) rfl hb9 rfl rfl ⟨(Nat.le_of_ble_eq_true rfl), (Nat.le_of_ble_eq_true rfl)⟩ (Nat.le_of_ble_eq_true rfl) ⟨by show _ ≤ 600000; omega, by show _ ≤ 7302250; omega⟩ dL_law_727 (fun H locs hM => ?_)
  refine lv_aload_n (pc := 730) hx hb dL_law_730 rfl (lv_at hl 2 rfl) ?_
  refine lv_aload_n (pc := 731) hx hb dL_law_731 rfl (lv_at hl 0 rfl) ?_
  refine lv_iload_n (pc := 732) hx hb dL_law_732 rfl (lv_at hl 3 rfl) ?_
  refine lv_iconst (pc := 733) (v := (1 : Int32)) hx hb dL_law_733 (by decide) ?_
  refine lv_iadd (pc := 734) hx hb dL_law_734 ?_
  obtain ⟨v10, e11, h⟩ := ob h
  obtain ⟨hin, rfl⟩ := sX_spec e11
  refine va_sld (pc := 735) hx hb hXs hbl hbA hM.2 hin dL_law_735 ?_
  refine lv_aload_n (pc := 736) hx hb dL_law_736 rfl (lv_at hl 0 rfl) ?_
  refine lv_iload_n (pc := 737) hx hb dL_law_737 rfl (lv_at hl 3 rfl) ?_
  refine lv_iconst (pc := 738) (v := (2 : Int32)) hx hb dL_law_738 (by decide) ?_
  refine lv_iadd (pc := 739) hx hb dL_law_739 ?_
  obtain ⟨v12, e13, h⟩ := ob h
  obtain ⟨hin, rfl⟩ := sX_spec e13
  refine va_sld (pc := 740) hx hb hXs hbl hbA hM.2 hin dL_law_740 ?_
  obtain ⟨v15, M16, e14, h⟩ := ob2 h
  obtain ⟨fs17, hb18⟩ := (rX11_as e14)
  refine bz_callV1 (pc := 741) (As := [.int (xs ((x3 + (1 : Int32))).toNatClampNeg), .int (xs ((x3 + (2 : Int32))).toNatClampNeg)]) (rest := [.int v6]) X hM hl.1 k_RL_72 (ctX11_as l e14) rfl hb18 rfl rfl ⟨(Nat.le_of_ble_eq_true rfl), (Nat.le_of_ble_eq_true rfl)⟩ (Nat.le_of_ble_eq_true rfl) ⟨by show _ ≤ 600000; omega, by show _ ≤ 7302250; omega⟩ dL_law_741 (fun H locs hM => ?_)
  refine lv_icmp_eq (pc := 744) (tgt := 1965) hx hb dL_law_744 (by decide) (fun hc => ?_) (fun hc => ?_)
  · have h := if_t hc h
    refine lv_iinc (pc := 1965) (v := (x3 + (6 : Int32))) (lv' := [(3, .int (x3 + (6 : Int32))), (0, .ref b), (1, .ref (pB P + x1)), (2, .ref (pB P + x2))]) hx hb dL_law_1965 hl (k := 3) rfl rfl (by decide) rfl (fun ls hl => ?_)
    refine lv_goto (pc := 1968) (tgt := 18) hx hb dL_law_1968 (by decide) ?_
    refine W.widen (k := cl + 5) (n := 1000 * (cl + 5)) (by omega) (by omega) ?_
    exact hK18 (cl + 5) (by omega) _ _ _ _ h H locs ls hM (lv_sub hl [1, 2, 3, 0] rfl)
  · have h := if_f hc h
    refine lv_iconst (pc := 747) (v := (0 : Int32)) hx hb dL_law_747 (by decide) ?_
    exact absurd (so2 h).1 (by decide)
set_option maxHeartbeats 4000000 in
set_option maxRecDepth 100000 in
theorem wjL_law_653 {p : Program} {l : Launch} {e : Env} {s : State} {m : MethodId} {below : List Frame} {meth : Method} {c : Code} {P : PT} {b L N : Nat} {xs : Nat → Int32} {M9 : Mm} (hX : Cl p s m c meth b P) (hXs : va_X b L xs s s.heap) (hbl : b < s.heap.size) (hbA : ¬ pB P ≤ b) {K18 : Mm → Nat → Nat → Int32 → Option (Int32 × Mm)} {cl n : Nat} (hcl : cl + 5 * (n + 1) ≤ 7000) (hK18 : ∀ (cl : Nat) (_ : cl + 5 * n ≤ 7000) (M : Mm) (x1 x2 : Nat) (x3 : Int32), K18 M x1 x2 x3 = some (1, M9) → Wl p l e s m below meth c b P cl 18 [(0, .ref b), (1, .ref (pB P + x1)), (2, .ref (pB P + x2)), (3, .int x3)] [] M) (M : Mm) (x1 x2 : Nat) (x3 : Int32) (h : jL_law_653 N L xs K18 M x1 x2 x3 = some (1, M9)) : Wl p l e s m below meth c b P cl 653 [(0, .ref b), (1, .ref (pB P + x1)), (2, .ref (pB P + x2)), (3, .int x3)] [] M := by
  unfold jL_law_653 at h
  obtain ⟨X, hr, hlk, hBs⟩ := id hX
  have hx := X.1.1
  have hb := X.1.2.1
  intro H locs ls hM hl
  refine lv_aload_n (pc := 653) hx hb dL_law_653 rfl (lv_at hl 1 rfl) ?_
  refine lv_aload_n (pc := 654) hx hb dL_law_654 rfl (lv_at hl 0 rfl) ?_
  refine lv_iload_n (pc := 655) hx hb dL_law_655 rfl (lv_at hl 3 rfl) ?_
  refine lv_iconst (pc := 656) (v := (1 : Int32)) hx hb dL_law_656 (by decide) ?_
  refine lv_iadd (pc := 657) hx hb dL_law_657 ?_
  obtain ⟨v1, e2, h⟩ := ob h
  obtain ⟨hin, rfl⟩ := sX_spec e2
  refine va_sld (pc := 658) hx hb hXs hbl hbA hM.2 hin dL_law_658 ?_
  refine lv_aload_n (pc := 659) hx hb dL_law_659 rfl (lv_at hl 0 rfl) ?_
  refine lv_iload_n (pc := 660) hx hb dL_law_660 rfl (lv_at hl 3 rfl) ?_
  refine lv_iconst (pc := 661) (v := (2 : Int32)) hx hb dL_law_661 (by decide) ?_
  refine lv_iadd (pc := 662) hx hb dL_law_662 ?_
  obtain ⟨v3, e4, h⟩ := ob h
  obtain ⟨hin, rfl⟩ := sX_spec e4
  refine va_sld (pc := 663) hx hb hXs hbl hbA hM.2 hin dL_law_663 ?_
  refine lv_aload_n (pc := 664) hx hb dL_law_664 rfl (lv_at hl 0 rfl) ?_
  refine lv_iload_n (pc := 665) hx hb dL_law_665 rfl (lv_at hl 3 rfl) ?_
  refine lv_iconst (pc := 666) (v := (3 : Int32)) hx hb dL_law_666 (by decide) ?_
  refine lv_iadd (pc := 667) hx hb dL_law_667 ?_
  obtain ⟨v5, e6, h⟩ := ob h
  obtain ⟨hin, rfl⟩ := sX_spec e6
  refine va_sld (pc := 668) hx hb hXs hbl hbA hM.2 hin dL_law_668 ?_
  refine lv_aload_n (pc := 669) hx hb dL_law_669 rfl (lv_at hl 0 rfl) ?_
  refine lv_iload_n (pc := 670) hx hb dL_law_670 rfl (lv_at hl 3 rfl) ?_
  refine lv_iconst (pc := 671) (v := (4 : Int32)) hx hb dL_law_671 (by decide) ?_
  refine lv_iadd (pc := 672) hx hb dL_law_672 ?_
  obtain ⟨v7, e8, h⟩ := ob h
  obtain ⟨hin, rfl⟩ := sX_spec e8
  refine va_sld (pc := 673) hx hb hXs hbl hbA hM.2 hin dL_law_673 ?_
  refine lv_aload_n (pc := 674) hx hb dL_law_674 rfl (lv_at hl 0 rfl) ?_
  refine lv_iload_n (pc := 675) hx hb dL_law_675 rfl (lv_at hl 3 rfl) ?_
  refine lv_iconst (pc := 676) (v := (5 : Int32)) hx hb dL_law_676 (by decide) ?_
  refine lv_iadd (pc := 677) hx hb dL_law_677 ?_
  obtain ⟨v9, e10, h⟩ := ob h
  obtain ⟨hin, rfl⟩ := sX_spec e10
  refine va_sld (pc := 678) hx hb hXs hbl hbA hM.2 hin dL_law_678 ?_
  obtain ⟨v12, M13, e11, h⟩ := ob2 h
  obtain ⟨fs14, hb15⟩ := (rX10_counting e11)
  refine bz_callV1 (pc := 679) (As := [.int (xs ((x3 + (1 : Int32))).toNatClampNeg), .int (xs ((x3 + (2 : Int32))).toNatClampNeg), .int (xs ((x3 + (3 : Int32))).toNatClampNeg), .int (xs ((x3 + (4 : Int32))).toNatClampNeg), .int (xs ((x3 + (5 : Int32))).toNatClampNeg)]) (rest := []) X hM hl.1 k_RL_64 (ctX10_counting l e11) rfl hb15 rfl rfl ⟨(Nat.le_of_ble_eq_true rfl), (Nat.le_of_ble_eq_true rfl)⟩ (Nat.le_of_ble_eq_true rfl) ⟨by show _ ≤ 600000; omega, by show _ ≤ 7302250; omega⟩ dL_law_679 (fun H locs hM => ?_)
  refine lv_aload_n (pc := 682) hx hb dL_law_682 rfl (lv_at hl 2 rfl) ?_
  refine lv_aload_n (pc := 683) hx hb dL_law_683 rfl (lv_at hl 0 rfl) ?_
  refine lv_iload_n (pc := 684) hx hb dL_law_684 rfl (lv_at hl 3 rfl) ?_
  refine lv_iconst (pc := 685) (v := (1 : Int32)) hx hb dL_law_685 (by decide) ?_
  refine lv_iadd (pc := 686) hx hb dL_law_686 ?_
  obtain ⟨v16, e17, h⟩ := ob h
  obtain ⟨hin, rfl⟩ := sX_spec e17
  refine va_sld (pc := 687) hx hb hXs hbl hbA hM.2 hin dL_law_687 ?_
  refine lv_aload_n (pc := 688) hx hb dL_law_688 rfl (lv_at hl 0 rfl) ?_
  refine lv_iload_n (pc := 689) hx hb dL_law_689 rfl (lv_at hl 3 rfl) ?_
  refine lv_iconst (pc := 690) (v := (2 : Int32)) hx hb dL_law_690 (by decide) ?_
  refine lv_iadd (pc := 691) hx hb dL_law_691 ?_
  obtain ⟨v18, e19, h⟩ := ob h
  obtain ⟨hin, rfl⟩ := sX_spec e19
  refine va_sld (pc := 692) hx hb hXs hbl hbA hM.2 hin dL_law_692 ?_
  refine lv_aload_n (pc := 693) hx hb dL_law_693 rfl (lv_at hl 0 rfl) ?_
  refine lv_iload_n (pc := 694) hx hb dL_law_694 rfl (lv_at hl 3 rfl) ?_
  refine lv_iconst (pc := 695) (v := (3 : Int32)) hx hb dL_law_695 (by decide) ?_
  refine lv_iadd (pc := 696) hx hb dL_law_696 ?_
  obtain ⟨v20, e21, h⟩ := ob h
  obtain ⟨hin, rfl⟩ := sX_spec e21
  refine va_sld (pc := 697) hx hb hXs hbl hbA hM.2 hin dL_law_697 ?_
  refine lv_aload_n (pc := 698) hx hb dL_law_698 rfl (lv_at hl 0 rfl) ?_
  refine lv_iload_n (pc := 699) hx hb dL_law_699 rfl (lv_at hl 3 rfl) ?_
  refine lv_iconst (pc := 700) (v := (4 : Int32)) hx hb dL_law_700 (by decide) ?_
  refine lv_iadd (pc := 701) hx hb dL_law_701 ?_
  obtain ⟨v22, e23, h⟩ := ob h
  obtain ⟨hin, rfl⟩ := sX_spec e23
  refine va_sld (pc := 702) hx hb hXs hbl hbA hM.2 hin dL_law_702 ?_
  refine lv_aload_n (pc := 703) hx hb dL_law_703 rfl (lv_at hl 0 rfl) ?_
  refine lv_iload_n (pc := 704) hx hb dL_law_704 rfl (lv_at hl 3 rfl) ?_
  refine lv_iconst (pc := 705) (v := (5 : Int32)) hx hb dL_law_705 (by decide) ?_
  refine lv_iadd (pc := 706) hx hb dL_law_706 ?_
  obtain ⟨v24, e25, h⟩ := ob h
  obtain ⟨hin, rfl⟩ := sX_spec e25
  refine va_sld (pc := 707) hx hb hXs hbl hbA hM.2 hin dL_law_707 ?_
  obtain ⟨v27, M28, e26, h⟩ := ob2 h
  obtain ⟨fs29, hb30⟩ := (rX11_counting e26)
  refine bz_callV1 (pc := 708) (As := [.int (xs ((x3 + (1 : Int32))).toNatClampNeg), .int (xs ((x3 + (2 : Int32))).toNatClampNeg), .int (xs ((x3 + (3 : Int32))).toNatClampNeg), .int (xs ((x3 + (4 : Int32))).toNatClampNeg), .int (xs ((x3 + (5 : Int32))).toNatClampNeg)]) (rest := [.int v12]) X hM hl.1 k_RL_68 (ctX11_counting l e26) rfl hb30 rfl rfl ⟨(Nat.le_of_ble_eq_true rfl), (Nat.le_of_ble_eq_true rfl)⟩ (Nat.le_of_ble_eq_true rfl) ⟨by show _ ≤ 600000; omega, by show _ ≤ 7302250; omega⟩ dL_law_708 (fun H locs hM => ?_)
  refine lv_icmp_eq (pc := 711) (tgt := 1965) hx hb dL_law_711 (by decide) (fun hc => ?_) (fun hc => ?_)
  · have h := if_t hc h
    refine lv_iinc (pc := 1965) (v := (x3 + (6 : Int32))) (lv' := [(3, .int (x3 + (6 : Int32))), (0, .ref b), (1, .ref (pB P + x1)), (2, .ref (pB P + x2))]) hx hb dL_law_1965 hl (k := 3) rfl rfl (by decide) rfl (fun ls hl => ?_)
    refine lv_goto (pc := 1968) (tgt := 18) hx hb dL_law_1968 (by decide) ?_
    refine W.widen (k := cl + 5) (n := 1000 * (cl + 5)) (by omega) (by omega) ?_
    exact hK18 (cl + 5) (by omega) _ _ _ _ h H locs ls hM (lv_sub hl [1, 2, 3, 0] rfl)
  · have h := if_f hc h
    refine lv_iconst (pc := 714) (v := (0 : Int32)) hx hb dL_law_714 (by decide) ?_
    exact absurd (so2 h).1 (by decide)
set_option maxHeartbeats 4000000 in
set_option maxRecDepth 100000 in
theorem wjL_law_600 {p : Program} {l : Launch} {e : Env} {s : State} {m : MethodId} {below : List Frame} {meth : Method} {c : Code} {P : PT} {b L N : Nat} {xs : Nat → Int32} {M9 : Mm} (hX : Cl p s m c meth b P) (hXs : va_X b L xs s s.heap) (hbl : b < s.heap.size) (hbA : ¬ pB P ≤ b) {K18 : Mm → Nat → Nat → Int32 → Option (Int32 × Mm)} {cl n : Nat} (hcl : cl + 5 * (n + 1) ≤ 7000) (hK18 : ∀ (cl : Nat) (_ : cl + 5 * n ≤ 7000) (M : Mm) (x1 x2 : Nat) (x3 : Int32), K18 M x1 x2 x3 = some (1, M9) → Wl p l e s m below meth c b P cl 18 [(0, .ref b), (1, .ref (pB P + x1)), (2, .ref (pB P + x2)), (3, .int x3)] [] M) (M : Mm) (x1 x2 : Nat) (x3 : Int32) (h : jL_law_600 N L xs K18 M x1 x2 x3 = some (1, M9)) : Wl p l e s m below meth c b P cl 600 [(0, .ref b), (1, .ref (pB P + x1)), (2, .ref (pB P + x2)), (3, .int x3)] [] M := by
  unfold jL_law_600 at h
  obtain ⟨X, hr, hlk, hBs⟩ := id hX
  have hx := X.1.1
  have hb := X.1.2.1
  intro H locs ls hM hl
  refine lv_aload_n (pc := 600) hx hb dL_law_600 rfl (lv_at hl 1 rfl) ?_
  refine lv_aload_n (pc := 601) hx hb dL_law_601 rfl (lv_at hl 0 rfl) ?_
  refine lv_iload_n (pc := 602) hx hb dL_law_602 rfl (lv_at hl 3 rfl) ?_
  refine lv_iconst (pc := 603) (v := (1 : Int32)) hx hb dL_law_603 (by decide) ?_
  refine lv_iadd (pc := 604) hx hb dL_law_604 ?_
  obtain ⟨v1, e2, h⟩ := ob h
  obtain ⟨hin, rfl⟩ := sX_spec e2
  refine va_sld (pc := 605) hx hb hXs hbl hbA hM.2 hin dL_law_605 ?_
  refine lv_aload_n (pc := 606) hx hb dL_law_606 rfl (lv_at hl 0 rfl) ?_
  refine lv_iload_n (pc := 607) hx hb dL_law_607 rfl (lv_at hl 3 rfl) ?_
  refine lv_iconst (pc := 608) (v := (2 : Int32)) hx hb dL_law_608 (by decide) ?_
  refine lv_iadd (pc := 609) hx hb dL_law_609 ?_
  obtain ⟨v3, e4, h⟩ := ob h
  obtain ⟨hin, rfl⟩ := sX_spec e4
  refine va_sld (pc := 610) hx hb hXs hbl hbA hM.2 hin dL_law_610 ?_
  refine lv_aload_n (pc := 611) hx hb dL_law_611 rfl (lv_at hl 0 rfl) ?_
  refine lv_iload_n (pc := 612) hx hb dL_law_612 rfl (lv_at hl 3 rfl) ?_
  refine lv_iconst (pc := 613) (v := (3 : Int32)) hx hb dL_law_613 (by decide) ?_
  refine lv_iadd (pc := 614) hx hb dL_law_614 ?_
  obtain ⟨v5, e6, h⟩ := ob h
  obtain ⟨hin, rfl⟩ := sX_spec e6
  refine va_sld (pc := 615) hx hb hXs hbl hbA hM.2 hin dL_law_615 ?_
  refine lv_aload_n (pc := 616) hx hb dL_law_616 rfl (lv_at hl 0 rfl) ?_
  refine lv_iload_n (pc := 617) hx hb dL_law_617 rfl (lv_at hl 3 rfl) ?_
  refine lv_iconst (pc := 618) (v := (4 : Int32)) hx hb dL_law_618 (by decide) ?_
  refine lv_iadd (pc := 619) hx hb dL_law_619 ?_
  obtain ⟨v7, e8, h⟩ := ob h
  obtain ⟨hin, rfl⟩ := sX_spec e8
  refine va_sld (pc := 620) hx hb hXs hbl hbA hM.2 hin dL_law_620 ?_
  obtain ⟨v10, M11, e9, h⟩ := ob2 h
  obtain ⟨fs12, hb13⟩ := (rX10_meets e9)
  refine bz_callV1 (pc := 621) (As := [.int (xs ((x3 + (1 : Int32))).toNatClampNeg), .int (xs ((x3 + (2 : Int32))).toNatClampNeg), .int (xs ((x3 + (3 : Int32))).toNatClampNeg), .int (xs ((x3 + (4 : Int32))).toNatClampNeg)]) (rest := []) X hM hl.1 k_RL_59 (ctX10_meets l e9) rfl hb13 rfl rfl ⟨(Nat.le_of_ble_eq_true rfl), (Nat.le_of_ble_eq_true rfl)⟩ (Nat.le_of_ble_eq_true rfl) ⟨by show _ ≤ 600000; omega, by show _ ≤ 7302250; omega⟩ dL_law_621 (fun H locs hM => ?_)
  refine lv_aload_n (pc := 624) hx hb dL_law_624 rfl (lv_at hl 2 rfl) ?_
  refine lv_aload_n (pc := 625) hx hb dL_law_625 rfl (lv_at hl 0 rfl) ?_
  refine lv_iload_n (pc := 626) hx hb dL_law_626 rfl (lv_at hl 3 rfl) ?_
  refine lv_iconst (pc := 627) (v := (1 : Int32)) hx hb dL_law_627 (by decide) ?_
  refine lv_iadd (pc := 628) hx hb dL_law_628 ?_
  obtain ⟨v14, e15, h⟩ := ob h
  obtain ⟨hin, rfl⟩ := sX_spec e15
  refine va_sld (pc := 629) hx hb hXs hbl hbA hM.2 hin dL_law_629 ?_
  refine lv_aload_n (pc := 630) hx hb dL_law_630 rfl (lv_at hl 0 rfl) ?_
  refine lv_iload_n (pc := 631) hx hb dL_law_631 rfl (lv_at hl 3 rfl) ?_
  refine lv_iconst (pc := 632) (v := (2 : Int32)) hx hb dL_law_632 (by decide) ?_
  refine lv_iadd (pc := 633) hx hb dL_law_633 ?_
  obtain ⟨v16, e17, h⟩ := ob h
  obtain ⟨hin, rfl⟩ := sX_spec e17
  refine va_sld (pc := 634) hx hb hXs hbl hbA hM.2 hin dL_law_634 ?_
  refine lv_aload_n (pc := 635) hx hb dL_law_635 rfl (lv_at hl 0 rfl) ?_
  refine lv_iload_n (pc := 636) hx hb dL_law_636 rfl (lv_at hl 3 rfl) ?_
  refine lv_iconst (pc := 637) (v := (3 : Int32)) hx hb dL_law_637 (by decide) ?_
  refine lv_iadd (pc := 638) hx hb dL_law_638 ?_
  obtain ⟨v18, e19, h⟩ := ob h
  obtain ⟨hin, rfl⟩ := sX_spec e19
  refine va_sld (pc := 639) hx hb hXs hbl hbA hM.2 hin dL_law_639 ?_
  refine lv_aload_n (pc := 640) hx hb dL_law_640 rfl (lv_at hl 0 rfl) ?_
  refine lv_iload_n (pc := 641) hx hb dL_law_641 rfl (lv_at hl 3 rfl) ?_
  refine lv_iconst (pc := 642) (v := (4 : Int32)) hx hb dL_law_642 (by decide) ?_
  refine lv_iadd (pc := 643) hx hb dL_law_643 ?_
  obtain ⟨v20, e21, h⟩ := ob h
  obtain ⟨hin, rfl⟩ := sX_spec e21
  refine va_sld (pc := 644) hx hb hXs hbl hbA hM.2 hin dL_law_644 ?_
  obtain ⟨v23, M24, e22, h⟩ := ob2 h
  obtain ⟨fs25, hb26⟩ := (rX11_meets e22)
  refine bz_callV1 (pc := 645) (As := [.int (xs ((x3 + (1 : Int32))).toNatClampNeg), .int (xs ((x3 + (2 : Int32))).toNatClampNeg), .int (xs ((x3 + (3 : Int32))).toNatClampNeg), .int (xs ((x3 + (4 : Int32))).toNatClampNeg)]) (rest := [.int v10]) X hM hl.1 k_RL_63 (ctX11_meets l e22) rfl hb26 rfl rfl ⟨(Nat.le_of_ble_eq_true rfl), (Nat.le_of_ble_eq_true rfl)⟩ (Nat.le_of_ble_eq_true rfl) ⟨by show _ ≤ 600000; omega, by show _ ≤ 7302250; omega⟩ dL_law_645 (fun H locs hM => ?_)
  refine lv_icmp_eq (pc := 648) (tgt := 1965) hx hb dL_law_648 (by decide) (fun hc => ?_) (fun hc => ?_)
  · have h := if_t hc h
    refine lv_iinc (pc := 1965) (v := (x3 + (6 : Int32))) (lv' := [(3, .int (x3 + (6 : Int32))), (0, .ref b), (1, .ref (pB P + x1)), (2, .ref (pB P + x2))]) hx hb dL_law_1965 hl (k := 3) rfl rfl (by decide) rfl (fun ls hl => ?_)
    refine lv_goto (pc := 1968) (tgt := 18) hx hb dL_law_1968 (by decide) ?_
    refine W.widen (k := cl + 5) (n := 1000 * (cl + 5)) (by omega) (by omega) ?_
    exact hK18 (cl + 5) (by omega) _ _ _ _ h H locs ls hM (lv_sub hl [1, 2, 3, 0] rfl)
  · have h := if_f hc h
    refine lv_iconst (pc := 651) (v := (0 : Int32)) hx hb dL_law_651 (by decide) ?_
    exact absurd (so2 h).1 (by decide)
set_option maxHeartbeats 4000000 in
set_option maxRecDepth 100000 in
theorem wjL_law_557 {p : Program} {l : Launch} {e : Env} {s : State} {m : MethodId} {below : List Frame} {meth : Method} {c : Code} {P : PT} {b L N : Nat} {xs : Nat → Int32} {M9 : Mm} (hX : Cl p s m c meth b P) (hXs : va_X b L xs s s.heap) (hbl : b < s.heap.size) (hbA : ¬ pB P ≤ b) {K18 : Mm → Nat → Nat → Int32 → Option (Int32 × Mm)} {cl n : Nat} (hcl : cl + 5 * (n + 1) ≤ 7000) (hK18 : ∀ (cl : Nat) (_ : cl + 5 * n ≤ 7000) (M : Mm) (x1 x2 : Nat) (x3 : Int32), K18 M x1 x2 x3 = some (1, M9) → Wl p l e s m below meth c b P cl 18 [(0, .ref b), (1, .ref (pB P + x1)), (2, .ref (pB P + x2)), (3, .int x3)] [] M) (M : Mm) (x1 x2 : Nat) (x3 : Int32) (h : jL_law_557 N L xs K18 M x1 x2 x3 = some (1, M9)) : Wl p l e s m below meth c b P cl 557 [(0, .ref b), (1, .ref (pB P + x1)), (2, .ref (pB P + x2)), (3, .int x3)] [] M := by
  unfold jL_law_557 at h
  obtain ⟨X, hr, hlk, hBs⟩ := id hX
  have hx := X.1.1
  have hb := X.1.2.1
  intro H locs ls hM hl
  refine lv_aload_n (pc := 557) hx hb dL_law_557 rfl (lv_at hl 1 rfl) ?_
  refine lv_aload_n (pc := 558) hx hb dL_law_558 rfl (lv_at hl 0 rfl) ?_
  refine lv_iload_n (pc := 559) hx hb dL_law_559 rfl (lv_at hl 3 rfl) ?_
  refine lv_iconst (pc := 560) (v := (1 : Int32)) hx hb dL_law_560 (by decide) ?_
  refine lv_iadd (pc := 561) hx hb dL_law_561 ?_
  obtain ⟨v1, e2, h⟩ := ob h
  obtain ⟨hin, rfl⟩ := sX_spec e2
  refine va_sld (pc := 562) hx hb hXs hbl hbA hM.2 hin dL_law_562 ?_
  refine lv_aload_n (pc := 563) hx hb dL_law_563 rfl (lv_at hl 0 rfl) ?_
  refine lv_iload_n (pc := 564) hx hb dL_law_564 rfl (lv_at hl 3 rfl) ?_
  refine lv_iconst (pc := 565) (v := (2 : Int32)) hx hb dL_law_565 (by decide) ?_
  refine lv_iadd (pc := 566) hx hb dL_law_566 ?_
  obtain ⟨v3, e4, h⟩ := ob h
  obtain ⟨hin, rfl⟩ := sX_spec e4
  refine va_sld (pc := 567) hx hb hXs hbl hbA hM.2 hin dL_law_567 ?_
  refine lv_aload_n (pc := 568) hx hb dL_law_568 rfl (lv_at hl 0 rfl) ?_
  refine lv_iload_n (pc := 569) hx hb dL_law_569 rfl (lv_at hl 3 rfl) ?_
  refine lv_iconst (pc := 570) (v := (3 : Int32)) hx hb dL_law_570 (by decide) ?_
  refine lv_iadd (pc := 571) hx hb dL_law_571 ?_
  obtain ⟨v5, e6, h⟩ := ob h
  obtain ⟨hin, rfl⟩ := sX_spec e6
  refine va_sld (pc := 572) hx hb hXs hbl hbA hM.2 hin dL_law_572 ?_
  obtain ⟨v8, M9, e7, h⟩ := ob2 h
  obtain ⟨fs10, hb11⟩ := (rX10_law e7)
  refine bz_callV1 (pc := 573) (As := [.int (xs ((x3 + (1 : Int32))).toNatClampNeg), .int (xs ((x3 + (2 : Int32))).toNatClampNeg), .int (xs ((x3 + (3 : Int32))).toNatClampNeg)]) (rest := []) X hM hl.1 k_RL_55 (ctX10_law l e7) rfl hb11 rfl rfl ⟨(Nat.le_of_ble_eq_true rfl), (Nat.le_of_ble_eq_true rfl)⟩ (Nat.le_of_ble_eq_true rfl) ⟨by show _ ≤ 600000; omega, by show _ ≤ 7302250; omega⟩ dL_law_573 (fun H locs hM => ?_)
  refine lv_aload_n (pc := 576) hx hb dL_law_576 rfl (lv_at hl 2 rfl) ?_
  refine lv_aload_n (pc := 577) hx hb dL_law_577 rfl (lv_at hl 0 rfl) ?_
  refine lv_iload_n (pc := 578) hx hb dL_law_578 rfl (lv_at hl 3 rfl) ?_
  refine lv_iconst (pc := 579) (v := (1 : Int32)) hx hb dL_law_579 (by decide) ?_
  refine lv_iadd (pc := 580) hx hb dL_law_580 ?_
  obtain ⟨v12, e13, h⟩ := ob h
  obtain ⟨hin, rfl⟩ := sX_spec e13
  refine va_sld (pc := 581) hx hb hXs hbl hbA hM.2 hin dL_law_581 ?_
  refine lv_aload_n (pc := 582) hx hb dL_law_582 rfl (lv_at hl 0 rfl) ?_
  refine lv_iload_n (pc := 583) hx hb dL_law_583 rfl (lv_at hl 3 rfl) ?_
  refine lv_iconst (pc := 584) (v := (2 : Int32)) hx hb dL_law_584 (by decide) ?_
  refine lv_iadd (pc := 585) hx hb dL_law_585 ?_
  obtain ⟨v14, e15, h⟩ := ob h
  obtain ⟨hin, rfl⟩ := sX_spec e15
  refine va_sld (pc := 586) hx hb hXs hbl hbA hM.2 hin dL_law_586 ?_
  refine lv_aload_n (pc := 587) hx hb dL_law_587 rfl (lv_at hl 0 rfl) ?_
  refine lv_iload_n (pc := 588) hx hb dL_law_588 rfl (lv_at hl 3 rfl) ?_
  refine lv_iconst (pc := 589) (v := (3 : Int32)) hx hb dL_law_589 (by decide) ?_
  refine lv_iadd (pc := 590) hx hb dL_law_590 ?_
  obtain ⟨v16, e17, h⟩ := ob h
  obtain ⟨hin, rfl⟩ := sX_spec e17
  refine va_sld (pc := 591) hx hb hXs hbl hbA hM.2 hin dL_law_591 ?_
  obtain ⟨v19, M20, e18, h⟩ := ob2 h
  obtain ⟨fs21, hb22⟩ := (rX11_law e18)
  refine bz_callV1 (pc := 592) (As := [.int (xs ((x3 + (1 : Int32))).toNatClampNeg), .int (xs ((x3 + (2 : Int32))).toNatClampNeg), .int (xs ((x3 + (3 : Int32))).toNatClampNeg)]) (rest := [.int v8]) X hM hl.1 k_RL_58 (ctX11_law l e18) rfl hb22 rfl rfl ⟨(Nat.le_of_ble_eq_true rfl), (Nat.le_of_ble_eq_true rfl)⟩ (Nat.le_of_ble_eq_true rfl) ⟨by show _ ≤ 600000; omega, by show _ ≤ 7302250; omega⟩ dL_law_592 (fun H locs hM => ?_)
  refine lv_icmp_eq (pc := 595) (tgt := 1965) hx hb dL_law_595 (by decide) (fun hc => ?_) (fun hc => ?_)
  · have h := if_t hc h
    refine lv_iinc (pc := 1965) (v := (x3 + (6 : Int32))) (lv' := [(3, .int (x3 + (6 : Int32))), (0, .ref b), (1, .ref (pB P + x1)), (2, .ref (pB P + x2))]) hx hb dL_law_1965 hl (k := 3) rfl rfl (by decide) rfl (fun ls hl => ?_)
    refine lv_goto (pc := 1968) (tgt := 18) hx hb dL_law_1968 (by decide) ?_
    refine W.widen (k := cl + 5) (n := 1000 * (cl + 5)) (by omega) (by omega) ?_
    exact hK18 (cl + 5) (by omega) _ _ _ _ h H locs ls hM (lv_sub hl [1, 2, 3, 0] rfl)
  · have h := if_f hc h
    refine lv_iconst (pc := 598) (v := (0 : Int32)) hx hb dL_law_598 (by decide) ?_
    exact absurd (so2 h).1 (by decide)
set_option maxHeartbeats 4000000 in
set_option maxRecDepth 100000 in
theorem wjL_law_534 {p : Program} {l : Launch} {e : Env} {s : State} {m : MethodId} {below : List Frame} {meth : Method} {c : Code} {P : PT} {b L N : Nat} {xs : Nat → Int32} {M9 : Mm} (hX : Cl p s m c meth b P) (hXs : va_X b L xs s s.heap) (hbl : b < s.heap.size) (hbA : ¬ pB P ≤ b) {K18 : Mm → Nat → Nat → Int32 → Option (Int32 × Mm)} {cl n : Nat} (hcl : cl + 5 * (n + 1) ≤ 7000) (hK18 : ∀ (cl : Nat) (_ : cl + 5 * n ≤ 7000) (M : Mm) (x1 x2 : Nat) (x3 : Int32), K18 M x1 x2 x3 = some (1, M9) → Wl p l e s m below meth c b P cl 18 [(0, .ref b), (1, .ref (pB P + x1)), (2, .ref (pB P + x2)), (3, .int x3)] [] M) (M : Mm) (x1 x2 : Nat) (x3 : Int32) (h : jL_law_534 N L xs K18 M x1 x2 x3 = some (1, M9)) : Wl p l e s m below meth c b P cl 534 [(0, .ref b), (1, .ref (pB P + x1)), (2, .ref (pB P + x2)), (3, .int x3)] [] M := by
  unfold jL_law_534 at h
  obtain ⟨X, hr, hlk, hBs⟩ := id hX
  have hx := X.1.1
  have hb := X.1.2.1
  intro H locs ls hM hl
  refine lv_aload_n (pc := 534) hx hb dL_law_534 rfl (lv_at hl 1 rfl) ?_
  refine lv_aload_n (pc := 535) hx hb dL_law_535 rfl (lv_at hl 0 rfl) ?_
  refine lv_iload_n (pc := 536) hx hb dL_law_536 rfl (lv_at hl 3 rfl) ?_
  refine lv_iconst (pc := 537) (v := (1 : Int32)) hx hb dL_law_537 (by decide) ?_
  refine lv_iadd (pc := 538) hx hb dL_law_538 ?_
  obtain ⟨v1, e2, h⟩ := ob h
  obtain ⟨hin, rfl⟩ := sX_spec e2
  refine va_sld (pc := 539) hx hb hXs hbl hbA hM.2 hin dL_law_539 ?_
  obtain ⟨v4, M5, e3, h⟩ := ob2 h
  obtain ⟨fs6, hb7⟩ := (rX10_text e3)
  refine bz_callV1 (pc := 540) (As := [.int (xs ((x3 + (1 : Int32))).toNatClampNeg)]) (rest := []) X hM hl.1 k_RL_51 (ctX10_text l e3) rfl hb7 rfl rfl ⟨(Nat.le_of_ble_eq_true rfl), (Nat.le_of_ble_eq_true rfl)⟩ (Nat.le_of_ble_eq_true rfl) ⟨by show _ ≤ 600000; omega, by show _ ≤ 7302250; omega⟩ dL_law_540 (fun H locs hM => ?_)
  refine lv_aload_n (pc := 543) hx hb dL_law_543 rfl (lv_at hl 2 rfl) ?_
  refine lv_aload_n (pc := 544) hx hb dL_law_544 rfl (lv_at hl 0 rfl) ?_
  refine lv_iload_n (pc := 545) hx hb dL_law_545 rfl (lv_at hl 3 rfl) ?_
  refine lv_iconst (pc := 546) (v := (1 : Int32)) hx hb dL_law_546 (by decide) ?_
  refine lv_iadd (pc := 547) hx hb dL_law_547 ?_
  obtain ⟨v8, e9, h⟩ := ob h
  obtain ⟨hin, rfl⟩ := sX_spec e9
  refine va_sld (pc := 548) hx hb hXs hbl hbA hM.2 hin dL_law_548 ?_
  obtain ⟨v11, M12, e10, h⟩ := ob2 h
  obtain ⟨fs13, hb14⟩ := (rX11_text e10)
  refine bz_callV1 (pc := 549) (As := [.int (xs ((x3 + (1 : Int32))).toNatClampNeg)]) (rest := [.int v4]) X hM hl.1 k_RL_54 (ctX11_text l e10) rfl hb14 rfl rfl ⟨(Nat.le_of_ble_eq_true rfl), (Nat.le_of_ble_eq_true rfl)⟩ (Nat.le_of_ble_eq_true rfl) ⟨by show _ ≤ 600000; omega, by show _ ≤ 7302250; omega⟩ dL_law_549 (fun H locs hM => ?_)
  refine lv_icmp_eq (pc := 552) (tgt := 1965) hx hb dL_law_552 (by decide) (fun hc => ?_) (fun hc => ?_)
  · have h := if_t hc h
    refine lv_iinc (pc := 1965) (v := (x3 + (6 : Int32))) (lv' := [(3, .int (x3 + (6 : Int32))), (0, .ref b), (1, .ref (pB P + x1)), (2, .ref (pB P + x2))]) hx hb dL_law_1965 hl (k := 3) rfl rfl (by decide) rfl (fun ls hl => ?_)
    refine lv_goto (pc := 1968) (tgt := 18) hx hb dL_law_1968 (by decide) ?_
    refine W.widen (k := cl + 5) (n := 1000 * (cl + 5)) (by omega) (by omega) ?_
    exact hK18 (cl + 5) (by omega) _ _ _ _ h H locs ls hM (lv_sub hl [1, 2, 3, 0] rfl)
  · have h := if_f hc h
    refine lv_iconst (pc := 555) (v := (0 : Int32)) hx hb dL_law_555 (by decide) ?_
    exact absurd (so2 h).1 (by decide)
set_option maxHeartbeats 4000000 in
set_option maxRecDepth 100000 in
theorem wjL_law_471 {p : Program} {l : Launch} {e : Env} {s : State} {m : MethodId} {below : List Frame} {meth : Method} {c : Code} {P : PT} {b L N : Nat} {xs : Nat → Int32} {M9 : Mm} (hX : Cl p s m c meth b P) (hXs : va_X b L xs s s.heap) (hbl : b < s.heap.size) (hbA : ¬ pB P ≤ b) {K18 : Mm → Nat → Nat → Int32 → Option (Int32 × Mm)} {cl n : Nat} (hcl : cl + 5 * (n + 1) ≤ 7000) (hK18 : ∀ (cl : Nat) (_ : cl + 5 * n ≤ 7000) (M : Mm) (x1 x2 : Nat) (x3 : Int32), K18 M x1 x2 x3 = some (1, M9) → Wl p l e s m below meth c b P cl 18 [(0, .ref b), (1, .ref (pB P + x1)), (2, .ref (pB P + x2)), (3, .int x3)] [] M) (M : Mm) (x1 x2 : Nat) (x3 : Int32) (h : jL_law_471 N L xs K18 M x1 x2 x3 = some (1, M9)) : Wl p l e s m below meth c b P cl 471 [(0, .ref b), (1, .ref (pB P + x1)), (2, .ref (pB P + x2)), (3, .int x3)] [] M := by
  unfold jL_law_471 at h
  obtain ⟨X, hr, hlk, hBs⟩ := id hX
  have hx := X.1.1
  have hb := X.1.2.1
  intro H locs ls hM hl
  refine lv_aload_n (pc := 471) hx hb dL_law_471 rfl (lv_at hl 1 rfl) ?_
  refine lv_aload_n (pc := 472) hx hb dL_law_472 rfl (lv_at hl 0 rfl) ?_
  refine lv_iload_n (pc := 473) hx hb dL_law_473 rfl (lv_at hl 3 rfl) ?_
  refine lv_iconst (pc := 474) (v := (1 : Int32)) hx hb dL_law_474 (by decide) ?_
  refine lv_iadd (pc := 475) hx hb dL_law_475 ?_
  obtain ⟨v1, e2, h⟩ := ob h
  obtain ⟨hin, rfl⟩ := sX_spec e2
  refine va_sld (pc := 476) hx hb hXs hbl hbA hM.2 hin dL_law_476 ?_
  refine lv_i2l (pc := 477) (v := (((xs ((x3 + (1 : Int32))).toNatClampNeg)).toInt64)) hx hb dL_law_477 rfl ?_
  refine lv_bipush (pc := 478) (v := (32 : Int32)) hx hb dL_law_478 (by decide) ?_
  refine lv_lshl (pc := 480) (v := (((((xs ((x3 + (1 : Int32))).toNatClampNeg)).toInt64) <<< (((32 : Int32)).toInt64 &&& 63)))) hx hb dL_law_480 rfl ?_
  refine lv_aload_n (pc := 481) hx hb dL_law_481 rfl (lv_at hl 0 rfl) ?_
  refine lv_iload_n (pc := 482) hx hb dL_law_482 rfl (lv_at hl 3 rfl) ?_
  refine lv_iconst (pc := 483) (v := (2 : Int32)) hx hb dL_law_483 (by decide) ?_
  refine lv_iadd (pc := 484) hx hb dL_law_484 ?_
  obtain ⟨v3, e4, h⟩ := ob h
  obtain ⟨hin, rfl⟩ := sX_spec e4
  refine va_sld (pc := 485) hx hb hXs hbl hbA hM.2 hin dL_law_485 ?_
  refine lv_i2l (pc := 486) (v := (((xs ((x3 + (2 : Int32))).toNatClampNeg)).toInt64)) hx hb dL_law_486 rfl ?_
  refine lv_ldc2 (pc := 487) (v := (4294967295 : Int64)) hx hb X.1.2.2.2.1 (X.1.2.2.2.2 _ g_1747) dL_law_487 ?_
  refine lv_land (pc := 490) hx hb dL_law_490 ?_
  refine lv_lor (pc := 491) hx hb dL_law_491 ?_
  refine lv_aload_n (pc := 492) hx hb dL_law_492 rfl (lv_at hl 0 rfl) ?_
  refine lv_iload_n (pc := 493) hx hb dL_law_493 rfl (lv_at hl 3 rfl) ?_
  refine lv_iconst (pc := 494) (v := (3 : Int32)) hx hb dL_law_494 (by decide) ?_
  refine lv_iadd (pc := 495) hx hb dL_law_495 ?_
  obtain ⟨v5, e6, h⟩ := ob h
  obtain ⟨hin, rfl⟩ := sX_spec e6
  refine va_sld (pc := 496) hx hb hXs hbl hbA hM.2 hin dL_law_496 ?_
  obtain ⟨v8, M9, e7, h⟩ := ob2 h
  obtain ⟨fs10, hb11⟩ := (rX10_feed e7)
  refine bz_callV1 (pc := 497) (As := [.long ((((((xs ((x3 + (1 : Int32))).toNatClampNeg)).toInt64) <<< (((32 : Int32)).toInt64 &&& 63))) ||| ((((xs ((x3 + (2 : Int32))).toNatClampNeg)).toInt64) &&& (4294967295 : Int64))), .int (xs ((x3 + (3 : Int32))).toNatClampNeg)]) (rest := []) X hM hl.1 k_RL_46 (ctX10_feed l e7) rfl hb11 rfl rfl ⟨(Nat.le_of_ble_eq_true rfl), (Nat.le_of_ble_eq_true rfl)⟩ (Nat.le_of_ble_eq_true rfl) ⟨by show _ ≤ 600000; omega, by show _ ≤ 7302250; omega⟩ dL_law_497 (fun H locs hM => ?_)
  refine lv_aload_n (pc := 500) hx hb dL_law_500 rfl (lv_at hl 2 rfl) ?_
  refine lv_aload_n (pc := 501) hx hb dL_law_501 rfl (lv_at hl 0 rfl) ?_
  refine lv_iload_n (pc := 502) hx hb dL_law_502 rfl (lv_at hl 3 rfl) ?_
  refine lv_iconst (pc := 503) (v := (1 : Int32)) hx hb dL_law_503 (by decide) ?_
  refine lv_iadd (pc := 504) hx hb dL_law_504 ?_
  obtain ⟨v12, e13, h⟩ := ob h
  obtain ⟨hin, rfl⟩ := sX_spec e13
  refine va_sld (pc := 505) hx hb hXs hbl hbA hM.2 hin dL_law_505 ?_
  refine lv_i2l (pc := 506) (v := (((xs ((x3 + (1 : Int32))).toNatClampNeg)).toInt64)) hx hb dL_law_506 rfl ?_
  refine lv_bipush (pc := 507) (v := (32 : Int32)) hx hb dL_law_507 (by decide) ?_
  refine lv_lshl (pc := 509) (v := (((((xs ((x3 + (1 : Int32))).toNatClampNeg)).toInt64) <<< (((32 : Int32)).toInt64 &&& 63)))) hx hb dL_law_509 rfl ?_
  refine lv_aload_n (pc := 510) hx hb dL_law_510 rfl (lv_at hl 0 rfl) ?_
  refine lv_iload_n (pc := 511) hx hb dL_law_511 rfl (lv_at hl 3 rfl) ?_
  refine lv_iconst (pc := 512) (v := (2 : Int32)) hx hb dL_law_512 (by decide) ?_
  refine lv_iadd (pc := 513) hx hb dL_law_513 ?_
  obtain ⟨v14, e15, h⟩ := ob h
  obtain ⟨hin, rfl⟩ := sX_spec e15
  refine va_sld (pc := 514) hx hb hXs hbl hbA hM.2 hin dL_law_514 ?_
  refine lv_i2l (pc := 515) (v := (((xs ((x3 + (2 : Int32))).toNatClampNeg)).toInt64)) hx hb dL_law_515 rfl ?_
  refine lv_ldc2 (pc := 516) (v := (4294967295 : Int64)) hx hb X.1.2.2.2.1 (X.1.2.2.2.2 _ g_1747) dL_law_516 ?_
  refine lv_land (pc := 519) hx hb dL_law_519 ?_
  refine lv_lor (pc := 520) hx hb dL_law_520 ?_
  refine lv_aload_n (pc := 521) hx hb dL_law_521 rfl (lv_at hl 0 rfl) ?_
  refine lv_iload_n (pc := 522) hx hb dL_law_522 rfl (lv_at hl 3 rfl) ?_
  refine lv_iconst (pc := 523) (v := (3 : Int32)) hx hb dL_law_523 (by decide) ?_
  refine lv_iadd (pc := 524) hx hb dL_law_524 ?_
  obtain ⟨v16, e17, h⟩ := ob h
  obtain ⟨hin, rfl⟩ := sX_spec e17
  refine va_sld (pc := 525) hx hb hXs hbl hbA hM.2 hin dL_law_525 ?_
  obtain ⟨v19, M20, e18, h⟩ := ob2 h
  obtain ⟨fs21, hb22⟩ := (rX11_feed e18)
  refine bz_callV1 (pc := 526) (As := [.long ((((((xs ((x3 + (1 : Int32))).toNatClampNeg)).toInt64) <<< (((32 : Int32)).toInt64 &&& 63))) ||| ((((xs ((x3 + (2 : Int32))).toNatClampNeg)).toInt64) &&& (4294967295 : Int64))), .int (xs ((x3 + (3 : Int32))).toNatClampNeg)]) (rest := [.int v8]) X hM hl.1 k_RL_50 (ctX11_feed l e18) rfl hb22 rfl rfl ⟨(Nat.le_of_ble_eq_true rfl), (Nat.le_of_ble_eq_true rfl)⟩ (Nat.le_of_ble_eq_true rfl) ⟨by show _ ≤ 600000; omega, by show _ ≤ 7302250; omega⟩ dL_law_526 (fun H locs hM => ?_)
  refine lv_icmp_eq (pc := 529) (tgt := 1965) hx hb dL_law_529 (by decide) (fun hc => ?_) (fun hc => ?_)
  · have h := if_t hc h
    refine lv_iinc (pc := 1965) (v := (x3 + (6 : Int32))) (lv' := [(3, .int (x3 + (6 : Int32))), (0, .ref b), (1, .ref (pB P + x1)), (2, .ref (pB P + x2))]) hx hb dL_law_1965 hl (k := 3) rfl rfl (by decide) rfl (fun ls hl => ?_)
    refine lv_goto (pc := 1968) (tgt := 18) hx hb dL_law_1968 (by decide) ?_
    refine W.widen (k := cl + 5) (n := 1000 * (cl + 5)) (by omega) (by omega) ?_
    exact hK18 (cl + 5) (by omega) _ _ _ _ h H locs ls hM (lv_sub hl [1, 2, 3, 0] rfl)
  · have h := if_f hc h
    refine lv_iconst (pc := 532) (v := (0 : Int32)) hx hb dL_law_532 (by decide) ?_
    exact absurd (so2 h).1 (by decide)
set_option maxHeartbeats 4000000 in
set_option maxRecDepth 100000 in
theorem wjL_law_438 {p : Program} {l : Launch} {e : Env} {s : State} {m : MethodId} {below : List Frame} {meth : Method} {c : Code} {P : PT} {b L N : Nat} {xs : Nat → Int32} {M9 : Mm} (hX : Cl p s m c meth b P) (hXs : va_X b L xs s s.heap) (hbl : b < s.heap.size) (hbA : ¬ pB P ≤ b) {K18 : Mm → Nat → Nat → Int32 → Option (Int32 × Mm)} {cl n : Nat} (hcl : cl + 5 * (n + 1) ≤ 7000) (hK18 : ∀ (cl : Nat) (_ : cl + 5 * n ≤ 7000) (M : Mm) (x1 x2 : Nat) (x3 : Int32), K18 M x1 x2 x3 = some (1, M9) → Wl p l e s m below meth c b P cl 18 [(0, .ref b), (1, .ref (pB P + x1)), (2, .ref (pB P + x2)), (3, .int x3)] [] M) (M : Mm) (x1 x2 : Nat) (x3 : Int32) (h : jL_law_438 N L xs K18 M x1 x2 x3 = some (1, M9)) : Wl p l e s m below meth c b P cl 438 [(0, .ref b), (1, .ref (pB P + x1)), (2, .ref (pB P + x2)), (3, .int x3)] [] M := by
  unfold jL_law_438 at h
  obtain ⟨X, hr, hlk, hBs⟩ := id hX
  have hx := X.1.1
  have hb := X.1.2.1
  intro H locs ls hM hl
  refine lv_aload_n (pc := 438) hx hb dL_law_438 rfl (lv_at hl 1 rfl) ?_
  refine lv_aload_n (pc := 439) hx hb dL_law_439 rfl (lv_at hl 0 rfl) ?_
  refine lv_iload_n (pc := 440) hx hb dL_law_440 rfl (lv_at hl 3 rfl) ?_
  refine lv_iconst (pc := 441) (v := (1 : Int32)) hx hb dL_law_441 (by decide) ?_
  refine lv_iadd (pc := 442) hx hb dL_law_442 ?_
  obtain ⟨v1, e2, h⟩ := ob h
  obtain ⟨hin, rfl⟩ := sX_spec e2
  refine va_sld (pc := 443) hx hb hXs hbl hbA hM.2 hin dL_law_443 ?_
  refine lv_aload_n (pc := 444) hx hb dL_law_444 rfl (lv_at hl 0 rfl) ?_
  refine lv_iload_n (pc := 445) hx hb dL_law_445 rfl (lv_at hl 3 rfl) ?_
  refine lv_iconst (pc := 446) (v := (2 : Int32)) hx hb dL_law_446 (by decide) ?_
  refine lv_iadd (pc := 447) hx hb dL_law_447 ?_
  obtain ⟨v3, e4, h⟩ := ob h
  obtain ⟨hin, rfl⟩ := sX_spec e4
  refine va_sld (pc := 448) hx hb hXs hbl hbA hM.2 hin dL_law_448 ?_
  obtain ⟨v6, M7, e5, h⟩ := ob2 h
  obtain ⟨fs8, hb9⟩ := (rX10_rows e5)
  refine bz_callV1 (pc := 449) (As := [.int (xs ((x3 + (1 : Int32))).toNatClampNeg), .int (xs ((x3 + (2 : Int32))).toNatClampNeg)]) (rest := []) X hM hl.1 k_RL_40 (ctX10_rows l e5) rfl hb9 rfl rfl ⟨(Nat.le_of_ble_eq_true rfl), (Nat.le_of_ble_eq_true rfl)⟩ (Nat.le_of_ble_eq_true rfl) ⟨by show _ ≤ 600000; omega, by show _ ≤ 7302250; omega⟩ dL_law_449 (fun H locs hM => ?_)
  refine lv_aload_n (pc := 452) hx hb dL_law_452 rfl (lv_at hl 2 rfl) ?_
  refine lv_aload_n (pc := 453) hx hb dL_law_453 rfl (lv_at hl 0 rfl) ?_
  refine lv_iload_n (pc := 454) hx hb dL_law_454 rfl (lv_at hl 3 rfl) ?_
  refine lv_iconst (pc := 455) (v := (1 : Int32)) hx hb dL_law_455 (by decide) ?_
  refine lv_iadd (pc := 456) hx hb dL_law_456 ?_
  obtain ⟨v10, e11, h⟩ := ob h
  obtain ⟨hin, rfl⟩ := sX_spec e11
  refine va_sld (pc := 457) hx hb hXs hbl hbA hM.2 hin dL_law_457 ?_
  refine lv_aload_n (pc := 458) hx hb dL_law_458 rfl (lv_at hl 0 rfl) ?_
  refine lv_iload_n (pc := 459) hx hb dL_law_459 rfl (lv_at hl 3 rfl) ?_
  refine lv_iconst (pc := 460) (v := (2 : Int32)) hx hb dL_law_460 (by decide) ?_
  refine lv_iadd (pc := 461) hx hb dL_law_461 ?_
  obtain ⟨v12, e13, h⟩ := ob h
  obtain ⟨hin, rfl⟩ := sX_spec e13
  refine va_sld (pc := 462) hx hb hXs hbl hbA hM.2 hin dL_law_462 ?_
  obtain ⟨v15, M16, e14, h⟩ := ob2 h
  obtain ⟨fs17, hb18⟩ := (rX11_rows e14)
  refine bz_callV1 (pc := 463) (As := [.int (xs ((x3 + (1 : Int32))).toNatClampNeg), .int (xs ((x3 + (2 : Int32))).toNatClampNeg)]) (rest := [.int v6]) X hM hl.1 k_RL_43 (ctX11_rows l e14) rfl hb18 rfl rfl ⟨(Nat.le_of_ble_eq_true rfl), (Nat.le_of_ble_eq_true rfl)⟩ (Nat.le_of_ble_eq_true rfl) ⟨by show _ ≤ 600000; omega, by show _ ≤ 7302250; omega⟩ dL_law_463 (fun H locs hM => ?_)
  refine lv_icmp_eq (pc := 466) (tgt := 1965) hx hb dL_law_466 (by decide) (fun hc => ?_) (fun hc => ?_)
  · have h := if_t hc h
    refine lv_iinc (pc := 1965) (v := (x3 + (6 : Int32))) (lv' := [(3, .int (x3 + (6 : Int32))), (0, .ref b), (1, .ref (pB P + x1)), (2, .ref (pB P + x2))]) hx hb dL_law_1965 hl (k := 3) rfl rfl (by decide) rfl (fun ls hl => ?_)
    refine lv_goto (pc := 1968) (tgt := 18) hx hb dL_law_1968 (by decide) ?_
    refine W.widen (k := cl + 5) (n := 1000 * (cl + 5)) (by omega) (by omega) ?_
    exact hK18 (cl + 5) (by omega) _ _ _ _ h H locs ls hM (lv_sub hl [1, 2, 3, 0] rfl)
  · have h := if_f hc h
    refine lv_iconst (pc := 469) (v := (0 : Int32)) hx hb dL_law_469 (by decide) ?_
    exact absurd (so2 h).1 (by decide)
set_option maxHeartbeats 4000000 in
set_option maxRecDepth 100000 in
theorem wjL_law_405 {p : Program} {l : Launch} {e : Env} {s : State} {m : MethodId} {below : List Frame} {meth : Method} {c : Code} {P : PT} {b L N : Nat} {xs : Nat → Int32} {M9 : Mm} (hX : Cl p s m c meth b P) (hXs : va_X b L xs s s.heap) (hbl : b < s.heap.size) (hbA : ¬ pB P ≤ b) {K18 : Mm → Nat → Nat → Int32 → Option (Int32 × Mm)} {cl n : Nat} (hcl : cl + 5 * (n + 1) ≤ 7000) (hK18 : ∀ (cl : Nat) (_ : cl + 5 * n ≤ 7000) (M : Mm) (x1 x2 : Nat) (x3 : Int32), K18 M x1 x2 x3 = some (1, M9) → Wl p l e s m below meth c b P cl 18 [(0, .ref b), (1, .ref (pB P + x1)), (2, .ref (pB P + x2)), (3, .int x3)] [] M) (M : Mm) (x1 x2 : Nat) (x3 : Int32) (h : jL_law_405 N L xs K18 M x1 x2 x3 = some (1, M9)) : Wl p l e s m below meth c b P cl 405 [(0, .ref b), (1, .ref (pB P + x1)), (2, .ref (pB P + x2)), (3, .int x3)] [] M := by
  unfold jL_law_405 at h
  obtain ⟨X, hr, hlk, hBs⟩ := id hX
  have hx := X.1.1
  have hb := X.1.2.1
  intro H locs ls hM hl
  refine lv_aload_n (pc := 405) hx hb dL_law_405 rfl (lv_at hl 1 rfl) ?_
  refine lv_aload_n (pc := 406) hx hb dL_law_406 rfl (lv_at hl 0 rfl) ?_
  refine lv_iload_n (pc := 407) hx hb dL_law_407 rfl (lv_at hl 3 rfl) ?_
  refine lv_iconst (pc := 408) (v := (1 : Int32)) hx hb dL_law_408 (by decide) ?_
  refine lv_iadd (pc := 409) hx hb dL_law_409 ?_
  obtain ⟨v1, e2, h⟩ := ob h
  obtain ⟨hin, rfl⟩ := sX_spec e2
  refine va_sld (pc := 410) hx hb hXs hbl hbA hM.2 hin dL_law_410 ?_
  refine lv_aload_n (pc := 411) hx hb dL_law_411 rfl (lv_at hl 0 rfl) ?_
  refine lv_iload_n (pc := 412) hx hb dL_law_412 rfl (lv_at hl 3 rfl) ?_
  refine lv_iconst (pc := 413) (v := (2 : Int32)) hx hb dL_law_413 (by decide) ?_
  refine lv_iadd (pc := 414) hx hb dL_law_414 ?_
  obtain ⟨v3, e4, h⟩ := ob h
  obtain ⟨hin, rfl⟩ := sX_spec e4
  refine va_sld (pc := 415) hx hb hXs hbl hbA hM.2 hin dL_law_415 ?_
  obtain ⟨v6, M7, e5, h⟩ := ob2 h
  obtain ⟨fs8, hb9⟩ := (rX10_counts e5)
  refine bz_callV1 (pc := 416) (As := [.int (xs ((x3 + (1 : Int32))).toNatClampNeg), .int (xs ((x3 + (2 : Int32))).toNatClampNeg)]) (rest := []) X hM hl.1 k_RL_36 (ctX10_counts l e5) rfl hb9 rfl rfl ⟨(Nat.le_of_ble_eq_true rfl), (Nat.le_of_ble_eq_true rfl)⟩ (Nat.le_of_ble_eq_true rfl) ⟨by show _ ≤ 600000; omega, by show _ ≤ 7302250; omega⟩ dL_law_416 (fun H locs hM => ?_)
  refine lv_aload_n (pc := 419) hx hb dL_law_419 rfl (lv_at hl 2 rfl) ?_
  refine lv_aload_n (pc := 420) hx hb dL_law_420 rfl (lv_at hl 0 rfl) ?_
  refine lv_iload_n (pc := 421) hx hb dL_law_421 rfl (lv_at hl 3 rfl) ?_
  refine lv_iconst (pc := 422) (v := (1 : Int32)) hx hb dL_law_422 (by decide) ?_
  refine lv_iadd (pc := 423) hx hb dL_law_423 ?_
  obtain ⟨v10, e11, h⟩ := ob h
  obtain ⟨hin, rfl⟩ := sX_spec e11
  refine va_sld (pc := 424) hx hb hXs hbl hbA hM.2 hin dL_law_424 ?_
  refine lv_aload_n (pc := 425) hx hb dL_law_425 rfl (lv_at hl 0 rfl) ?_
  refine lv_iload_n (pc := 426) hx hb dL_law_426 rfl (lv_at hl 3 rfl) ?_
  refine lv_iconst (pc := 427) (v := (2 : Int32)) hx hb dL_law_427 (by decide) ?_
  refine lv_iadd (pc := 428) hx hb dL_law_428 ?_
  obtain ⟨v12, e13, h⟩ := ob h
  obtain ⟨hin, rfl⟩ := sX_spec e13
  refine va_sld (pc := 429) hx hb hXs hbl hbA hM.2 hin dL_law_429 ?_
  obtain ⟨v15, M16, e14, h⟩ := ob2 h
  obtain ⟨fs17, hb18⟩ := (rX11_counts e14)
  refine bz_callV1 (pc := 430) (As := [.int (xs ((x3 + (1 : Int32))).toNatClampNeg), .int (xs ((x3 + (2 : Int32))).toNatClampNeg)]) (rest := [.int v6]) X hM hl.1 k_RL_39 (ctX11_counts l e14) rfl hb18 rfl rfl ⟨(Nat.le_of_ble_eq_true rfl), (Nat.le_of_ble_eq_true rfl)⟩ (Nat.le_of_ble_eq_true rfl) ⟨by show _ ≤ 600000; omega, by show _ ≤ 7302250; omega⟩ dL_law_430 (fun H locs hM => ?_)
  refine lv_icmp_eq (pc := 433) (tgt := 1965) hx hb dL_law_433 (by decide) (fun hc => ?_) (fun hc => ?_)
  · have h := if_t hc h
    refine lv_iinc (pc := 1965) (v := (x3 + (6 : Int32))) (lv' := [(3, .int (x3 + (6 : Int32))), (0, .ref b), (1, .ref (pB P + x1)), (2, .ref (pB P + x2))]) hx hb dL_law_1965 hl (k := 3) rfl rfl (by decide) rfl (fun ls hl => ?_)
    refine lv_goto (pc := 1968) (tgt := 18) hx hb dL_law_1968 (by decide) ?_
    refine W.widen (k := cl + 5) (n := 1000 * (cl + 5)) (by omega) (by omega) ?_
    exact hK18 (cl + 5) (by omega) _ _ _ _ h H locs ls hM (lv_sub hl [1, 2, 3, 0] rfl)
  · have h := if_f hc h
    refine lv_iconst (pc := 436) (v := (0 : Int32)) hx hb dL_law_436 (by decide) ?_
    exact absurd (so2 h).1 (by decide)
set_option maxHeartbeats 4000000 in
set_option maxRecDepth 100000 in
theorem wjL_law_372 {p : Program} {l : Launch} {e : Env} {s : State} {m : MethodId} {below : List Frame} {meth : Method} {c : Code} {P : PT} {b L N : Nat} {xs : Nat → Int32} {M9 : Mm} (hX : Cl p s m c meth b P) (hXs : va_X b L xs s s.heap) (hbl : b < s.heap.size) (hbA : ¬ pB P ≤ b) {K18 : Mm → Nat → Nat → Int32 → Option (Int32 × Mm)} {cl n : Nat} (hcl : cl + 5 * (n + 1) ≤ 7000) (hK18 : ∀ (cl : Nat) (_ : cl + 5 * n ≤ 7000) (M : Mm) (x1 x2 : Nat) (x3 : Int32), K18 M x1 x2 x3 = some (1, M9) → Wl p l e s m below meth c b P cl 18 [(0, .ref b), (1, .ref (pB P + x1)), (2, .ref (pB P + x2)), (3, .int x3)] [] M) (M : Mm) (x1 x2 : Nat) (x3 : Int32) (h : jL_law_372 N L xs K18 M x1 x2 x3 = some (1, M9)) : Wl p l e s m below meth c b P cl 372 [(0, .ref b), (1, .ref (pB P + x1)), (2, .ref (pB P + x2)), (3, .int x3)] [] M := by
  unfold jL_law_372 at h
  obtain ⟨X, hr, hlk, hBs⟩ := id hX
  have hx := X.1.1
  have hb := X.1.2.1
  intro H locs ls hM hl
  refine lv_aload_n (pc := 372) hx hb dL_law_372 rfl (lv_at hl 1 rfl) ?_
  refine lv_aload_n (pc := 373) hx hb dL_law_373 rfl (lv_at hl 0 rfl) ?_
  refine lv_iload_n (pc := 374) hx hb dL_law_374 rfl (lv_at hl 3 rfl) ?_
  refine lv_iconst (pc := 375) (v := (1 : Int32)) hx hb dL_law_375 (by decide) ?_
  refine lv_iadd (pc := 376) hx hb dL_law_376 ?_
  obtain ⟨v1, e2, h⟩ := ob h
  obtain ⟨hin, rfl⟩ := sX_spec e2
  refine va_sld (pc := 377) hx hb hXs hbl hbA hM.2 hin dL_law_377 ?_
  refine lv_aload_n (pc := 378) hx hb dL_law_378 rfl (lv_at hl 0 rfl) ?_
  refine lv_iload_n (pc := 379) hx hb dL_law_379 rfl (lv_at hl 3 rfl) ?_
  refine lv_iconst (pc := 380) (v := (2 : Int32)) hx hb dL_law_380 (by decide) ?_
  refine lv_iadd (pc := 381) hx hb dL_law_381 ?_
  obtain ⟨v3, e4, h⟩ := ob h
  obtain ⟨hin, rfl⟩ := sX_spec e4
  refine va_sld (pc := 382) hx hb hXs hbl hbA hM.2 hin dL_law_382 ?_
  obtain ⟨v6, M7, e5, h⟩ := ob2 h
  obtain ⟨fs8, hb9⟩ := (rX10_onTape e5)
  refine bz_callV1 (pc := 383) (As := [.int (xs ((x3 + (1 : Int32))).toNatClampNeg), .int (xs ((x3 + (2 : Int32))).toNatClampNeg)]) (rest := []) X hM hl.1 k_RL_32 (ctX10_onTape l e5) rfl hb9 rfl rfl ⟨(Nat.le_of_ble_eq_true rfl), (Nat.le_of_ble_eq_true rfl)⟩ (Nat.le_of_ble_eq_true rfl) ⟨by show _ ≤ 600000; omega, by show _ ≤ 7302250; omega⟩ dL_law_383 (fun H locs hM => ?_)
  refine lv_aload_n (pc := 386) hx hb dL_law_386 rfl (lv_at hl 2 rfl) ?_
  refine lv_aload_n (pc := 387) hx hb dL_law_387 rfl (lv_at hl 0 rfl) ?_
  refine lv_iload_n (pc := 388) hx hb dL_law_388 rfl (lv_at hl 3 rfl) ?_
  refine lv_iconst (pc := 389) (v := (1 : Int32)) hx hb dL_law_389 (by decide) ?_
  refine lv_iadd (pc := 390) hx hb dL_law_390 ?_
  obtain ⟨v10, e11, h⟩ := ob h
  obtain ⟨hin, rfl⟩ := sX_spec e11
  refine va_sld (pc := 391) hx hb hXs hbl hbA hM.2 hin dL_law_391 ?_
  refine lv_aload_n (pc := 392) hx hb dL_law_392 rfl (lv_at hl 0 rfl) ?_
  refine lv_iload_n (pc := 393) hx hb dL_law_393 rfl (lv_at hl 3 rfl) ?_
  refine lv_iconst (pc := 394) (v := (2 : Int32)) hx hb dL_law_394 (by decide) ?_
  refine lv_iadd (pc := 395) hx hb dL_law_395 ?_
  obtain ⟨v12, e13, h⟩ := ob h
  obtain ⟨hin, rfl⟩ := sX_spec e13
  refine va_sld (pc := 396) hx hb hXs hbl hbA hM.2 hin dL_law_396 ?_
  obtain ⟨v15, M16, e14, h⟩ := ob2 h
  obtain ⟨fs17, hb18⟩ := (rX11_onTape e14)
  refine bz_callV1 (pc := 397) (As := [.int (xs ((x3 + (1 : Int32))).toNatClampNeg), .int (xs ((x3 + (2 : Int32))).toNatClampNeg)]) (rest := [.int v6]) X hM hl.1 k_RL_35 (ctX11_onTape l e14) rfl hb18 rfl rfl ⟨(Nat.le_of_ble_eq_true rfl), (Nat.le_of_ble_eq_true rfl)⟩ (Nat.le_of_ble_eq_true rfl) ⟨by show _ ≤ 600000; omega, by show _ ≤ 7302250; omega⟩ dL_law_397 (fun H locs hM => ?_)
  refine lv_icmp_eq (pc := 400) (tgt := 1965) hx hb dL_law_400 (by decide) (fun hc => ?_) (fun hc => ?_)
  · have h := if_t hc h
    refine lv_iinc (pc := 1965) (v := (x3 + (6 : Int32))) (lv' := [(3, .int (x3 + (6 : Int32))), (0, .ref b), (1, .ref (pB P + x1)), (2, .ref (pB P + x2))]) hx hb dL_law_1965 hl (k := 3) rfl rfl (by decide) rfl (fun ls hl => ?_)
    refine lv_goto (pc := 1968) (tgt := 18) hx hb dL_law_1968 (by decide) ?_
    refine W.widen (k := cl + 5) (n := 1000 * (cl + 5)) (by omega) (by omega) ?_
    exact hK18 (cl + 5) (by omega) _ _ _ _ h H locs ls hM (lv_sub hl [1, 2, 3, 0] rfl)
  · have h := if_f hc h
    refine lv_iconst (pc := 403) (v := (0 : Int32)) hx hb dL_law_403 (by decide) ?_
    exact absurd (so2 h).1 (by decide)
set_option maxHeartbeats 4000000 in
set_option maxRecDepth 100000 in
theorem wjL_law_339 {p : Program} {l : Launch} {e : Env} {s : State} {m : MethodId} {below : List Frame} {meth : Method} {c : Code} {P : PT} {b L N : Nat} {xs : Nat → Int32} {M9 : Mm} (hX : Cl p s m c meth b P) (hXs : va_X b L xs s s.heap) (hbl : b < s.heap.size) (hbA : ¬ pB P ≤ b) {K18 : Mm → Nat → Nat → Int32 → Option (Int32 × Mm)} {cl n : Nat} (hcl : cl + 5 * (n + 1) ≤ 7000) (hK18 : ∀ (cl : Nat) (_ : cl + 5 * n ≤ 7000) (M : Mm) (x1 x2 : Nat) (x3 : Int32), K18 M x1 x2 x3 = some (1, M9) → Wl p l e s m below meth c b P cl 18 [(0, .ref b), (1, .ref (pB P + x1)), (2, .ref (pB P + x2)), (3, .int x3)] [] M) (M : Mm) (x1 x2 : Nat) (x3 : Int32) (h : jL_law_339 N L xs K18 M x1 x2 x3 = some (1, M9)) : Wl p l e s m below meth c b P cl 339 [(0, .ref b), (1, .ref (pB P + x1)), (2, .ref (pB P + x2)), (3, .int x3)] [] M := by
  unfold jL_law_339 at h
  obtain ⟨X, hr, hlk, hBs⟩ := id hX
  have hx := X.1.1
  have hb := X.1.2.1
  intro H locs ls hM hl
  refine lv_aload_n (pc := 339) hx hb dL_law_339 rfl (lv_at hl 1 rfl) ?_
  refine lv_aload_n (pc := 340) hx hb dL_law_340 rfl (lv_at hl 0 rfl) ?_
  refine lv_iload_n (pc := 341) hx hb dL_law_341 rfl (lv_at hl 3 rfl) ?_
  refine lv_iconst (pc := 342) (v := (1 : Int32)) hx hb dL_law_342 (by decide) ?_
  refine lv_iadd (pc := 343) hx hb dL_law_343 ?_
  obtain ⟨v1, e2, h⟩ := ob h
  obtain ⟨hin, rfl⟩ := sX_spec e2
  refine va_sld (pc := 344) hx hb hXs hbl hbA hM.2 hin dL_law_344 ?_
  refine lv_aload_n (pc := 345) hx hb dL_law_345 rfl (lv_at hl 0 rfl) ?_
  refine lv_iload_n (pc := 346) hx hb dL_law_346 rfl (lv_at hl 3 rfl) ?_
  refine lv_iconst (pc := 347) (v := (2 : Int32)) hx hb dL_law_347 (by decide) ?_
  refine lv_iadd (pc := 348) hx hb dL_law_348 ?_
  obtain ⟨v3, e4, h⟩ := ob h
  obtain ⟨hin, rfl⟩ := sX_spec e4
  refine va_sld (pc := 349) hx hb hXs hbl hbA hM.2 hin dL_law_349 ?_
  obtain ⟨v6, M7, e5, h⟩ := ob2 h
  obtain ⟨fs8, hb9⟩ := (rX10_ringOf e5)
  refine bz_callV1 (pc := 350) (As := [.int (xs ((x3 + (1 : Int32))).toNatClampNeg), .int (xs ((x3 + (2 : Int32))).toNatClampNeg)]) (rest := []) X hM hl.1 k_RL_28 (ctX10_ringOf l e5) rfl hb9 rfl rfl ⟨(Nat.le_of_ble_eq_true rfl), (Nat.le_of_ble_eq_true rfl)⟩ (Nat.le_of_ble_eq_true rfl) ⟨by show _ ≤ 600000; omega, by show _ ≤ 7302250; omega⟩ dL_law_350 (fun H locs hM => ?_)
  refine lv_aload_n (pc := 353) hx hb dL_law_353 rfl (lv_at hl 2 rfl) ?_
  refine lv_aload_n (pc := 354) hx hb dL_law_354 rfl (lv_at hl 0 rfl) ?_
  refine lv_iload_n (pc := 355) hx hb dL_law_355 rfl (lv_at hl 3 rfl) ?_
  refine lv_iconst (pc := 356) (v := (1 : Int32)) hx hb dL_law_356 (by decide) ?_
  refine lv_iadd (pc := 357) hx hb dL_law_357 ?_
  obtain ⟨v10, e11, h⟩ := ob h
  obtain ⟨hin, rfl⟩ := sX_spec e11
  refine va_sld (pc := 358) hx hb hXs hbl hbA hM.2 hin dL_law_358 ?_
  refine lv_aload_n (pc := 359) hx hb dL_law_359 rfl (lv_at hl 0 rfl) ?_
  refine lv_iload_n (pc := 360) hx hb dL_law_360 rfl (lv_at hl 3 rfl) ?_
  refine lv_iconst (pc := 361) (v := (2 : Int32)) hx hb dL_law_361 (by decide) ?_
  refine lv_iadd (pc := 362) hx hb dL_law_362 ?_
  obtain ⟨v12, e13, h⟩ := ob h
  obtain ⟨hin, rfl⟩ := sX_spec e13
  refine va_sld (pc := 363) hx hb hXs hbl hbA hM.2 hin dL_law_363 ?_
  obtain ⟨v15, M16, e14, h⟩ := ob2 h
  obtain ⟨fs17, hb18⟩ := (rX11_ringOf e14)
  refine bz_callV1 (pc := 364) (As := [.int (xs ((x3 + (1 : Int32))).toNatClampNeg), .int (xs ((x3 + (2 : Int32))).toNatClampNeg)]) (rest := [.int v6]) X hM hl.1 k_RL_31 (ctX11_ringOf l e14) rfl hb18 rfl rfl ⟨(Nat.le_of_ble_eq_true rfl), (Nat.le_of_ble_eq_true rfl)⟩ (Nat.le_of_ble_eq_true rfl) ⟨by show _ ≤ 600000; omega, by show _ ≤ 7302250; omega⟩ dL_law_364 (fun H locs hM => ?_)
  refine lv_icmp_eq (pc := 367) (tgt := 1965) hx hb dL_law_367 (by decide) (fun hc => ?_) (fun hc => ?_)
  · have h := if_t hc h
    refine lv_iinc (pc := 1965) (v := (x3 + (6 : Int32))) (lv' := [(3, .int (x3 + (6 : Int32))), (0, .ref b), (1, .ref (pB P + x1)), (2, .ref (pB P + x2))]) hx hb dL_law_1965 hl (k := 3) rfl rfl (by decide) rfl (fun ls hl => ?_)
    refine lv_goto (pc := 1968) (tgt := 18) hx hb dL_law_1968 (by decide) ?_
    refine W.widen (k := cl + 5) (n := 1000 * (cl + 5)) (by omega) (by omega) ?_
    exact hK18 (cl + 5) (by omega) _ _ _ _ h H locs ls hM (lv_sub hl [1, 2, 3, 0] rfl)
  · have h := if_f hc h
    refine lv_iconst (pc := 370) (v := (0 : Int32)) hx hb dL_law_370 (by decide) ?_
    exact absurd (so2 h).1 (by decide)
set_option maxHeartbeats 4000000 in
set_option maxRecDepth 100000 in
theorem wjL_law_296 {p : Program} {l : Launch} {e : Env} {s : State} {m : MethodId} {below : List Frame} {meth : Method} {c : Code} {P : PT} {b L N : Nat} {xs : Nat → Int32} {M9 : Mm} (hX : Cl p s m c meth b P) (hXs : va_X b L xs s s.heap) (hbl : b < s.heap.size) (hbA : ¬ pB P ≤ b) {K18 : Mm → Nat → Nat → Int32 → Option (Int32 × Mm)} {cl n : Nat} (hcl : cl + 5 * (n + 1) ≤ 7000) (hK18 : ∀ (cl : Nat) (_ : cl + 5 * n ≤ 7000) (M : Mm) (x1 x2 : Nat) (x3 : Int32), K18 M x1 x2 x3 = some (1, M9) → Wl p l e s m below meth c b P cl 18 [(0, .ref b), (1, .ref (pB P + x1)), (2, .ref (pB P + x2)), (3, .int x3)] [] M) (M : Mm) (x1 x2 : Nat) (x3 : Int32) (h : jL_law_296 N L xs K18 M x1 x2 x3 = some (1, M9)) : Wl p l e s m below meth c b P cl 296 [(0, .ref b), (1, .ref (pB P + x1)), (2, .ref (pB P + x2)), (3, .int x3)] [] M := by
  unfold jL_law_296 at h
  obtain ⟨X, hr, hlk, hBs⟩ := id hX
  have hx := X.1.1
  have hb := X.1.2.1
  intro H locs ls hM hl
  refine lv_aload_n (pc := 296) hx hb dL_law_296 rfl (lv_at hl 1 rfl) ?_
  refine lv_aload_n (pc := 297) hx hb dL_law_297 rfl (lv_at hl 0 rfl) ?_
  refine lv_iload_n (pc := 298) hx hb dL_law_298 rfl (lv_at hl 3 rfl) ?_
  refine lv_iconst (pc := 299) (v := (1 : Int32)) hx hb dL_law_299 (by decide) ?_
  refine lv_iadd (pc := 300) hx hb dL_law_300 ?_
  obtain ⟨v1, e2, h⟩ := ob h
  obtain ⟨hin, rfl⟩ := sX_spec e2
  refine va_sld (pc := 301) hx hb hXs hbl hbA hM.2 hin dL_law_301 ?_
  refine lv_aload_n (pc := 302) hx hb dL_law_302 rfl (lv_at hl 0 rfl) ?_
  refine lv_iload_n (pc := 303) hx hb dL_law_303 rfl (lv_at hl 3 rfl) ?_
  refine lv_iconst (pc := 304) (v := (2 : Int32)) hx hb dL_law_304 (by decide) ?_
  refine lv_iadd (pc := 305) hx hb dL_law_305 ?_
  obtain ⟨v3, e4, h⟩ := ob h
  obtain ⟨hin, rfl⟩ := sX_spec e4
  refine va_sld (pc := 306) hx hb hXs hbl hbA hM.2 hin dL_law_306 ?_
  refine lv_aload_n (pc := 307) hx hb dL_law_307 rfl (lv_at hl 0 rfl) ?_
  refine lv_iload_n (pc := 308) hx hb dL_law_308 rfl (lv_at hl 3 rfl) ?_
  refine lv_iconst (pc := 309) (v := (3 : Int32)) hx hb dL_law_309 (by decide) ?_
  refine lv_iadd (pc := 310) hx hb dL_law_310 ?_
  obtain ⟨v5, e6, h⟩ := ob h
  obtain ⟨hin, rfl⟩ := sX_spec e6
  refine va_sld (pc := 311) hx hb hXs hbl hbA hM.2 hin dL_law_311 ?_
  obtain ⟨v8, M9, e7, h⟩ := ob2 h
  obtain ⟨fs10, hb11⟩ := (rX10_ring e7)
  refine bz_callV1 (pc := 312) (As := [.int (xs ((x3 + (1 : Int32))).toNatClampNeg), .int (xs ((x3 + (2 : Int32))).toNatClampNeg), .int (xs ((x3 + (3 : Int32))).toNatClampNeg)]) (rest := []) X hM hl.1 k_RL_23 (ctX10_ring l e7) rfl hb11 rfl rfl ⟨(Nat.le_of_ble_eq_true rfl), (Nat.le_of_ble_eq_true rfl)⟩ (Nat.le_of_ble_eq_true rfl) ⟨by show _ ≤ 600000; omega, by show _ ≤ 7302250; omega⟩ dL_law_312 (fun H locs hM => ?_)
  refine lv_aload_n (pc := 315) hx hb dL_law_315 rfl (lv_at hl 2 rfl) ?_
  refine lv_aload_n (pc := 316) hx hb dL_law_316 rfl (lv_at hl 0 rfl) ?_
  refine lv_iload_n (pc := 317) hx hb dL_law_317 rfl (lv_at hl 3 rfl) ?_
  refine lv_iconst (pc := 318) (v := (1 : Int32)) hx hb dL_law_318 (by decide) ?_
  refine lv_iadd (pc := 319) hx hb dL_law_319 ?_
  obtain ⟨v12, e13, h⟩ := ob h
  obtain ⟨hin, rfl⟩ := sX_spec e13
  refine va_sld (pc := 320) hx hb hXs hbl hbA hM.2 hin dL_law_320 ?_
  refine lv_aload_n (pc := 321) hx hb dL_law_321 rfl (lv_at hl 0 rfl) ?_
  refine lv_iload_n (pc := 322) hx hb dL_law_322 rfl (lv_at hl 3 rfl) ?_
  refine lv_iconst (pc := 323) (v := (2 : Int32)) hx hb dL_law_323 (by decide) ?_
  refine lv_iadd (pc := 324) hx hb dL_law_324 ?_
  obtain ⟨v14, e15, h⟩ := ob h
  obtain ⟨hin, rfl⟩ := sX_spec e15
  refine va_sld (pc := 325) hx hb hXs hbl hbA hM.2 hin dL_law_325 ?_
  refine lv_aload_n (pc := 326) hx hb dL_law_326 rfl (lv_at hl 0 rfl) ?_
  refine lv_iload_n (pc := 327) hx hb dL_law_327 rfl (lv_at hl 3 rfl) ?_
  refine lv_iconst (pc := 328) (v := (3 : Int32)) hx hb dL_law_328 (by decide) ?_
  refine lv_iadd (pc := 329) hx hb dL_law_329 ?_
  obtain ⟨v16, e17, h⟩ := ob h
  obtain ⟨hin, rfl⟩ := sX_spec e17
  refine va_sld (pc := 330) hx hb hXs hbl hbA hM.2 hin dL_law_330 ?_
  obtain ⟨v19, M20, e18, h⟩ := ob2 h
  obtain ⟨fs21, hb22⟩ := (rX11_ring_ e18)
  refine bz_callV1 (pc := 331) (As := [.int (xs ((x3 + (1 : Int32))).toNatClampNeg), .int (xs ((x3 + (2 : Int32))).toNatClampNeg), .int (xs ((x3 + (3 : Int32))).toNatClampNeg)]) (rest := [.int v8]) X hM hl.1 k_RL_27 (ctX11_ring_ l e18) rfl hb22 rfl rfl ⟨(Nat.le_of_ble_eq_true rfl), (Nat.le_of_ble_eq_true rfl)⟩ (Nat.le_of_ble_eq_true rfl) ⟨by show _ ≤ 600000; omega, by show _ ≤ 7302250; omega⟩ dL_law_331 (fun H locs hM => ?_)
  refine lv_icmp_eq (pc := 334) (tgt := 1965) hx hb dL_law_334 (by decide) (fun hc => ?_) (fun hc => ?_)
  · have h := if_t hc h
    refine lv_iinc (pc := 1965) (v := (x3 + (6 : Int32))) (lv' := [(3, .int (x3 + (6 : Int32))), (0, .ref b), (1, .ref (pB P + x1)), (2, .ref (pB P + x2))]) hx hb dL_law_1965 hl (k := 3) rfl rfl (by decide) rfl (fun ls hl => ?_)
    refine lv_goto (pc := 1968) (tgt := 18) hx hb dL_law_1968 (by decide) ?_
    refine W.widen (k := cl + 5) (n := 1000 * (cl + 5)) (by omega) (by omega) ?_
    exact hK18 (cl + 5) (by omega) _ _ _ _ h H locs ls hM (lv_sub hl [1, 2, 3, 0] rfl)
  · have h := if_f hc h
    refine lv_iconst (pc := 337) (v := (0 : Int32)) hx hb dL_law_337 (by decide) ?_
    exact absurd (so2 h).1 (by decide)
set_option maxHeartbeats 4000000 in
set_option maxRecDepth 100000 in
theorem wjL_law_273 {p : Program} {l : Launch} {e : Env} {s : State} {m : MethodId} {below : List Frame} {meth : Method} {c : Code} {P : PT} {b L N : Nat} {xs : Nat → Int32} {M9 : Mm} (hX : Cl p s m c meth b P) (hXs : va_X b L xs s s.heap) (hbl : b < s.heap.size) (hbA : ¬ pB P ≤ b) {K18 : Mm → Nat → Nat → Int32 → Option (Int32 × Mm)} {cl n : Nat} (hcl : cl + 5 * (n + 1) ≤ 7000) (hK18 : ∀ (cl : Nat) (_ : cl + 5 * n ≤ 7000) (M : Mm) (x1 x2 : Nat) (x3 : Int32), K18 M x1 x2 x3 = some (1, M9) → Wl p l e s m below meth c b P cl 18 [(0, .ref b), (1, .ref (pB P + x1)), (2, .ref (pB P + x2)), (3, .int x3)] [] M) (M : Mm) (x1 x2 : Nat) (x3 : Int32) (h : jL_law_273 N L xs K18 M x1 x2 x3 = some (1, M9)) : Wl p l e s m below meth c b P cl 273 [(0, .ref b), (1, .ref (pB P + x1)), (2, .ref (pB P + x2)), (3, .int x3)] [] M := by
  unfold jL_law_273 at h
  obtain ⟨X, hr, hlk, hBs⟩ := id hX
  have hx := X.1.1
  have hb := X.1.2.1
  intro H locs ls hM hl
  refine lv_aload_n (pc := 273) hx hb dL_law_273 rfl (lv_at hl 1 rfl) ?_
  refine lv_aload_n (pc := 274) hx hb dL_law_274 rfl (lv_at hl 0 rfl) ?_
  refine lv_iload_n (pc := 275) hx hb dL_law_275 rfl (lv_at hl 3 rfl) ?_
  refine lv_iconst (pc := 276) (v := (1 : Int32)) hx hb dL_law_276 (by decide) ?_
  refine lv_iadd (pc := 277) hx hb dL_law_277 ?_
  obtain ⟨v1, e2, h⟩ := ob h
  obtain ⟨hin, rfl⟩ := sX_spec e2
  refine va_sld (pc := 278) hx hb hXs hbl hbA hM.2 hin dL_law_278 ?_
  obtain ⟨v4, M5, e3, h⟩ := ob2 h
  obtain ⟨fs6, hb7⟩ := (rX10_bar e3)
  refine bz_callV1 (pc := 279) (As := [.int (xs ((x3 + (1 : Int32))).toNatClampNeg)]) (rest := []) X hM hl.1 k_RL_18 (ctX10_bar l e3) rfl hb7 rfl rfl ⟨(Nat.le_of_ble_eq_true rfl), (Nat.le_of_ble_eq_true rfl)⟩ (Nat.le_of_ble_eq_true rfl) ⟨by show _ ≤ 600000; omega, by show _ ≤ 7302250; omega⟩ dL_law_279 (fun H locs hM => ?_)
  refine lv_aload_n (pc := 282) hx hb dL_law_282 rfl (lv_at hl 2 rfl) ?_
  refine lv_aload_n (pc := 283) hx hb dL_law_283 rfl (lv_at hl 0 rfl) ?_
  refine lv_iload_n (pc := 284) hx hb dL_law_284 rfl (lv_at hl 3 rfl) ?_
  refine lv_iconst (pc := 285) (v := (1 : Int32)) hx hb dL_law_285 (by decide) ?_
  refine lv_iadd (pc := 286) hx hb dL_law_286 ?_
  obtain ⟨v8, e9, h⟩ := ob h
  obtain ⟨hin, rfl⟩ := sX_spec e9
  refine va_sld (pc := 287) hx hb hXs hbl hbA hM.2 hin dL_law_287 ?_
  obtain ⟨v11, M12, e10, h⟩ := ob2 h
  obtain ⟨fs13, hb14⟩ := (rX11_bar e10)
  refine bz_callV1 (pc := 288) (As := [.int (xs ((x3 + (1 : Int32))).toNatClampNeg)]) (rest := [.int v4]) X hM hl.1 k_RL_22 (ctX11_bar l e10) rfl hb14 rfl rfl ⟨(Nat.le_of_ble_eq_true rfl), (Nat.le_of_ble_eq_true rfl)⟩ (Nat.le_of_ble_eq_true rfl) ⟨by show _ ≤ 600000; omega, by show _ ≤ 7302250; omega⟩ dL_law_288 (fun H locs hM => ?_)
  refine lv_icmp_eq (pc := 291) (tgt := 1965) hx hb dL_law_291 (by decide) (fun hc => ?_) (fun hc => ?_)
  · have h := if_t hc h
    refine lv_iinc (pc := 1965) (v := (x3 + (6 : Int32))) (lv' := [(3, .int (x3 + (6 : Int32))), (0, .ref b), (1, .ref (pB P + x1)), (2, .ref (pB P + x2))]) hx hb dL_law_1965 hl (k := 3) rfl rfl (by decide) rfl (fun ls hl => ?_)
    refine lv_goto (pc := 1968) (tgt := 18) hx hb dL_law_1968 (by decide) ?_
    refine W.widen (k := cl + 5) (n := 1000 * (cl + 5)) (by omega) (by omega) ?_
    exact hK18 (cl + 5) (by omega) _ _ _ _ h H locs ls hM (lv_sub hl [1, 2, 3, 0] rfl)
  · have h := if_f hc h
    refine lv_iconst (pc := 294) (v := (0 : Int32)) hx hb dL_law_294 (by decide) ?_
    exact absurd (so2 h).1 (by decide)
set_option maxHeartbeats 4000000 in
set_option maxRecDepth 100000 in
theorem wjL_law_240 {p : Program} {l : Launch} {e : Env} {s : State} {m : MethodId} {below : List Frame} {meth : Method} {c : Code} {P : PT} {b L N : Nat} {xs : Nat → Int32} {M9 : Mm} (hX : Cl p s m c meth b P) (hXs : va_X b L xs s s.heap) (hbl : b < s.heap.size) (hbA : ¬ pB P ≤ b) {K18 : Mm → Nat → Nat → Int32 → Option (Int32 × Mm)} {cl n : Nat} (hcl : cl + 5 * (n + 1) ≤ 7000) (hK18 : ∀ (cl : Nat) (_ : cl + 5 * n ≤ 7000) (M : Mm) (x1 x2 : Nat) (x3 : Int32), K18 M x1 x2 x3 = some (1, M9) → Wl p l e s m below meth c b P cl 18 [(0, .ref b), (1, .ref (pB P + x1)), (2, .ref (pB P + x2)), (3, .int x3)] [] M) (M : Mm) (x1 x2 : Nat) (x3 : Int32) (h : jL_law_240 N L xs K18 M x1 x2 x3 = some (1, M9)) : Wl p l e s m below meth c b P cl 240 [(0, .ref b), (1, .ref (pB P + x1)), (2, .ref (pB P + x2)), (3, .int x3)] [] M := by
  unfold jL_law_240 at h
  obtain ⟨X, hr, hlk, hBs⟩ := id hX
  have hx := X.1.1
  have hb := X.1.2.1
  intro H locs ls hM hl
  refine lv_aload_n (pc := 240) hx hb dL_law_240 rfl (lv_at hl 1 rfl) ?_
  refine lv_aload_n (pc := 241) hx hb dL_law_241 rfl (lv_at hl 0 rfl) ?_
  refine lv_iload_n (pc := 242) hx hb dL_law_242 rfl (lv_at hl 3 rfl) ?_
  refine lv_iconst (pc := 243) (v := (1 : Int32)) hx hb dL_law_243 (by decide) ?_
  refine lv_iadd (pc := 244) hx hb dL_law_244 ?_
  obtain ⟨v1, e2, h⟩ := ob h
  obtain ⟨hin, rfl⟩ := sX_spec e2
  refine va_sld (pc := 245) hx hb hXs hbl hbA hM.2 hin dL_law_245 ?_
  refine lv_aload_n (pc := 246) hx hb dL_law_246 rfl (lv_at hl 0 rfl) ?_
  refine lv_iload_n (pc := 247) hx hb dL_law_247 rfl (lv_at hl 3 rfl) ?_
  refine lv_iconst (pc := 248) (v := (2 : Int32)) hx hb dL_law_248 (by decide) ?_
  refine lv_iadd (pc := 249) hx hb dL_law_249 ?_
  obtain ⟨v3, e4, h⟩ := ob h
  obtain ⟨hin, rfl⟩ := sX_spec e4
  refine va_sld (pc := 250) hx hb hXs hbl hbA hM.2 hin dL_law_250 ?_
  obtain ⟨v6, M7, e5, h⟩ := ob2 h
  obtain ⟨fs8, hb9⟩ := (rX10_clock e5)
  refine bz_callV1 (pc := 251) (As := [.int (xs ((x3 + (1 : Int32))).toNatClampNeg), .int (xs ((x3 + (2 : Int32))).toNatClampNeg)]) (rest := []) X hM hl.1 k_RL_13 (ctX10_clock l e5) rfl hb9 rfl rfl ⟨(Nat.le_of_ble_eq_true rfl), (Nat.le_of_ble_eq_true rfl)⟩ (Nat.le_of_ble_eq_true rfl) ⟨by show _ ≤ 600000; omega, by show _ ≤ 7302250; omega⟩ dL_law_251 (fun H locs hM => ?_)
  refine lv_aload_n (pc := 254) hx hb dL_law_254 rfl (lv_at hl 2 rfl) ?_
  refine lv_aload_n (pc := 255) hx hb dL_law_255 rfl (lv_at hl 0 rfl) ?_
  refine lv_iload_n (pc := 256) hx hb dL_law_256 rfl (lv_at hl 3 rfl) ?_
  refine lv_iconst (pc := 257) (v := (1 : Int32)) hx hb dL_law_257 (by decide) ?_
  refine lv_iadd (pc := 258) hx hb dL_law_258 ?_
  obtain ⟨v10, e11, h⟩ := ob h
  obtain ⟨hin, rfl⟩ := sX_spec e11
  refine va_sld (pc := 259) hx hb hXs hbl hbA hM.2 hin dL_law_259 ?_
  refine lv_aload_n (pc := 260) hx hb dL_law_260 rfl (lv_at hl 0 rfl) ?_
  refine lv_iload_n (pc := 261) hx hb dL_law_261 rfl (lv_at hl 3 rfl) ?_
  refine lv_iconst (pc := 262) (v := (2 : Int32)) hx hb dL_law_262 (by decide) ?_
  refine lv_iadd (pc := 263) hx hb dL_law_263 ?_
  obtain ⟨v12, e13, h⟩ := ob h
  obtain ⟨hin, rfl⟩ := sX_spec e13
  refine va_sld (pc := 264) hx hb hXs hbl hbA hM.2 hin dL_law_264 ?_
  obtain ⟨v15, M16, e14, h⟩ := ob2 h
  obtain ⟨fs17, hb18⟩ := (rX11_clock e14)
  refine bz_callV1 (pc := 265) (As := [.int (xs ((x3 + (1 : Int32))).toNatClampNeg), .int (xs ((x3 + (2 : Int32))).toNatClampNeg)]) (rest := [.int v6]) X hM hl.1 k_RL_17 (ctX11_clock l e14) rfl hb18 rfl rfl ⟨(Nat.le_of_ble_eq_true rfl), (Nat.le_of_ble_eq_true rfl)⟩ (Nat.le_of_ble_eq_true rfl) ⟨by show _ ≤ 600000; omega, by show _ ≤ 7302250; omega⟩ dL_law_265 (fun H locs hM => ?_)
  refine lv_icmp_eq (pc := 268) (tgt := 1965) hx hb dL_law_268 (by decide) (fun hc => ?_) (fun hc => ?_)
  · have h := if_t hc h
    refine lv_iinc (pc := 1965) (v := (x3 + (6 : Int32))) (lv' := [(3, .int (x3 + (6 : Int32))), (0, .ref b), (1, .ref (pB P + x1)), (2, .ref (pB P + x2))]) hx hb dL_law_1965 hl (k := 3) rfl rfl (by decide) rfl (fun ls hl => ?_)
    refine lv_goto (pc := 1968) (tgt := 18) hx hb dL_law_1968 (by decide) ?_
    refine W.widen (k := cl + 5) (n := 1000 * (cl + 5)) (by omega) (by omega) ?_
    exact hK18 (cl + 5) (by omega) _ _ _ _ h H locs ls hM (lv_sub hl [1, 2, 3, 0] rfl)
  · have h := if_f hc h
    refine lv_iconst (pc := 271) (v := (0 : Int32)) hx hb dL_law_271 (by decide) ?_
    exact absurd (so2 h).1 (by decide)
set_option maxHeartbeats 4000000 in
set_option maxRecDepth 100000 in
theorem wBL_law_18 {p : Program} {l : Launch} {e : Env} {s : State} {m : MethodId} {below : List Frame} {meth : Method} {c : Code} {P : PT} {b L N : Nat} {xs : Nat → Int32} {M9 : Mm} (hX : Cl p s m c meth b P) (hXs : va_X b L xs s s.heap) (hbl : b < s.heap.size) (hbA : ¬ pB P ≤ b) {K18 : Mm → Nat → Nat → Int32 → Option (Int32 × Mm)} {cl n : Nat} (hcl : cl + 5 * (n + 1) ≤ 7000) (hK18 : ∀ (cl : Nat) (_ : cl + 5 * n ≤ 7000) (M : Mm) (x1 x2 : Nat) (x3 : Int32), K18 M x1 x2 x3 = some (1, M9) → Wl p l e s m below meth c b P cl 18 [(0, .ref b), (1, .ref (pB P + x1)), (2, .ref (pB P + x2)), (3, .int x3)] [] M) (M : Mm) (x1 x2 : Nat) (x3 : Int32) (h : BL_law_18 N L xs K18 M x1 x2 x3 = some (1, M9)) : Wl p l e s m below meth c b P cl 18 [(0, .ref b), (1, .ref (pB P + x1)), (2, .ref (pB P + x2)), (3, .int x3)] [] M := by
  unfold BL_law_18 at h
  obtain ⟨X, hr, hlk, hBs⟩ := id hX
  have hx := X.1.1
  have hb := X.1.2.1
  intro H locs ls hM hl
  refine lv_iload_n (pc := 18) hx hb dL_law_18 rfl (lv_at hl 3 rfl) ?_
  refine lv_aload_n (pc := 19) hx hb dL_law_19 rfl (lv_at hl 0 rfl) ?_
  refine va_slen (pc := 20) hx hb hXs hbl hbA hM.2 dL_law_20 ?_
  refine lv_bipush (pc := 21) (v := (6 : Int32)) hx hb dL_law_21 (by decide) ?_
  refine lv_isub (pc := 23) hx hb dL_law_23 ?_
  refine lv_icmp_gt (pc := 24) (tgt := 1971) hx hb dL_law_24 (by decide) (fun hc => ?_) (fun hc => ?_)
  · have h := if_t hc h
    refine lv_iconst (pc := 1971) (v := (1 : Int32)) hx hb dL_law_1971 (by decide) ?_
    refine va_forget (fun q hq => by rw [← hBs]; exact hM.2.2.2 q hq) ?_
    refine W.widen (k := 600000) (n := 7302250) (by omega) (by omega) ?_
    exact lw_ret hx hb hr hlk dL_law_1972
  · have h := if_f hc h
    refine lv_aload_n (pc := 27) hx hb dL_law_27 rfl (lv_at hl 0 rfl) ?_
    refine lv_iload_n (pc := 28) hx hb dL_law_28 rfl (lv_at hl 3 rfl) ?_
    obtain ⟨v1, e2, h⟩ := ob h
    obtain ⟨hin, rfl⟩ := sX_spec e2
    refine va_sld (pc := 29) hx hb hXs hbl hbA hM.2 hin dL_law_29 ?_
    refine lv_bipush (pc := 30) (v := (63 : Int32)) hx hb dL_law_30 (by decide) ?_
    refine lv_iand (pc := 32) hx hb dL_law_32 ?_
    by_cases hs0 : ((xs (x3).toNatClampNeg) &&& (63 : Int32)) = (0 : Int32)
    · have h := if_t hs0 h
      refine lv_tableIn (pc := 33) (off := 207) (tgt := 240) hx hb dL_law_33 (by rw [hs0]; decide) (by rw [hs0]; decide) (by rw [hs0]; rfl) (by decide) ?_
      exact wjL_law_240 hX hXs hbl hbA hcl hK18 _ _ _ _ h H locs ls hM (lv_sub hl [0, 1, 2, 3] rfl)
    have h := if_f hs0 h
    by_cases hs1 : ((xs (x3).toNatClampNeg) &&& (63 : Int32)) = (1 : Int32)
    · have h := if_t hs1 h
      refine lv_tableIn (pc := 33) (off := 240) (tgt := 273) hx hb dL_law_33 (by rw [hs1]; decide) (by rw [hs1]; decide) (by rw [hs1]; rfl) (by decide) ?_
      exact wjL_law_273 hX hXs hbl hbA hcl hK18 _ _ _ _ h H locs ls hM (lv_sub hl [0, 1, 2, 3] rfl)
    have h := if_f hs1 h
    by_cases hs2 : ((xs (x3).toNatClampNeg) &&& (63 : Int32)) = (2 : Int32)
    · have h := if_t hs2 h
      refine lv_tableIn (pc := 33) (off := 263) (tgt := 296) hx hb dL_law_33 (by rw [hs2]; decide) (by rw [hs2]; decide) (by rw [hs2]; rfl) (by decide) ?_
      exact wjL_law_296 hX hXs hbl hbA hcl hK18 _ _ _ _ h H locs ls hM (lv_sub hl [0, 1, 2, 3] rfl)
    have h := if_f hs2 h
    by_cases hs3 : ((xs (x3).toNatClampNeg) &&& (63 : Int32)) = (3 : Int32)
    · have h := if_t hs3 h
      refine lv_tableIn (pc := 33) (off := 306) (tgt := 339) hx hb dL_law_33 (by rw [hs3]; decide) (by rw [hs3]; decide) (by rw [hs3]; rfl) (by decide) ?_
      exact wjL_law_339 hX hXs hbl hbA hcl hK18 _ _ _ _ h H locs ls hM (lv_sub hl [0, 1, 2, 3] rfl)
    have h := if_f hs3 h
    by_cases hs4 : ((xs (x3).toNatClampNeg) &&& (63 : Int32)) = (4 : Int32)
    · have h := if_t hs4 h
      refine lv_tableIn (pc := 33) (off := 339) (tgt := 372) hx hb dL_law_33 (by rw [hs4]; decide) (by rw [hs4]; decide) (by rw [hs4]; rfl) (by decide) ?_
      exact wjL_law_372 hX hXs hbl hbA hcl hK18 _ _ _ _ h H locs ls hM (lv_sub hl [0, 1, 2, 3] rfl)
    have h := if_f hs4 h
    by_cases hs5 : ((xs (x3).toNatClampNeg) &&& (63 : Int32)) = (5 : Int32)
    · have h := if_t hs5 h
      refine lv_tableIn (pc := 33) (off := 372) (tgt := 405) hx hb dL_law_33 (by rw [hs5]; decide) (by rw [hs5]; decide) (by rw [hs5]; rfl) (by decide) ?_
      exact wjL_law_405 hX hXs hbl hbA hcl hK18 _ _ _ _ h H locs ls hM (lv_sub hl [0, 1, 2, 3] rfl)
    have h := if_f hs5 h
    by_cases hs6 : ((xs (x3).toNatClampNeg) &&& (63 : Int32)) = (6 : Int32)
    · have h := if_t hs6 h
      refine lv_tableIn (pc := 33) (off := 405) (tgt := 438) hx hb dL_law_33 (by rw [hs6]; decide) (by rw [hs6]; decide) (by rw [hs6]; rfl) (by decide) ?_
      exact wjL_law_438 hX hXs hbl hbA hcl hK18 _ _ _ _ h H locs ls hM (lv_sub hl [0, 1, 2, 3] rfl)
    have h := if_f hs6 h
    by_cases hs7 : ((xs (x3).toNatClampNeg) &&& (63 : Int32)) = (7 : Int32)
    · have h := if_t hs7 h
      refine lv_tableIn (pc := 33) (off := 438) (tgt := 471) hx hb dL_law_33 (by rw [hs7]; decide) (by rw [hs7]; decide) (by rw [hs7]; rfl) (by decide) ?_
      exact wjL_law_471 hX hXs hbl hbA hcl hK18 _ _ _ _ h H locs ls hM (lv_sub hl [0, 1, 2, 3] rfl)
    have h := if_f hs7 h
    by_cases hs8 : ((xs (x3).toNatClampNeg) &&& (63 : Int32)) = (8 : Int32)
    · have h := if_t hs8 h
      refine lv_tableIn (pc := 33) (off := 501) (tgt := 534) hx hb dL_law_33 (by rw [hs8]; decide) (by rw [hs8]; decide) (by rw [hs8]; rfl) (by decide) ?_
      exact wjL_law_534 hX hXs hbl hbA hcl hK18 _ _ _ _ h H locs ls hM (lv_sub hl [0, 1, 2, 3] rfl)
    have h := if_f hs8 h
    by_cases hs9 : ((xs (x3).toNatClampNeg) &&& (63 : Int32)) = (9 : Int32)
    · have h := if_t hs9 h
      refine lv_tableIn (pc := 33) (off := 524) (tgt := 557) hx hb dL_law_33 (by rw [hs9]; decide) (by rw [hs9]; decide) (by rw [hs9]; rfl) (by decide) ?_
      exact wjL_law_557 hX hXs hbl hbA hcl hK18 _ _ _ _ h H locs ls hM (lv_sub hl [0, 1, 2, 3] rfl)
    have h := if_f hs9 h
    by_cases hs10 : ((xs (x3).toNatClampNeg) &&& (63 : Int32)) = (10 : Int32)
    · have h := if_t hs10 h
      refine lv_tableIn (pc := 33) (off := 567) (tgt := 600) hx hb dL_law_33 (by rw [hs10]; decide) (by rw [hs10]; decide) (by rw [hs10]; rfl) (by decide) ?_
      exact wjL_law_600 hX hXs hbl hbA hcl hK18 _ _ _ _ h H locs ls hM (lv_sub hl [0, 1, 2, 3] rfl)
    have h := if_f hs10 h
    by_cases hs11 : ((xs (x3).toNatClampNeg) &&& (63 : Int32)) = (11 : Int32)
    · have h := if_t hs11 h
      refine lv_tableIn (pc := 33) (off := 620) (tgt := 653) hx hb dL_law_33 (by rw [hs11]; decide) (by rw [hs11]; decide) (by rw [hs11]; rfl) (by decide) ?_
      exact wjL_law_653 hX hXs hbl hbA hcl hK18 _ _ _ _ h H locs ls hM (lv_sub hl [0, 1, 2, 3] rfl)
    have h := if_f hs11 h
    by_cases hs12 : ((xs (x3).toNatClampNeg) &&& (63 : Int32)) = (12 : Int32)
    · have h := if_t hs12 h
      refine lv_tableIn (pc := 33) (off := 683) (tgt := 716) hx hb dL_law_33 (by rw [hs12]; decide) (by rw [hs12]; decide) (by rw [hs12]; rfl) (by decide) ?_
      exact wjL_law_716 hX hXs hbl hbA hcl hK18 _ _ _ _ h H locs ls hM (lv_sub hl [0, 1, 2, 3] rfl)
    have h := if_f hs12 h
    by_cases hs13 : ((xs (x3).toNatClampNeg) &&& (63 : Int32)) = (13 : Int32)
    · have h := if_t hs13 h
      refine lv_tableIn (pc := 33) (off := 716) (tgt := 749) hx hb dL_law_33 (by rw [hs13]; decide) (by rw [hs13]; decide) (by rw [hs13]; rfl) (by decide) ?_
      exact wjL_law_749 hX hXs hbl hbA hcl hK18 _ _ _ _ h H locs ls hM (lv_sub hl [0, 1, 2, 3] rfl)
    have h := if_f hs13 h
    by_cases hs14 : ((xs (x3).toNatClampNeg) &&& (63 : Int32)) = (14 : Int32)
    · have h := if_t hs14 h
      refine lv_tableIn (pc := 33) (off := 739) (tgt := 772) hx hb dL_law_33 (by rw [hs14]; decide) (by rw [hs14]; decide) (by rw [hs14]; rfl) (by decide) ?_
      exact wjL_law_772 hX hXs hbl hbA hcl hK18 _ _ _ _ h H locs ls hM (lv_sub hl [0, 1, 2, 3] rfl)
    have h := if_f hs14 h
    by_cases hs15 : ((xs (x3).toNatClampNeg) &&& (63 : Int32)) = (15 : Int32)
    · have h := if_t hs15 h
      refine lv_tableIn (pc := 33) (off := 782) (tgt := 815) hx hb dL_law_33 (by rw [hs15]; decide) (by rw [hs15]; decide) (by rw [hs15]; rfl) (by decide) ?_
      exact wjL_law_815 hX hXs hbl hbA hcl hK18 _ _ _ _ h H locs ls hM (lv_sub hl [0, 1, 2, 3] rfl)
    have h := if_f hs15 h
    by_cases hs16 : ((xs (x3).toNatClampNeg) &&& (63 : Int32)) = (16 : Int32)
    · have h := if_t hs16 h
      refine lv_tableIn (pc := 33) (off := 825) (tgt := 858) hx hb dL_law_33 (by rw [hs16]; decide) (by rw [hs16]; decide) (by rw [hs16]; rfl) (by decide) ?_
      exact wjL_law_858 hX hXs hbl hbA hcl hK18 _ _ _ _ h H locs ls hM (lv_sub hl [0, 1, 2, 3] rfl)
    have h := if_f hs16 h
    by_cases hs17 : ((xs (x3).toNatClampNeg) &&& (63 : Int32)) = (17 : Int32)
    · have h := if_t hs17 h
      refine lv_tableIn (pc := 33) (off := 848) (tgt := 881) hx hb dL_law_33 (by rw [hs17]; decide) (by rw [hs17]; decide) (by rw [hs17]; rfl) (by decide) ?_
      exact wjL_law_881 hX hXs hbl hbA hcl hK18 _ _ _ _ h H locs ls hM (lv_sub hl [0, 1, 2, 3] rfl)
    have h := if_f hs17 h
    by_cases hs18 : ((xs (x3).toNatClampNeg) &&& (63 : Int32)) = (18 : Int32)
    · have h := if_t hs18 h
      refine lv_tableIn (pc := 33) (off := 881) (tgt := 914) hx hb dL_law_33 (by rw [hs18]; decide) (by rw [hs18]; decide) (by rw [hs18]; rfl) (by decide) ?_
      exact wjL_law_914 hX hXs hbl hbA hcl hK18 _ _ _ _ h H locs ls hM (lv_sub hl [0, 1, 2, 3] rfl)
    have h := if_f hs18 h
    by_cases hs19 : ((xs (x3).toNatClampNeg) &&& (63 : Int32)) = (19 : Int32)
    · have h := if_t hs19 h
      refine lv_tableIn (pc := 33) (off := 924) (tgt := 957) hx hb dL_law_33 (by rw [hs19]; decide) (by rw [hs19]; decide) (by rw [hs19]; rfl) (by decide) ?_
      exact wjL_law_957 hX hXs hbl hbA hcl hK18 _ _ _ _ h H locs ls hM (lv_sub hl [0, 1, 2, 3] rfl)
    have h := if_f hs19 h
    by_cases hs20 : ((xs (x3).toNatClampNeg) &&& (63 : Int32)) = (20 : Int32)
    · have h := if_t hs20 h
      refine lv_tableIn (pc := 33) (off := 947) (tgt := 980) hx hb dL_law_33 (by rw [hs20]; decide) (by rw [hs20]; decide) (by rw [hs20]; rfl) (by decide) ?_
      exact wjL_law_980 hX hXs hbl hbA hcl hK18 _ _ _ _ h H locs ls hM (lv_sub hl [0, 1, 2, 3] rfl)
    have h := if_f hs20 h
    by_cases hs21 : ((xs (x3).toNatClampNeg) &&& (63 : Int32)) = (21 : Int32)
    · have h := if_t hs21 h
      refine lv_tableIn (pc := 33) (off := 990) (tgt := 1023) hx hb dL_law_33 (by rw [hs21]; decide) (by rw [hs21]; decide) (by rw [hs21]; rfl) (by decide) ?_
      exact wjL_law_1023 hX hXs hbl hbA hcl hK18 _ _ _ _ h H locs ls hM (lv_sub hl [0, 1, 2, 3] rfl)
    have h := if_f hs21 h
    by_cases hs22 : ((xs (x3).toNatClampNeg) &&& (63 : Int32)) = (22 : Int32)
    · have h := if_t hs22 h
      refine lv_tableIn (pc := 33) (off := 1033) (tgt := 1066) hx hb dL_law_33 (by rw [hs22]; decide) (by rw [hs22]; decide) (by rw [hs22]; rfl) (by decide) ?_
      exact wjL_law_1066 hX hXs hbl hbA hcl hK18 _ _ _ _ h H locs ls hM (lv_sub hl [0, 1, 2, 3] rfl)
    have h := if_f hs22 h
    by_cases hs23 : ((xs (x3).toNatClampNeg) &&& (63 : Int32)) = (23 : Int32)
    · have h := if_t hs23 h
      refine lv_tableIn (pc := 33) (off := 1086) (tgt := 1119) hx hb dL_law_33 (by rw [hs23]; decide) (by rw [hs23]; decide) (by rw [hs23]; rfl) (by decide) ?_
      exact wjL_law_1119 hX hXs hbl hbA hcl hK18 _ _ _ _ h H locs ls hM (lv_sub hl [0, 1, 2, 3] rfl)
    have h := if_f hs23 h
    by_cases hs24 : ((xs (x3).toNatClampNeg) &&& (63 : Int32)) = (24 : Int32)
    · have h := if_t hs24 h
      refine lv_tableIn (pc := 33) (off := 1129) (tgt := 1162) hx hb dL_law_33 (by rw [hs24]; decide) (by rw [hs24]; decide) (by rw [hs24]; rfl) (by decide) ?_
      exact wjL_law_1162 hX hXs hbl hbA hcl hK18 _ _ _ _ h H locs ls hM (lv_sub hl [0, 1, 2, 3] rfl)
    have h := if_f hs24 h
    by_cases hs25 : ((xs (x3).toNatClampNeg) &&& (63 : Int32)) = (25 : Int32)
    · have h := if_t hs25 h
      refine lv_tableIn (pc := 33) (off := 1182) (tgt := 1215) hx hb dL_law_33 (by rw [hs25]; decide) (by rw [hs25]; decide) (by rw [hs25]; rfl) (by decide) ?_
      exact wjL_law_1215 hX hXs hbl hbA hcl hK18 _ _ _ _ h H locs ls hM (lv_sub hl [0, 1, 2, 3] rfl)
    have h := if_f hs25 h
    by_cases hs26 : ((xs (x3).toNatClampNeg) &&& (63 : Int32)) = (26 : Int32)
    · have h := if_t hs26 h
      refine lv_tableIn (pc := 33) (off := 1245) (tgt := 1278) hx hb dL_law_33 (by rw [hs26]; decide) (by rw [hs26]; decide) (by rw [hs26]; rfl) (by decide) ?_
      exact wjL_law_1278 hX hXs hbl hbA hcl hK18 _ _ _ _ h H locs ls hM (lv_sub hl [0, 1, 2, 3] rfl)
    have h := if_f hs26 h
    by_cases hs27 : ((xs (x3).toNatClampNeg) &&& (63 : Int32)) = (27 : Int32)
    · have h := if_t hs27 h
      refine lv_tableIn (pc := 33) (off := 1278) (tgt := 1311) hx hb dL_law_33 (by rw [hs27]; decide) (by rw [hs27]; decide) (by rw [hs27]; rfl) (by decide) ?_
      exact wjL_law_1311 hX hXs hbl hbA hcl hK18 _ _ _ _ h H locs ls hM (lv_sub hl [0, 1, 2, 3] rfl)
    have h := if_f hs27 h
    by_cases hs28 : ((xs (x3).toNatClampNeg) &&& (63 : Int32)) = (28 : Int32)
    · have h := if_t hs28 h
      refine lv_tableIn (pc := 33) (off := 1311) (tgt := 1344) hx hb dL_law_33 (by rw [hs28]; decide) (by rw [hs28]; decide) (by rw [hs28]; rfl) (by decide) ?_
      exact wjL_law_1344 hX hXs hbl hbA hcl hK18 _ _ _ _ h H locs ls hM (lv_sub hl [0, 1, 2, 3] rfl)
    have h := if_f hs28 h
    by_cases hs29 : ((xs (x3).toNatClampNeg) &&& (63 : Int32)) = (29 : Int32)
    · have h := if_t hs29 h
      refine lv_tableIn (pc := 33) (off := 1355) (tgt := 1388) hx hb dL_law_33 (by rw [hs29]; decide) (by rw [hs29]; decide) (by rw [hs29]; rfl) (by decide) ?_
      exact wjL_law_1388 hX hXs hbl hbA hcl hK18 _ _ _ _ h H locs ls hM (lv_sub hl [0, 1, 2, 3] rfl)
    have h := if_f hs29 h
    by_cases hs30 : ((xs (x3).toNatClampNeg) &&& (63 : Int32)) = (30 : Int32)
    · have h := if_t hs30 h
      refine lv_tableIn (pc := 33) (off := 1378) (tgt := 1411) hx hb dL_law_33 (by rw [hs30]; decide) (by rw [hs30]; decide) (by rw [hs30]; rfl) (by decide) ?_
      exact wjL_law_1411 hX hXs hbl hbA hcl hK18 _ _ _ _ h H locs ls hM (lv_sub hl [0, 1, 2, 3] rfl)
    have h := if_f hs30 h
    by_cases hs31 : ((xs (x3).toNatClampNeg) &&& (63 : Int32)) = (31 : Int32)
    · have h := if_t hs31 h
      refine lv_tableIn (pc := 33) (off := 1411) (tgt := 1444) hx hb dL_law_33 (by rw [hs31]; decide) (by rw [hs31]; decide) (by rw [hs31]; rfl) (by decide) ?_
      exact wjL_law_1444 hX hXs hbl hbA hcl hK18 _ _ _ _ h H locs ls hM (lv_sub hl [0, 1, 2, 3] rfl)
    have h := if_f hs31 h
    by_cases hs32 : ((xs (x3).toNatClampNeg) &&& (63 : Int32)) = (32 : Int32)
    · have h := if_t hs32 h
      refine lv_tableIn (pc := 33) (off := 1444) (tgt := 1477) hx hb dL_law_33 (by rw [hs32]; decide) (by rw [hs32]; decide) (by rw [hs32]; rfl) (by decide) ?_
      exact wjL_law_1477 hX hXs hbl hbA hcl hK18 _ _ _ _ h H locs ls hM (lv_sub hl [0, 1, 2, 3] rfl)
    have h := if_f hs32 h
    by_cases hs33 : ((xs (x3).toNatClampNeg) &&& (63 : Int32)) = (33 : Int32)
    · have h := if_t hs33 h
      refine lv_tableIn (pc := 33) (off := 1467) (tgt := 1500) hx hb dL_law_33 (by rw [hs33]; decide) (by rw [hs33]; decide) (by rw [hs33]; rfl) (by decide) ?_
      exact wjL_law_1500 hX hXs hbl hbA hcl hK18 _ _ _ _ h H locs ls hM (lv_sub hl [0, 1, 2, 3] rfl)
    have h := if_f hs33 h
    by_cases hs34 : ((xs (x3).toNatClampNeg) &&& (63 : Int32)) = (34 : Int32)
    · have h := if_t hs34 h
      refine lv_tableIn (pc := 33) (off := 1510) (tgt := 1543) hx hb dL_law_33 (by rw [hs34]; decide) (by rw [hs34]; decide) (by rw [hs34]; rfl) (by decide) ?_
      exact wjL_law_1543 hX hXs hbl hbA hcl hK18 _ _ _ _ h H locs ls hM (lv_sub hl [0, 1, 2, 3] rfl)
    have h := if_f hs34 h
    by_cases hs35 : ((xs (x3).toNatClampNeg) &&& (63 : Int32)) = (35 : Int32)
    · have h := if_t hs35 h
      refine lv_tableIn (pc := 33) (off := 1533) (tgt := 1566) hx hb dL_law_33 (by rw [hs35]; decide) (by rw [hs35]; decide) (by rw [hs35]; rfl) (by decide) ?_
      exact wjL_law_1566 hX hXs hbl hbA hcl hK18 _ _ _ _ h H locs ls hM (lv_sub hl [0, 1, 2, 3] rfl)
    have h := if_f hs35 h
    by_cases hs36 : ((xs (x3).toNatClampNeg) &&& (63 : Int32)) = (36 : Int32)
    · have h := if_t hs36 h
      refine lv_tableIn (pc := 33) (off := 1566) (tgt := 1599) hx hb dL_law_33 (by rw [hs36]; decide) (by rw [hs36]; decide) (by rw [hs36]; rfl) (by decide) ?_
      exact wjL_law_1599 hX hXs hbl hbA hcl hK18 _ _ _ _ h H locs ls hM (lv_sub hl [0, 1, 2, 3] rfl)
    have h := if_f hs36 h
    by_cases hs37 : ((xs (x3).toNatClampNeg) &&& (63 : Int32)) = (37 : Int32)
    · have h := if_t hs37 h
      refine lv_tableIn (pc := 33) (off := 1599) (tgt := 1632) hx hb dL_law_33 (by rw [hs37]; decide) (by rw [hs37]; decide) (by rw [hs37]; rfl) (by decide) ?_
      exact wjL_law_1632 hX hXs hbl hbA hcl hK18 _ _ _ _ h H locs ls hM (lv_sub hl [0, 1, 2, 3] rfl)
    have h := if_f hs37 h
    by_cases hs38 : ((xs (x3).toNatClampNeg) &&& (63 : Int32)) = (38 : Int32)
    · have h := if_t hs38 h
      refine lv_tableIn (pc := 33) (off := 1642) (tgt := 1675) hx hb dL_law_33 (by rw [hs38]; decide) (by rw [hs38]; decide) (by rw [hs38]; rfl) (by decide) ?_
      exact wjL_law_1675 hX hXs hbl hbA hcl hK18 _ _ _ _ h H locs ls hM (lv_sub hl [0, 1, 2, 3] rfl)
    have h := if_f hs38 h
    by_cases hs39 : ((xs (x3).toNatClampNeg) &&& (63 : Int32)) = (39 : Int32)
    · have h := if_t hs39 h
      refine lv_tableIn (pc := 33) (off := 1665) (tgt := 1698) hx hb dL_law_33 (by rw [hs39]; decide) (by rw [hs39]; decide) (by rw [hs39]; rfl) (by decide) ?_
      exact wjL_law_1698 hX hXs hbl hbA hcl hK18 _ _ _ _ h H locs ls hM (lv_sub hl [0, 1, 2, 3] rfl)
    have h := if_f hs39 h
    by_cases hs40 : ((xs (x3).toNatClampNeg) &&& (63 : Int32)) = (40 : Int32)
    · have h := if_t hs40 h
      refine lv_tableIn (pc := 33) (off := 1708) (tgt := 1741) hx hb dL_law_33 (by rw [hs40]; decide) (by rw [hs40]; decide) (by rw [hs40]; rfl) (by decide) ?_
      exact wjL_law_1741 hX hXs hbl hbA hcl hK18 _ _ _ _ h H locs ls hM (lv_sub hl [0, 1, 2, 3] rfl)
    have h := if_f hs40 h
    by_cases hs41 : ((xs (x3).toNatClampNeg) &&& (63 : Int32)) = (41 : Int32)
    · have h := if_t hs41 h
      refine lv_tableIn (pc := 33) (off := 1751) (tgt := 1784) hx hb dL_law_33 (by rw [hs41]; decide) (by rw [hs41]; decide) (by rw [hs41]; rfl) (by decide) ?_
      exact wjL_law_1784 hX hXs hbl hbA hcl hK18 _ _ _ _ h H locs ls hM (lv_sub hl [0, 1, 2, 3] rfl)
    have h := if_f hs41 h
    by_cases hs42 : ((xs (x3).toNatClampNeg) &&& (63 : Int32)) = (42 : Int32)
    · have h := if_t hs42 h
      refine lv_tableIn (pc := 33) (off := 1814) (tgt := 1847) hx hb dL_law_33 (by rw [hs42]; decide) (by rw [hs42]; decide) (by rw [hs42]; rfl) (by decide) ?_
      exact wjL_law_1847 hX hXs hbl hbA hcl hK18 _ _ _ _ h H locs ls hM (lv_sub hl [0, 1, 2, 3] rfl)
    have h := if_f hs42 h
    by_cases hs43 : ((xs (x3).toNatClampNeg) &&& (63 : Int32)) = (43 : Int32)
    · have h := if_t hs43 h
      refine lv_tableIn (pc := 33) (off := 1827) (tgt := 1860) hx hb dL_law_33 (by rw [hs43]; decide) (by rw [hs43]; decide) (by rw [hs43]; rfl) (by decide) ?_
      exact wjL_law_1860 hX hXs hbl hbA hcl hK18 _ _ _ _ h H locs ls hM (lv_sub hl [0, 1, 2, 3] rfl)
    have h := if_f hs43 h
    by_cases hs44 : ((xs (x3).toNatClampNeg) &&& (63 : Int32)) = (44 : Int32)
    · have h := if_t hs44 h
      refine lv_tableIn (pc := 33) (off := 1840) (tgt := 1873) hx hb dL_law_33 (by rw [hs44]; decide) (by rw [hs44]; decide) (by rw [hs44]; rfl) (by decide) ?_
      exact wjL_law_1873 hX hXs hbl hbA hcl hK18 _ _ _ _ h H locs ls hM (lv_sub hl [0, 1, 2, 3] rfl)
    have h := if_f hs44 h
    by_cases hs45 : ((xs (x3).toNatClampNeg) &&& (63 : Int32)) = (45 : Int32)
    · have h := if_t hs45 h
      refine lv_tableIn (pc := 33) (off := 1863) (tgt := 1896) hx hb dL_law_33 (by rw [hs45]; decide) (by rw [hs45]; decide) (by rw [hs45]; rfl) (by decide) ?_
      exact wjL_law_1896 hX hXs hbl hbA hcl hK18 _ _ _ _ h H locs ls hM (lv_sub hl [0, 1, 2, 3] rfl)
    have h := if_f hs45 h
    by_cases hs46 : ((xs (x3).toNatClampNeg) &&& (63 : Int32)) = (46 : Int32)
    · have h := if_t hs46 h
      refine lv_tableIn (pc := 33) (off := 1886) (tgt := 1919) hx hb dL_law_33 (by rw [hs46]; decide) (by rw [hs46]; decide) (by rw [hs46]; rfl) (by decide) ?_
      exact wjL_law_1919 hX hXs hbl hbA hcl hK18 _ _ _ _ h H locs ls hM (lv_sub hl [0, 1, 2, 3] rfl)
    have h := if_f hs46 h
    by_cases hs47 : ((xs (x3).toNatClampNeg) &&& (63 : Int32)) = (47 : Int32)
    · have h := if_t hs47 h
      refine lv_tableIn (pc := 33) (off := 1909) (tgt := 1942) hx hb dL_law_33 (by rw [hs47]; decide) (by rw [hs47]; decide) (by rw [hs47]; rfl) (by decide) ?_
      exact wjL_law_1942 hX hXs hbl hbA hcl hK18 _ _ _ _ h H locs ls hM (lv_sub hl [0, 1, 2, 3] rfl)
    have h := if_f hs47 h
    have ho : (((xs (x3).toNatClampNeg) &&& (63 : Int32))).toInt < 0 ∨ 47 < (((xs (x3).toNatClampNeg) &&& (63 : Int32))).toInt := by
      have hs0 := lv_neT hs0 (a := 0) (by decide)
      have hs1 := lv_neT hs1 (a := 1) (by decide)
      have hs2 := lv_neT hs2 (a := 2) (by decide)
      have hs3 := lv_neT hs3 (a := 3) (by decide)
      have hs4 := lv_neT hs4 (a := 4) (by decide)
      have hs5 := lv_neT hs5 (a := 5) (by decide)
      have hs6 := lv_neT hs6 (a := 6) (by decide)
      have hs7 := lv_neT hs7 (a := 7) (by decide)
      have hs8 := lv_neT hs8 (a := 8) (by decide)
      have hs9 := lv_neT hs9 (a := 9) (by decide)
      have hs10 := lv_neT hs10 (a := 10) (by decide)
      have hs11 := lv_neT hs11 (a := 11) (by decide)
      have hs12 := lv_neT hs12 (a := 12) (by decide)
      have hs13 := lv_neT hs13 (a := 13) (by decide)
      have hs14 := lv_neT hs14 (a := 14) (by decide)
      have hs15 := lv_neT hs15 (a := 15) (by decide)
      have hs16 := lv_neT hs16 (a := 16) (by decide)
      have hs17 := lv_neT hs17 (a := 17) (by decide)
      have hs18 := lv_neT hs18 (a := 18) (by decide)
      have hs19 := lv_neT hs19 (a := 19) (by decide)
      have hs20 := lv_neT hs20 (a := 20) (by decide)
      have hs21 := lv_neT hs21 (a := 21) (by decide)
      have hs22 := lv_neT hs22 (a := 22) (by decide)
      have hs23 := lv_neT hs23 (a := 23) (by decide)
      have hs24 := lv_neT hs24 (a := 24) (by decide)
      have hs25 := lv_neT hs25 (a := 25) (by decide)
      have hs26 := lv_neT hs26 (a := 26) (by decide)
      have hs27 := lv_neT hs27 (a := 27) (by decide)
      have hs28 := lv_neT hs28 (a := 28) (by decide)
      have hs29 := lv_neT hs29 (a := 29) (by decide)
      have hs30 := lv_neT hs30 (a := 30) (by decide)
      have hs31 := lv_neT hs31 (a := 31) (by decide)
      have hs32 := lv_neT hs32 (a := 32) (by decide)
      have hs33 := lv_neT hs33 (a := 33) (by decide)
      have hs34 := lv_neT hs34 (a := 34) (by decide)
      have hs35 := lv_neT hs35 (a := 35) (by decide)
      have hs36 := lv_neT hs36 (a := 36) (by decide)
      have hs37 := lv_neT hs37 (a := 37) (by decide)
      have hs38 := lv_neT hs38 (a := 38) (by decide)
      have hs39 := lv_neT hs39 (a := 39) (by decide)
      have hs40 := lv_neT hs40 (a := 40) (by decide)
      have hs41 := lv_neT hs41 (a := 41) (by decide)
      have hs42 := lv_neT hs42 (a := 42) (by decide)
      have hs43 := lv_neT hs43 (a := 43) (by decide)
      have hs44 := lv_neT hs44 (a := 44) (by decide)
      have hs45 := lv_neT hs45 (a := 45) (by decide)
      have hs46 := lv_neT hs46 (a := 46) (by decide)
      have hs47 := lv_neT hs47 (a := 47) (by decide)
      omega
    refine lv_tableOut (pc := 33) (tgt := 1965) hx hb dL_law_33 ho (by decide) ?_
    refine lv_iinc (pc := 1965) (v := (x3 + (6 : Int32))) (lv' := [(3, .int (x3 + (6 : Int32))), (0, .ref b), (1, .ref (pB P + x1)), (2, .ref (pB P + x2))]) hx hb dL_law_1965 hl (k := 3) rfl rfl (by decide) rfl (fun ls hl => ?_)
    refine lv_goto (pc := 1968) (tgt := 18) hx hb dL_law_1968 (by decide) ?_
    refine W.widen (k := cl + 5) (n := 1000 * (cl + 5)) (by omega) (by omega) ?_
    exact hK18 (cl + 5) (by omega) _ _ _ _ h H locs ls hM (lv_sub hl [1, 2, 3, 0] rfl)
set_option maxHeartbeats 4000000 in
set_option maxRecDepth 100000 in
theorem wLL_law_18 {p : Program} {l : Launch} {e : Env} {s : State} {m : MethodId} {below : List Frame} {meth : Method} {c : Code} {P : PT} {b L N : Nat} {xs : Nat → Int32} {M9 : Mm} (hX : Cl p s m c meth b P) (hXs : va_X b L xs s s.heap) (hbl : b < s.heap.size) (hbA : ¬ pB P ≤ b) : ∀ (n cl : Nat) (_ : cl + 5 * n ≤ 7000) (M : Mm) (x1 x2 : Nat) (x3 : Int32), LL_law_18 N L xs n M x1 x2 x3 = some (1, M9) → Wl p l e s m below meth c b P cl 18 [(0, .ref b), (1, .ref (pB P + x1)), (2, .ref (pB P + x2)), (3, .int x3)] [] M := by
  intro n
  induction n with
  | zero => intro cl _ M x1 x2 x3 h; cases h
  | succ n ih => intro cl hcl M x1 x2 x3 h; exact wBL_law_18 hX hXs hbl hbA hcl ih M x1 x2 x3 h
set_option maxHeartbeats 4000000 in
set_option maxRecDepth 100000 in
theorem wL_law {p : Program} {l : Launch} {e : Env} {s : State} {m : MethodId} {below : List Frame} {meth : Method} {c : Code} {P : PT} {b L N : Nat} {xs : Nat → Int32} {M9 : Mm} (hX : Cl p s m c meth b P) (hXs : va_X b L xs s s.heap) (hbl : b < s.heap.size) (hbA : ¬ pB P ≤ b) (M : Mm) (h : fL_law N L xs M = some (1, M9)) : Wl p l e s m below meth c b P 0 0 [(0, .ref b)] [] M := by
  unfold fL_law at h
  obtain ⟨X, hr, hlk, hBs⟩ := id hX
  have hx := X.1.1
  have hb := X.1.2.1
  intro H locs ls hM hl
  obtain ⟨M1, e2, h⟩ := ob h
  cases e2
  refine bz_new (pc := 0) X hM cfX10 g_99 g_100 g_80 [.null, .null, .int 0, .null, .null, .null, .null, .null, .null, .null] (fun j hj => by rcases (show j = 0 ∨ j = 1 ∨ j = 2 ∨ j = 3 ∨ j = 4 ∨ j = 5 ∨ j = 6 ∨ j = 7 ∨ j = 8 ∨ j = 9 by omega) with rfl | rfl | rfl | rfl | rfl | rfl | rfl | rfl | rfl | rfl <;> rfl) rfl (Nat.le_of_ble_eq_true rfl) (Nat.le_of_ble_eq_true rfl) dL_law_0 (fun H hM => ?_)
  refine lv_dup (pc := 3) hx hb dL_law_3 rfl ?_
  obtain ⟨M4, e3, h⟩ := ob h
  refine bz_callI (pc := 4) (As := []) (rest := [.ref (pB P + M.length)]) X hM hl.1 k_RL_9 (ctX10_init l e3) rfl rfl ⟨(Nat.le_of_ble_eq_true rfl), (Nat.le_of_ble_eq_true rfl)⟩ (Nat.le_of_ble_eq_true rfl) ⟨by show _ ≤ 600000; omega, by show _ ≤ 7302250; omega⟩ dL_law_4 (fun H locs hM => ?_)
  refine lv_astore_n (pc := 7) (lv' := [(1, .ref (pB P + M.length)), (0, .ref b)]) hx hb dL_law_7 rfl hl (by decide) rfl (fun ls hl => ?_)
  obtain ⟨M5, e6, h⟩ := ob h
  cases e6
  refine bz_new (pc := 8) X hM cfX11 g_1184 g_1185 g_90 [.null, .null, .int 0, .null, .null, .null, .null, .null, .null, .null, .int 0, .int 0, .int 0, .int 0, .int 0, .null, .null, .null, .null, .null, .null, .int 0, .int 0, .int 0, .int 0] (fun j hj => by rcases (show j = 0 ∨ j = 1 ∨ j = 2 ∨ j = 3 ∨ j = 4 ∨ j = 5 ∨ j = 6 ∨ j = 7 ∨ j = 8 ∨ j = 9 ∨ j = 10 ∨ j = 11 ∨ j = 12 ∨ j = 13 ∨ j = 14 ∨ j = 15 ∨ j = 16 ∨ j = 17 ∨ j = 18 ∨ j = 19 ∨ j = 20 ∨ j = 21 ∨ j = 22 ∨ j = 23 ∨ j = 24 by omega) with rfl | rfl | rfl | rfl | rfl | rfl | rfl | rfl | rfl | rfl | rfl | rfl | rfl | rfl | rfl | rfl | rfl | rfl | rfl | rfl | rfl | rfl | rfl | rfl | rfl <;> rfl) rfl (Nat.le_of_ble_eq_true rfl) (Nat.le_of_ble_eq_true rfl) dL_law_8 (fun H hM => ?_)
  refine lv_dup (pc := 11) hx hb dL_law_11 rfl ?_
  obtain ⟨M8, e7, h⟩ := ob h
  refine bz_callI (pc := 12) (As := []) (rest := [.ref (pB P + M4.length)]) X hM hl.1 k_RL_12 (ctX11_init l e7) rfl rfl ⟨(Nat.le_of_ble_eq_true rfl), (Nat.le_of_ble_eq_true rfl)⟩ (Nat.le_of_ble_eq_true rfl) ⟨by show _ ≤ 600000; omega, by show _ ≤ 7302250; omega⟩ dL_law_12 (fun H locs hM => ?_)
  refine lv_astore_n (pc := 15) (lv' := [(2, .ref (pB P + M4.length)), (1, .ref (pB P + M.length)), (0, .ref b)]) hx hb dL_law_15 rfl hl (by decide) rfl (fun ls hl => ?_)
  refine lv_iconst (pc := 16) (v := (0 : Int32)) hx hb dL_law_16 (by decide) ?_
  refine lv_istore_n (pc := 17) (lv' := [(3, .int (0 : Int32)), (2, .ref (pB P + M4.length)), (1, .ref (pB P + M.length)), (0, .ref b)]) hx hb dL_law_17 rfl hl (by decide) rfl (fun ls hl => ?_)
  exact wLL_law_18 hX hXs hbl hbA 65 156 (by decide) _ _ _ _ h H locs ls hM (lv_sub hl [3, 2, 1, 0] rfl)
