/-! what a text says, in the reference -/
theorem TwR.s {F : Nat → Int32} {A A' : Nat → Nat → Int32} {σ : Sg} (h : TwR F A σ) (h0 : A' 0 = A 0) (h1 : A' 1 = A 1) (h2 : A' 2 = A 2) (h5 : A' 5 = A 5) (h6 : A' 6 = A 6) (h7 : A' 7 = A 7) (h14 : A' 14 = A 14) : TwR F A' σ := by
  unfold TwR
  rw [h0, h1, h2, h5, h6, h7, h14]
  exact h
def SkA (f : Nat → Int32) (s : List Int32) : Prop := ∀ j, j < s.length → f j = s.reverse.getD j 0
theorem SkA.push {f : Nat → Int32} {s : List Int32} (h : SkA f s) (v : Int32) : SkA (upd f s.length v) (v :: s) := by
  intro j hj
  rw [List.reverse_cons, getD_app]
  by_cases e : j = s.length
  · subst e
    rw [pk_us, if_pos (by simp)]
  · rw [pk_un e, if_neg (by simpa using e)]
    exact h j (by simp at hj; omega)
theorem SkA.pop {f : Nat → Int32} {s : List Int32} {x : Int32} (h : SkA f (x :: s)) : SkA f s ∧ f s.length = x := by
  refine ⟨fun j hj => ?_, ?_⟩
  · have q := h j (by simp; omega)
    rw [List.reverse_cons, getD_app, if_neg (by simp; omega)] at q
    exact q
  · have q := h s.length (by simp)
    rw [List.reverse_cons, getD_app, if_pos (by simp)] at q
    exact q
theorem T_worked (M : Mm) (c l r : Int32) (hc : c ∈ ([124, 38, 60, 61, 62, 43, 45, 42, 47, 37] : List Int32)) : fX11_worked M c l r = some (wk c l r) := by
  have di : ∀ x y : Int32, ¬ y = 0 → dI x y = some (x / y) := fun x y h => if_neg h
  have mi : ∀ x y : Int32, ¬ y = 0 → mI x y = some (rmI x y) := fun x y h => if_neg h
  simp only [List.mem_cons, List.not_mem_nil, or_false] at hc
  rcases hc with rfl | rfl | rfl | rfl | rfl | rfl | rfl | rfl | rfl | rfl
  · show (if l = 0 then (if r = 0 then some (0 : Int32) else some 1) else some 1) = some (if l = 0 then (if r = 0 then 0 else 1) else 1)
    by_cases y : l = 0
    · rw [if_pos y, if_pos y]
      by_cases x : r = 0
      · rw [if_pos x, if_pos x]
      · rw [if_neg x, if_neg x]
    · rw [if_neg y, if_neg y]
  · show (if l = 0 then some (0 : Int32) else if r = 0 then some 0 else some 1) = some (if l = 0 then 0 else if r = 0 then 0 else 1)
    by_cases y : l = 0
    · rw [if_pos y, if_pos y]
    · rw [if_neg y, if_neg y]
      by_cases x : r = 0
      · rw [if_pos x, if_pos x]
      · rw [if_neg x, if_neg x]
  · show (if r ≤ l then some (0 : Int32) else some 1) = some (if r ≤ l then 0 else 1)
    by_cases y : r ≤ l
    · rw [if_pos y, if_pos y]
    · rw [if_neg y, if_neg y]
  · show (if l = r then some (1 : Int32) else some 0) = some (if l = r then 1 else 0)
    by_cases y : l = r
    · rw [if_pos y, if_pos y]
    · rw [if_neg y, if_neg y]
  · show (if l ≤ r then some (0 : Int32) else some 1) = some (if l ≤ r then 0 else 1)
    by_cases y : l ≤ r
    · rw [if_pos y, if_pos y]
    · rw [if_neg y, if_neg y]
  · rfl
  · rfl
  · rfl
  · show (if r = 0 then some (0 : Int32) else ((dI l r).bind fun v => some v)) = some (if r = 0 then 0 else l / r)
    by_cases y : r = 0
    · rw [if_pos y, if_pos y]
    · rw [if_neg y, if_neg y, di _ _ y]; rfl
  · show (if r = 0 then some (0 : Int32) else ((mI l r).bind fun v => some v)) = some (if r = 0 then 0 else rmI l r)
    by_cases y : r = 0
    · rw [if_pos y, if_pos y]
    · rw [if_neg y, if_neg y, mi _ _ y]; rfl
theorem tw_num {c : Int32} (h : wi c 0 9999) : tw c = c ∧ ¬ (20000 : Int32) ≤ c ∧ ¬ (10000 : Int32) ≤ c ∧ (-4 : Int32) ≤ c := by
  rw [wi_i] at h
  have e0 : (0 : Int32).toInt = 0 := by decide
  have e9 : (9999 : Int32).toInt = 9999 := by decide
  have e1 : (-1 : Int32).toInt = -1 := by decide
  have e2 : (20000 : Int32).toInt = 20000 := by decide
  have e3 : (10000 : Int32).toInt = 10000 := by decide
  have e4 : (-4 : Int32).toInt = -4 := by decide
  rw [e0, e9] at h
  refine ⟨if_pos (by rw [i_lt, e1]; omega), by rw [i_le, e2]; omega, by rw [i_le, e3]; omega, by rw [i_le, e4]; omega⟩
/-- one step: the stack's top is s.length -/
theorem T_say1 {N : Nat} {K : Mm → Nat → Int32 → Int32 → Int32 → Option (Int32 × Mm)} {M : Mm} {F : Nat → Int32} {A : Nat → Nat → Int32} {u i : Nat} {code s : List Int32} (h : TwAt M F A) (hc : code.length ≤ 50) (hu : u < 9) (t1 : A 0 (483 + 52 * u) = nI code.length) (t2 : ∀ k, k < code.length → A 0 (484 + 52 * u + k) = tw (code.getD k 0)) (hi : i < code.length) (hs : s.length ≤ i) (hk : SkA (A 10) s) (ht : tok u (code.getD i 0)) {x : Nat} (hd : dp (code.drop i) s.length = some x) : ∃ M' A', BX11_says_14 N K M 137 (nI (482 + 52 * u)) (nI s.length) (nI i) = K M' 137 (nI (482 + 52 * u)) (nI (ev1 (A 9 0) (A 9 1) (A 9 2) (A 9 3) (code.getD i 0) s).length) (nI (i + 1)) ∧ TwAt M' F A' ∧ SkA (A' 10) (ev1 (A 9 0) (A 9 1) (A 9 2) (A 9 3) (code.getD i 0) s) ∧ dp (code.drop (i + 1)) (ev1 (A 9 0) (A 9 1) (A 9 2) (A 9 3) (code.getD i 0) s).length = some x ∧ (∀ k, k ≠ 10 → A' k = A k) ∧ FrT M M' := by
  have r16 : gQ M 11 137 16 = some 148 := T_ref h rfl
  have r15 : gQ M 11 137 15 = some 147 := T_ref h rfl
  have m1 : aI M 0 138 (nI (482 + 52 * u + 1)) = some (nI code.length) := by
    rw [T_m h (by omega), show 482 + 52 * u + 1 = 483 + 52 * u by omega, t1]
  have m2 : aI M 0 138 (nI (482 + 52 * u) + 2 + nI i) = some (tw (code.getD i 0)) := by
    rw [show nI (482 + 52 * u) + 2 = nI (482 + 52 * u + 2) from nI_add _ 2, nI_add, T_m h (by omega), show 482 + 52 * u + 2 + i = 484 + 52 * u + i by omega, t2 i hi]
  have eg : code.getD i 0 = code[i] := by simp [List.getD_eq_getElem?_getD, hi]
  have gt : ∀ j, j < 50 → aI M 0 148 (nI j) = some (A 10 j) := fun j hj => T_get h 10 (by decide) hj
  have gn : ∀ j, j < 4 → aI M 0 147 (nI j) = some (A 9 j) := fun j hj => T_get h 9 (by decide) hj
  have pt : ∀ j, j < 50 → ∀ v, ∃ M', sI M 0 148 (nI j) v = some M' ∧ TwAt M' F (u2 A 10 j v) ∧ FrT M M' := fun j hj v => T_put h 10 (by decide) hj v
  have un : ∀ j v k, k ≠ 10 → u2 A 10 j v k = A k := fun j v k hk => u2_n hk
  have ue : ∀ j v, u2 A 10 j v 10 = upd (A 10) j v := fun j v => rfl
  rw [List.drop_eq_getElem_cons hi, ← eg] at hd
  unfold BX11_says_14
  simp only [T_q0 h, m1, m2, r16, r15, Option.bind_some, nI_1]
  rw [if_neg (nI_ge hi (by omega))]
  generalize code.getD i 0 = v at ht hd ⊢
  have psh : ∀ w, dp (code.drop (i + 1)) (s.length + 1) = some x → ∃ M' A', ((sI M 0 148 (nI s.length) w).bind fun M45 => K M45 137 (nI (482 + 52 * u)) (nI (s.length + 1)) (nI (i + 1))) = K M' 137 (nI (482 + 52 * u)) (nI (w :: s).length) (nI (i + 1)) ∧ TwAt M' F A' ∧ SkA (A' 10) (w :: s) ∧ dp (code.drop (i + 1)) (w :: s).length = some x ∧ (∀ k, k ≠ 10 → A' k = A k) ∧ FrT M M' := fun w hw => by
    obtain ⟨M', e1, e2, e3⟩ := pt s.length (by omega) w
    exact ⟨M', _, by rw [e1]; rfl, e2, by rw [ue]; exact hk.push w, hw, un _ _, e3⟩
  rcases ht with ht | ht | ht | ht
  · obtain ⟨q1, q2, q3, q4⟩ := tw_num ht
    have d1 : dp (code.drop (i + 1)) (s.length + 1) = some x := by
      unfold dp at hd; rw [if_pos q4] at hd; exact hd
    have ev_ : ev1 (A 9 0) (A 9 1) (A 9 2) (A 9 3) v s = v :: s := by
      have g := ht.1
      unfold ev1
      rw [if_neg (fun e => by rw [e] at g; exact g (by decide)), if_neg (fun e => by rw [e] at g; exact g (by decide)), if_neg (fun e => by rw [e] at g; exact g (by decide)), if_neg (fun e => by rw [e] at g; exact g (by decide)), if_neg (fun e => by rw [e] at g; exact g (by decide)), if_neg g]
    rw [q1, if_neg q2, if_neg q3, ev_]
    exact psh v d1
  · rcases ht with rfl | rfl
    · show ∃ M' A', ((aI M 0 147 (nI 0)).bind _) = _ ∧ _
      rw [gn 0 (by decide)]
      exact psh (A 9 0) hd
    · show ∃ M' A', ((aI M 0 147 (nI 1)).bind _) = _ ∧ _
      rw [gn 1 (by decide)]
      exact psh (A 9 1) hd
  · rcases ht.2 with rfl | rfl
    · show ∃ M' A', ((aI M 0 147 (nI 2)).bind _) = _ ∧ _
      rw [gn 2 (by decide)]
      exact psh (A 9 2) hd
    · show ∃ M' A', ((aI M 0 147 (nI 3)).bind _) = _ ∧ _
      rw [gn 3 (by decide)]
      exact psh (A 9 3) hd
  · by_cases z : v = -33
    · subst z
      have d1 : 1 ≤ s.length ∧ dp (code.drop (i + 1)) s.length = some x := by
        have hd' : (if 1 ≤ s.length then dp (code.drop (i + 1)) s.length else none) = some x := hd
        by_cases y : 1 ≤ s.length
        · rw [if_pos y] at hd'; exact ⟨y, hd'⟩
        · rw [if_neg y] at hd'; cases hd'
      obtain ⟨y, s', rfl⟩ : ∃ y s', s = y :: s' := by
        cases s with
        | nil => simp at d1
        | cons y s' => exact ⟨y, s', rfl⟩
      obtain ⟨p1, p2⟩ := hk.pop
      have el : (y :: s').length = s'.length + 1 := rfl
      rw [el] at d1 hs ⊢
      rw [nI_pred]
      show ∃ M' A', ((aI M 0 148 (nI s'.length)).bind _) = _ ∧ _
      rw [gt s'.length (by omega), p2]
      show ∃ M' A', (if y = 0 then _ else _) = K M' 137 _ (nI ((if y = 0 then (1 : Int32) else 0) :: s').length) _ ∧ TwAt M' F A' ∧ SkA (A' 10) ((if y = 0 then (1 : Int32) else 0) :: s') ∧ dp (code.drop (i + 1)) ((if y = 0 then (1 : Int32) else 0) :: s').length = some x ∧ _
      by_cases w : y = 0
      · obtain ⟨M', e1, e2, e3⟩ := pt s'.length (by omega) 1
        rw [if_pos w, if_pos w, e1]
        exact ⟨M', _, rfl, e2, by rw [ue]; exact p1.push 1, d1.2, un _ _, e3⟩
      · obtain ⟨M', e1, e2, e3⟩ := pt s'.length (by omega) 0
        rw [if_neg w, if_neg w, e1]
        exact ⟨M', _, rfl, e2, by rw [ue]; exact p1.push 0, d1.2, un _ _, e3⟩
    · have hv : v ∈ ([-124, -38, -60, -61, -62, -43, -45, -42, -47, -37] : List Int32) := by
        rcases List.mem_cons.mp ht with e | e
        · exact absurd e z
        · exact e
      have B : (20000 : Int32) ≤ tw v ∧ ¬ tw v = 20033 ∧ ¬ (-4 : Int32) ≤ v ∧ tw v - 20000 = -v ∧ -v ∈ ([124, 38, 60, 61, 62, 43, 45, 42, 47, 37] : List Int32) ∧ v < 0 ∧ ¬ v = -4 ∧ ¬ v = -3 ∧ ¬ v = -2 ∧ ¬ v = -1 := by
        have D : ∀ y ∈ ([-124, -38, -60, -61, -62, -43, -45, -42, -47, -37] : List Int32), (20000 : Int32) ≤ tw y ∧ ¬ tw y = 20033 ∧ ¬ (-4 : Int32) ≤ y ∧ tw y - 20000 = -y ∧ -y ∈ ([124, 38, 60, 61, 62, 43, 45, 42, 47, 37] : List Int32) ∧ y < 0 ∧ ¬ y = -4 ∧ ¬ y = -3 ∧ ¬ y = -2 ∧ ¬ y = -1 := by decide
        exact D v hv
      obtain ⟨b1, b2, b3, b4, b5, b6, b7, b8, b9, b10⟩ := B
      have d1 : 2 ≤ s.length ∧ dp (code.drop (i + 1)) (s.length - 1) = some x := by
        unfold dp at hd
        rw [if_neg b3, if_neg z] at hd
        by_cases y : 2 ≤ s.length
        · rw [if_pos y] at hd; exact ⟨y, hd⟩
        · rw [if_neg y] at hd; cases hd
      obtain ⟨y, y', s', rfl⟩ : ∃ y y' s', s = y :: y' :: s' := by
        match s, d1.1 with
        | y :: y' :: s', _ => exact ⟨y, y', s', rfl⟩
      obtain ⟨p1, p2⟩ := hk.pop
      obtain ⟨p3, p4⟩ := p1.pop
      have el : (y :: y' :: s').length = s'.length + 1 + 1 := rfl
      have el' : (y' :: s').length = s'.length + 1 := rfl
      rw [el'] at p2
      rw [el] at d1 hs ⊢
      rw [if_pos b1, if_neg b2, pk_m1, nI_pred, gt s'.length (by omega)]
      simp only [Option.bind_some]
      rw [gt (s'.length + 1) (by omega), p2, p4, b4]
      simp only [Option.bind_some]
      rw [T_worked M _ _ _ b5]
      have ev_ : ev1 (A 9 0) (A 9 1) (A 9 2) (A 9 3) v (y :: y' :: s') = wk (-v) y' y :: s' := by
        unfold ev1
        rw [if_neg z, if_neg b7, if_neg b8, if_neg b9, if_neg b10, if_pos b6]
        rfl
      rw [ev_]
      obtain ⟨M', e1, e2, e3⟩ := pt s'.length (by omega) (wk (-v) y' y)
      exact ⟨M', _, by simp only [Option.bind_some]; rw [e1]; rfl, e2, by rw [ue]; exact p3.push _, d1.2, un _ _, e3⟩
theorem T_sayL {N : Nat} {F : Nat → Int32} {u : Nat} {code : List Int32} {m9 m0 : Nat → Int32} (hc : code.length ≤ 50) (hu : u < 9) (t1 : m0 (483 + 52 * u) = nI code.length) (t2 : ∀ k, k < code.length → m0 (484 + 52 * u + k) = tw (code.getD k 0)) (ht : ∀ c ∈ code, tok u c) : ∀ (k i f : Nat) (M : Mm) (A : Nat → Nat → Int32) (s : List Int32), i + k = code.length → k < f → TwAt M F A → A 0 = m0 → A 9 = m9 → s.length ≤ i → SkA (A 10) s → dp (code.drop i) s.length = some 1 → ∃ M' A', LX11_says_14 N f M 137 (nI (482 + 52 * u)) (nI s.length) (nI i) = some ((evS (m9 0) (m9 1) (m9 2) (m9 3) (code.drop i) s).headD 0, M') ∧ TwAt M' F A' ∧ (∀ k, k ≠ 10 → A' k = A k) ∧ FrT M M' := by
  intro k
  induction k with
  | zero =>
    intro i f M A s hk hf h e0 e9 hs hS hd
    obtain ⟨f, rfl⟩ : ∃ g, f = g + 1 := ⟨f - 1, by omega⟩
    have r16 : gQ M 11 137 16 = some 148 := T_ref h rfl
    have m1 : aI M 0 138 (nI (482 + 52 * u) + 1) = some (nI code.length) := by
      rw [nI_1, T_m h (by omega), show 482 + 52 * u + 1 = 483 + 52 * u by omega, e0, t1]
    have e : i = code.length := by omega
    subst e
    rw [List.drop_length] at hd ⊢
    have hl : s.length = 1 := by
      have : some s.length = some 1 := hd
      simpa using this
    obtain ⟨y, rfl⟩ : ∃ y, s = [y] := by
      match s, hl with
      | [y], _ => exact ⟨y, rfl⟩
    refine ⟨M, A, ?_, h, fun _ _ => rfl, Of.rf⟩
    show BX11_says_14 N (LX11_says_14 N f) M 137 _ _ _ = _
    unfold BX11_says_14
    simp only [T_q0 h, m1, r16, Option.bind_some]
    rw [if_pos (nI_le (Nat.le_refl _) (by omega)), show aI M 0 148 0 = some (A 10 0) from T_get h 10 (by decide) (show 0 < 50 by omega), show A 10 0 = y from hS 0 (by simp)]
    rfl
  | succ k ih =>
    intro i f M A s hk hf h e0 e9 hs hS hd
    obtain ⟨f, rfl⟩ : ∃ g, f = g + 1 := ⟨f - 1, by omega⟩
    have hi : i < code.length := by omega
    have eg : code.getD i 0 = code[i] := by simp [List.getD_eq_getElem?_getD, hi]
    obtain ⟨M1, A1, a1, a2, a3, a4, a5, a6⟩ := T_say1 (N := N) (K := LX11_says_14 N f) h hc hu (by rw [e0]; exact t1) (by rw [e0]; exact t2) hi hs hS (by rw [eg]; exact ht _ (List.getElem_mem hi)) hd
    rw [e9] at a1 a3 a4
    obtain ⟨M2, A2, b1, b2, b3, b4⟩ := ih (i + 1) f M1 A1 _ (by omega) (by omega) a2 (by rw [a5 0 (by decide), e0]) (by rw [a5 9 (by decide), e9]) (by have := ev1_len (m9 0) (m9 1) (m9 2) (m9 3) (code.getD i 0) s; omega) a3 a4
    refine ⟨M2, A2, ?_, b2, fun k hk => by rw [b3 k hk, a5 k hk], a6.trans b4⟩
    show BX11_says_14 N (LX11_says_14 N f) M 137 _ _ _ = _
    rw [a1, b1, List.drop_eq_getElem_cons hi, eg]
    rfl
theorem T_says {N : Nat} {M : Mm} {F : Nat → Int32} {A : Nat → Nat → Int32} {u : Nat} {code : List Int32} (h : TwAt M F A) (hu : u < 9) (ht : TwT (A 0) u (some code)) (ho : okT u code) (hN : 2000 ≤ N) : ∃ M' A', fX11_says N M 137 (nI u) = some (ev (A 9 0) (A 9 1) (A 9 2) (A 9 3) code, M') ∧ TwAt M' F A' ∧ (∀ k, k ≠ 10 → A' k = A k) ∧ FrT M M' := by
  obtain ⟨o1, o2, o3⟩ := ho
  obtain ⟨-, t1, t2⟩ := ht
  obtain ⟨M', A', q⟩ := T_sayL (N := N) (F := F) (u := u) (code := code) (m9 := A 9) (m0 := A 0) o1 hu t1 t2 o3 code.length 0 N M A [] (by omega) (by omega) h rfl rfl (Nat.le_refl _) (fun j hj => by simp at hj) o2
  refine ⟨M', A', ?_, q.2⟩
  have e : (482 : Int32) + (52 : Int32) * nI u = nI (482 + 52 * u) := by
    rw [show (52 : Int32) * nI u = nI (52 * u) from pk_mul 52 u]; exact nI_add 482 _
  simp only [fX11_says, T_c h, Option.bind_some, e]
  exact q.1
