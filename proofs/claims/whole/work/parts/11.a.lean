/-! ===== numbers as integers ===== -/
theorem i_add {a b : Int32} (h1 : -2147483648 ≤ a.toInt + b.toInt) (h2 : a.toInt + b.toInt < 2147483648) : (a + b).toInt = a.toInt + b.toInt := by
  rw [Int32.toInt_add]; exact Int.bmod_eq_of_le (by omega) (by omega)
theorem i_sub {a b : Int32} (h1 : -2147483648 ≤ a.toInt - b.toInt) (h2 : a.toInt - b.toInt < 2147483648) : (a - b).toInt = a.toInt - b.toInt := by
  rw [Int32.toInt_sub]; exact Int.bmod_eq_of_le (by omega) (by omega)
theorem i_mul {a b : Int32} (h1 : -2147483648 ≤ a.toInt * b.toInt) (h2 : a.toInt * b.toInt < 2147483648) : (a * b).toInt = a.toInt * b.toInt := by
  rw [Int32.toInt_mul]; exact Int.bmod_eq_of_le (by omega) (by omega)
theorem i_lt {a b : Int32} : a < b ↔ a.toInt < b.toInt := Int32.lt_iff_toInt_lt
theorem i_le {a b : Int32} : a ≤ b ↔ a.toInt ≤ b.toInt := Int32.le_iff_toInt_le
theorem i_eq {a b : Int32} : a = b ↔ a.toInt = b.toInt := Int32.toInt_inj.symm
theorem wi_i {x a b : Int32} : wi x a b ↔ a.toInt ≤ x.toInt ∧ x.toInt ≤ b.toInt := by
  unfold wi
  rw [i_lt, i_lt]
  omega
theorem getD_wi {xs : List Int32} {a b : Int32} (h : ∀ x ∈ xs, wi x a b) (h0 : wi 0 a b) (k : Nat) : wi (xs.getD k 0) a b := by
  rw [List.getD_eq_getElem?_getD]
  rcases Nat.lt_or_ge k xs.length with g | g
  · rw [List.getElem?_eq_getElem g]
    exact h _ (List.getElem_mem g)
  · rw [List.getElem?_eq_none g]
    exact h0
theorem lg_wi {xs : List Int32} {a b : Int32} (h : ∀ x ∈ xs, wi x a b) (h0 : wi 0 a b) (k : Int32) : wi (lg xs k) a b := by
  unfold lg
  by_cases z : k < 0
  · rw [if_pos z]; exact h0
  · rw [if_neg z]; exact getD_wi h h0 _
/-! ===== the tape, by numbers of rings ===== -/
def tn_ (S : St) (r : Nat) : Int := ((sr S 3).getD r 0).toInt
def ck_ (S : St) (a : Int32) : Int := (clk S a).toInt
theorem Iv.tn {S : St} (h : Iv S) (r : Nat) : 0 ≤ tn_ S r ∧ tn_ S r ≤ 9999 := by
  have q := getD_wi (h.1 3 (by decide)) (by decide) r
  exact wi_i.mp q
theorem Iv.ck {S : St} (h : Iv S) (a : Int32) : -999 ≤ ck_ S a ∧ ck_ S a ≤ 999 := by
  have q := lg_wi (h.1 0 (by decide)) (by decide) (lg (sr S 1) a)
  exact wi_i.mp q
theorem Iv.sh {S : St} (h : Iv S) (r : Nat) : (shn S r).toInt = tn_ S r + ck_ S ((sr S 2).getD r 0) := by
  have h1 := h.tn r
  have h2 := h.ck ((sr S 2).getD r 0)
  unfold shn tn_ ck_
  unfold tn_ at h1
  unfold ck_ at h2
  exact i_add (by omega) (by omega)
theorem ahd_i {S : St} {r s : Nat} : ahd S r s ↔ tn_ S r < tn_ S s ∨ (tn_ S r = tn_ S s ∧ r < s) := by
  unfold ahd tn_
  rw [i_lt, i_eq]
theorem ahd_as {S : St} {r s : Nat} (h : ahd S r s) : ¬ ahd S s r := by
  rw [ahd_i] at h ⊢
  omega
theorem ahd_ir {S : St} {r : Nat} : ¬ ahd S r r := by
  rw [ahd_i]; omega
theorem ahd_tr {S : St} {r s t : Nat} (h : ahd S r s) (g : ahd S s t) : ahd S r t := by
  rw [ahd_i] at h g ⊢
  omega
theorem ahd_tot {S : St} {r s : Nat} (h : r ≠ s) : ahd S r s ∨ ahd S s r := by
  rw [ahd_i, ahd_i]
  omega
def tpN (S : St) (bar : Int32) : Nat → List Nat
  | 0 => []
  | k + 1 => if (sr S 2).getD k 0 = bar then (tpN S bar k).take (lyP ((tpN S bar k).map (shn S)) (shn S k) (tpN S bar k).length) ++ k :: (tpN S bar k).drop (lyP ((tpN S bar k).map (shn S)) (shn S k) (tpN S bar k).length) else tpN S bar k
theorem tpS_N (S : St) (bar : Int32) : ∀ k, tpS S bar k = ((tpN S bar k).map nI, (tpN S bar k).map (shn S), (tpN S bar k).map (fun r => (sr S 4).getD r 0))
  | 0 => rfl
  | k + 1 => by
    have h := tpS_N S bar k
    unfold tpS tpN
    by_cases z : (sr S 2).getD k 0 = bar
    · rw [if_pos z, if_pos z, h]
      simp [inL, List.map_take, List.map_drop]
    · rw [if_neg z, if_neg z, h]
theorem tpN_perm (S : St) (bar : Int32) : ∀ k, (tpN S bar k).Perm ((List.range k).filter (fun r => decide ((sr S 2).getD r 0 = bar)))
  | 0 => List.Perm.nil
  | k + 1 => by
    have h := tpN_perm S bar k
    rw [List.range_succ, List.filter_append]
    unfold tpN
    by_cases z : (sr S 2).getD k 0 = bar
    · rw [if_pos z]
      have e : List.filter (fun r => decide ((sr S 2).getD r 0 = bar)) [k] = [k] := by
        rw [List.filter_cons, if_pos (decide_eq_true z)]; rfl
      rw [e]
      refine (List.perm_middle).trans ?_
      rw [List.take_append_drop]
      exact (List.Perm.cons k h).trans (List.perm_append_singleton _ _).symm
    · rw [if_neg z]
      have e : List.filter (fun r => decide ((sr S 2).getD r 0 = bar)) [k] = [] := by
        rw [List.filter_cons, if_neg (fun q => z (of_decide_eq_true q))]; rfl
      rw [e, List.append_nil]
      exact h
theorem mem_tpN {S : St} {bar : Int32} {k x : Nat} : x ∈ tpN S bar k ↔ x < k ∧ (sr S 2).getD x 0 = bar := by
  rw [(tpN_perm S bar k).mem_iff, List.mem_filter, List.mem_range]
  simp
/-- how far an insertion goes -/
theorem lyP_ok (ts : List Int32) (t : Int32) : ∀ p, p ≤ ts.length → (∀ i, lyP ts t p ≤ i → i < p → t < ts.getD i 0) ∧ (0 < lyP ts t p → ts.getD (lyP ts t p - 1) 0 ≤ t)
  | 0, _ => ⟨fun i h1 h2 => by omega, fun h => absurd h (Nat.lt_irrefl 0)⟩
  | p + 1, hp => by
    have ih := lyP_ok ts t p (by omega)
    unfold lyP
    by_cases z : ts.getD p 0 ≤ t
    · rw [if_pos z]
      exact ⟨fun i h1 h2 => by omega, fun _ => by simpa using z⟩
    · rw [if_neg z]
      refine ⟨fun i h1 h2 => ?_, ih.2⟩
      by_cases e : i = p
      · subst e
        exact Int32.not_le.mp z
      · exact ih.1 i h1 (by omega)
theorem getD_map_shn {S : St} {q : List Nat} {i : Nat} (h : i < q.length) : (q.map (shn S)).getD i 0 = shn S q[i] := by
  simp [List.getD_eq_getElem?_getD, h]
theorem tpN_pw {S : St} (hI : Iv S) (bar : Int32) : ∀ k, (tpN S bar k).Pairwise (ahd S)
  | 0 => List.Pairwise.nil
  | k + 1 => by
    have h := tpN_pw hI bar k
    have hm : ∀ x ∈ tpN S bar k, x < k ∧ (sr S 2).getD x 0 = bar := fun x hx => mem_tpN.mp hx
    unfold tpN
    by_cases z : (sr S 2).getD k 0 = bar
    · rw [if_pos z]
      generalize hq : tpN S bar k = q at h hm ⊢
      have hl : (q.map (shn S)).length = q.length := List.length_map ..
      have ok := lyP_ok (q.map (shn S)) (shn S k) q.length (by omega)
      have ple := lyP_le (q.map (shn S)) (shn S k) q.length
      generalize hp : lyP (q.map (shn S)) (shn S k) q.length = p at ok ple ⊢
      have hs : ∀ x ∈ q, (shn S x).toInt = tn_ S x + ck_ S bar := fun x hx => by rw [hI.sh x, (hm x hx).2]
      have hsk : (shn S k).toInt = tn_ S k + ck_ S bar := by rw [hI.sh k, z]
      have A : ∀ x ∈ q.take p, ahd S x k := by
        intro x hx
        obtain ⟨i, hi, rfl⟩ := List.getElem_of_mem hx
        rw [List.length_take] at hi
        rw [List.getElem_take]
        have h0 : q[p - 1]'(by omega) ∈ q := List.getElem_mem _
        have o2 := ok.2 (by omega)
        rw [getD_map_shn (by omega), i_le, hs _ h0, hsk] at o2
        have hx2 := (hm _ (List.getElem_mem (show i < q.length by omega))).1
        by_cases e : i = p - 1
        · subst e
          rw [ahd_i]; omega
        · have := (List.pairwise_iff_getElem.mp h) i (p - 1) (by omega) (by omega) (by omega)
          rw [ahd_i] at this ⊢
          have := (hm _ h0).1
          omega
      have B : ∀ x ∈ q.drop p, ahd S k x := by
        intro x hx
        obtain ⟨i, hi, rfl⟩ := List.getElem_of_mem hx
        rw [List.length_drop] at hi
        rw [List.getElem_drop]
        have o1 := ok.1 (p + i) (by omega) (by omega)
        rw [getD_map_shn (by omega), i_lt, hs _ (List.getElem_mem _), hsk] at o1
        rw [ahd_i]; omega
      rw [List.pairwise_append, List.pairwise_cons]
      refine ⟨h.sublist (List.take_sublist _ _), ⟨B, h.sublist (List.drop_sublist _ _)⟩, ?_⟩
      intro a ha b hb
      rcases List.mem_cons.mp hb with e | e
      · subst e; exact A a ha
      · exact ahd_tr (A a ha) (B b e)
    · rw [if_neg z]; exact h
/-- the whole tape of a bar -/
def tape (S : St) (bar : Int32) : List Nat := tpN S bar (sr S 2).length
theorem mem_tape {S : St} {bar : Int32} {x : Nat} : x ∈ tape S bar ↔ x < (sr S 2).length ∧ (sr S 2).getD x 0 = bar := mem_tpN
theorem tape_pw {S : St} (h : Iv S) (bar : Int32) : (tape S bar).Pairwise (ahd S) := tpN_pw h bar _
theorem tape_len (S : St) (bar : Int32) : (tape S bar).length ≤ (sr S 2).length := by
  have h := tpS_len S bar (sr S 2).length
  rw [tpS_N] at h
  simpa [tape] using h
theorem tape_perm (S : St) (bar : Int32) : (tape S bar).Perm ((List.range (sr S 2).length).filter (fun r => decide ((sr S 2).getD r 0 = bar))) := tpN_perm S bar _
theorem pw_count {S : St} {x : Nat} : ∀ {L : List Nat} {j : Nat}, L.Pairwise (ahd S) → L[j]? = some x → L.countP (fun o => decide (ahd S o x)) = j := by
  intro L
  induction L with
  | nil => intro j _ h; simp at h
  | cons a L ih =>
    intro j hp h
    rw [List.pairwise_cons] at hp
    cases j with
    | zero =>
      have e : a = x := by simpa using h
      subst e
      rw [List.countP_cons, if_neg (fun q => ahd_ir (of_decide_eq_true q))]
      exact List.countP_eq_zero.mpr (fun b hb q => ahd_as (hp.1 b hb) (of_decide_eq_true q))
    | succ j =>
      have h2 : L[j]? = some x := by simpa using h
      have hx : x ∈ L := List.mem_of_getElem? h2
      rw [List.countP_cons, if_pos (decide_eq_true (hp.1 x hx)), ih hp.2 h2]
theorem nAh_cnt (S : St) (bar : Int32) (x : Nat) : ∀ k, nAh S bar x k = ((List.range k).filter (fun r => decide ((sr S 2).getD r 0 = bar))).countP (fun o => decide (ahd S o x))
  | 0 => rfl
  | k + 1 => by
    have h := nAh_cnt S bar x k
    rw [List.range_succ, List.filter_append, List.countP_append, ← h]
    show (if (sr S 2).getD k 0 = bar ∧ ahd S k x then nAh S bar x k + 1 else nAh S bar x k) = _
    by_cases z : (sr S 2).getD k 0 = bar
    · rw [show List.filter (fun r => decide ((sr S 2).getD r 0 = bar)) [k] = [k] from by rw [List.filter_cons, if_pos (decide_eq_true z)]; rfl]
      by_cases y : ahd S k x
      · rw [if_pos ⟨z, y⟩, List.countP_cons, if_pos (decide_eq_true y)]; rfl
      · rw [if_neg (fun q => y q.2), List.countP_cons, if_neg (fun q => y (of_decide_eq_true q))]; rfl
    · rw [if_neg (fun q => z q.1), show List.filter (fun r => decide ((sr S 2).getD r 0 = bar)) [k] = [] from by rw [List.filter_cons, if_neg (fun q => z (of_decide_eq_true q))]; rfl]
      rfl
theorem nAh_tape {S : St} (hI : Iv S) {bar : Int32} {x j : Nat} (h : (tape S bar)[j]? = some x) : nAh S bar x (sr S 2).length = j := by
  rw [nAh_cnt, ← (tape_perm S bar).countP_eq]
  exact pw_count (tape_pw hI bar) h
theorem tpd_at {S : St} {bar i : Int32} {y : Nat} (hy : (sr S 2).getD y 0 = bar ∧ nI (nAh S bar y (sr S 2).length) = i) : ∀ (k x : Nat), x ≤ y → y < x + k → (∀ z, x ≤ z → z < y → ¬ ((sr S 2).getD z 0 = bar ∧ nI (nAh S bar z (sr S 2).length) = i)) → tpd S bar i k x = nI y
  | 0, x, h1, h2, _ => by omega
  | k + 1, x, h1, h2, h3 => by
    unfold tpd
    by_cases e : x = y
    · subst e
      rw [if_pos hy]
    · rw [if_neg (h3 x (Nat.le_refl _) (by omega))]
      exact tpd_at hy k (x + 1) (by omega) (by omega) (fun z a b => h3 z (by omega) b)
theorem tpd_no {S : St} {bar i : Int32} : ∀ (k x : Nat), (∀ z, x ≤ z → z < x + k → ¬ ((sr S 2).getD z 0 = bar ∧ nI (nAh S bar z (sr S 2).length) = i)) → tpd S bar i k x = -1
  | 0, x, _ => rfl
  | k + 1, x, h => by
    unfold tpd
    rw [if_neg (h x (Nat.le_refl _) (by omega))]
    exact tpd_no k (x + 1) (fun z a b => h z (by omega) (by omega))
theorem tpd_tape {S : St} (hI : Iv S) (bar : Int32) {j : Nat} (hj : j < 2 ^ 31) : tpd S bar (nI j) (sr S 2).length 0 = match (tape S bar)[j]? with
    | some x => nI x
    | none => -1 := by
  have hl : (sr S 2).length ≤ 96 := hI.L 2 (by decide)
  have key : ∀ z, z < (sr S 2).length → (sr S 2).getD z 0 = bar → nI (nAh S bar z (sr S 2).length) = nI j → (tape S bar)[j]? = some z := by
    intro z hz hb he
    obtain ⟨i, hi, e⟩ := List.getElem_of_mem (mem_tape.mpr ⟨hz, hb⟩)
    have q : (tape S bar)[i]? = some z := by rw [List.getElem?_eq_getElem hi, e]
    have w := nAh_tape hI q
    have := nAh_le S bar z (sr S 2).length
    rw [nI_eq (by omega) hj] at he
    rw [← he, w]; exact q
  cases h : (tape S bar)[j]? with
  | none =>
    exact tpd_no _ _ (fun z a b q => by rw [key z (by omega) q.1 q.2] at h; cases h)
  | some x =>
    have hx := mem_tape.mp (List.mem_of_getElem? h)
    exact tpd_at ⟨hx.2, by rw [nAh_tape hI h]⟩ _ _ (by omega) (by omega) (fun z a b q => by
      rw [key z (by omega) q.1 q.2] at h
      cases h
      omega)
