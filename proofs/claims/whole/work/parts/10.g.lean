/-! image, restore: the class -/
theorem NowAt.cg {M : Mm} {b : Nat} {S T : St} (h : NowAt M b S) (e1 : ∀ i, i < 13 → sr S i = sr T i) (e2 : ∀ u, u < 9 → sx S u = sx T u) (e3 : sk S = sk T) (e4 : sz S = sz T) : NowAt M b T := by
  obtain ⟨h1, h2, ⟨f, h3, h4⟩, f2, h5, h6, h7⟩ := h
  rw [e3] at h1 h6 h7
  rw [e4] at h1
  exact ⟨h1, fun i hi => by rw [← e1 i hi]; exact h2 i hi, ⟨f, h3, fun u hu => by rw [← e2 u hu]; exact h4 u hu⟩, f2, h5, h6, h7⟩
def tw2 (b c : Nat) : Prop := (b = 1 ∧ c = 30) ∨ (b = 30 ∧ c = 1)
theorem N_step {M : Mm} {b c : Nat} {S T : St} (hbc : tw2 b c) (h : NowAt M b S) (g : NowAt M c T) (i : Nat) (hi : i < 13) (k : Nat) (hk : rf i = k) (hl : (sr T i).length ≤ rc i) : ∃ M', (∀ {α : Type} (R : Mm → Option α), ((gQ M 6 b k).bind fun q => (gQ M 6 c k).bind fun q' => (fX3_become M q q').bind R) = R M') ∧ NowAt M' b (srow S i (sr T i)) ∧ NowAt M' c T ∧ Of (fun x => b ≤ x ∧ x < b + 29) M M' := by
  have r := ro_lt i hi
  subst hk
  obtain ⟨M', e1, e2, e3⟩ := R_become (h.2.1 i hi) (g.2.1 i hi) (by unfold tw2 at hbc; omega) hl
  refine ⟨M', fun R => ?_, h.row hi (by unfold tw2 at hbc; omega) e3 e2, g.mv (e3.sm (fun x _ _ => by unfold tw2 at hbc; omega)) (e3.dy (fun x q => by unfold tw2 at hbc; omega)), e3.mono (fun x q => by omega)⟩
  rw [h.q i hi, g.q i hi]
  simp only [Option.bind_some, e1]
theorem sR_ok {M : Mm} {a t ci n j : Nat} {f : Nat → Option Nat} {r : Option Nat} (h : M[a]? = some (.inl (t, n, .inr (.inr (.inr (.inr f)))))) (hj : j < n) (hn : n < 2 ^ 31) (ho : isO M ci r = true) : sR M t ci a (nI j) r = some (M.set a (.inl (t, n, .inr (.inr (.inr (.inr (va_up f j r))))))) := by
  simp [sR, h, nI_clamp (show j < 2 ^ 31 by omega), nI_pos (show j < 2 ^ 31 by omega), hj, ho]
theorem TxO.o {M : Mm} {o : Option Nat} {t : Option (List Int32)} (h : TxO M o t) : isO M 8 o = true := by
  cases t with
  | none =>
    have h' : o = none := h
    subst h'; rfl
  | some code =>
    obtain ⟨q, rfl, h2⟩ := h
    simp [isO, h2.2.1]
theorem N_txt {N : Nat} {b c : Nat} {T : St} (hbc : tw2 b c) : ∀ (f k : Nat) (M : Mm) (S : St), NowAt M b S → NowAt M c T → k ≤ 9 → 9 - k < f → ∃ M', LX6_become_68 N f M b c (nI k) = LX6_become_106 N N M' b c 0 ∧ NowAt M' b (S.1, (fun u => if k ≤ u then sx T u else sx S u), S.2.2) ∧ NowAt M' c T ∧ Of (fun x => b ≤ x ∧ x < b + 29) M M' := by
  intro f
  induction f with
  | zero => intro k M S _ _ _ h; omega
  | succ f ih =>
    intro k M S h g h1 h2
    show ∃ M', BX6_become_68 N (LX6_become_68 N f) M b c (nI k) = _ ∧ _
    unfold BX6_become_68
    obtain ⟨fs, s3, s4⟩ := h.2.2.1
    obtain ⟨ft, t3, t4⟩ := g.2.2.1
    have q1 : gQ M 6 b 6 = some (b + 13) := gQ_ok h.1 rfl
    have q2 : gQ M 6 c 6 = some (c + 13) := gQ_ok g.1 rfl
    simp only [q1, q2, aL_ok s3 (by decide), aL_ok t3 (by decide), Option.bind_some]
    by_cases e : k = 9
    · subst e
      rw [if_pos (nI_le (Nat.le_refl _) (by decide))]
      refine ⟨M, rfl, h.cg (fun _ _ => rfl) (fun u hu => ?_) rfl rfl, g, Of.rf⟩
      show sx S u = if 9 ≤ u then sx T u else sx S u
      rw [if_neg (by omega)]
    · rw [if_neg (nI_ge (by omega) (by decide)), if_neg (nI_ge (by omega) (by decide)), aR_ok t3 (show k < 9 by omega) (by decide)]
      simp only [Option.bind_some]
      rw [sR_ok s3 (show k < 9 by omega) (by decide) (t4 k (by omega)).o]
      simp only [Option.bind_some, nI_1]
      obtain ⟨M1, hM1⟩ : ∃ M1, M1 = M.set (b + 13) (.inl (2, 9, .inr (.inr (.inr (.inr (va_up fs k (ft k))))))) := ⟨_, rfl⟩
      rw [← hM1]
      have o1 : Of (fun x => x = b + 13) M M1 := by rw [hM1]; exact Of.set rfl
      have d1 : Dy M M1 := o1.dy (fun x q => by unfold tw2 at hbc; omega)
      have l1 := lt_of_at s3
      have n1 : NowAt M1 b (S.1, (fun u => if u = k then sx T u else sx S u), S.2.2) := by
        obtain ⟨h1, h2, -, f2, h5, h6, h7⟩ := h
        refine ⟨by rw [o1.2 _ (by omega)]; exact h1, fun i hi => (h2 i hi).of o1 ?_ ?_, ⟨va_up fs k (ft k), by rw [hM1]; simp [l1], fun u hu => ?_⟩, f2, by rw [o1.2 _ (by omega)]; exact h5, h6, fun c hc => ?_⟩
        · have := ro_lt i hi; omega
        · have := ro_lt i hi; omega
        · show TxO M1 (va_up fs k (ft k) u) (if u = k then sx T u else sx S u)
          by_cases z : u = k
          · subst z
            rw [va_up_self, if_pos rfl]; exact (t4 u hu).mv d1
          · rw [va_up_ne _ _ z, if_neg z]; exact (s4 u hu).mv d1
        · obtain ⟨q, k1, k2⟩ := h7 c hc
          exact ⟨q, k1, d1.2 _ _ k2⟩
      have n2 : NowAt M1 c T := g.mv (o1.sm (fun x _ _ => by unfold tw2 at hbc; omega)) d1
      obtain ⟨M2, r1, r2, r3, r4⟩ := ih (k + 1) M1 _ n1 n2 (by omega) (by omega)
      refine ⟨M2, r1, r2.cg (fun _ _ => rfl) (fun u hu => ?_) rfl rfl, r3, (o1.mono (fun x q => by omega)).trans r4⟩
      show (if k + 1 ≤ u then sx T u else if u = k then sx T u else sx S u) = if k ≤ u then sx T u else sx S u
      by_cases z : k + 1 ≤ u
      · rw [if_pos z, if_pos (by omega)]
      · rw [if_neg z]
        by_cases w : u = k
        · rw [if_pos w, if_pos (by omega)]
        · rw [if_neg w, if_neg (by omega)]
theorem N_cnt {N : Nat} {b c : Nat} {vs vt : List Value} {gt2 : Nat → Option Nat} (hbc : tw2 b c) (qs : vs[7]? = some (.ref (b + 14))) (qt : vt[7]? = some (.ref (c + 14))) : ∀ (f k : Nat) (M : Mm) (gs2 : Nat → Option Nat), M[b]? = some (.inr (6, vs)) → M[c]? = some (.inr (6, vt)) → M[b + 14]? = some (.inl (3, 12, .inr (.inr (.inr (.inr gs2))))) → M[c + 14]? = some (.inl (3, 12, .inr (.inr (.inr (.inr gt2))))) → (∀ u, u < 12 → gt2 u = none ∨ ∃ q l, gt2 u = some q ∧ CntAt M q l) → k ≤ 12 → 12 - k < f → ∃ M' gf, LX6_become_106 N f M b c (nI k) = jX6_become_142 N M' b c ∧ M'[b + 14]? = some (.inl (3, 12, .inr (.inr (.inr (.inr gf))))) ∧ (∀ u, gf u = if k ≤ u ∧ u < 12 then gt2 u else gs2 u) ∧ Of (fun x => x = b + 14) M M' := by
  intro f
  induction f with
  | zero => intro k M gs2 _ _ _ _ _ _ h; omega
  | succ f ih =>
    intro k M gs2 m1 m2 m3 m4 m5 h1 h2
    show ∃ M' gf, BX6_become_106 N (LX6_become_106 N f) M b c (nI k) = _ ∧ _
    unfold BX6_become_106
    simp only [gQ_ok m1 qs, gQ_ok m2 qt, aL_ok m3 (by decide), aL_ok m4 (by decide), Option.bind_some]
    by_cases e : k = 12
    · subst e
      rw [if_pos (nI_le (Nat.le_refl _) (by decide))]
      exact ⟨M, gs2, rfl, m3, fun u => by rw [if_neg (by omega)], Of.rf⟩
    · have ho : isO M 0 (gt2 k) = true := by
        rcases m5 k (by omega) with z | ⟨q, l, z1, z2⟩
        · rw [z]; rfl
        · rw [z1]; simp [isO, z2.2.2]
      rw [if_neg (nI_ge (by omega) (by decide)), if_neg (nI_ge (by omega) (by decide)), aR_ok m4 (show k < 12 by omega) (by decide)]
      simp only [Option.bind_some]
      rw [sR_ok m3 (show k < 12 by omega) (by decide) ho]
      simp only [Option.bind_some, nI_1]
      obtain ⟨M1, hM1⟩ : ∃ M1, M1 = M.set (b + 14) (.inl (3, 12, .inr (.inr (.inr (.inr (va_up gs2 k (gt2 k))))))) := ⟨_, rfl⟩
      rw [← hM1]
      have o1 : Of (fun x => x = b + 14) M M1 := by rw [hM1]; exact Of.set rfl
      have d1 : Dy M M1 := o1.dy (fun x q => by unfold tw2 at hbc; omega)
      have l1 := lt_of_at m3
      obtain ⟨M2, gf, r1, r2, r3, r4⟩ := ih (k + 1) M1 (va_up gs2 k (gt2 k)) (by rw [o1.2 _ (by omega)]; exact m1) (by rw [o1.2 _ (by unfold tw2 at hbc; omega)]; exact m2) (by rw [hM1]; simp [l1]) (by rw [o1.2 _ (by unfold tw2 at hbc; omega)]; exact m4) (fun u hu => (m5 u hu).imp id (fun ⟨q, l, z1, z2⟩ => ⟨q, l, z1, d1.2 _ _ z2⟩)) (by omega) (by omega)
      refine ⟨M2, gf, r1, r2, fun u => ?_, o1.trans r4⟩
      rw [r3 u]
      by_cases w : u = k
      · subst w
        rw [if_neg (by omega), va_up_self, if_pos (by omega)]
      · rw [va_up_ne _ _ w]
        by_cases z : k + 1 ≤ u ∧ u < 12
        · rw [if_pos z, if_pos (by omega)]
        · rw [if_neg z, if_neg (by omega)]
