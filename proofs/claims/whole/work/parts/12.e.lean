/-! voices (rows), end -/
theorem bF2 : ∀ kd, kd < 8 → kd ≠ 4 → bF kd 2 = 12 := by decide
theorem bF0 : ∀ kd, kd < 8 → kd ≠ 2 → kd ≠ 6 → kd ≠ 7 → bF kd 0 = 10 := by decide
theorem bF1 : ∀ kd, kd < 8 → kd ≠ 1 → kd ≠ 5 → kd ≠ 7 → bF kd 1 = 11 := by decide
theorem bF3 : ∀ kd, kd < 8 → kd ≠ 3 → kd ≠ 6 → kd ≠ 7 → bF kd 3 = 13 := by decide
theorem nk {a b : Nat} (ha : a < 8) (hb : b < 8) (h : a ≠ b) : ¬ nI a = nI b := fun e => h ((nI_eq (by omega) (by omega)).mp e)
section VCE
variable {N : Nat} {M : Mm} {σ : Sg} {tr : List Int32} {q : Nat} {c : List Int32}
theorem C_bn (hN : 2000 ≤ N) (h : VC M σ tr q c) (hl : tr.length + 2 ≤ 40) {f kd deep : Nat} (hk : kd < 8) (hc : c.getD 1 0 = nI kd) (hd : deep + 1 < 20) (x : Int32) : Vc M σ tr q c ((GX9_ownBody N (f + 4)).2.2 M 129 q (nI kd) 2 x (nI deep)) (v_b (nI kd) (cL c 3) x) := by
  unfold v_b
  by_cases z : kd = 4
  · subst z
    rw [if_pos (show nI 4 = (4 : Int32) from rfl)]
    obtain ⟨M7, s1, s2, s3⟩ := C_sp (f := f + 3) hN h (by omega) hk (act := 2) (by omega) (by omega) (by decide) x (deep := deep)
    rw [show bF 4 2 = 50 from by decide] at s1 s3
    obtain ⟨M8, b1, b2, b3⟩ := C_b0 (f := f) hN s1 (by simp only [List.length_append, List.length_cons, List.length_nil]; omega) (kd := 0) (by omega) (deep := deep + 1) (by omega) (by decide) x
    refine ⟨M8, ?_, by rw [List.append_assoc] at b2; exact b2, s2.trans b3⟩
    rw [show (GX9_ownBody N (f + 4)).2.2 M 129 q (nI 4) 2 x (nI deep) = _ from s3, if_pos (by decide)]
    show FX9_ownBody (GX9_ownBody N (f + 2)).1 (GX9_ownBody N (f + 2)).2.1 (GX9_ownBody N (f + 2)).2.2 N M7 129 q 50 x _ = _
    unfold FX9_ownBody
    rw [s1.v.1, Option.bind_some, s1.2.i (show 1 < 6 by decide), Option.bind_some, show fX0_kindAbove M7 ((50 : Int32) / 10 - 1) = some (nI 0) from rfl, Option.bind_some, if_neg (by decide), if_neg (by decide), if_neg (by decide), if_pos (by decide), b1]
    rfl
  · rw [if_neg (show ¬ nI kd = (4 : Int32) from nk hk (b := 4) (by omega) z)]
    exact C_b0 (f := f + 2) hN h (by omega) hk (by omega) (bF2 kd hk z) x
theorem und6 {kd : Nat} (hk : kd < 8) : und (nI kd) 6 ↔ kd = 6 ∨ kd = 7 := by
  constructor
  · rintro (q | q | q)
    · exact absurd q (by decide)
    · exact Or.inl ((nI_eq (b := 6) (by omega) (by decide)).mp q)
    · exact Or.inr ((nI_eq (b := 7) (by omega) (by decide)).mp q.2)
  · rintro (rfl | rfl)
    · exact Or.inr (Or.inl rfl)
    · exact Or.inr (Or.inr ⟨rfl, rfl⟩)
theorem C_rn (hN : 2000 ≤ N) (h : VC M σ tr q c) (hl : tr.length + 4 ≤ 40) {f kd deep : Nat} (hk : kd < 8) (hc : c.getD 1 0 = nI kd) (hd : deep + 2 < 20) (x : Int32) : Vc M σ tr q c ((GX9_ownBody N (f + 6)).2.2 M 129 q (nI kd) 0 x (nI deep)) (v_r (nI kd) (cL c 0) (cL c 3) x) := by
  unfold v_r
  by_cases z : kd = 2
  · subst z
    rw [if_pos (show nI 2 = (2 : Int32) from rfl)]
    obtain ⟨M7, s1, s2, s3⟩ := C_sp (f := f + 5) hN h (by omega) hk (act := 0) (by omega) (by omega) (by decide) x (deep := deep)
    rw [show bF 2 0 = 30 from by decide] at s1 s3
    obtain ⟨M8, b1, b2, b3⟩ := C_r0 (f := f + 2) hN s1 (by simp only [List.length_append, List.length_cons, List.length_nil]; omega) (kd := 0) (by omega) (deep := deep + 1) (by omega) (by decide) x
    obtain ⟨M9, c1, c2, c3⟩ := C_bn (f := f) hN b2 (by simp only [List.length_append, List.length_cons, List.length_nil]; omega) (kd := 2) (by omega) hc (deep := deep + 1) (by omega) 1
    refine ⟨M9, ?_, by rw [List.append_assoc, List.append_assoc] at c2; exact c2, (s2.trans b3).trans c3⟩
    rw [show (GX9_ownBody N (f + 6)).2.2 M 129 q (nI 2) 0 x (nI deep) = _ from s3, if_pos (by decide)]
    show FX9_ownBody (GX9_ownBody N (f + 4)).1 (GX9_ownBody N (f + 4)).2.1 (GX9_ownBody N (f + 4)).2.2 N M7 129 q 30 x _ = _
    unfold FX9_ownBody
    rw [s1.v.1, Option.bind_some, s1.2.i (show 1 < 6 by decide), Option.bind_some, hc, show fX0_kindAbove M7 ((30 : Int32) / 10 - 1) = some (nI 0) from rfl, Option.bind_some, if_neg (by decide), if_pos (by decide), b1, bd2_s, c1]
    rfl
  · rw [if_neg (show ¬ nI kd = (2 : Int32) from nk hk (b := 2) (by omega) z)]
    by_cases y : kd = 6 ∨ kd = 7
    · rw [if_pos ((und6 hk).mpr y)]
      have e7 : bF kd 0 = 70 := by rcases y with rfl | rfl <;> decide
      obtain ⟨M7, s1, s2, s3⟩ := C_sp (f := f + 5) hN h (by omega) hk (act := 0) (by omega) (by omega) (by rw [e7]; decide) x (deep := deep)
      rw [e7] at s1 s3
      obtain ⟨M8, b1, b2, b3⟩ := C_r0 (f := f + 2) hN s1 (by simp only [List.length_append, List.length_cons, List.length_nil]; omega) (kd := 0) (by omega) (deep := deep + 1) (by omega) (by decide) x
      refine ⟨M8, ?_, by rw [List.append_assoc] at b2; exact b2, s2.trans b3⟩
      rw [show (GX9_ownBody N (f + 6)).2.2 M 129 q (nI kd) 0 x (nI deep) = _ from s3, if_pos (by decide)]
      show FX9_ownBody (GX9_ownBody N (f + 4)).1 (GX9_ownBody N (f + 4)).2.1 (GX9_ownBody N (f + 4)).2.2 N M7 129 q 70 x _ = _
      unfold FX9_ownBody
      rw [s1.v.1, Option.bind_some, s1.2.i (show 1 < 6 by decide), Option.bind_some, show fX0_kindAbove M7 ((70 : Int32) / 10 - 1) = some (nI 0) from rfl, Option.bind_some, if_neg (by decide), if_neg (by decide), if_neg (by decide), if_neg (by decide), if_neg (by decide), if_pos (by decide), b1]
      rfl
    · rw [if_neg (fun w => y ((und6 hk).mp w))]
      exact C_r0 (f := f + 4) hN h (by omega) hk (by omega) (bF0 kd hk z (fun e => y (Or.inl e)) (fun e => y (Or.inr e))) x
theorem C_m0 (hN : 2000 ≤ N) (h : VC M σ tr q c) (hl : tr.length + 5 ≤ 40) {f kd kd' deep : Nat} (hk : kd < 8) (hk' : kd' < 8) (hc : c.getD 1 0 = nI kd) (hb : bF kd' 1 = 11) (hd : deep + 3 < 20) (x : Int32) : Vc M σ tr q c ((GX9_ownBody N (f + 8)).2.2 M 129 q (nI kd') 1 x (nI deep)) (v_pm (nI kd) (cL c 0) (cL c 3) x) := by
  obtain ⟨M7, s1, s2, s3⟩ := C_sp (f := f + 7) hN h (by omega) hk' (act := 1) (by omega) (by omega) (by rw [hb]; decide) x (deep := deep)
  rw [hb] at s1 s3
  obtain ⟨M8, b1, b2, b3⟩ := C_rn (f := f) hN s1 (by simp only [List.length_append, List.length_cons, List.length_nil]; omega) hk hc (deep := deep + 1) (by omega) x
  refine ⟨M8, ?_, by rw [List.append_assoc] at b2; exact b2, s2.trans b3⟩
  rw [show (GX9_ownBody N (f + 8)).2.2 M 129 q (nI kd') 1 x (nI deep) = _ from s3, if_neg (by decide)]
  show FX9_plainBody (GX9_ownBody N (f + 6)).1 (GX9_ownBody N (f + 6)).2.1 (GX9_ownBody N (f + 6)).2.2 N M7 129 q 11 x _ = _
  unfold FX9_plainBody
  rw [s1.v.1, Option.bind_some, if_neg (by decide), if_pos (by decide), s1.2.i (show 1 < 6 by decide), Option.bind_some, hc, b1]
  rfl
theorem C_mn (hN : 2000 ≤ N) (h : VC M σ tr q c) (hl : tr.length + 10 ≤ 40) {f kd deep : Nat} (hk : kd < 8) (hc : c.getD 1 0 = nI kd) (hd : deep + 4 < 20) (x : Int32) : Vc M σ tr q c ((GX9_ownBody N (f + 10)).2.2 M 129 q (nI kd) 1 x (nI deep)) (v_m (nI kd) (cL c 0) (cL c 3) x) := by
  unfold v_m
  by_cases z1 : kd = 1
  · subst z1
    rw [if_pos (show nI 1 = (1 : Int32) from rfl)]
    obtain ⟨M7, s1, s2, s3⟩ := C_sp (f := f + 9) hN h (by omega) hk (act := 1) (by omega) (by omega) (by decide) x (deep := deep)
    rw [show bF 1 1 = 20 from by decide] at s1 s3
    obtain ⟨M8, b1, b2, b3⟩ := C_m0 (f := f) hN s1 (by simp only [List.length_append, List.length_cons, List.length_nil]; omega) (kd := 1) (kd' := 0) (by omega) (by omega) hc (by decide) (deep := deep + 1) (by omega) x
    refine ⟨M8, ?_, by rw [List.append_assoc] at b2; exact b2, s2.trans b3⟩
    rw [show (GX9_ownBody N (f + 10)).2.2 M 129 q (nI 1) 1 x (nI deep) = _ from s3, if_pos (by decide)]
    show FX9_ownBody (GX9_ownBody N (f + 8)).1 (GX9_ownBody N (f + 8)).2.1 (GX9_ownBody N (f + 8)).2.2 N M7 129 q 20 x _ = _
    unfold FX9_ownBody
    rw [s1.v.1, Option.bind_some, s1.2.i (show 1 < 6 by decide), Option.bind_some, show fX0_kindAbove M7 ((20 : Int32) / 10 - 1) = some (nI 0) from rfl, Option.bind_some, if_pos (by decide), b1]
    rfl
  rw [if_neg (show ¬ nI kd = (1 : Int32) from nk hk (b := 1) (by omega) z1)]
  by_cases z5 : kd = 5
  · subst z5
    rw [if_pos (show nI 5 = (5 : Int32) from rfl)]
    obtain ⟨M7, s1, s2, s3⟩ := C_sp (f := f + 9) hN h (by omega) hk (act := 1) (by omega) (by omega) (by decide) x (deep := deep)
    rw [show bF 5 1 = 60 from by decide] at s1 s3
    obtain ⟨M8, b1, b2, b3⟩ := C_m0 (f := f) hN s1 (by simp only [List.length_append, List.length_cons, List.length_nil]; omega) (kd := 5) (kd' := 0) (by omega) (by omega) hc (by decide) (deep := deep + 1) (by omega) x
    have hl2 := v_pm_l (nI 5) (cL c 0) (cL c 3) x
    obtain ⟨M9, c1, c2, c3⟩ := C_rn (f := f + 2) hN b2 (by simp only [List.length_append, List.length_cons, List.length_nil]; omega) (kd := 5) (by omega) hc (deep := deep + 1) (by omega) x
    refine ⟨M9, ?_, by rw [List.append_assoc, List.append_assoc] at c2; exact c2, (s2.trans b3).trans c3⟩
    rw [show (GX9_ownBody N (f + 10)).2.2 M 129 q (nI 5) 1 x (nI deep) = _ from s3, if_pos (by decide)]
    show FX9_ownBody (GX9_ownBody N (f + 8)).1 (GX9_ownBody N (f + 8)).2.1 (GX9_ownBody N (f + 8)).2.2 N M7 129 q 60 x _ = _
    unfold FX9_ownBody
    rw [s1.v.1, Option.bind_some, s1.2.i (show 1 < 6 by decide), Option.bind_some, hc, show fX0_kindAbove M7 ((60 : Int32) / 10 - 1) = some (nI 0) from rfl, Option.bind_some, if_neg (by decide), if_neg (by decide), if_neg (by decide), if_neg (by decide), if_pos (by decide), b1, bd2_s, c1]
    rfl
  rw [if_neg (show ¬ nI kd = (5 : Int32) from nk hk (b := 5) (by omega) z5)]
  by_cases z7 : kd = 7
  · subst z7
    rw [if_pos (show nI 7 = (7 : Int32) from rfl)]
    obtain ⟨M7, s1, s2, s3⟩ := C_sp (f := f + 9) hN h (by omega) hk (act := 1) (by omega) (by omega) (by decide) x (deep := deep)
    rw [show bF 7 1 = 80 from by decide] at s1 s3
    obtain ⟨M8, b1, b2, b3⟩ := C_m0 (f := f) hN s1 (by simp only [List.length_append, List.length_cons, List.length_nil]; omega) (kd := 7) (kd' := 6) (by omega) (by omega) hc (by decide) (deep := deep + 1) (by omega) x
    refine ⟨M8, ?_, by rw [List.append_assoc] at b2; exact b2, s2.trans b3⟩
    rw [show (GX9_ownBody N (f + 10)).2.2 M 129 q (nI 7) 1 x (nI deep) = _ from s3, if_pos (by decide)]
    show FX9_ownBody (GX9_ownBody N (f + 8)).1 (GX9_ownBody N (f + 8)).2.1 (GX9_ownBody N (f + 8)).2.2 N M7 129 q 80 x _ = _
    unfold FX9_ownBody
    rw [s1.v.1, Option.bind_some, s1.2.i (show 1 < 6 by decide), Option.bind_some, show fX0_kindAbove M7 ((80 : Int32) / 10 - 1) = some (nI 6) from rfl, Option.bind_some, if_neg (by decide), if_neg (by decide), if_neg (by decide), if_neg (by decide), if_neg (by decide), if_neg (by decide), if_neg (by decide), if_pos (by decide), b1, bd2_s, b2.2.i (show 0 < 6 by decide)]
    rfl
  rw [if_neg (show ¬ nI kd = (7 : Int32) from nk hk (b := 7) (by omega) z7)]
  exact C_m0 (f := f + 2) hN h (by omega) hk hk hc (bF1 kd hk z1 z5 z7) (by omega) x
theorem C_t0 (hN : 2000 ≤ N) (h : VC M σ tr q c) (hl : tr.length + 13 ≤ 40) {f kd kd' deep : Nat} (hk : kd < 8) (hk' : kd' < 8) (hc : c.getD 1 0 = nI kd) (hb : bF kd' 3 = 13) (hd : deep + 5 < 20) (x : Int32) : Vc M σ tr q c ((GX9_ownBody N (f + 12)).2.2 M 129 q (nI kd') 3 x (nI deep)) (v_pt (nI kd) (cL c 0) (cL c 3) x) := by
  obtain ⟨M7, s1, s2, s3⟩ := C_sp (f := f + 11) hN h (by omega) hk' (act := 3) (by omega) (by omega) (by rw [hb]; decide) x (deep := deep)
  rw [hb] at s1 s3
  obtain ⟨M8, b1, b2, b3⟩ := C_mn (f := f) hN s1 (by simp only [List.length_append, List.length_cons, List.length_nil]; omega) hk hc (deep := deep + 1) (by omega) x
  have hl2 := v_m_l (nI kd) (cL c 0) (cL c 3) x
  obtain ⟨M9, c1, c2, c3⟩ := C_bn (f := f + 6) hN b2 (by simp only [List.length_append, List.length_cons, List.length_nil]; omega) hk hc (deep := deep + 1) (by omega) x
  refine ⟨M9, ?_, by rw [List.append_assoc, List.append_assoc] at c2; exact c2, (s2.trans b3).trans c3⟩
  rw [show (GX9_ownBody N (f + 12)).2.2 M 129 q (nI kd') 3 x (nI deep) = _ from s3, if_neg (by decide)]
  show FX9_plainBody (GX9_ownBody N (f + 10)).1 (GX9_ownBody N (f + 10)).2.1 (GX9_ownBody N (f + 10)).2.2 N M7 129 q 13 x _ = _
  unfold FX9_plainBody
  rw [s1.v.1, Option.bind_some, if_neg (by decide), if_neg (by decide), if_neg (by decide), s1.2.i (show 1 < 6 by decide), Option.bind_some, hc, b1, bd2_s, b2.2.i (show 1 < 6 by decide), Option.bind_some, hc, c1]
  rfl
theorem C_t6 (hN : 2000 ≤ N) (h : VC M σ tr q c) (hl : tr.length + 14 ≤ 40) {f kd kd' deep : Nat} (hk : kd < 8) (hk' : kd' < 8) (hc : c.getD 1 0 = nI kd) (hb : bF kd' 3 = 71) (hd : deep + 6 < 20) (x : Int32) : Vc M σ tr q c ((GX9_ownBody N (f + 14)).2.2 M 129 q (nI kd') 3 x (nI deep)) (v_st (nI kd) (cL c 0) (cL c 3) x) := by
  obtain ⟨M7, s1, s2, s3⟩ := C_sp (f := f + 13) hN h (by omega) hk' (act := 3) (by omega) (by omega) (by rw [hb]; decide) x (deep := deep)
  rw [hb] at s1 s3
  obtain ⟨M8, b1, b2, b3⟩ := C_t0 (f := f) hN s1 (by simp only [List.length_append, List.length_cons, List.length_nil]; omega) (kd := kd) (kd' := 0) hk (by omega) hc (by decide) (deep := deep + 1) (by omega) (x + 1)
  refine ⟨M8, ?_, by rw [List.append_assoc] at b2; exact b2, s2.trans b3⟩
  rw [show (GX9_ownBody N (f + 14)).2.2 M 129 q (nI kd') 3 x (nI deep) = _ from s3, if_pos (by decide)]
  show FX9_ownBody (GX9_ownBody N (f + 12)).1 (GX9_ownBody N (f + 12)).2.1 (GX9_ownBody N (f + 12)).2.2 N M7 129 q 71 x _ = _
  unfold FX9_ownBody
  rw [s1.v.1, Option.bind_some, s1.2.i (show 1 < 6 by decide), Option.bind_some, show fX0_kindAbove M7 ((71 : Int32) / 10 - 1) = some (nI 0) from rfl, Option.bind_some, if_neg (by decide), if_neg (by decide), if_neg (by decide), if_neg (by decide), if_neg (by decide), if_neg (by decide), if_pos (by decide), b1]
  rfl
theorem C_tn (hN : 2000 ≤ N) (h : VC M σ tr q c) (hl : tr.length + 24 ≤ 40) {f kd deep : Nat} (hk : kd < 8) (hc : c.getD 1 0 = nI kd) (hd : deep + 7 < 20) (x : Int32) : Vc M σ tr q c ((GX9_ownBody N (f + 16)).2.2 M 129 q (nI kd) 3 x (nI deep)) (v_t (nI kd) (cL c 0) (cL c 3) x) := by
  unfold v_t
  by_cases z3 : kd = 3
  · subst z3
    rw [if_pos (show nI 3 = (3 : Int32) from rfl)]
    obtain ⟨M7, s1, s2, s3⟩ := C_sp (f := f + 15) hN h (by omega) hk (act := 3) (by omega) (by omega) (by decide) x (deep := deep)
    rw [show bF 3 3 = 40 from by decide] at s1 s3
    obtain ⟨M8, b1, b2, b3⟩ := C_mn (f := f + 4) hN s1 (by simp only [List.length_append, List.length_cons, List.length_nil]; omega) (kd := 3) (by omega) hc (deep := deep + 1) (by omega) 2
    have hl2 := v_m_l (nI 3) (cL c 0) (cL c 3) 2
    obtain ⟨M9, c1, c2, c3⟩ := C_t0 (f := f + 2) hN b2 (by simp only [List.length_append, List.length_cons, List.length_nil]; omega) (kd := 3) (kd' := 0) (by omega) (by omega) hc (by decide) (deep := deep + 1) (by omega) x
    refine ⟨M9, ?_, by rw [List.append_assoc, List.append_assoc] at c2; exact c2, (s2.trans b3).trans c3⟩
    rw [show (GX9_ownBody N (f + 16)).2.2 M 129 q (nI 3) 3 x (nI deep) = _ from s3, if_pos (by decide)]
    show FX9_ownBody (GX9_ownBody N (f + 14)).1 (GX9_ownBody N (f + 14)).2.1 (GX9_ownBody N (f + 14)).2.2 N M7 129 q 40 x _ = _
    unfold FX9_ownBody
    rw [s1.v.1, Option.bind_some, s1.2.i (show 1 < 6 by decide), Option.bind_some, hc, show fX0_kindAbove M7 ((40 : Int32) / 10 - 1) = some (nI 0) from rfl, Option.bind_some, if_neg (by decide), if_neg (by decide), if_pos (by decide), b1, bd2_s, c1]
    rfl
  rw [if_neg (show ¬ nI kd = (3 : Int32) from nk hk (b := 3) (by omega) z3)]
  by_cases z7 : kd = 7
  · subst z7
    rw [if_pos (show nI 7 = (7 : Int32) from rfl)]
    obtain ⟨M7, s1, s2, s3⟩ := C_sp (f := f + 15) hN h (by omega) hk (act := 3) (by omega) (by omega) (by decide) x (deep := deep)
    rw [show bF 7 3 = 81 from by decide] at s1 s3
    obtain ⟨M8, b1, b2, b3⟩ := C_bn (f := f + 10) hN s1 (by simp only [List.length_append, List.length_cons, List.length_nil]; omega) (kd := 7) (by omega) hc (deep := deep + 1) (by omega) x
    have hl2 := v_b_l (nI 7) (cL c 3) x
    obtain ⟨M9, c1, c2, c3⟩ := C_t6 (f := f) hN b2 (by simp only [List.length_append, List.length_cons, List.length_nil]; omega) (kd := 7) (kd' := 6) (by omega) (by omega) hc (by decide) (deep := deep + 1) (by omega) x
    refine ⟨M9, ?_, by rw [List.append_assoc, List.append_assoc] at c2; exact c2, (s2.trans b3).trans c3⟩
    rw [show (GX9_ownBody N (f + 16)).2.2 M 129 q (nI 7) 3 x (nI deep) = _ from s3, if_pos (by decide)]
    show FX9_ownBody (GX9_ownBody N (f + 14)).1 (GX9_ownBody N (f + 14)).2.1 (GX9_ownBody N (f + 14)).2.2 N M7 129 q 81 x _ = _
    unfold FX9_ownBody
    rw [s1.v.1, Option.bind_some, s1.2.i (show 1 < 6 by decide), Option.bind_some, hc, show fX0_kindAbove M7 ((81 : Int32) / 10 - 1) = some (nI 6) from rfl, Option.bind_some, if_neg (by decide), if_neg (by decide), if_neg (by decide), if_neg (by decide), if_neg (by decide), if_neg (by decide), if_neg (by decide), if_neg (by decide), if_pos (by decide), b1, bd2_s, c1]
    rfl
  rw [if_neg (show ¬ nI kd = (7 : Int32) from nk hk (b := 7) (by omega) z7)]
  by_cases z6 : kd = 6
  · subst z6
    rw [if_pos (show nI 6 = (6 : Int32) from rfl)]
    exact C_t6 (f := f + 2) hN h (by omega) hk hk hc (by decide) (by omega) x
  rw [if_neg (show ¬ nI kd = (6 : Int32) from nk hk (b := 6) (by omega) z6)]
  exact C_t0 (f := f + 4) hN h (by omega) hk hk hc (bF3 kd hk z3 z6 z7) (by omega) x
end VCE
theorem C_voice {N : Nat} {M : Mm} {σ : Sg} (h : RelC M σ) (hI : Ig σ) (hN : 2000 ≤ N) (c a x : Int32) : DoC M (fX10_voice N M 0 c a x) (sp_voice σ c a x) := by
  have J := DoC.er h (a := 1) 1 rfl (by decide)
  have hk : (sk (g0 σ)).length ≤ 12 := hI.1.K
  unfold fX10_voice sp_voice jX10_voice_24
  simp only [h.c, h.q0, h.q8, Option.bind_some]
  by_cases g : isK (g0 σ) c
  · obtain ⟨j, hj, rfl⟩ := (wi_n (by omega)).mp g
    rw [nI_clamp (show j < 2 ^ 31 by omega)]
    obtain ⟨q, z1, z2⟩ := C_cnt h hI hj
    obtain ⟨k0, k0', k1, -⟩ := hI.1.2.2.2.2.2.2.2 j hj
    rw [z1]
    show DoC M ((fX10_within M a 0 3).bind _) _
    simp only [C_within, Option.bind_some, gd]
    by_cases g2 : wi a 0 3
    · rw [if_pos g2, if_pos ⟨g, g2⟩]
      have hq := z2 M h Sm.rf
      unfold vcV
      generalize (sk (g0 σ)).getD j [] = cc at hq k0 k0' k1 ⊢
      obtain ⟨kd, hkd, ek⟩ := wi_ix (n := 7) (by decide) rfl k1
      obtain ⟨M1, a1, a2, a3⟩ := R_clear h.wv
      have h' : RelC M (trS σ (gt σ)) := h
      have v1 : VC M1 σ [] q cc := ⟨h'.tr a3 a2, (a3.dy (fun k q => by omega)).2 _ _ hq⟩
      have q9 : gC M 9 129 = some 129 := gC_ok h.2.2.2.2.2.1.1
      have en : cL cc 0 = nI j := k0'
      have fin : ∀ (r : Option (Int32 × Mm)) (w : Vw), Vc M1 σ [] q cc r w → DoC M (bd2 r fun v M => some (v, M)) (w.1, trS σ w.2) := by
        intro r w hv
        obtain ⟨M5, e1, ⟨e2, -⟩, e4⟩ := hv
        exact ⟨M5, by rw [e1]; rfl, e2, (a3.frC (fun k q => by omega)).trans e4⟩
      have body : DoC M (bd2 (fX9_speak N M1 129 q (cL cc 1) a x 0) fun v M => some (v, M)) ((v_a (cL cc 1) (nI j) (cL cc 3) a x).1, trS σ (v_a (cL cc 1) (nI j) (cL cc 3) a x).2) := by
        rw [show cL cc 1 = nI kd from ek, ← en]
        obtain ⟨y, hy, rfl⟩ := wi_ix (n := 3) (by decide) rfl g2
        unfold v_a
        match y, hy with
        | 0, _ =>
          rw [if_pos (show nI 0 = (0 : Int32) from rfl)]
          exact fin _ _ (C_rn (f := 94) hN v1 (by simp) (by omega) ek (deep := 0) (by omega) x)
        | 1, _ =>
          rw [if_neg (show ¬ nI 1 = (0 : Int32) by decide), if_pos (show nI 1 = (1 : Int32) from rfl)]
          exact fin _ _ (C_mn (f := 90) hN v1 (by simp) (by omega) ek (deep := 0) (by omega) x)
        | 2, _ =>
          rw [if_neg (show ¬ nI 2 = (0 : Int32) by decide), if_neg (show ¬ nI 2 = (1 : Int32) by decide), if_pos (show nI 2 = (2 : Int32) from rfl)]
          exact fin _ _ (C_bn (f := 96) hN v1 (by simp) (by omega) ek (deep := 0) (by omega) x)
        | 3, _ =>
          rw [if_neg (show ¬ nI 3 = (0 : Int32) by decide), if_neg (show ¬ nI 3 = (1 : Int32) by decide), if_neg (show ¬ nI 3 = (2 : Int32) by decide)]
          exact fin _ _ (C_tn (f := 84) hN v1 (by simp) (by omega) ek (deep := 0) (by omega) x)
      simp only [fX9_begin, q9, h.v, a1, v1.2.i (show 1 < 6 by decide), Option.bind_some, bd2_id]
      rw [bd2_id] at body
      exact body
    · rw [if_neg g2, if_neg (fun q => g2 q.2)]; exact J
  · rw [if_neg (fun q => g q.1), (C_countingAt h hI c).1 g]
    exact J
