/-! voices (rows) -/
def bF (kd act : Nat) : Int32 := if bo_l.getD (4 * kd + act) 0 = 0 then (if kd = 7 then (if bo_l.getD (24 + act) 0 = 0 then bo_l.getD act 0 else bo_l.getD (24 + act) 0) else bo_l.getD act 0) else bo_l.getD (4 * kd + act) 0
theorem bo0 : ∀ act, act < 4 → ¬ bo_l.getD act 0 = 0 := by decide
theorem bBo_n {i : Nat} (h : i < 32) : bBo (nI i) = some (bo_l.getD i 0) := by
  unfold bBo
  rw [nI_clamp (by omega), if_pos]
  intro q
  rcases q with q | q
  · exact nI_pos (by omega) q
  · omega
theorem bF_st {N f kd act i : Nat} {M : Mm} (hk : kd < 8) (ha : act < 4) (hi : i < 8) : LX9_bodyFrom_4 N (f + 1) M (nI act) (nI kd) (nI i) = if bo_l.getD (4 * kd + act) 0 = 0 then ((fX0_kindAbove M (nI kd)).bind fun v2 => LX9_bodyFrom_4 N f M (nI act) v2 (nI (i + 1))) else some (bo_l.getD (4 * kd + act) 0) := by
  have e : (4 : Int32) * nI kd + nI act = nI (4 * kd + act) := by
    rw [show (4 : Int32) * nI kd = nI (4 * kd) from pk_mul 4 kd, nI_add]
  show BX9_bodyFrom_4 N (LX9_bodyFrom_4 N f) M _ _ _ = _
  unfold BX9_bodyFrom_4 jX9_bodyFrom_51
  rw [e, if_neg (show ¬ (8 : Int32) ≤ nI i from nI_ge (b := 8) hi (by decide)), if_neg (nI_pos (by omega)), if_neg (nI_pos (by omega)), if_neg (show ¬ (32 : Int32) ≤ nI (4 * kd + act) from nI_ge (b := 32) (by omega) (by decide)), bBo_n (by omega), nI_1]
  rfl
theorem kA_n (M : Mm) {kd : Nat} (h0 : kd ≠ 0) (h7 : kd ≠ 7) (hk : kd < 8) : fX0_kindAbove M (nI kd) = some (nI 0) := by
  unfold fX0_kindAbove
  rw [if_neg (nI_ne0 (by omega) (by omega)), if_neg (show ¬ nI kd = (7 : Int32) from fun e => h7 ((nI_eq (b := 7) (by omega) (by decide)).mp e))]
  rfl
theorem bF_ok {N kd act : Nat} {M : Mm} (hN : 2000 ≤ N) (hk : kd < 8) (ha : act < 4) : fX9_bodyFrom N M (nI kd) (nI act) = some (bF kd act) := by
  obtain ⟨n, hn⟩ : ∃ n, N = n + 3 := ⟨N - 3, by omega⟩
  unfold fX9_bodyFrom
  rw [show LX9_bodyFrom_4 N N M (nI act) (nI kd) 0 = LX9_bodyFrom_4 N (n + 2 + 1) M (nI act) (nI kd) (nI 0) from by rw [show n + 2 + 1 = N by omega]; rfl]
  rw [bF_st hk ha (by omega)]
  have b0 := bo0 act ha
  unfold bF
  by_cases q1 : bo_l.getD (4 * kd + act) 0 = 0
  · rw [if_pos q1, if_pos q1]
    by_cases q2 : kd = 7
    · subst q2
      rw [if_pos rfl, show fX0_kindAbove M (nI 7) = some (nI 6) from rfl, Option.bind_some, bF_st (by omega) ha (by omega)]
      by_cases q3 : bo_l.getD (24 + act) 0 = 0
      · rw [if_pos q3, if_pos q3, show fX0_kindAbove M (nI 6) = some (nI 0) from rfl, Option.bind_some, bF_st (by omega) ha (by omega), Nat.mul_zero, Nat.zero_add, if_neg b0]
      · rw [if_neg q3, if_neg q3]
    · rw [if_neg q2]
      have q3 : kd ≠ 0 := fun e => by subst e; rw [Nat.mul_zero, Nat.zero_add] at q1; exact b0 q1
      rw [kA_n M q3 q2 hk, Option.bind_some, bF_st (by omega) ha (by omega), Nat.mul_zero, Nat.zero_add, if_neg b0]
  · rw [if_neg q1, if_neg q1]
def VC (M : Mm) (σ : Sg) (tr : List Int32) (q : Nat) (c : List Int32) : Prop := RelC M (trS σ tr) ∧ CntAt M q c
def Vc (M : Mm) (σ : Sg) (tr : List Int32) (q : Nat) (c : List Int32) (r : Option (Int32 × Mm)) (w : Vw) : Prop := ∃ M', r = some (w.1, M') ∧ VC M' σ (tr ++ w.2) q c ∧ FrC M M'
theorem RelC.tr {M M' : Mm} {σ : Sg} {tr tr' : List Int32} (h : RelC M (trS σ tr)) (o : Of (fun k => k = 130 ∨ k = 130 + 1) M M') (n : Rw M' 130 40 tr') : RelC M' (trS σ tr') := by
  obtain ⟨h0, h1, h2, ⟨h3, h4⟩, h5, ⟨h6, h7⟩, h8, h9⟩ := h
  have d : Dy M M' := o.dy (fun k q => by omega)
  exact ⟨by rw [o.2 0 (by omega)]; exact h0, h1.mv (o.sm (fun k a b => by omega)) d, h2.mv (o.sm (fun k a b => by omega)) d, ⟨h3, h4.mv (o.sm (fun k a b => by omega))⟩, h5.mv (o.sm (fun k a b => by omega)), ⟨by rw [o.2 129 (by omega)]; exact h6, n⟩, h8.mv (o.sm (fun k a b => by omega)) (o.sm (fun k a b => by omega)), by rw [o.1]; exact h9⟩
theorem VC.v {M : Mm} {σ : Sg} {tr : List Int32} {q : Nat} {c : List Int32} (h : VC M σ tr q c) : gC M 9 129 = some 129 ∧ gQ M 9 129 0 = some 130 := ⟨gC_ok h.1.2.2.2.2.2.1.1, h.1.v⟩
theorem bd2_id {r : Option (Int32 × Mm)} : (bd2 r fun v M => some (v, M)) = r := by
  cases r with
  | none => rfl
  | some q => rfl
section VCS
variable {N : Nat} {M : Mm} {σ : Sg} {tr : List Int32} {q : Nat} {c : List Int32}
theorem C_sp (hN : 2000 ≤ N) (h : VC M σ tr q c) (hl : tr.length < 40) {f kd act deep : Nat} (hk : kd < 8) (ha : act < 4) (hd : deep < 20) (hb : ¬ bF kd act = 0) (x : Int32) : ∃ M7, VC M7 σ (tr ++ [bF kd act]) q c ∧ FrC M M7 ∧ (GX9_ownBody N (f + 1)).2.2 M 129 q (nI kd) (nI act) x (nI deep) = if (20 : Int32) ≤ bF kd act then (GX9_ownBody N f).1 M7 129 q (bF kd act) x (nI (deep + 1)) else (GX9_ownBody N f).2.1 M7 129 q (bF kd act) x (nI (deep + 1)) := by
  obtain ⟨M1, a1, a2, a3⟩ := R_add h.1.wv (bF kd act) (show (gt (trS σ tr)).length < 40 from hl)
  refine ⟨M1, ⟨h.1.tr a3 a2, (a3.dy (fun k q => by omega)).2 _ _ h.2⟩, a3.frC (fun k q => by omega), ?_⟩
  show FX9_speak (GX9_ownBody N f).1 (GX9_ownBody N f).2.1 (GX9_ownBody N f).2.2 N M 129 q (nI kd) (nI act) x (nI deep) = _
  unfold FX9_speak
  simp only [h.v.1, bF_ok hN hk ha, h.v.2, Option.bind_some]
  rw [if_neg (show ¬ (20 : Int32) ≤ nI deep from nI_ge (b := 20) hd (by decide)), if_neg hb, a1, bd2_s, bd2_id, bd2_id, nI_1]
theorem C_r0 (hN : 2000 ≤ N) (h : VC M σ tr q c) (hl : tr.length < 40) {f kd deep : Nat} (hk : kd < 8) (hd : deep < 20) (hb : bF kd 0 = 10) (x : Int32) : Vc M σ tr q c ((GX9_ownBody N (f + 2)).2.2 M 129 q (nI kd) 0 x (nI deep)) (x + cL c 0, [10]) := by
  obtain ⟨M7, s1, s2, s3⟩ := C_sp (f := f + 1) hN h hl hk (act := 0) (by omega) hd (by rw [hb]; decide) x
  rw [hb] at s1 s3
  refine ⟨M7, ?_, s1, s2⟩
  rw [show (GX9_ownBody N (f + 2)).2.2 M 129 q (nI kd) 0 x (nI deep) = _ from s3, if_neg (by decide)]
  show FX9_plainBody (GX9_ownBody N f).1 (GX9_ownBody N f).2.1 (GX9_ownBody N f).2.2 N M7 129 q 10 x _ = _
  unfold FX9_plainBody
  simp only [s1.v.1, s1.2.i (show 0 < 6 by decide), Option.bind_some]
  rw [if_pos trivial]
theorem C_b0 (hN : 2000 ≤ N) (h : VC M σ tr q c) (hl : tr.length < 40) {f kd deep : Nat} (hk : kd < 8) (hd : deep < 20) (hb : bF kd 2 = 12) (x : Int32) : Vc M σ tr q c ((GX9_ownBody N (f + 2)).2.2 M 129 q (nI kd) 2 x (nI deep)) (x - cL c 3, [12]) := by
  obtain ⟨M7, s1, s2, s3⟩ := C_sp (f := f + 1) hN h hl hk (act := 2) (by omega) hd (by rw [hb]; decide) x
  rw [hb] at s1 s3
  refine ⟨M7, ?_, s1, s2⟩
  rw [show (GX9_ownBody N (f + 2)).2.2 M 129 q (nI kd) 2 x (nI deep) = _ from s3, if_neg (by decide)]
  show FX9_plainBody (GX9_ownBody N f).1 (GX9_ownBody N f).2.1 (GX9_ownBody N f).2.2 N M7 129 q 12 x _ = _
  unfold FX9_plainBody
  simp only [s1.v.1, s1.2.i (show 3 < 6 by decide), Option.bind_some]
  rw [if_neg (by decide), if_neg (by decide), if_pos trivial]
end VCS
