/-! ===== sheets ===== -/
theorem aR_ok {M : Mm} {a t n j : Nat} {f : Nat → Option Nat} (h : M[a]? = some (.inl (t, n, .inr (.inr (.inr (.inr f)))))) (hj : j < n) (hn : n < 2 ^ 31) : aR M t a (nI j) = some (f j) := by
  simp [aR, h, nI_clamp (show j < 2 ^ 31 by omega), nI_pos (show j < 2 ^ 31 by omega), hj]
theorem RelC.sh {M : Mm} {σ : Sg} (h : RelC M σ) {i : Nat} (hi : i < 4) : M[62 + 3 * i]? = some (.inr (4, [.ref (63 + 3 * i), .int (gs σ i).1])) ∧ Rw M (63 + 3 * i) 40 (gs σ i).2 := h.2.2.2.2.1.2 i hi
theorem C_sheetAt {M : Mm} {σ : Sg} (h : RelC M σ) (a : Int32) : fX10_sheetAt M 0 a = some (if wi a 0 3 then some (62 + 3 * a.toNatClampNeg) else none) := by
  obtain ⟨g, e1, e2⟩ := h.2.2.2.2.1.1
  simp only [fX10_sheetAt, h.c, h.q4, aL_ok e1 (by decide), Option.bind_some]
  rw [show nI 4 - 1 = (3 : Int32) by decide, C_within]
  simp only [Option.bind_some, gd]
  by_cases g1 : wi a 0 3
  · rw [if_pos g1, if_pos g1]
    obtain ⟨j, hj, rfl⟩ := wi_ix (n := 3) (by decide) rfl g1
    rw [aR_ok e1 (show j < 4 by omega) (by decide), nI_clamp (by omega), e2 j (by omega)]
    rfl
  · rw [if_neg g1, if_neg g1]
def shS (σ : Sg) (i : Nat) (b : Int32) (ys : List Int32) : Sg := (σ.1, σ.2.1, σ.2.2.1, σ.2.2.2.1, (fun j => if j = i then (b, ys) else gs σ j), σ.2.2.2.2.2)
theorem RelC.shU {M M' : Mm} {σ : Sg} {i : Nat} {b : Int32} {ys : List Int32} (h : RelC M σ) (hi : i < 4) (o : Of (fun k => 62 + 3 * i ≤ k ∧ k < 65 + 3 * i) M M') (n1 : M'[62 + 3 * i]? = some (.inr (4, [.ref (63 + 3 * i), .int b]))) (n2 : Rw M' (63 + 3 * i) 40 ys) : RelC M' (shS σ i b ys) := by
  obtain ⟨h0, h1, h2, ⟨h3, h4⟩, ⟨⟨g, h5, h5'⟩, h5''⟩, ⟨h6, h7⟩, h8, h9⟩ := h
  have d : Dy M M' := o.dy (fun k q => by omega)
  refine ⟨by rw [o.2 0 (by omega)]; exact h0, h1.mv (o.sm (fun k a b => by omega)) d, h2.mv (o.sm (fun k a b => by omega)) d, ⟨h3, h4.mv (o.sm (fun k a b => by omega))⟩, ⟨⟨g, by rw [o.2 61 (by omega)]; exact h5, h5'⟩, fun j hj => ?_⟩, ⟨by rw [o.2 129 (by omega)]; exact h6, h7.mv (o.sm (fun k a b => by omega))⟩, h8.mv (o.sm (fun k a b => by omega)) (o.sm (fun k a b => by omega)), by rw [o.1]; exact h9⟩
  show M'[62 + 3 * j]? = some (.inr (4, [.ref (63 + 3 * j), .int (if j = i then (b, ys) else gs σ j).1])) ∧ Rw M' (63 + 3 * j) 40 (if j = i then (b, ys) else gs σ j).2
  by_cases e : j = i
  · subst e
    rw [if_pos rfl]
    exact ⟨n1, n2⟩
  · rw [if_neg e]
    exact ⟨by rw [o.2 _ (by omega)]; exact (h5'' j hj).1, (h5'' j hj).2.of o (by omega) (by omega)⟩
theorem om_i {β : Type} {p : Prop} [Decidable p] {q : Nat} {A : Option β} {B : Nat → Option β} : om (if p then some q else none) A B = if p then B q else A := by
  by_cases h : p
  · rw [if_pos h, if_pos h]; rfl
  · rw [if_neg h, if_neg h]; rfl
def isb (b : Int32) : Prop := b = 0 ∨ b = 8 ∨ b = 16 ∨ b = 32
def sp_sheet (σ : Sg) (s b n : Int32) : An := if wi s 0 3 then (if b = 0 then (1, shS σ s.toNatClampNeg 0 []) else if b = 8 ∨ b = 16 ∨ b = 32 then (if n < 0 then er σ 3 else if n ≤ 40 then (1, shS σ s.toNatClampNeg b (List.replicate n.toNatClampNeg 0)) else er σ 1) else er σ 1) else er σ 1
theorem C_become4 {N : Nat} {M : Mm} {σ : Sg} (h : RelC M σ) (hN : 2000 ≤ N) {i : Nat} (hi : i < 4) (b : Int32) {n : Nat} (hn : n ≤ 40) : ∃ M', fX4_become N M (62 + 3 * i) b (nI n) = some M' ∧ RelC M' (shS σ i b (List.replicate n 0)) ∧ FrC M M' := by
  obtain ⟨e1, e2⟩ := h.sh hi
  have l1 := lt_of_at e1
  have o1 : Of (fun k => 62 + 3 * i ≤ k ∧ k < 65 + 3 * i) M (M.set (62 + 3 * i) (.inr (4, [.ref (63 + 3 * i), .int b]))) := Of.set (by omega)
  have e3 : (M.set (62 + 3 * i) (.inr (4, [.ref (63 + 3 * i), .int b])))[62 + 3 * i]? = some (.inr (4, [.ref (63 + 3 * i), .int b])) := by simp [l1]
  have e4 : Rw (M.set (62 + 3 * i) (.inr (4, [.ref (63 + 3 * i), .int b]))) (63 + 3 * i) 40 (gs σ i).2 := e2.of (S := fun k => k = 62 + 3 * i) (Of.set rfl) (by omega) (by omega)
  obtain ⟨M2, k1, k2, k3⟩ := R_fill (N := N) e4 0 hn (by omega)
  have o2 : Of (fun k => 62 + 3 * i ≤ k ∧ k < 65 + 3 * i) M M2 := o1.trans (k3.mono (fun k q => by omega))
  refine ⟨M2, ?_, h.shU hi o2 (by rw [k3.2 _ (by omega)]; exact e3) k2, o2.frC (fun q z => by omega)⟩
  have ep : pF M 4 (62 + 3 * i) 1 (.int b) = some (M.set (62 + 3 * i) (.inr (4, [.ref (63 + 3 * i), .int b]))) := pF_ok e1 (Nat.le_of_ble_eq_true rfl)
  simp only [fX4_become, gC_ok e1, ep, gQ_ok e3 (k := 0) rfl, k1, Option.bind_some]
theorem C_sheet {N : Nat} {M : Mm} {σ : Sg} (h : RelC M σ) (hN : 2000 ≤ N) (s b n : Int32) : DoC M (fX10_sheet N M 0 s b n) (sp_sheet σ s b n) := by
  have J := DoC.er h (a := 1) 1 rfl (by decide)
  have main : ∀ (j : Nat), j < 4 → ¬ b = 0 → DoC M (jX10_sheet_40 N M 0 b n (62 + 3 * j)) (if n < 0 then er σ 3 else if n ≤ 40 then (1, shS σ j b (List.replicate n.toNatClampNeg 0)) else er σ 1) := by
    intro j hj hb
    unfold jX10_sheet_40 jX10_sheet_54 jX10_sheet_70 jX10_sheet_82
    simp only [if_neg hb]
    by_cases g1 : n < 0
    · rw [if_pos g1, if_neg (fun q => absurd g1 (Int32.not_lt.mpr q))]
      exact DoC.er h 3 rfl (by decide)
    · rw [if_neg g1, if_pos (Int32.not_lt.mp g1)]
      by_cases g2 : n ≤ 40
      · rw [if_pos g2, if_pos g2]
        obtain ⟨k, hk, rfl⟩ := nI_of2 (M := 40) (n := 40) (by decide) g1 g2
        obtain ⟨M', e1, e2, e3⟩ := C_become4 h hN hj b (n := k) hk
        rw [nI_clamp (by omega)]
        exact ⟨M', by rw [e1]; rfl, e2, e3⟩
      · rw [if_neg g2, if_neg g2]
        exact J
  unfold fX10_sheet sp_sheet jX10_sheet_34
  simp only [h.c, Option.bind_some, C_sheetAt h, om_i]
  by_cases g : wi s 0 3
  · rw [if_pos g, if_pos g]
    obtain ⟨j, hj, rfl⟩ := wi_ix (n := 3) (by decide) rfl g
    rw [nI_clamp (by omega)]
    by_cases b0 : b = 0
    · subst b0
      rw [if_pos rfl, if_pos rfl]
      unfold jX10_sheet_40 jX10_sheet_54 jX10_sheet_70 jX10_sheet_82
      simp only [if_true]
      obtain ⟨M', e1, e2, e3⟩ := C_become4 h hN (show j < 4 by omega) 0 (n := 0) (by decide)
      have e1' : fX4_become N M (62 + 3 * j) 0 0 = some M' := e1
      exact ⟨M', by rw [e1']; rfl, e2, e3⟩
    · rw [if_neg b0, if_neg b0]
      by_cases b8 : b = 8
      · rw [if_pos b8, if_pos (Or.inl b8)]; exact main j (by omega) b0
      · rw [if_neg b8]
        by_cases b16 : b = 16
        · rw [if_pos b16, if_pos (Or.inr (Or.inl b16))]; exact main j (by omega) b0
        · rw [if_neg b16]
          by_cases b32 : b = 32
          · rw [if_pos b32, if_pos (Or.inr (Or.inr b32))]; exact main j (by omega) b0
          · rw [if_neg b32, if_neg (fun q => by rcases q with q | q | q <;> contradiction)]
            exact J
  · rw [if_neg g, if_neg g]
    exact J
def nar (b v : Int32) : Int32 := if b = 8 then v.toInt8.toInt32 else if b = 16 then v.toInt16.toInt32 else v
def sp_put (σ : Sg) (s i v : Int32) : An := if wi s 0 3 then (if (gs σ s.toNatClampNeg).1 = 0 then er σ 2 else if wi i 0 (nI (gs σ s.toNatClampNeg).2.length - 1) then (1, shS σ s.toNatClampNeg (gs σ s.toNatClampNeg).1 ((gs σ s.toNatClampNeg).2.set i.toNatClampNeg (nar (gs σ s.toNatClampNeg).1 v))) else er σ 1) else er σ 1
theorem C_has4 {M : Mm} {σ : Sg} (h : RelC M σ) {j : Nat} (hj : j < 4) (hl : (gs σ j).2.length ≤ 40) (i : Int32) : fX4_hasNumber M (62 + 3 * j) i = some (if wi i 0 (nI (gs σ j).2.length - 1) then 1 else 0) := by
  obtain ⟨e1, e2⟩ := h.sh hj
  simp only [fX4_hasNumber, gC_ok e1, gQ_ok e1 (k := 0) rfl, R_has e2, Option.bind_some]
  by_cases g : wi i 0 (nI (gs σ j).2.length - 1)
  · obtain ⟨k, hk, rfl⟩ := (wi_n (by omega)).mp g
    rw [if_pos g, nI_clamp (by omega), if_pos ⟨nI_pos (by omega), hk⟩]
    rfl
  · rw [if_neg g, if_neg (fun q => g ?_)]
    · rfl
    · obtain ⟨k, hk, rfl⟩ := nI_of q.1
      have q2 := q.2
      rw [nI_clamp hk] at q2
      exact (wi_n (by omega)).mpr ⟨k, q2, rfl⟩
theorem C_put {M : Mm} {σ : Sg} (h : RelC M σ) (hI : Ig σ) (s i v : Int32) : DoC M (fX10_put M 0 s i v) (sp_put σ s i v) := by
  unfold fX10_put sp_put
  simp only [h.c, Option.bind_some, C_sheetAt h, om_i]
  by_cases g : wi s 0 3
  · rw [if_pos g, if_pos g]
    obtain ⟨j, hj, rfl⟩ := wi_ix (n := 3) (by decide) rfl g
    rw [nI_clamp (by omega)]
    have hl := (hI.2.2.2.1 j (by omega)).1
    obtain ⟨e1, e2⟩ := h.sh (show j < 4 by omega)
    have em : fX4_isMissing M (62 + 3 * j) = some (if (gs σ j).1 = 0 then 1 else 0) := by
      simp only [fX4_isMissing, gC_ok e1, gI_ok e1 (k := 1) rfl, Option.bind_some]
      split <;> rfl
    simp only [em, C_has4 h (show j < 4 by omega) hl, Option.bind_some, gd]
    by_cases z : (gs σ j).1 = 0
    · rw [if_pos z, if_pos z]
      exact DoC.er h 2 rfl (by decide)
    · rw [if_neg z, if_neg z]
      by_cases g2 : wi i 0 (nI (gs σ j).2.length - 1)
      · rw [if_pos g2, if_pos g2]
        obtain ⟨k, hk, rfl⟩ := (wi_n (by omega)).mp g2
        rw [nI_clamp (by omega)]
        obtain ⟨M', k1, k2, k3⟩ := R_exchange e2 hk (nar (gs σ j).1 v)
        have ew : fX4_write M (62 + 3 * j) (nI k) v = some M' := by
          simp only [fX4_write, jX4_write_34, gC_ok e1, gQ_ok e1 (k := 0) rfl, gI_ok e1 (k := 1) rfl, Option.bind_some]
          unfold nar at k1
          by_cases b8 : (gs σ j).1 = 8
          · rw [if_pos b8] at k1 ⊢; rw [k1]; rfl
          · rw [if_neg b8] at k1 ⊢
            by_cases b16 : (gs σ j).1 = 16
            · rw [if_pos b16] at k1 ⊢; rw [k1]; rfl
            · rw [if_neg b16] at k1 ⊢; rw [k1]; rfl
        have o2 : Of (fun k => 62 + 3 * j ≤ k ∧ k < 65 + 3 * j) M M' := k3.mono (fun k q => by omega)
        refine ⟨M', by rw [ew]; rfl, h.shU (by omega) o2 (by rw [k3.2 _ (by omega)]; exact e1) k2, o2.frC (fun q z => by omega)⟩
      · rw [if_neg g2, if_neg g2]
        exact DoC.er h 1 rfl (by decide)
  · rw [if_neg g, if_neg g]
    exact DoC.er h 1 rfl (by decide)
