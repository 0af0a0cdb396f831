/-! rests -/
theorem em_le {x y : Int} (h0 : 0 ≤ x) (hy : 0 < y) : x % y ≤ x := by
  have h1 := Int.mul_ediv_add_emod x y
  have h2 := Int.ediv_nonneg h0 (Int.le_of_lt hy)
  have h3 := Int.mul_nonneg (Int.le_of_lt hy) h2
  omega
theorem rm_i {x y : Int32} (hy : 0 < y.toInt) : (0 ≤ x.toInt → (rmI x y).toInt = x.toInt % y.toInt) ∧ (x.toInt < 0 → (rmI x y).toInt = -((-x.toInt) % y.toInt)) := by
  have hx := Int32.le_toInt x
  have hx2 := Int32.toInt_lt x
  have hyb := Int32.toInt_lt y
  have hne : y ≠ -1 := fun e => by rw [e] at hy; exact absurd hy (by decide)
  have hd : (x / y).toInt = x.toInt.tdiv y.toInt := Int32.toInt_div_of_ne_right x y hne
  have key := Int.mul_tdiv_add_tmod x.toInt y.toInt
  rw [Int.mul_comm] at key
  unfold rmI
  constructor
  · intro h0
    have e1 := Int.tmod_eq_emod_of_nonneg (b := y.toInt) h0
    have e2 := Int.emod_nonneg x.toInt (show y.toInt ≠ 0 by omega)
    have e3 := em_le (x := x.toInt) (y := y.toInt) h0 hy
    rw [e1] at key
    rw [i_sub, i_mul, hd]
    · omega
    · rw [hd]; omega
    · rw [hd]; omega
    · rw [i_mul, hd] <;> (try rw [hd]) <;> omega
    · rw [i_mul, hd] <;> (try rw [hd]) <;> omega
  · intro h0
    obtain ⟨z, hz⟩ : ∃ z : Int, x.toInt = -z := ⟨-x.toInt, by omega⟩
    rw [hz] at key hd h0 hx ⊢
    rw [Int.neg_tmod] at key
    rw [Int.neg_neg]
    have e1 := Int.tmod_eq_emod_of_nonneg (b := y.toInt) (show 0 ≤ z by omega)
    have e2 := Int.emod_nonneg z (show y.toInt ≠ 0 by omega)
    have e3 := em_le (x := z) (y := y.toInt) (by omega) hy
    rw [e1] at key
    rw [i_sub, i_mul, hd, hz]
    · omega
    · rw [hd]; omega
    · rw [hd]; omega
    · rw [i_mul, hd, hz] <;> (try rw [hd]) <;> omega
    · rw [i_mul, hd, hz] <;> (try rw [hd]) <;> omega
def fmd (x y : Int32) : Int32 := if 0 ≤ rmI x y then rmI x y else rmI x y + y
theorem z_i : (0 : Int32).toInt = 0 := by decide
theorem fmd_i {x y : Int32} (hy : 0 < y.toInt) : (fmd x y).toInt = x.toInt % y.toInt := by
  obtain ⟨r1, r2⟩ := rm_i (x := x) hy
  have hyb := Int32.toInt_lt y
  unfold fmd
  by_cases h0 : 0 ≤ x.toInt
  · have e := r1 h0
    have := Int.emod_nonneg x.toInt (show y.toInt ≠ 0 by omega)
    rw [if_pos (by rw [i_le, z_i, e]; exact this), e]
  · have e := r2 (by omega)
    have g1 := Int.emod_nonneg (-x.toInt) (show y.toInt ≠ 0 by omega)
    have g2 := Int.emod_lt_of_pos (-x.toInt) hy
    have g3 : x.toInt % y.toInt = if (-x.toInt) % y.toInt = 0 then 0 else y.toInt - (-x.toInt) % y.toInt := by
      have w1 := Int.mul_ediv_add_emod (-x.toInt) y.toInt
      by_cases z : (-x.toInt) % y.toInt = 0
      · rw [if_pos z]
        rw [z] at w1
        have : x.toInt = y.toInt * (-((-x.toInt) / y.toInt)) := by rw [Int.mul_neg]; omega
        rw [this]
        exact Int.mul_emod_right _ _
      · rw [if_neg z]
        have : x.toInt = (y.toInt - (-x.toInt) % y.toInt) + y.toInt * (-((-x.toInt) / y.toInt) - 1) := by rw [Int.mul_sub, Int.mul_neg]; omega
        rw [this, Int.add_mul_emod_self_left, ← this]
        exact Int.emod_eq_of_lt (by omega) (by omega)
    by_cases z : (-x.toInt) % y.toInt = 0
    · rw [if_pos z] at g3
      rw [if_pos (by rw [i_le, z_i, e]; omega), e, g3]; omega
    · rw [if_neg z] at g3
      rw [if_neg (by rw [i_le, z_i, e]; omega), i_add (by omega) (by omega), e, g3]; omega
theorem mI_p {x y : Int32} (hy : 0 < y.toInt) : mI x y = some (rmI x y) := by
  unfold mI
  rw [if_neg (fun e => by rw [e, z_i] at hy; omega)]; rfl
theorem T_rest (M : Mm) {x y : Int32} (hy : 0 < y.toInt) : fX11_rest M x y = some (fmd x y) := by
  simp only [fX11_rest, mI_p hy, Option.bind_some, fmd]
  by_cases z : 0 ≤ rmI x y
  · rw [if_pos z, if_pos z]
  · rw [if_neg z, if_neg z]
theorem sg_x (x : Int32) : x < 0 ↔ x.toBitVec.msb = true := by
  rw [i_lt, z_i]
  exact BitVec.toInt_neg_iff.trans (by rw [BitVec.msb_eq_decide]; simp; omega)
theorem C_floorMod (M : Mm) {x y : Int32} (hy : 0 < y.toInt) : fJ9_floorMod_7cf53 M x y = some (fmd x y) := by
  have ny : ¬ y < 0 := by rw [i_lt, z_i]; omega
  have e : (0 ≤ (x ^^^ y)) ↔ ¬ x < 0 := by
    rw [← Int32.not_lt, sg_x, sg_x, Int32.toBitVec_xor, BitVec.msb_xor]
    rw [sg_x] at ny
    cases h1 : x.toBitVec.msb <;> cases h2 : y.toBitVec.msb <;> simp_all
  obtain ⟨r1, r2⟩ := rm_i (x := x) hy
  simp only [fJ9_floorMod_7cf53, mI_p hy, Option.bind_some, fmd]
  by_cases h0 : x < 0
  · rw [if_neg (fun q => e.mp q h0)]
    have h0' := i_lt.mp h0
    rw [z_i] at h0'
    have g := r2 h0'
    have g1 := Int.emod_nonneg (-x.toInt) (show y.toInt ≠ 0 by omega)
    by_cases z : rmI x y = 0
    · rw [if_pos z, z, if_pos (by decide)]
    · rw [if_neg z, if_neg]
      rw [i_le, z_i]
      intro q
      apply z
      rw [i_eq, z_i]; omega
  · rw [if_pos (e.mpr h0)]
    have h0' : 0 ≤ x.toInt := by rw [i_lt, z_i] at h0; omega
    have g := r1 h0'
    have g1 := Int.emod_nonneg x.toInt (show y.toInt ≠ 0 by omega)
    rw [if_pos (by rw [i_le, z_i]; omega)]
