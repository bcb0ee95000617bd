/-! floorMod -/
theorem td_neg {a : Int} (h : a < 0) : a.tdiv 32003 = - ((-a) / 32003) := by
  have e : a = - (-a) := by omega
  rw [e, Int.neg_tdiv, Int.tdiv_eq_ediv_of_nonneg (by omega)]
  rw [show - - - a = - a by omega]
theorem xor_sign (x : Int32) : 0 ≤ (x ^^^ (32003 : Int32)) ↔ 0 ≤ x := by
  have e1 : ∀ y : Int32, 0 ≤ y ↔ y.toBitVec.msb = false := fun y => by
    rw [Int32.le_iff_toInt_le, Int32.toInt_zero, BitVec.msb_eq_toInt]
    show _ ↔ decide (y.toInt < 0) = false
    rw [decide_eq_false_iff_not]
    omega
  rw [e1, e1, Int32.toBitVec_xor, BitVec.msb_xor, show (32003 : Int32).toBitVec.msb = false by decide, Bool.xor_false]
theorem irm_toInt (x : Int32) : (irm x (32003 : Int32)).toInt = x.toInt - x.toInt.tdiv 32003 * 32003 := by
  have b1 := Int32.le_toInt x
  have b2 := Int32.toInt_lt x
  have hq : (x / (32003 : Int32)).toInt = x.toInt.tdiv 32003 := by
    rw [Int32.toInt_div, show (32003 : Int32).toInt = 32003 by decide]
    apply Int.bmod_eq_of_le
    · by_cases h : x.toInt < 0
      · rw [td_neg h]; omega
      · rw [Int.tdiv_eq_ediv_of_nonneg (by omega)]; omega
    · by_cases h : x.toInt < 0
      · rw [td_neg h]; omega
      · rw [Int.tdiv_eq_ediv_of_nonneg (by omega)]; omega
  have hm : (x / (32003 : Int32) * (32003 : Int32)).toInt = x.toInt.tdiv 32003 * 32003 := by
    rw [Int32.toInt_mul, hq, show (32003 : Int32).toInt = 32003 by decide]
    apply Int.bmod_eq_of_le
    · by_cases h : x.toInt < 0
      · rw [td_neg h]; omega
      · rw [Int.tdiv_eq_ediv_of_nonneg (by omega)]; omega
    · by_cases h : x.toInt < 0
      · rw [td_neg h]; omega
      · rw [Int.tdiv_eq_ediv_of_nonneg (by omega)]; omega
  unfold irm
  rw [Int32.toInt_sub, hm]
  apply Int.bmod_eq_of_le
  · by_cases h : x.toInt < 0
    · rw [td_neg h]; omega
    · rw [Int.tdiv_eq_ediv_of_nonneg (by omega)]; omega
  · by_cases h : x.toInt < 0
    · rw [td_neg h]; omega
    · rw [Int.tdiv_eq_ediv_of_nonneg (by omega)]; omega
/-- a number of any size, modulo 32003 -/
def fmI (x : Int32) : Fp := fN (x.toInt % 32003).toNat
theorem floorMod_s {N : Nat} (x : Int32) (h : Hp) : fJ9_floorMod_7cf53 N x (32003 : Int32) h = some (nI (fmI x).val, h) := by
  have b1 := Int32.le_toInt x
  have b2 := Int32.toInt_lt x
  have hv : (fmI x).val = (x.toInt % 32003).toNat := fN_val (by omega)
  have e := irm_toInt x
  unfold fJ9_floorMod_7cf53
  rw [if_pos (by decide)]
  unfold nm jn
  dsimp only
  by_cases h0 : 0 ≤ x
  · rw [if_pos ((xor_sign x).mpr h0)]
    have h1 : 0 ≤ x.toInt := by rw [Int32.le_iff_toInt_le, Int32.toInt_zero] at h0; exact h0
    rw [Int.tdiv_eq_ediv_of_nonneg h1] at e
    have : irm x (32003 : Int32) = nI (fmI x).val := by
      apply Int32.toInt_inj.mp
      rw [e, nI_toInt (by omega), hv]
      omega
    rw [this]
  · rw [if_neg (fun z => h0 ((xor_sign x).mp z))]
    have h1 : x.toInt < 0 := by
      rw [Int32.le_iff_toInt_le, Int32.toInt_zero] at h0; omega
    rw [td_neg h1] at e
    by_cases z : irm x (32003 : Int32) = 0
    · rw [if_pos z, z]
      rw [z, Int32.toInt_zero] at e
      rw [hv, show (x.toInt % 32003).toNat = 0 by omega]
      rfl
    · rw [if_neg z]
      have z2 : (irm x (32003 : Int32)).toInt ≠ 0 := fun q => z (Int32.toInt_inj.mp (by rw [q, Int32.toInt_zero]))
      have : irm x (32003 : Int32) + (32003 : Int32) = nI (fmI x).val := by
        apply Int32.toInt_inj.mp
        rw [Int32.toInt_add, e, nI_toInt (by omega), hv, show (32003 : Int32).toInt = 32003 by decide]
        rw [show x.toInt - - (- x.toInt / 32003) * 32003 + 32003 = ((x.toInt % 32003).toNat : Int) by omega]
        apply Int.bmod_eq_of_le <;> omega
      rw [this]
theorem fmI_n (v : Fp) : fmI (nI v.val) = v := by
  have := v.isLt
  apply Fin.ext
  unfold fmI
  rw [nI_toInt (by omega), fN_val (by omega)]
  omega
theorem fmI_m1 (v : Fp) : fmI (nI v.val - 1) = v + -1 := by
  have := v.isLt
  have e : (nI v.val - 1).toInt = (v.val : Int) - 1 := pk_sub_toInt (a := v.val) (b := 1) (by omega) (by omega)
  apply Fin.ext
  unfold fmI
  rw [e, fN_val (by omega), fv_add, show ((-1 : Fp)).val = 32002 by decide]
  omega
