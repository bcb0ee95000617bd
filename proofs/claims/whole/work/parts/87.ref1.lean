/-! the reference: numbers -/
theorem in_s {N : Nat} (x lo hi : Int64) (h : Hp) : fX8_in N x lo hi h = some (if x < lo ∨ hi < x then 0 else 1, h) := by
  unfold fX8_in jn
  dsimp only
  rw [if_pos (Or.inl rfl), if_pos (Or.inr rfl)]
  by_cases q1 : x < lo
  · rw [if_pos ((lg_cmp_lt x lo).mpr q1), if_pos (Or.inl q1)]
  · rw [if_neg (fun z => q1 ((lg_cmp_lt x lo).mp z))]
    by_cases q2 : hi < x
    · rw [if_pos ((lg_cmp_gt x hi).mpr q2), if_pos (Or.inr q2)]
    · rw [if_neg (fun z => q2 ((lg_cmp_gt x hi).mp z)), if_neg (fun z => by rcases z with z | z; exact q1 z; exact q2 z)]
def fZ (z : Int) : Fp := fN (z % 32003).toNat
theorem fZ_c (z : Int) : ((fZ z).val : Int) = z % 32003 := by
  unfold fZ
  rw [fN_val (by omega)]
  omega
theorem fp_int {a b : Fp} (h : (a.val : Int) = b.val) : a = b := Fin.ext (by omega)
theorem fZ_val (a : Fp) : fZ a.val = a := fp_int (by have := a.isLt; rw [fZ_c]; omega)
theorem fZ_add (a b : Int) : fZ (a + b) = fZ a + fZ b := fp_int (by
  have h1 := fZ_c a
  have h2 := fZ_c b
  rw [fZ_c, fv_add]
  omega)
theorem fZ_mul (a b : Int) : fZ (a * b) = fZ a * fZ b := fp_int (by
  rw [fZ_c, fv_mul, Int.natCast_emod, Int.natCast_mul, fZ_c, fZ_c]
  exact Int.mul_emod a b 32003)
theorem fZ_neg (a : Int) : fZ (-a) = - fZ a := by
  have e := fZ_add (-a) a
  rw [show -a + a = 0 by omega, show fZ 0 = 0 from rfl] at e
  grind
theorem ltd_neg {a : Int} (h : a < 0) : a.tdiv 32003 = - ((-a) / 32003) := td_neg h
theorem lrm_toInt (x : Int64) : (lrm x (32003 : Int64)).toInt = x.toInt - x.toInt.tdiv 32003 * 32003 := by
  have b1 := Int64.le_toInt x
  have b2 := Int64.toInt_lt x
  have hq : (x / (32003 : Int64)).toInt = x.toInt.tdiv 32003 := by
    rw [Int64.toInt_div, show (32003 : Int64).toInt = 32003 by decide]
    apply Int.bmod_eq_of_le
    · by_cases h : x.toInt < 0
      · rw [td_neg h]; omega
      · rw [Int.tdiv_eq_ediv_of_nonneg (by omega)]; omega
    · by_cases h : x.toInt < 0
      · rw [td_neg h]; omega
      · rw [Int.tdiv_eq_ediv_of_nonneg (by omega)]; omega
  have hm : (x / (32003 : Int64) * (32003 : Int64)).toInt = x.toInt.tdiv 32003 * 32003 := by
    rw [Int64.toInt_mul, hq, show (32003 : Int64).toInt = 32003 by decide]
    apply Int.bmod_eq_of_le
    · by_cases h : x.toInt < 0
      · rw [td_neg h]; omega
      · rw [Int.tdiv_eq_ediv_of_nonneg (by omega)]; omega
    · by_cases h : x.toInt < 0
      · rw [td_neg h]; omega
      · rw [Int.tdiv_eq_ediv_of_nonneg (by omega)]; omega
  unfold lrm
  rw [Int64.toInt_sub, hm]
  apply Int.bmod_eq_of_le
  · by_cases h : x.toInt < 0
    · rw [td_neg h]; omega
    · rw [Int.tdiv_eq_ediv_of_nonneg (by omega)]; omega
  · by_cases h : x.toInt < 0
    · rw [td_neg h]; omega
    · rw [Int.tdiv_eq_ediv_of_nonneg (by omega)]; omega
theorem l_i {x : Int64} {n : Nat} (h : x.toInt = n) (hn : n < 2 ^ 31) : x.toInt32 = nI n := by
  have : x = lN n := Int64.toInt_inj.mp (by rw [h, pk_lT (by omega)])
  rw [this, lN_i]
/-- modulo -/
theorem mod_s {N : Nat} (x : Int64) (h : Hp) : fX8_modulo N x h = some (nI (fZ x.toInt).val, h) := by
  have b1 := Int64.le_toInt x
  have b2 := Int64.toInt_lt x
  have hv := fZ_c x.toInt
  have hl := (fZ x.toInt).isLt
  have e := lrm_toInt x
  unfold fX8_modulo nm jn
  dsimp only
  have z0 : (0 : Int64).toInt = 0 := by decide
  by_cases h0 : 0 ≤ (lg_cmp (lrm x (32003 : Int64)) (0 : Int64))
  · rw [if_pos h0]
    rw [lg_cmp_ge, Int64.le_iff_toInt_le, z0] at h0
    have : (lrm x (32003 : Int64)).toInt = ((fZ x.toInt).val : Nat) := by
      rw [hv, e]
      rw [e] at h0
      by_cases h1 : x.toInt < 0
      · rw [td_neg h1] at h0 ⊢; omega
      · rw [Int.tdiv_eq_ediv_of_nonneg (by omega)]; omega
    rw [l_i this (by omega)]
  · rw [if_neg h0]
    rw [lg_cmp_ge, Int64.le_iff_toInt_le, z0] at h0
    have : (lrm x (32003 : Int64) + (32003 : Int64)).toInt = ((fZ x.toInt).val : Nat) := by
      rw [Int64.toInt_add, hv, e, show (32003 : Int64).toInt = 32003 by decide]
      rw [e] at h0
      by_cases h1 : x.toInt < 0
      · rw [td_neg h1] at h0 ⊢
        rw [show x.toInt - - (- x.toInt / 32003) * 32003 + 32003 = x.toInt % 32003 by omega]
        apply Int.bmod_eq_of_le <;> omega
      · rw [Int.tdiv_eq_ediv_of_nonneg (by omega)] at h0; omega
    rw [l_i this (by omega)]
theorem lrm_n {a : Nat} (h : a < 2 ^ 63) : lrm (lN a) (32003 : Int64) = lN (a % 32003) := pk_lRem h (by decide) (by decide)
theorem lmul_mod {a b : Nat} (ha : a < 32003) (hb : b < 32003) : lrm (lN a * lN b) (32003 : Int64) = lN (a * b % 32003) := by
  rw [lN_mul]
  exact lrm_n (by have := Nat.mul_lt_mul'' ha hb; omega)
theorem inv8_l {N : Nat} {x : Int32} {h : Hp} : ∀ (n f e r s : Nat), e < 2 ^ n → n < 31 → n < f → r < 32003 → s < 32003 → ∃ y, ∀ κ, lX8_inverse_10 N x f (lN r) (lN s) (nI e) h κ = κ (lN (r * s ^ e % 32003)) y (nI 0) h
  | n, 0, e, r, s, _, _, hf, _, _ => absurd hf (Nat.not_lt_zero _)
  | n, f + 1, 0, r, s, _, _, _, hr, _ => by
    refine ⟨lN s, fun κ => ?_⟩
    rw [lX8_inverse_10, if_pos (show nI 0 ≤ 0 by decide), Nat.pow_zero, Nat.mul_one, Nat.mod_eq_of_lt hr]
  | 0, f + 1, e + 1, r, s, he, _, _, _, _ => absurd he (by omega)
  | n + 1, f + 1, e + 1, r, s, he, hn, hf, hr, hs => by
    have hb : 2 ^ (n + 1) ≤ 2 ^ 30 := Nat.pow_le_pow_right (by decide) (by omega)
    have he2 : (e + 1) / 2 < 2 ^ n := by rw [Nat.pow_succ] at he; omega
    have hpos : ¬ nI (e + 1) ≤ 0 := nI_nle (Nat.succ_pos e) (by omega)
    have e1 : irm (nI (e + 1)) (2 : Int32) = nI ((e + 1) % 2) := pk_rem (by omega) (by decide) (by decide)
    have e2 : nI (e + 1) / (2 : Int32) = nI ((e + 1) / 2) := pk_div (by omega) (by decide) (by decide)
    by_cases ho : (e + 1) % 2 = 1
    · obtain ⟨y, hy⟩ := inv8_l (N := N) (x := x) (h := h) n f ((e + 1) / 2) (r * s % 32003) (s * s % 32003) he2 (by omega) (by omega) (Nat.mod_lt _ (by decide)) (Nat.mod_lt _ (by decide))
      refine ⟨y, fun κ => ?_⟩
      rw [lX8_inverse_10, if_neg hpos]
      unfold jn nm
      dsimp only
      rw [e1, ho, if_pos (show nI 1 = (1 : Int32) from rfl), lmul_mod hr hs, lmul_mod hs hs, e2, hy]
      congr 2
      rw [pow_odd s (e + 1) ho, ← Nat.mul_mod_mod, pow_mod2, Nat.mul_mod_mod, Nat.mod_mul_mod, Nat.mul_assoc]
    · have ho : (e + 1) % 2 = 0 := by omega
      obtain ⟨y, hy⟩ := inv8_l (N := N) (x := x) (h := h) n f ((e + 1) / 2) r (s * s % 32003) he2 (by omega) (by omega) hr (Nat.mod_lt _ (by decide))
      refine ⟨y, fun κ => ?_⟩
      rw [lX8_inverse_10, if_neg hpos]
      unfold jn nm
      dsimp only
      rw [e1, ho, if_neg (show ¬ nI 0 = (1 : Int32) by decide), lmul_mod hs hs, e2, hy]
      congr 2
      rw [pow_even s (e + 1) ho, ← Nat.mul_mod_mod, pow_mod2, Nat.mul_mod_mod]
/-- inverse -/
theorem inverse_s {N : Nat} (hN : 1000 ≤ N) (v : Fp) (h : Hp) : fX8_inverse N (nI v.val) h = some (nI (finv v).val, h) := by
  have hv := v.isLt
  obtain ⟨y, hy⟩ := inv8_l (N := N) (x := nI v.val) (h := h) 15 N 32001 1 v.val (by decide) (by decide) (by omega) (by decide) hv
  unfold fX8_inverse nm
  rw [nI_l (by omega)]
  have e := hy (fun y2 _ _ h5 => some (y2.toInt32, h5))
  rw [Nat.one_mul, lN_i] at e
  rw [finv_val]
  exact e
theorem bits_s {N : Nat} (h : Hp) {r : Nat} (hr : r < 16) : fX8_bits N (nI r) h = some (nI (bc r), h) := by
  have e : ∀ r, r < 16 → (((nI r &&& (1 : Int32)) + ((nI r >>> ((1 : Int32) &&& 31)) &&& (1 : Int32))) + ((nI r >>> ((2 : Int32) &&& 31)) &&& (1 : Int32))) + ((nI r >>> ((3 : Int32) &&& 31)) &&& (1 : Int32)) = nI (bc r) := by decide +kernel
  unfold fX8_bits
  rw [e r hr]
