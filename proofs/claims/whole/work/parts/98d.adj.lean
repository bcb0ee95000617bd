/-! minors written out; the adjugate -/
theorem pC_m1 : pC (-1) = pNeg (pC 1) := po_ext (fun j => by
  rw [co_neg, co_C, co_C]
  split
  · rfl
  · decide)
theorem neg_neg1 : - (-1 : Fp) = 1 := by decide
theorem mE_1_1 (A : Nat → Nat → Po) : mi A 1 1 = (letI := pr; A 0 0) := by
  have e : mi A 1 1 = pAdd (pC 0) (pMul (pC (1)) (pMul (A 0 0) (mi A 0 0))) := rfl
  rw [e, show mi A 0 0 = pC 1 from rfl]
  letI := pr
  simp only [neg_neg1, pC_m1, hA, hM, hG, h0, h1]
  grind
theorem mE_1_2 (A : Nat → Nat → Po) : mi A 1 2 = (letI := pr; A 0 1) := by
  have e : mi A 1 2 = pAdd (pC 0) (pMul (pC (1)) (pMul (A 0 1) (mi A 0 0))) := rfl
  rw [e, show mi A 0 0 = pC 1 from rfl]
  letI := pr
  simp only [neg_neg1, pC_m1, hA, hM, hG, h0, h1]
  grind
theorem mE_1_4 (A : Nat → Nat → Po) : mi A 1 4 = (letI := pr; A 0 2) := by
  have e : mi A 1 4 = pAdd (pC 0) (pMul (pC (1)) (pMul (A 0 2) (mi A 0 0))) := rfl
  rw [e, show mi A 0 0 = pC 1 from rfl]
  letI := pr
  simp only [neg_neg1, pC_m1, hA, hM, hG, h0, h1]
  grind
theorem mE_1_8 (A : Nat → Nat → Po) : mi A 1 8 = (letI := pr; A 0 3) := by
  have e : mi A 1 8 = pAdd (pC 0) (pMul (pC (1)) (pMul (A 0 3) (mi A 0 0))) := rfl
  rw [e, show mi A 0 0 = pC 1 from rfl]
  letI := pr
  simp only [neg_neg1, pC_m1, hA, hM, hG, h0, h1]
  grind
theorem mE_2_1 (A : Nat → Nat → Po) : mi A 2 1 = (letI := pr; A 1 0) := by
  have e : mi A 2 1 = pAdd (pC 0) (pMul (pC (1)) (pMul (A 1 0) (mi A 0 0))) := rfl
  rw [e, show mi A 0 0 = pC 1 from rfl]
  letI := pr
  simp only [neg_neg1, pC_m1, hA, hM, hG, h0, h1]
  grind
theorem mE_2_2 (A : Nat → Nat → Po) : mi A 2 2 = (letI := pr; A 1 1) := by
  have e : mi A 2 2 = pAdd (pC 0) (pMul (pC (1)) (pMul (A 1 1) (mi A 0 0))) := rfl
  rw [e, show mi A 0 0 = pC 1 from rfl]
  letI := pr
  simp only [neg_neg1, pC_m1, hA, hM, hG, h0, h1]
  grind
theorem mE_2_4 (A : Nat → Nat → Po) : mi A 2 4 = (letI := pr; A 1 2) := by
  have e : mi A 2 4 = pAdd (pC 0) (pMul (pC (1)) (pMul (A 1 2) (mi A 0 0))) := rfl
  rw [e, show mi A 0 0 = pC 1 from rfl]
  letI := pr
  simp only [neg_neg1, pC_m1, hA, hM, hG, h0, h1]
  grind
theorem mE_2_8 (A : Nat → Nat → Po) : mi A 2 8 = (letI := pr; A 1 3) := by
  have e : mi A 2 8 = pAdd (pC 0) (pMul (pC (1)) (pMul (A 1 3) (mi A 0 0))) := rfl
  rw [e, show mi A 0 0 = pC 1 from rfl]
  letI := pr
  simp only [neg_neg1, pC_m1, hA, hM, hG, h0, h1]
  grind
theorem mE_4_1 (A : Nat → Nat → Po) : mi A 4 1 = (letI := pr; A 2 0) := by
  have e : mi A 4 1 = pAdd (pC 0) (pMul (pC (1)) (pMul (A 2 0) (mi A 0 0))) := rfl
  rw [e, show mi A 0 0 = pC 1 from rfl]
  letI := pr
  simp only [neg_neg1, pC_m1, hA, hM, hG, h0, h1]
  grind
theorem mE_4_2 (A : Nat → Nat → Po) : mi A 4 2 = (letI := pr; A 2 1) := by
  have e : mi A 4 2 = pAdd (pC 0) (pMul (pC (1)) (pMul (A 2 1) (mi A 0 0))) := rfl
  rw [e, show mi A 0 0 = pC 1 from rfl]
  letI := pr
  simp only [neg_neg1, pC_m1, hA, hM, hG, h0, h1]
  grind
theorem mE_4_4 (A : Nat → Nat → Po) : mi A 4 4 = (letI := pr; A 2 2) := by
  have e : mi A 4 4 = pAdd (pC 0) (pMul (pC (1)) (pMul (A 2 2) (mi A 0 0))) := rfl
  rw [e, show mi A 0 0 = pC 1 from rfl]
  letI := pr
  simp only [neg_neg1, pC_m1, hA, hM, hG, h0, h1]
  grind
theorem mE_4_8 (A : Nat → Nat → Po) : mi A 4 8 = (letI := pr; A 2 3) := by
  have e : mi A 4 8 = pAdd (pC 0) (pMul (pC (1)) (pMul (A 2 3) (mi A 0 0))) := rfl
  rw [e, show mi A 0 0 = pC 1 from rfl]
  letI := pr
  simp only [neg_neg1, pC_m1, hA, hM, hG, h0, h1]
  grind
theorem mE_8_1 (A : Nat → Nat → Po) : mi A 8 1 = (letI := pr; A 3 0) := by
  have e : mi A 8 1 = pAdd (pC 0) (pMul (pC (1)) (pMul (A 3 0) (mi A 0 0))) := rfl
  rw [e, show mi A 0 0 = pC 1 from rfl]
  letI := pr
  simp only [neg_neg1, pC_m1, hA, hM, hG, h0, h1]
  grind
theorem mE_8_2 (A : Nat → Nat → Po) : mi A 8 2 = (letI := pr; A 3 1) := by
  have e : mi A 8 2 = pAdd (pC 0) (pMul (pC (1)) (pMul (A 3 1) (mi A 0 0))) := rfl
  rw [e, show mi A 0 0 = pC 1 from rfl]
  letI := pr
  simp only [neg_neg1, pC_m1, hA, hM, hG, h0, h1]
  grind
theorem mE_8_4 (A : Nat → Nat → Po) : mi A 8 4 = (letI := pr; A 3 2) := by
  have e : mi A 8 4 = pAdd (pC 0) (pMul (pC (1)) (pMul (A 3 2) (mi A 0 0))) := rfl
  rw [e, show mi A 0 0 = pC 1 from rfl]
  letI := pr
  simp only [neg_neg1, pC_m1, hA, hM, hG, h0, h1]
  grind
theorem mE_8_8 (A : Nat → Nat → Po) : mi A 8 8 = (letI := pr; A 3 3) := by
  have e : mi A 8 8 = pAdd (pC 0) (pMul (pC (1)) (pMul (A 3 3) (mi A 0 0))) := rfl
  rw [e, show mi A 0 0 = pC 1 from rfl]
  letI := pr
  simp only [neg_neg1, pC_m1, hA, hM, hG, h0, h1]
  grind
theorem mE_3_3 (A : Nat → Nat → Po) : mi A 3 3 = (letI := pr; A 0 0 * (A 1 1) - A 0 1 * (A 1 0)) := by
  have e : mi A 3 3 = pAdd (pAdd (pC 0) (pMul (pC (1)) (pMul (A 0 0) (mi A 2 2)))) (pMul (pC (-(1 : Fp))) (pMul (A 0 1) (mi A 2 1))) := rfl
  rw [e, mE_2_2, mE_2_1]
  letI := pr
  simp only [neg_neg1, pC_m1, hA, hM, hG, h0, h1]
  grind
theorem mE_3_5 (A : Nat → Nat → Po) : mi A 3 5 = (letI := pr; A 0 0 * (A 1 2) - A 0 2 * (A 1 0)) := by
  have e : mi A 3 5 = pAdd (pAdd (pC 0) (pMul (pC (1)) (pMul (A 0 0) (mi A 2 4)))) (pMul (pC (-(1 : Fp))) (pMul (A 0 2) (mi A 2 1))) := rfl
  rw [e, mE_2_4, mE_2_1]
  letI := pr
  simp only [neg_neg1, pC_m1, hA, hM, hG, h0, h1]
  grind
theorem mE_3_6 (A : Nat → Nat → Po) : mi A 3 6 = (letI := pr; A 0 1 * (A 1 2) - A 0 2 * (A 1 1)) := by
  have e : mi A 3 6 = pAdd (pAdd (pC 0) (pMul (pC (1)) (pMul (A 0 1) (mi A 2 4)))) (pMul (pC (-(1 : Fp))) (pMul (A 0 2) (mi A 2 2))) := rfl
  rw [e, mE_2_4, mE_2_2]
  letI := pr
  simp only [neg_neg1, pC_m1, hA, hM, hG, h0, h1]
  grind
theorem mE_3_9 (A : Nat → Nat → Po) : mi A 3 9 = (letI := pr; A 0 0 * (A 1 3) - A 0 3 * (A 1 0)) := by
  have e : mi A 3 9 = pAdd (pAdd (pC 0) (pMul (pC (1)) (pMul (A 0 0) (mi A 2 8)))) (pMul (pC (-(1 : Fp))) (pMul (A 0 3) (mi A 2 1))) := rfl
  rw [e, mE_2_8, mE_2_1]
  letI := pr
  simp only [neg_neg1, pC_m1, hA, hM, hG, h0, h1]
  grind
theorem mE_3_10 (A : Nat → Nat → Po) : mi A 3 10 = (letI := pr; A 0 1 * (A 1 3) - A 0 3 * (A 1 1)) := by
  have e : mi A 3 10 = pAdd (pAdd (pC 0) (pMul (pC (1)) (pMul (A 0 1) (mi A 2 8)))) (pMul (pC (-(1 : Fp))) (pMul (A 0 3) (mi A 2 2))) := rfl
  rw [e, mE_2_8, mE_2_2]
  letI := pr
  simp only [neg_neg1, pC_m1, hA, hM, hG, h0, h1]
  grind
theorem mE_3_12 (A : Nat → Nat → Po) : mi A 3 12 = (letI := pr; A 0 2 * (A 1 3) - A 0 3 * (A 1 2)) := by
  have e : mi A 3 12 = pAdd (pAdd (pC 0) (pMul (pC (1)) (pMul (A 0 2) (mi A 2 8)))) (pMul (pC (-(1 : Fp))) (pMul (A 0 3) (mi A 2 4))) := rfl
  rw [e, mE_2_8, mE_2_4]
  letI := pr
  simp only [neg_neg1, pC_m1, hA, hM, hG, h0, h1]
  grind
theorem mE_5_3 (A : Nat → Nat → Po) : mi A 5 3 = (letI := pr; A 0 0 * (A 2 1) - A 0 1 * (A 2 0)) := by
  have e : mi A 5 3 = pAdd (pAdd (pC 0) (pMul (pC (1)) (pMul (A 0 0) (mi A 4 2)))) (pMul (pC (-(1 : Fp))) (pMul (A 0 1) (mi A 4 1))) := rfl
  rw [e, mE_4_2, mE_4_1]
  letI := pr
  simp only [neg_neg1, pC_m1, hA, hM, hG, h0, h1]
  grind
theorem mE_5_5 (A : Nat → Nat → Po) : mi A 5 5 = (letI := pr; A 0 0 * (A 2 2) - A 0 2 * (A 2 0)) := by
  have e : mi A 5 5 = pAdd (pAdd (pC 0) (pMul (pC (1)) (pMul (A 0 0) (mi A 4 4)))) (pMul (pC (-(1 : Fp))) (pMul (A 0 2) (mi A 4 1))) := rfl
  rw [e, mE_4_4, mE_4_1]
  letI := pr
  simp only [neg_neg1, pC_m1, hA, hM, hG, h0, h1]
  grind
theorem mE_5_6 (A : Nat → Nat → Po) : mi A 5 6 = (letI := pr; A 0 1 * (A 2 2) - A 0 2 * (A 2 1)) := by
  have e : mi A 5 6 = pAdd (pAdd (pC 0) (pMul (pC (1)) (pMul (A 0 1) (mi A 4 4)))) (pMul (pC (-(1 : Fp))) (pMul (A 0 2) (mi A 4 2))) := rfl
  rw [e, mE_4_4, mE_4_2]
  letI := pr
  simp only [neg_neg1, pC_m1, hA, hM, hG, h0, h1]
  grind
theorem mE_5_9 (A : Nat → Nat → Po) : mi A 5 9 = (letI := pr; A 0 0 * (A 2 3) - A 0 3 * (A 2 0)) := by
  have e : mi A 5 9 = pAdd (pAdd (pC 0) (pMul (pC (1)) (pMul (A 0 0) (mi A 4 8)))) (pMul (pC (-(1 : Fp))) (pMul (A 0 3) (mi A 4 1))) := rfl
  rw [e, mE_4_8, mE_4_1]
  letI := pr
  simp only [neg_neg1, pC_m1, hA, hM, hG, h0, h1]
  grind
theorem mE_5_10 (A : Nat → Nat → Po) : mi A 5 10 = (letI := pr; A 0 1 * (A 2 3) - A 0 3 * (A 2 1)) := by
  have e : mi A 5 10 = pAdd (pAdd (pC 0) (pMul (pC (1)) (pMul (A 0 1) (mi A 4 8)))) (pMul (pC (-(1 : Fp))) (pMul (A 0 3) (mi A 4 2))) := rfl
  rw [e, mE_4_8, mE_4_2]
  letI := pr
  simp only [neg_neg1, pC_m1, hA, hM, hG, h0, h1]
  grind
theorem mE_5_12 (A : Nat → Nat → Po) : mi A 5 12 = (letI := pr; A 0 2 * (A 2 3) - A 0 3 * (A 2 2)) := by
  have e : mi A 5 12 = pAdd (pAdd (pC 0) (pMul (pC (1)) (pMul (A 0 2) (mi A 4 8)))) (pMul (pC (-(1 : Fp))) (pMul (A 0 3) (mi A 4 4))) := rfl
  rw [e, mE_4_8, mE_4_4]
  letI := pr
  simp only [neg_neg1, pC_m1, hA, hM, hG, h0, h1]
  grind
theorem mE_6_3 (A : Nat → Nat → Po) : mi A 6 3 = (letI := pr; A 1 0 * (A 2 1) - A 1 1 * (A 2 0)) := by
  have e : mi A 6 3 = pAdd (pAdd (pC 0) (pMul (pC (1)) (pMul (A 1 0) (mi A 4 2)))) (pMul (pC (-(1 : Fp))) (pMul (A 1 1) (mi A 4 1))) := rfl
  rw [e, mE_4_2, mE_4_1]
  letI := pr
  simp only [neg_neg1, pC_m1, hA, hM, hG, h0, h1]
  grind
theorem mE_6_5 (A : Nat → Nat → Po) : mi A 6 5 = (letI := pr; A 1 0 * (A 2 2) - A 1 2 * (A 2 0)) := by
  have e : mi A 6 5 = pAdd (pAdd (pC 0) (pMul (pC (1)) (pMul (A 1 0) (mi A 4 4)))) (pMul (pC (-(1 : Fp))) (pMul (A 1 2) (mi A 4 1))) := rfl
  rw [e, mE_4_4, mE_4_1]
  letI := pr
  simp only [neg_neg1, pC_m1, hA, hM, hG, h0, h1]
  grind
theorem mE_6_6 (A : Nat → Nat → Po) : mi A 6 6 = (letI := pr; A 1 1 * (A 2 2) - A 1 2 * (A 2 1)) := by
  have e : mi A 6 6 = pAdd (pAdd (pC 0) (pMul (pC (1)) (pMul (A 1 1) (mi A 4 4)))) (pMul (pC (-(1 : Fp))) (pMul (A 1 2) (mi A 4 2))) := rfl
  rw [e, mE_4_4, mE_4_2]
  letI := pr
  simp only [neg_neg1, pC_m1, hA, hM, hG, h0, h1]
  grind
theorem mE_6_9 (A : Nat → Nat → Po) : mi A 6 9 = (letI := pr; A 1 0 * (A 2 3) - A 1 3 * (A 2 0)) := by
  have e : mi A 6 9 = pAdd (pAdd (pC 0) (pMul (pC (1)) (pMul (A 1 0) (mi A 4 8)))) (pMul (pC (-(1 : Fp))) (pMul (A 1 3) (mi A 4 1))) := rfl
  rw [e, mE_4_8, mE_4_1]
  letI := pr
  simp only [neg_neg1, pC_m1, hA, hM, hG, h0, h1]
  grind
theorem mE_6_10 (A : Nat → Nat → Po) : mi A 6 10 = (letI := pr; A 1 1 * (A 2 3) - A 1 3 * (A 2 1)) := by
  have e : mi A 6 10 = pAdd (pAdd (pC 0) (pMul (pC (1)) (pMul (A 1 1) (mi A 4 8)))) (pMul (pC (-(1 : Fp))) (pMul (A 1 3) (mi A 4 2))) := rfl
  rw [e, mE_4_8, mE_4_2]
  letI := pr
  simp only [neg_neg1, pC_m1, hA, hM, hG, h0, h1]
  grind
theorem mE_6_12 (A : Nat → Nat → Po) : mi A 6 12 = (letI := pr; A 1 2 * (A 2 3) - A 1 3 * (A 2 2)) := by
  have e : mi A 6 12 = pAdd (pAdd (pC 0) (pMul (pC (1)) (pMul (A 1 2) (mi A 4 8)))) (pMul (pC (-(1 : Fp))) (pMul (A 1 3) (mi A 4 4))) := rfl
  rw [e, mE_4_8, mE_4_4]
  letI := pr
  simp only [neg_neg1, pC_m1, hA, hM, hG, h0, h1]
  grind
theorem mE_9_3 (A : Nat → Nat → Po) : mi A 9 3 = (letI := pr; A 0 0 * (A 3 1) - A 0 1 * (A 3 0)) := by
  have e : mi A 9 3 = pAdd (pAdd (pC 0) (pMul (pC (1)) (pMul (A 0 0) (mi A 8 2)))) (pMul (pC (-(1 : Fp))) (pMul (A 0 1) (mi A 8 1))) := rfl
  rw [e, mE_8_2, mE_8_1]
  letI := pr
  simp only [neg_neg1, pC_m1, hA, hM, hG, h0, h1]
  grind
theorem mE_9_5 (A : Nat → Nat → Po) : mi A 9 5 = (letI := pr; A 0 0 * (A 3 2) - A 0 2 * (A 3 0)) := by
  have e : mi A 9 5 = pAdd (pAdd (pC 0) (pMul (pC (1)) (pMul (A 0 0) (mi A 8 4)))) (pMul (pC (-(1 : Fp))) (pMul (A 0 2) (mi A 8 1))) := rfl
  rw [e, mE_8_4, mE_8_1]
  letI := pr
  simp only [neg_neg1, pC_m1, hA, hM, hG, h0, h1]
  grind
theorem mE_9_6 (A : Nat → Nat → Po) : mi A 9 6 = (letI := pr; A 0 1 * (A 3 2) - A 0 2 * (A 3 1)) := by
  have e : mi A 9 6 = pAdd (pAdd (pC 0) (pMul (pC (1)) (pMul (A 0 1) (mi A 8 4)))) (pMul (pC (-(1 : Fp))) (pMul (A 0 2) (mi A 8 2))) := rfl
  rw [e, mE_8_4, mE_8_2]
  letI := pr
  simp only [neg_neg1, pC_m1, hA, hM, hG, h0, h1]
  grind
theorem mE_9_9 (A : Nat → Nat → Po) : mi A 9 9 = (letI := pr; A 0 0 * (A 3 3) - A 0 3 * (A 3 0)) := by
  have e : mi A 9 9 = pAdd (pAdd (pC 0) (pMul (pC (1)) (pMul (A 0 0) (mi A 8 8)))) (pMul (pC (-(1 : Fp))) (pMul (A 0 3) (mi A 8 1))) := rfl
  rw [e, mE_8_8, mE_8_1]
  letI := pr
  simp only [neg_neg1, pC_m1, hA, hM, hG, h0, h1]
  grind
theorem mE_9_10 (A : Nat → Nat → Po) : mi A 9 10 = (letI := pr; A 0 1 * (A 3 3) - A 0 3 * (A 3 1)) := by
  have e : mi A 9 10 = pAdd (pAdd (pC 0) (pMul (pC (1)) (pMul (A 0 1) (mi A 8 8)))) (pMul (pC (-(1 : Fp))) (pMul (A 0 3) (mi A 8 2))) := rfl
  rw [e, mE_8_8, mE_8_2]
  letI := pr
  simp only [neg_neg1, pC_m1, hA, hM, hG, h0, h1]
  grind
theorem mE_9_12 (A : Nat → Nat → Po) : mi A 9 12 = (letI := pr; A 0 2 * (A 3 3) - A 0 3 * (A 3 2)) := by
  have e : mi A 9 12 = pAdd (pAdd (pC 0) (pMul (pC (1)) (pMul (A 0 2) (mi A 8 8)))) (pMul (pC (-(1 : Fp))) (pMul (A 0 3) (mi A 8 4))) := rfl
  rw [e, mE_8_8, mE_8_4]
  letI := pr
  simp only [neg_neg1, pC_m1, hA, hM, hG, h0, h1]
  grind
theorem mE_10_3 (A : Nat → Nat → Po) : mi A 10 3 = (letI := pr; A 1 0 * (A 3 1) - A 1 1 * (A 3 0)) := by
  have e : mi A 10 3 = pAdd (pAdd (pC 0) (pMul (pC (1)) (pMul (A 1 0) (mi A 8 2)))) (pMul (pC (-(1 : Fp))) (pMul (A 1 1) (mi A 8 1))) := rfl
  rw [e, mE_8_2, mE_8_1]
  letI := pr
  simp only [neg_neg1, pC_m1, hA, hM, hG, h0, h1]
  grind
theorem mE_10_5 (A : Nat → Nat → Po) : mi A 10 5 = (letI := pr; A 1 0 * (A 3 2) - A 1 2 * (A 3 0)) := by
  have e : mi A 10 5 = pAdd (pAdd (pC 0) (pMul (pC (1)) (pMul (A 1 0) (mi A 8 4)))) (pMul (pC (-(1 : Fp))) (pMul (A 1 2) (mi A 8 1))) := rfl
  rw [e, mE_8_4, mE_8_1]
  letI := pr
  simp only [neg_neg1, pC_m1, hA, hM, hG, h0, h1]
  grind
theorem mE_10_6 (A : Nat → Nat → Po) : mi A 10 6 = (letI := pr; A 1 1 * (A 3 2) - A 1 2 * (A 3 1)) := by
  have e : mi A 10 6 = pAdd (pAdd (pC 0) (pMul (pC (1)) (pMul (A 1 1) (mi A 8 4)))) (pMul (pC (-(1 : Fp))) (pMul (A 1 2) (mi A 8 2))) := rfl
  rw [e, mE_8_4, mE_8_2]
  letI := pr
  simp only [neg_neg1, pC_m1, hA, hM, hG, h0, h1]
  grind
theorem mE_10_9 (A : Nat → Nat → Po) : mi A 10 9 = (letI := pr; A 1 0 * (A 3 3) - A 1 3 * (A 3 0)) := by
  have e : mi A 10 9 = pAdd (pAdd (pC 0) (pMul (pC (1)) (pMul (A 1 0) (mi A 8 8)))) (pMul (pC (-(1 : Fp))) (pMul (A 1 3) (mi A 8 1))) := rfl
  rw [e, mE_8_8, mE_8_1]
  letI := pr
  simp only [neg_neg1, pC_m1, hA, hM, hG, h0, h1]
  grind
theorem mE_10_10 (A : Nat → Nat → Po) : mi A 10 10 = (letI := pr; A 1 1 * (A 3 3) - A 1 3 * (A 3 1)) := by
  have e : mi A 10 10 = pAdd (pAdd (pC 0) (pMul (pC (1)) (pMul (A 1 1) (mi A 8 8)))) (pMul (pC (-(1 : Fp))) (pMul (A 1 3) (mi A 8 2))) := rfl
  rw [e, mE_8_8, mE_8_2]
  letI := pr
  simp only [neg_neg1, pC_m1, hA, hM, hG, h0, h1]
  grind
theorem mE_10_12 (A : Nat → Nat → Po) : mi A 10 12 = (letI := pr; A 1 2 * (A 3 3) - A 1 3 * (A 3 2)) := by
  have e : mi A 10 12 = pAdd (pAdd (pC 0) (pMul (pC (1)) (pMul (A 1 2) (mi A 8 8)))) (pMul (pC (-(1 : Fp))) (pMul (A 1 3) (mi A 8 4))) := rfl
  rw [e, mE_8_8, mE_8_4]
  letI := pr
  simp only [neg_neg1, pC_m1, hA, hM, hG, h0, h1]
  grind
theorem mE_12_3 (A : Nat → Nat → Po) : mi A 12 3 = (letI := pr; A 2 0 * (A 3 1) - A 2 1 * (A 3 0)) := by
  have e : mi A 12 3 = pAdd (pAdd (pC 0) (pMul (pC (1)) (pMul (A 2 0) (mi A 8 2)))) (pMul (pC (-(1 : Fp))) (pMul (A 2 1) (mi A 8 1))) := rfl
  rw [e, mE_8_2, mE_8_1]
  letI := pr
  simp only [neg_neg1, pC_m1, hA, hM, hG, h0, h1]
  grind
theorem mE_12_5 (A : Nat → Nat → Po) : mi A 12 5 = (letI := pr; A 2 0 * (A 3 2) - A 2 2 * (A 3 0)) := by
  have e : mi A 12 5 = pAdd (pAdd (pC 0) (pMul (pC (1)) (pMul (A 2 0) (mi A 8 4)))) (pMul (pC (-(1 : Fp))) (pMul (A 2 2) (mi A 8 1))) := rfl
  rw [e, mE_8_4, mE_8_1]
  letI := pr
  simp only [neg_neg1, pC_m1, hA, hM, hG, h0, h1]
  grind
theorem mE_12_6 (A : Nat → Nat → Po) : mi A 12 6 = (letI := pr; A 2 1 * (A 3 2) - A 2 2 * (A 3 1)) := by
  have e : mi A 12 6 = pAdd (pAdd (pC 0) (pMul (pC (1)) (pMul (A 2 1) (mi A 8 4)))) (pMul (pC (-(1 : Fp))) (pMul (A 2 2) (mi A 8 2))) := rfl
  rw [e, mE_8_4, mE_8_2]
  letI := pr
  simp only [neg_neg1, pC_m1, hA, hM, hG, h0, h1]
  grind
theorem mE_12_9 (A : Nat → Nat → Po) : mi A 12 9 = (letI := pr; A 2 0 * (A 3 3) - A 2 3 * (A 3 0)) := by
  have e : mi A 12 9 = pAdd (pAdd (pC 0) (pMul (pC (1)) (pMul (A 2 0) (mi A 8 8)))) (pMul (pC (-(1 : Fp))) (pMul (A 2 3) (mi A 8 1))) := rfl
  rw [e, mE_8_8, mE_8_1]
  letI := pr
  simp only [neg_neg1, pC_m1, hA, hM, hG, h0, h1]
  grind
theorem mE_12_10 (A : Nat → Nat → Po) : mi A 12 10 = (letI := pr; A 2 1 * (A 3 3) - A 2 3 * (A 3 1)) := by
  have e : mi A 12 10 = pAdd (pAdd (pC 0) (pMul (pC (1)) (pMul (A 2 1) (mi A 8 8)))) (pMul (pC (-(1 : Fp))) (pMul (A 2 3) (mi A 8 2))) := rfl
  rw [e, mE_8_8, mE_8_2]
  letI := pr
  simp only [neg_neg1, pC_m1, hA, hM, hG, h0, h1]
  grind
theorem mE_12_12 (A : Nat → Nat → Po) : mi A 12 12 = (letI := pr; A 2 2 * (A 3 3) - A 2 3 * (A 3 2)) := by
  have e : mi A 12 12 = pAdd (pAdd (pC 0) (pMul (pC (1)) (pMul (A 2 2) (mi A 8 8)))) (pMul (pC (-(1 : Fp))) (pMul (A 2 3) (mi A 8 4))) := rfl
  rw [e, mE_8_8, mE_8_4]
  letI := pr
  simp only [neg_neg1, pC_m1, hA, hM, hG, h0, h1]
  grind
theorem mE_7_7 (A : Nat → Nat → Po) : mi A 7 7 = (letI := pr; A 0 0 * (A 1 1 * (A 2 2) - A 1 2 * (A 2 1)) - A 0 1 * (A 1 0 * (A 2 2) - A 1 2 * (A 2 0)) + A 0 2 * (A 1 0 * (A 2 1) - A 1 1 * (A 2 0))) := by
  have e : mi A 7 7 = pAdd (pAdd (pAdd (pC 0) (pMul (pC (1)) (pMul (A 0 0) (mi A 6 6)))) (pMul (pC (-(1 : Fp))) (pMul (A 0 1) (mi A 6 5)))) (pMul (pC (- (-(1 : Fp)))) (pMul (A 0 2) (mi A 6 3))) := rfl
  rw [e, mE_6_6, mE_6_5, mE_6_3]
  letI := pr
  simp only [neg_neg1, pC_m1, hA, hM, hG, h0, h1]
  grind
theorem mE_7_11 (A : Nat → Nat → Po) : mi A 7 11 = (letI := pr; A 0 0 * (A 1 1 * (A 2 3) - A 1 3 * (A 2 1)) - A 0 1 * (A 1 0 * (A 2 3) - A 1 3 * (A 2 0)) + A 0 3 * (A 1 0 * (A 2 1) - A 1 1 * (A 2 0))) := by
  have e : mi A 7 11 = pAdd (pAdd (pAdd (pC 0) (pMul (pC (1)) (pMul (A 0 0) (mi A 6 10)))) (pMul (pC (-(1 : Fp))) (pMul (A 0 1) (mi A 6 9)))) (pMul (pC (- (-(1 : Fp)))) (pMul (A 0 3) (mi A 6 3))) := rfl
  rw [e, mE_6_10, mE_6_9, mE_6_3]
  letI := pr
  simp only [neg_neg1, pC_m1, hA, hM, hG, h0, h1]
  grind
theorem mE_7_13 (A : Nat → Nat → Po) : mi A 7 13 = (letI := pr; A 0 0 * (A 1 2 * (A 2 3) - A 1 3 * (A 2 2)) - A 0 2 * (A 1 0 * (A 2 3) - A 1 3 * (A 2 0)) + A 0 3 * (A 1 0 * (A 2 2) - A 1 2 * (A 2 0))) := by
  have e : mi A 7 13 = pAdd (pAdd (pAdd (pC 0) (pMul (pC (1)) (pMul (A 0 0) (mi A 6 12)))) (pMul (pC (-(1 : Fp))) (pMul (A 0 2) (mi A 6 9)))) (pMul (pC (- (-(1 : Fp)))) (pMul (A 0 3) (mi A 6 5))) := rfl
  rw [e, mE_6_12, mE_6_9, mE_6_5]
  letI := pr
  simp only [neg_neg1, pC_m1, hA, hM, hG, h0, h1]
  grind
theorem mE_7_14 (A : Nat → Nat → Po) : mi A 7 14 = (letI := pr; A 0 1 * (A 1 2 * (A 2 3) - A 1 3 * (A 2 2)) - A 0 2 * (A 1 1 * (A 2 3) - A 1 3 * (A 2 1)) + A 0 3 * (A 1 1 * (A 2 2) - A 1 2 * (A 2 1))) := by
  have e : mi A 7 14 = pAdd (pAdd (pAdd (pC 0) (pMul (pC (1)) (pMul (A 0 1) (mi A 6 12)))) (pMul (pC (-(1 : Fp))) (pMul (A 0 2) (mi A 6 10)))) (pMul (pC (- (-(1 : Fp)))) (pMul (A 0 3) (mi A 6 6))) := rfl
  rw [e, mE_6_12, mE_6_10, mE_6_6]
  letI := pr
  simp only [neg_neg1, pC_m1, hA, hM, hG, h0, h1]
  grind
theorem mE_11_7 (A : Nat → Nat → Po) : mi A 11 7 = (letI := pr; A 0 0 * (A 1 1 * (A 3 2) - A 1 2 * (A 3 1)) - A 0 1 * (A 1 0 * (A 3 2) - A 1 2 * (A 3 0)) + A 0 2 * (A 1 0 * (A 3 1) - A 1 1 * (A 3 0))) := by
  have e : mi A 11 7 = pAdd (pAdd (pAdd (pC 0) (pMul (pC (1)) (pMul (A 0 0) (mi A 10 6)))) (pMul (pC (-(1 : Fp))) (pMul (A 0 1) (mi A 10 5)))) (pMul (pC (- (-(1 : Fp)))) (pMul (A 0 2) (mi A 10 3))) := rfl
  rw [e, mE_10_6, mE_10_5, mE_10_3]
  letI := pr
  simp only [neg_neg1, pC_m1, hA, hM, hG, h0, h1]
  grind
theorem mE_11_11 (A : Nat → Nat → Po) : mi A 11 11 = (letI := pr; A 0 0 * (A 1 1 * (A 3 3) - A 1 3 * (A 3 1)) - A 0 1 * (A 1 0 * (A 3 3) - A 1 3 * (A 3 0)) + A 0 3 * (A 1 0 * (A 3 1) - A 1 1 * (A 3 0))) := by
  have e : mi A 11 11 = pAdd (pAdd (pAdd (pC 0) (pMul (pC (1)) (pMul (A 0 0) (mi A 10 10)))) (pMul (pC (-(1 : Fp))) (pMul (A 0 1) (mi A 10 9)))) (pMul (pC (- (-(1 : Fp)))) (pMul (A 0 3) (mi A 10 3))) := rfl
  rw [e, mE_10_10, mE_10_9, mE_10_3]
  letI := pr
  simp only [neg_neg1, pC_m1, hA, hM, hG, h0, h1]
  grind
theorem mE_11_13 (A : Nat → Nat → Po) : mi A 11 13 = (letI := pr; A 0 0 * (A 1 2 * (A 3 3) - A 1 3 * (A 3 2)) - A 0 2 * (A 1 0 * (A 3 3) - A 1 3 * (A 3 0)) + A 0 3 * (A 1 0 * (A 3 2) - A 1 2 * (A 3 0))) := by
  have e : mi A 11 13 = pAdd (pAdd (pAdd (pC 0) (pMul (pC (1)) (pMul (A 0 0) (mi A 10 12)))) (pMul (pC (-(1 : Fp))) (pMul (A 0 2) (mi A 10 9)))) (pMul (pC (- (-(1 : Fp)))) (pMul (A 0 3) (mi A 10 5))) := rfl
  rw [e, mE_10_12, mE_10_9, mE_10_5]
  letI := pr
  simp only [neg_neg1, pC_m1, hA, hM, hG, h0, h1]
  grind
theorem mE_11_14 (A : Nat → Nat → Po) : mi A 11 14 = (letI := pr; A 0 1 * (A 1 2 * (A 3 3) - A 1 3 * (A 3 2)) - A 0 2 * (A 1 1 * (A 3 3) - A 1 3 * (A 3 1)) + A 0 3 * (A 1 1 * (A 3 2) - A 1 2 * (A 3 1))) := by
  have e : mi A 11 14 = pAdd (pAdd (pAdd (pC 0) (pMul (pC (1)) (pMul (A 0 1) (mi A 10 12)))) (pMul (pC (-(1 : Fp))) (pMul (A 0 2) (mi A 10 10)))) (pMul (pC (- (-(1 : Fp)))) (pMul (A 0 3) (mi A 10 6))) := rfl
  rw [e, mE_10_12, mE_10_10, mE_10_6]
  letI := pr
  simp only [neg_neg1, pC_m1, hA, hM, hG, h0, h1]
  grind
theorem mE_13_7 (A : Nat → Nat → Po) : mi A 13 7 = (letI := pr; A 0 0 * (A 2 1 * (A 3 2) - A 2 2 * (A 3 1)) - A 0 1 * (A 2 0 * (A 3 2) - A 2 2 * (A 3 0)) + A 0 2 * (A 2 0 * (A 3 1) - A 2 1 * (A 3 0))) := by
  have e : mi A 13 7 = pAdd (pAdd (pAdd (pC 0) (pMul (pC (1)) (pMul (A 0 0) (mi A 12 6)))) (pMul (pC (-(1 : Fp))) (pMul (A 0 1) (mi A 12 5)))) (pMul (pC (- (-(1 : Fp)))) (pMul (A 0 2) (mi A 12 3))) := rfl
  rw [e, mE_12_6, mE_12_5, mE_12_3]
  letI := pr
  simp only [neg_neg1, pC_m1, hA, hM, hG, h0, h1]
  grind
theorem mE_13_11 (A : Nat → Nat → Po) : mi A 13 11 = (letI := pr; A 0 0 * (A 2 1 * (A 3 3) - A 2 3 * (A 3 1)) - A 0 1 * (A 2 0 * (A 3 3) - A 2 3 * (A 3 0)) + A 0 3 * (A 2 0 * (A 3 1) - A 2 1 * (A 3 0))) := by
  have e : mi A 13 11 = pAdd (pAdd (pAdd (pC 0) (pMul (pC (1)) (pMul (A 0 0) (mi A 12 10)))) (pMul (pC (-(1 : Fp))) (pMul (A 0 1) (mi A 12 9)))) (pMul (pC (- (-(1 : Fp)))) (pMul (A 0 3) (mi A 12 3))) := rfl
  rw [e, mE_12_10, mE_12_9, mE_12_3]
  letI := pr
  simp only [neg_neg1, pC_m1, hA, hM, hG, h0, h1]
  grind
theorem mE_13_13 (A : Nat → Nat → Po) : mi A 13 13 = (letI := pr; A 0 0 * (A 2 2 * (A 3 3) - A 2 3 * (A 3 2)) - A 0 2 * (A 2 0 * (A 3 3) - A 2 3 * (A 3 0)) + A 0 3 * (A 2 0 * (A 3 2) - A 2 2 * (A 3 0))) := by
  have e : mi A 13 13 = pAdd (pAdd (pAdd (pC 0) (pMul (pC (1)) (pMul (A 0 0) (mi A 12 12)))) (pMul (pC (-(1 : Fp))) (pMul (A 0 2) (mi A 12 9)))) (pMul (pC (- (-(1 : Fp)))) (pMul (A 0 3) (mi A 12 5))) := rfl
  rw [e, mE_12_12, mE_12_9, mE_12_5]
  letI := pr
  simp only [neg_neg1, pC_m1, hA, hM, hG, h0, h1]
  grind
theorem mE_13_14 (A : Nat → Nat → Po) : mi A 13 14 = (letI := pr; A 0 1 * (A 2 2 * (A 3 3) - A 2 3 * (A 3 2)) - A 0 2 * (A 2 1 * (A 3 3) - A 2 3 * (A 3 1)) + A 0 3 * (A 2 1 * (A 3 2) - A 2 2 * (A 3 1))) := by
  have e : mi A 13 14 = pAdd (pAdd (pAdd (pC 0) (pMul (pC (1)) (pMul (A 0 1) (mi A 12 12)))) (pMul (pC (-(1 : Fp))) (pMul (A 0 2) (mi A 12 10)))) (pMul (pC (- (-(1 : Fp)))) (pMul (A 0 3) (mi A 12 6))) := rfl
  rw [e, mE_12_12, mE_12_10, mE_12_6]
  letI := pr
  simp only [neg_neg1, pC_m1, hA, hM, hG, h0, h1]
  grind
theorem mE_14_7 (A : Nat → Nat → Po) : mi A 14 7 = (letI := pr; A 1 0 * (A 2 1 * (A 3 2) - A 2 2 * (A 3 1)) - A 1 1 * (A 2 0 * (A 3 2) - A 2 2 * (A 3 0)) + A 1 2 * (A 2 0 * (A 3 1) - A 2 1 * (A 3 0))) := by
  have e : mi A 14 7 = pAdd (pAdd (pAdd (pC 0) (pMul (pC (1)) (pMul (A 1 0) (mi A 12 6)))) (pMul (pC (-(1 : Fp))) (pMul (A 1 1) (mi A 12 5)))) (pMul (pC (- (-(1 : Fp)))) (pMul (A 1 2) (mi A 12 3))) := rfl
  rw [e, mE_12_6, mE_12_5, mE_12_3]
  letI := pr
  simp only [neg_neg1, pC_m1, hA, hM, hG, h0, h1]
  grind
theorem mE_14_11 (A : Nat → Nat → Po) : mi A 14 11 = (letI := pr; A 1 0 * (A 2 1 * (A 3 3) - A 2 3 * (A 3 1)) - A 1 1 * (A 2 0 * (A 3 3) - A 2 3 * (A 3 0)) + A 1 3 * (A 2 0 * (A 3 1) - A 2 1 * (A 3 0))) := by
  have e : mi A 14 11 = pAdd (pAdd (pAdd (pC 0) (pMul (pC (1)) (pMul (A 1 0) (mi A 12 10)))) (pMul (pC (-(1 : Fp))) (pMul (A 1 1) (mi A 12 9)))) (pMul (pC (- (-(1 : Fp)))) (pMul (A 1 3) (mi A 12 3))) := rfl
  rw [e, mE_12_10, mE_12_9, mE_12_3]
  letI := pr
  simp only [neg_neg1, pC_m1, hA, hM, hG, h0, h1]
  grind
theorem mE_14_13 (A : Nat → Nat → Po) : mi A 14 13 = (letI := pr; A 1 0 * (A 2 2 * (A 3 3) - A 2 3 * (A 3 2)) - A 1 2 * (A 2 0 * (A 3 3) - A 2 3 * (A 3 0)) + A 1 3 * (A 2 0 * (A 3 2) - A 2 2 * (A 3 0))) := by
  have e : mi A 14 13 = pAdd (pAdd (pAdd (pC 0) (pMul (pC (1)) (pMul (A 1 0) (mi A 12 12)))) (pMul (pC (-(1 : Fp))) (pMul (A 1 2) (mi A 12 9)))) (pMul (pC (- (-(1 : Fp)))) (pMul (A 1 3) (mi A 12 5))) := rfl
  rw [e, mE_12_12, mE_12_9, mE_12_5]
  letI := pr
  simp only [neg_neg1, pC_m1, hA, hM, hG, h0, h1]
  grind
theorem mE_14_14 (A : Nat → Nat → Po) : mi A 14 14 = (letI := pr; A 1 1 * (A 2 2 * (A 3 3) - A 2 3 * (A 3 2)) - A 1 2 * (A 2 1 * (A 3 3) - A 2 3 * (A 3 1)) + A 1 3 * (A 2 1 * (A 3 2) - A 2 2 * (A 3 1))) := by
  have e : mi A 14 14 = pAdd (pAdd (pAdd (pC 0) (pMul (pC (1)) (pMul (A 1 1) (mi A 12 12)))) (pMul (pC (-(1 : Fp))) (pMul (A 1 2) (mi A 12 10)))) (pMul (pC (- (-(1 : Fp)))) (pMul (A 1 3) (mi A 12 6))) := rfl
  rw [e, mE_12_12, mE_12_10, mE_12_6]
  letI := pr
  simp only [neg_neg1, pC_m1, hA, hM, hG, h0, h1]
  grind
theorem mE_15_15 (A : Nat → Nat → Po) : mi A 15 15 = (letI := pr; A 0 0 * (A 1 1 * (A 2 2 * (A 3 3) - A 2 3 * (A 3 2)) - A 1 2 * (A 2 1 * (A 3 3) - A 2 3 * (A 3 1)) + A 1 3 * (A 2 1 * (A 3 2) - A 2 2 * (A 3 1))) - A 0 1 * (A 1 0 * (A 2 2 * (A 3 3) - A 2 3 * (A 3 2)) - A 1 2 * (A 2 0 * (A 3 3) - A 2 3 * (A 3 0)) + A 1 3 * (A 2 0 * (A 3 2) - A 2 2 * (A 3 0))) + A 0 2 * (A 1 0 * (A 2 1 * (A 3 3) - A 2 3 * (A 3 1)) - A 1 1 * (A 2 0 * (A 3 3) - A 2 3 * (A 3 0)) + A 1 3 * (A 2 0 * (A 3 1) - A 2 1 * (A 3 0))) - A 0 3 * (A 1 0 * (A 2 1 * (A 3 2) - A 2 2 * (A 3 1)) - A 1 1 * (A 2 0 * (A 3 2) - A 2 2 * (A 3 0)) + A 1 2 * (A 2 0 * (A 3 1) - A 2 1 * (A 3 0)))) := by
  have e : mi A 15 15 = pAdd (pAdd (pAdd (pAdd (pC 0) (pMul (pC (1)) (pMul (A 0 0) (mi A 14 14)))) (pMul (pC (-(1 : Fp))) (pMul (A 0 1) (mi A 14 13)))) (pMul (pC (- (-(1 : Fp)))) (pMul (A 0 2) (mi A 14 11)))) (pMul (pC (- (- (-(1 : Fp))))) (pMul (A 0 3) (mi A 14 7))) := rfl
  rw [e, mE_14_14, mE_14_13, mE_14_11, mE_14_7]
  letI := pr
  simp only [neg_neg1, pC_m1, hA, hM, hG, h0, h1]
  grind
/-- the adjugate's entry -/
noncomputable def adj (A : Nat → Nat → Po) (R k j : Nat) : Po := pMul (pC (sgn k j)) (mi A (2 ^ R - 1 - 2 ^ j) (2 ^ R - 1 - 2 ^ k))
theorem adj_1_0_0 (A : Nat → Nat → Po) : adj A 1 0 0 = mi A 0 0 := pOne_mul _
theorem adj_2_0_0 (A : Nat → Nat → Po) : adj A 2 0 0 = mi A 2 2 := pOne_mul _
theorem adj_2_1_0 (A : Nat → Nat → Po) : adj A 2 1 0 = pNeg (mi A 2 1) := by
  show pMul (pC (-1)) (mi A 2 1) = _
  rw [pC_m1, pNeg_mul, pOne_mul]
theorem adj_2_0_1 (A : Nat → Nat → Po) : adj A 2 0 1 = pNeg (mi A 1 2) := by
  show pMul (pC (-1)) (mi A 1 2) = _
  rw [pC_m1, pNeg_mul, pOne_mul]
theorem adj_2_1_1 (A : Nat → Nat → Po) : adj A 2 1 1 = mi A 1 1 := pOne_mul _
theorem adj_3_0_0 (A : Nat → Nat → Po) : adj A 3 0 0 = mi A 6 6 := pOne_mul _
theorem adj_3_1_0 (A : Nat → Nat → Po) : adj A 3 1 0 = pNeg (mi A 6 5) := by
  show pMul (pC (-1)) (mi A 6 5) = _
  rw [pC_m1, pNeg_mul, pOne_mul]
theorem adj_3_2_0 (A : Nat → Nat → Po) : adj A 3 2 0 = mi A 6 3 := pOne_mul _
theorem adj_3_0_1 (A : Nat → Nat → Po) : adj A 3 0 1 = pNeg (mi A 5 6) := by
  show pMul (pC (-1)) (mi A 5 6) = _
  rw [pC_m1, pNeg_mul, pOne_mul]
theorem adj_3_1_1 (A : Nat → Nat → Po) : adj A 3 1 1 = mi A 5 5 := pOne_mul _
theorem adj_3_2_1 (A : Nat → Nat → Po) : adj A 3 2 1 = pNeg (mi A 5 3) := by
  show pMul (pC (-1)) (mi A 5 3) = _
  rw [pC_m1, pNeg_mul, pOne_mul]
theorem adj_3_0_2 (A : Nat → Nat → Po) : adj A 3 0 2 = mi A 3 6 := pOne_mul _
theorem adj_3_1_2 (A : Nat → Nat → Po) : adj A 3 1 2 = pNeg (mi A 3 5) := by
  show pMul (pC (-1)) (mi A 3 5) = _
  rw [pC_m1, pNeg_mul, pOne_mul]
theorem adj_3_2_2 (A : Nat → Nat → Po) : adj A 3 2 2 = mi A 3 3 := pOne_mul _
theorem adj_4_0_0 (A : Nat → Nat → Po) : adj A 4 0 0 = mi A 14 14 := pOne_mul _
theorem adj_4_1_0 (A : Nat → Nat → Po) : adj A 4 1 0 = pNeg (mi A 14 13) := by
  show pMul (pC (-1)) (mi A 14 13) = _
  rw [pC_m1, pNeg_mul, pOne_mul]
theorem adj_4_2_0 (A : Nat → Nat → Po) : adj A 4 2 0 = mi A 14 11 := pOne_mul _
theorem adj_4_3_0 (A : Nat → Nat → Po) : adj A 4 3 0 = pNeg (mi A 14 7) := by
  show pMul (pC (-1)) (mi A 14 7) = _
  rw [pC_m1, pNeg_mul, pOne_mul]
theorem adj_4_0_1 (A : Nat → Nat → Po) : adj A 4 0 1 = pNeg (mi A 13 14) := by
  show pMul (pC (-1)) (mi A 13 14) = _
  rw [pC_m1, pNeg_mul, pOne_mul]
theorem adj_4_1_1 (A : Nat → Nat → Po) : adj A 4 1 1 = mi A 13 13 := pOne_mul _
theorem adj_4_2_1 (A : Nat → Nat → Po) : adj A 4 2 1 = pNeg (mi A 13 11) := by
  show pMul (pC (-1)) (mi A 13 11) = _
  rw [pC_m1, pNeg_mul, pOne_mul]
theorem adj_4_3_1 (A : Nat → Nat → Po) : adj A 4 3 1 = mi A 13 7 := pOne_mul _
theorem adj_4_0_2 (A : Nat → Nat → Po) : adj A 4 0 2 = mi A 11 14 := pOne_mul _
theorem adj_4_1_2 (A : Nat → Nat → Po) : adj A 4 1 2 = pNeg (mi A 11 13) := by
  show pMul (pC (-1)) (mi A 11 13) = _
  rw [pC_m1, pNeg_mul, pOne_mul]
theorem adj_4_2_2 (A : Nat → Nat → Po) : adj A 4 2 2 = mi A 11 11 := pOne_mul _
theorem adj_4_3_2 (A : Nat → Nat → Po) : adj A 4 3 2 = pNeg (mi A 11 7) := by
  show pMul (pC (-1)) (mi A 11 7) = _
  rw [pC_m1, pNeg_mul, pOne_mul]
theorem adj_4_0_3 (A : Nat → Nat → Po) : adj A 4 0 3 = pNeg (mi A 7 14) := by
  show pMul (pC (-1)) (mi A 7 14) = _
  rw [pC_m1, pNeg_mul, pOne_mul]
theorem adj_4_1_3 (A : Nat → Nat → Po) : adj A 4 1 3 = mi A 7 13 := pOne_mul _
theorem adj_4_2_3 (A : Nat → Nat → Po) : adj A 4 2 3 = pNeg (mi A 7 11) := by
  show pMul (pC (-1)) (mi A 7 11) = _
  rw [pC_m1, pNeg_mul, pOne_mul]
theorem adj_4_3_3 (A : Nat → Nat → Po) : adj A 4 3 3 = mi A 7 7 := pOne_mul _
theorem ajR_1_0_0 (A : Nat → Nat → Po) : pAdd (pC 0) (pMul (A 0 0) (adj A 1 0 0)) = mi A 1 1 := by
  rw [adj_1_0_0, show mi A 0 0 = pC 1 from rfl, mE_1_1]
  letI := pr
  simp only [hA, hM, hG, h0, h1]
  grind
theorem ajL_1_0_0 (A : Nat → Nat → Po) : pAdd (pC 0) (pMul (adj A 1 0 0) (A 0 0)) = mi A 1 1 := by
  rw [adj_1_0_0, show mi A 0 0 = pC 1 from rfl, mE_1_1]
  letI := pr
  simp only [hA, hM, hG, h0, h1]
  grind
theorem ajR_2_0_0 (A : Nat → Nat → Po) : pAdd (pAdd (pC 0) (pMul (A 0 0) (adj A 2 0 0))) (pMul (A 0 1) (adj A 2 1 0)) = mi A 3 3 := by
  rw [adj_2_0_0, adj_2_1_0, mE_2_2, mE_2_1, mE_3_3]
  letI := pr
  simp only [hA, hM, hG, h0, h1]
  grind
theorem ajR_2_0_1 (A : Nat → Nat → Po) : pAdd (pAdd (pC 0) (pMul (A 0 0) (adj A 2 0 1))) (pMul (A 0 1) (adj A 2 1 1)) = pC 0 := by
  rw [adj_2_0_1, adj_2_1_1, mE_1_2, mE_1_1]
  letI := pr
  simp only [hA, hM, hG, h0, h1]
  grind
theorem ajR_2_1_0 (A : Nat → Nat → Po) : pAdd (pAdd (pC 0) (pMul (A 1 0) (adj A 2 0 0))) (pMul (A 1 1) (adj A 2 1 0)) = pC 0 := by
  rw [adj_2_0_0, adj_2_1_0, mE_2_2, mE_2_1]
  letI := pr
  simp only [hA, hM, hG, h0, h1]
  grind
theorem ajR_2_1_1 (A : Nat → Nat → Po) : pAdd (pAdd (pC 0) (pMul (A 1 0) (adj A 2 0 1))) (pMul (A 1 1) (adj A 2 1 1)) = mi A 3 3 := by
  rw [adj_2_0_1, adj_2_1_1, mE_1_2, mE_1_1, mE_3_3]
  letI := pr
  simp only [hA, hM, hG, h0, h1]
  grind
theorem ajL_2_0_0 (A : Nat → Nat → Po) : pAdd (pAdd (pC 0) (pMul (adj A 2 0 0) (A 0 0))) (pMul (adj A 2 0 1) (A 1 0)) = mi A 3 3 := by
  rw [adj_2_0_0, adj_2_0_1, mE_2_2, mE_1_2, mE_3_3]
  letI := pr
  simp only [hA, hM, hG, h0, h1]
  grind
theorem ajL_2_0_1 (A : Nat → Nat → Po) : pAdd (pAdd (pC 0) (pMul (adj A 2 0 0) (A 0 1))) (pMul (adj A 2 0 1) (A 1 1)) = pC 0 := by
  rw [adj_2_0_0, adj_2_0_1, mE_2_2, mE_1_2]
  letI := pr
  simp only [hA, hM, hG, h0, h1]
  grind
theorem ajL_2_1_0 (A : Nat → Nat → Po) : pAdd (pAdd (pC 0) (pMul (adj A 2 1 0) (A 0 0))) (pMul (adj A 2 1 1) (A 1 0)) = pC 0 := by
  rw [adj_2_1_0, adj_2_1_1, mE_2_1, mE_1_1]
  letI := pr
  simp only [hA, hM, hG, h0, h1]
  grind
theorem ajL_2_1_1 (A : Nat → Nat → Po) : pAdd (pAdd (pC 0) (pMul (adj A 2 1 0) (A 0 1))) (pMul (adj A 2 1 1) (A 1 1)) = mi A 3 3 := by
  rw [adj_2_1_0, adj_2_1_1, mE_2_1, mE_1_1, mE_3_3]
  letI := pr
  simp only [hA, hM, hG, h0, h1]
  grind
theorem ajR_3_0_0 (A : Nat → Nat → Po) : pAdd (pAdd (pAdd (pC 0) (pMul (A 0 0) (adj A 3 0 0))) (pMul (A 0 1) (adj A 3 1 0))) (pMul (A 0 2) (adj A 3 2 0)) = mi A 7 7 := by
  rw [adj_3_0_0, adj_3_1_0, adj_3_2_0, mE_6_6, mE_6_5, mE_6_3, mE_7_7]
  letI := pr
  simp only [hA, hM, hG, h0, h1]
  grind
theorem ajR_3_0_1 (A : Nat → Nat → Po) : pAdd (pAdd (pAdd (pC 0) (pMul (A 0 0) (adj A 3 0 1))) (pMul (A 0 1) (adj A 3 1 1))) (pMul (A 0 2) (adj A 3 2 1)) = pC 0 := by
  rw [adj_3_0_1, adj_3_1_1, adj_3_2_1, mE_5_6, mE_5_5, mE_5_3]
  letI := pr
  simp only [hA, hM, hG, h0, h1]
  grind
theorem ajR_3_0_2 (A : Nat → Nat → Po) : pAdd (pAdd (pAdd (pC 0) (pMul (A 0 0) (adj A 3 0 2))) (pMul (A 0 1) (adj A 3 1 2))) (pMul (A 0 2) (adj A 3 2 2)) = pC 0 := by
  rw [adj_3_0_2, adj_3_1_2, adj_3_2_2, mE_3_6, mE_3_5, mE_3_3]
  letI := pr
  simp only [hA, hM, hG, h0, h1]
  grind
theorem ajR_3_1_0 (A : Nat → Nat → Po) : pAdd (pAdd (pAdd (pC 0) (pMul (A 1 0) (adj A 3 0 0))) (pMul (A 1 1) (adj A 3 1 0))) (pMul (A 1 2) (adj A 3 2 0)) = pC 0 := by
  rw [adj_3_0_0, adj_3_1_0, adj_3_2_0, mE_6_6, mE_6_5, mE_6_3]
  letI := pr
  simp only [hA, hM, hG, h0, h1]
  grind
theorem ajR_3_1_1 (A : Nat → Nat → Po) : pAdd (pAdd (pAdd (pC 0) (pMul (A 1 0) (adj A 3 0 1))) (pMul (A 1 1) (adj A 3 1 1))) (pMul (A 1 2) (adj A 3 2 1)) = mi A 7 7 := by
  rw [adj_3_0_1, adj_3_1_1, adj_3_2_1, mE_5_6, mE_5_5, mE_5_3, mE_7_7]
  letI := pr
  simp only [hA, hM, hG, h0, h1]
  grind
theorem ajR_3_1_2 (A : Nat → Nat → Po) : pAdd (pAdd (pAdd (pC 0) (pMul (A 1 0) (adj A 3 0 2))) (pMul (A 1 1) (adj A 3 1 2))) (pMul (A 1 2) (adj A 3 2 2)) = pC 0 := by
  rw [adj_3_0_2, adj_3_1_2, adj_3_2_2, mE_3_6, mE_3_5, mE_3_3]
  letI := pr
  simp only [hA, hM, hG, h0, h1]
  grind
theorem ajR_3_2_0 (A : Nat → Nat → Po) : pAdd (pAdd (pAdd (pC 0) (pMul (A 2 0) (adj A 3 0 0))) (pMul (A 2 1) (adj A 3 1 0))) (pMul (A 2 2) (adj A 3 2 0)) = pC 0 := by
  rw [adj_3_0_0, adj_3_1_0, adj_3_2_0, mE_6_6, mE_6_5, mE_6_3]
  letI := pr
  simp only [hA, hM, hG, h0, h1]
  grind
theorem ajR_3_2_1 (A : Nat → Nat → Po) : pAdd (pAdd (pAdd (pC 0) (pMul (A 2 0) (adj A 3 0 1))) (pMul (A 2 1) (adj A 3 1 1))) (pMul (A 2 2) (adj A 3 2 1)) = pC 0 := by
  rw [adj_3_0_1, adj_3_1_1, adj_3_2_1, mE_5_6, mE_5_5, mE_5_3]
  letI := pr
  simp only [hA, hM, hG, h0, h1]
  grind
theorem ajR_3_2_2 (A : Nat → Nat → Po) : pAdd (pAdd (pAdd (pC 0) (pMul (A 2 0) (adj A 3 0 2))) (pMul (A 2 1) (adj A 3 1 2))) (pMul (A 2 2) (adj A 3 2 2)) = mi A 7 7 := by
  rw [adj_3_0_2, adj_3_1_2, adj_3_2_2, mE_3_6, mE_3_5, mE_3_3, mE_7_7]
  letI := pr
  simp only [hA, hM, hG, h0, h1]
  grind
theorem ajL_3_0_0 (A : Nat → Nat → Po) : pAdd (pAdd (pAdd (pC 0) (pMul (adj A 3 0 0) (A 0 0))) (pMul (adj A 3 0 1) (A 1 0))) (pMul (adj A 3 0 2) (A 2 0)) = mi A 7 7 := by
  rw [adj_3_0_0, adj_3_0_1, adj_3_0_2, mE_6_6, mE_5_6, mE_3_6, mE_7_7]
  letI := pr
  simp only [hA, hM, hG, h0, h1]
  grind
theorem ajL_3_0_1 (A : Nat → Nat → Po) : pAdd (pAdd (pAdd (pC 0) (pMul (adj A 3 0 0) (A 0 1))) (pMul (adj A 3 0 1) (A 1 1))) (pMul (adj A 3 0 2) (A 2 1)) = pC 0 := by
  rw [adj_3_0_0, adj_3_0_1, adj_3_0_2, mE_6_6, mE_5_6, mE_3_6]
  letI := pr
  simp only [hA, hM, hG, h0, h1]
  grind
theorem ajL_3_0_2 (A : Nat → Nat → Po) : pAdd (pAdd (pAdd (pC 0) (pMul (adj A 3 0 0) (A 0 2))) (pMul (adj A 3 0 1) (A 1 2))) (pMul (adj A 3 0 2) (A 2 2)) = pC 0 := by
  rw [adj_3_0_0, adj_3_0_1, adj_3_0_2, mE_6_6, mE_5_6, mE_3_6]
  letI := pr
  simp only [hA, hM, hG, h0, h1]
  grind
theorem ajL_3_1_0 (A : Nat → Nat → Po) : pAdd (pAdd (pAdd (pC 0) (pMul (adj A 3 1 0) (A 0 0))) (pMul (adj A 3 1 1) (A 1 0))) (pMul (adj A 3 1 2) (A 2 0)) = pC 0 := by
  rw [adj_3_1_0, adj_3_1_1, adj_3_1_2, mE_6_5, mE_5_5, mE_3_5]
  letI := pr
  simp only [hA, hM, hG, h0, h1]
  grind
theorem ajL_3_1_1 (A : Nat → Nat → Po) : pAdd (pAdd (pAdd (pC 0) (pMul (adj A 3 1 0) (A 0 1))) (pMul (adj A 3 1 1) (A 1 1))) (pMul (adj A 3 1 2) (A 2 1)) = mi A 7 7 := by
  rw [adj_3_1_0, adj_3_1_1, adj_3_1_2, mE_6_5, mE_5_5, mE_3_5, mE_7_7]
  letI := pr
  simp only [hA, hM, hG, h0, h1]
  grind
theorem ajL_3_1_2 (A : Nat → Nat → Po) : pAdd (pAdd (pAdd (pC 0) (pMul (adj A 3 1 0) (A 0 2))) (pMul (adj A 3 1 1) (A 1 2))) (pMul (adj A 3 1 2) (A 2 2)) = pC 0 := by
  rw [adj_3_1_0, adj_3_1_1, adj_3_1_2, mE_6_5, mE_5_5, mE_3_5]
  letI := pr
  simp only [hA, hM, hG, h0, h1]
  grind
theorem ajL_3_2_0 (A : Nat → Nat → Po) : pAdd (pAdd (pAdd (pC 0) (pMul (adj A 3 2 0) (A 0 0))) (pMul (adj A 3 2 1) (A 1 0))) (pMul (adj A 3 2 2) (A 2 0)) = pC 0 := by
  rw [adj_3_2_0, adj_3_2_1, adj_3_2_2, mE_6_3, mE_5_3, mE_3_3]
  letI := pr
  simp only [hA, hM, hG, h0, h1]
  grind
theorem ajL_3_2_1 (A : Nat → Nat → Po) : pAdd (pAdd (pAdd (pC 0) (pMul (adj A 3 2 0) (A 0 1))) (pMul (adj A 3 2 1) (A 1 1))) (pMul (adj A 3 2 2) (A 2 1)) = pC 0 := by
  rw [adj_3_2_0, adj_3_2_1, adj_3_2_2, mE_6_3, mE_5_3, mE_3_3]
  letI := pr
  simp only [hA, hM, hG, h0, h1]
  grind
theorem ajL_3_2_2 (A : Nat → Nat → Po) : pAdd (pAdd (pAdd (pC 0) (pMul (adj A 3 2 0) (A 0 2))) (pMul (adj A 3 2 1) (A 1 2))) (pMul (adj A 3 2 2) (A 2 2)) = mi A 7 7 := by
  rw [adj_3_2_0, adj_3_2_1, adj_3_2_2, mE_6_3, mE_5_3, mE_3_3, mE_7_7]
  letI := pr
  simp only [hA, hM, hG, h0, h1]
  grind
theorem ajR_4_0_0 (A : Nat → Nat → Po) : pAdd (pAdd (pAdd (pAdd (pC 0) (pMul (A 0 0) (adj A 4 0 0))) (pMul (A 0 1) (adj A 4 1 0))) (pMul (A 0 2) (adj A 4 2 0))) (pMul (A 0 3) (adj A 4 3 0)) = mi A 15 15 := by
  rw [adj_4_0_0, adj_4_1_0, adj_4_2_0, adj_4_3_0, mE_14_14, mE_14_13, mE_14_11, mE_14_7, mE_15_15]
  letI := pr
  simp only [hA, hM, hG, h0, h1]
  grind
theorem ajR_4_0_1 (A : Nat → Nat → Po) : pAdd (pAdd (pAdd (pAdd (pC 0) (pMul (A 0 0) (adj A 4 0 1))) (pMul (A 0 1) (adj A 4 1 1))) (pMul (A 0 2) (adj A 4 2 1))) (pMul (A 0 3) (adj A 4 3 1)) = pC 0 := by
  rw [adj_4_0_1, adj_4_1_1, adj_4_2_1, adj_4_3_1, mE_13_14, mE_13_13, mE_13_11, mE_13_7]
  letI := pr
  simp only [hA, hM, hG, h0, h1]
  grind
theorem ajR_4_0_2 (A : Nat → Nat → Po) : pAdd (pAdd (pAdd (pAdd (pC 0) (pMul (A 0 0) (adj A 4 0 2))) (pMul (A 0 1) (adj A 4 1 2))) (pMul (A 0 2) (adj A 4 2 2))) (pMul (A 0 3) (adj A 4 3 2)) = pC 0 := by
  rw [adj_4_0_2, adj_4_1_2, adj_4_2_2, adj_4_3_2, mE_11_14, mE_11_13, mE_11_11, mE_11_7]
  letI := pr
  simp only [hA, hM, hG, h0, h1]
  grind
theorem ajR_4_0_3 (A : Nat → Nat → Po) : pAdd (pAdd (pAdd (pAdd (pC 0) (pMul (A 0 0) (adj A 4 0 3))) (pMul (A 0 1) (adj A 4 1 3))) (pMul (A 0 2) (adj A 4 2 3))) (pMul (A 0 3) (adj A 4 3 3)) = pC 0 := by
  rw [adj_4_0_3, adj_4_1_3, adj_4_2_3, adj_4_3_3, mE_7_14, mE_7_13, mE_7_11, mE_7_7]
  letI := pr
  simp only [hA, hM, hG, h0, h1]
  grind
theorem ajR_4_1_0 (A : Nat → Nat → Po) : pAdd (pAdd (pAdd (pAdd (pC 0) (pMul (A 1 0) (adj A 4 0 0))) (pMul (A 1 1) (adj A 4 1 0))) (pMul (A 1 2) (adj A 4 2 0))) (pMul (A 1 3) (adj A 4 3 0)) = pC 0 := by
  rw [adj_4_0_0, adj_4_1_0, adj_4_2_0, adj_4_3_0, mE_14_14, mE_14_13, mE_14_11, mE_14_7]
  letI := pr
  simp only [hA, hM, hG, h0, h1]
  grind
theorem ajR_4_1_1 (A : Nat → Nat → Po) : pAdd (pAdd (pAdd (pAdd (pC 0) (pMul (A 1 0) (adj A 4 0 1))) (pMul (A 1 1) (adj A 4 1 1))) (pMul (A 1 2) (adj A 4 2 1))) (pMul (A 1 3) (adj A 4 3 1)) = mi A 15 15 := by
  rw [adj_4_0_1, adj_4_1_1, adj_4_2_1, adj_4_3_1, mE_13_14, mE_13_13, mE_13_11, mE_13_7, mE_15_15]
  letI := pr
  simp only [hA, hM, hG, h0, h1]
  grind
theorem ajR_4_1_2 (A : Nat → Nat → Po) : pAdd (pAdd (pAdd (pAdd (pC 0) (pMul (A 1 0) (adj A 4 0 2))) (pMul (A 1 1) (adj A 4 1 2))) (pMul (A 1 2) (adj A 4 2 2))) (pMul (A 1 3) (adj A 4 3 2)) = pC 0 := by
  rw [adj_4_0_2, adj_4_1_2, adj_4_2_2, adj_4_3_2, mE_11_14, mE_11_13, mE_11_11, mE_11_7]
  letI := pr
  simp only [hA, hM, hG, h0, h1]
  grind
theorem ajR_4_1_3 (A : Nat → Nat → Po) : pAdd (pAdd (pAdd (pAdd (pC 0) (pMul (A 1 0) (adj A 4 0 3))) (pMul (A 1 1) (adj A 4 1 3))) (pMul (A 1 2) (adj A 4 2 3))) (pMul (A 1 3) (adj A 4 3 3)) = pC 0 := by
  rw [adj_4_0_3, adj_4_1_3, adj_4_2_3, adj_4_3_3, mE_7_14, mE_7_13, mE_7_11, mE_7_7]
  letI := pr
  simp only [hA, hM, hG, h0, h1]
  grind
theorem ajR_4_2_0 (A : Nat → Nat → Po) : pAdd (pAdd (pAdd (pAdd (pC 0) (pMul (A 2 0) (adj A 4 0 0))) (pMul (A 2 1) (adj A 4 1 0))) (pMul (A 2 2) (adj A 4 2 0))) (pMul (A 2 3) (adj A 4 3 0)) = pC 0 := by
  rw [adj_4_0_0, adj_4_1_0, adj_4_2_0, adj_4_3_0, mE_14_14, mE_14_13, mE_14_11, mE_14_7]
  letI := pr
  simp only [hA, hM, hG, h0, h1]
  grind
theorem ajR_4_2_1 (A : Nat → Nat → Po) : pAdd (pAdd (pAdd (pAdd (pC 0) (pMul (A 2 0) (adj A 4 0 1))) (pMul (A 2 1) (adj A 4 1 1))) (pMul (A 2 2) (adj A 4 2 1))) (pMul (A 2 3) (adj A 4 3 1)) = pC 0 := by
  rw [adj_4_0_1, adj_4_1_1, adj_4_2_1, adj_4_3_1, mE_13_14, mE_13_13, mE_13_11, mE_13_7]
  letI := pr
  simp only [hA, hM, hG, h0, h1]
  grind
theorem ajR_4_2_2 (A : Nat → Nat → Po) : pAdd (pAdd (pAdd (pAdd (pC 0) (pMul (A 2 0) (adj A 4 0 2))) (pMul (A 2 1) (adj A 4 1 2))) (pMul (A 2 2) (adj A 4 2 2))) (pMul (A 2 3) (adj A 4 3 2)) = mi A 15 15 := by
  rw [adj_4_0_2, adj_4_1_2, adj_4_2_2, adj_4_3_2, mE_11_14, mE_11_13, mE_11_11, mE_11_7, mE_15_15]
  letI := pr
  simp only [hA, hM, hG, h0, h1]
  grind
theorem ajR_4_2_3 (A : Nat → Nat → Po) : pAdd (pAdd (pAdd (pAdd (pC 0) (pMul (A 2 0) (adj A 4 0 3))) (pMul (A 2 1) (adj A 4 1 3))) (pMul (A 2 2) (adj A 4 2 3))) (pMul (A 2 3) (adj A 4 3 3)) = pC 0 := by
  rw [adj_4_0_3, adj_4_1_3, adj_4_2_3, adj_4_3_3, mE_7_14, mE_7_13, mE_7_11, mE_7_7]
  letI := pr
  simp only [hA, hM, hG, h0, h1]
  grind
theorem ajR_4_3_0 (A : Nat → Nat → Po) : pAdd (pAdd (pAdd (pAdd (pC 0) (pMul (A 3 0) (adj A 4 0 0))) (pMul (A 3 1) (adj A 4 1 0))) (pMul (A 3 2) (adj A 4 2 0))) (pMul (A 3 3) (adj A 4 3 0)) = pC 0 := by
  rw [adj_4_0_0, adj_4_1_0, adj_4_2_0, adj_4_3_0, mE_14_14, mE_14_13, mE_14_11, mE_14_7]
  letI := pr
  simp only [hA, hM, hG, h0, h1]
  grind
theorem ajR_4_3_1 (A : Nat → Nat → Po) : pAdd (pAdd (pAdd (pAdd (pC 0) (pMul (A 3 0) (adj A 4 0 1))) (pMul (A 3 1) (adj A 4 1 1))) (pMul (A 3 2) (adj A 4 2 1))) (pMul (A 3 3) (adj A 4 3 1)) = pC 0 := by
  rw [adj_4_0_1, adj_4_1_1, adj_4_2_1, adj_4_3_1, mE_13_14, mE_13_13, mE_13_11, mE_13_7]
  letI := pr
  simp only [hA, hM, hG, h0, h1]
  grind
theorem ajR_4_3_2 (A : Nat → Nat → Po) : pAdd (pAdd (pAdd (pAdd (pC 0) (pMul (A 3 0) (adj A 4 0 2))) (pMul (A 3 1) (adj A 4 1 2))) (pMul (A 3 2) (adj A 4 2 2))) (pMul (A 3 3) (adj A 4 3 2)) = pC 0 := by
  rw [adj_4_0_2, adj_4_1_2, adj_4_2_2, adj_4_3_2, mE_11_14, mE_11_13, mE_11_11, mE_11_7]
  letI := pr
  simp only [hA, hM, hG, h0, h1]
  grind
theorem ajR_4_3_3 (A : Nat → Nat → Po) : pAdd (pAdd (pAdd (pAdd (pC 0) (pMul (A 3 0) (adj A 4 0 3))) (pMul (A 3 1) (adj A 4 1 3))) (pMul (A 3 2) (adj A 4 2 3))) (pMul (A 3 3) (adj A 4 3 3)) = mi A 15 15 := by
  rw [adj_4_0_3, adj_4_1_3, adj_4_2_3, adj_4_3_3, mE_7_14, mE_7_13, mE_7_11, mE_7_7, mE_15_15]
  letI := pr
  simp only [hA, hM, hG, h0, h1]
  grind
theorem ajL_4_0_0 (A : Nat → Nat → Po) : pAdd (pAdd (pAdd (pAdd (pC 0) (pMul (adj A 4 0 0) (A 0 0))) (pMul (adj A 4 0 1) (A 1 0))) (pMul (adj A 4 0 2) (A 2 0))) (pMul (adj A 4 0 3) (A 3 0)) = mi A 15 15 := by
  rw [adj_4_0_0, adj_4_0_1, adj_4_0_2, adj_4_0_3, mE_14_14, mE_13_14, mE_11_14, mE_7_14, mE_15_15]
  letI := pr
  simp only [hA, hM, hG, h0, h1]
  grind
theorem ajL_4_0_1 (A : Nat → Nat → Po) : pAdd (pAdd (pAdd (pAdd (pC 0) (pMul (adj A 4 0 0) (A 0 1))) (pMul (adj A 4 0 1) (A 1 1))) (pMul (adj A 4 0 2) (A 2 1))) (pMul (adj A 4 0 3) (A 3 1)) = pC 0 := by
  rw [adj_4_0_0, adj_4_0_1, adj_4_0_2, adj_4_0_3, mE_14_14, mE_13_14, mE_11_14, mE_7_14]
  letI := pr
  simp only [hA, hM, hG, h0, h1]
  grind
theorem ajL_4_0_2 (A : Nat → Nat → Po) : pAdd (pAdd (pAdd (pAdd (pC 0) (pMul (adj A 4 0 0) (A 0 2))) (pMul (adj A 4 0 1) (A 1 2))) (pMul (adj A 4 0 2) (A 2 2))) (pMul (adj A 4 0 3) (A 3 2)) = pC 0 := by
  rw [adj_4_0_0, adj_4_0_1, adj_4_0_2, adj_4_0_3, mE_14_14, mE_13_14, mE_11_14, mE_7_14]
  letI := pr
  simp only [hA, hM, hG, h0, h1]
  grind
theorem ajL_4_0_3 (A : Nat → Nat → Po) : pAdd (pAdd (pAdd (pAdd (pC 0) (pMul (adj A 4 0 0) (A 0 3))) (pMul (adj A 4 0 1) (A 1 3))) (pMul (adj A 4 0 2) (A 2 3))) (pMul (adj A 4 0 3) (A 3 3)) = pC 0 := by
  rw [adj_4_0_0, adj_4_0_1, adj_4_0_2, adj_4_0_3, mE_14_14, mE_13_14, mE_11_14, mE_7_14]
  letI := pr
  simp only [hA, hM, hG, h0, h1]
  grind
theorem ajL_4_1_0 (A : Nat → Nat → Po) : pAdd (pAdd (pAdd (pAdd (pC 0) (pMul (adj A 4 1 0) (A 0 0))) (pMul (adj A 4 1 1) (A 1 0))) (pMul (adj A 4 1 2) (A 2 0))) (pMul (adj A 4 1 3) (A 3 0)) = pC 0 := by
  rw [adj_4_1_0, adj_4_1_1, adj_4_1_2, adj_4_1_3, mE_14_13, mE_13_13, mE_11_13, mE_7_13]
  letI := pr
  simp only [hA, hM, hG, h0, h1]
  grind
theorem ajL_4_1_1 (A : Nat → Nat → Po) : pAdd (pAdd (pAdd (pAdd (pC 0) (pMul (adj A 4 1 0) (A 0 1))) (pMul (adj A 4 1 1) (A 1 1))) (pMul (adj A 4 1 2) (A 2 1))) (pMul (adj A 4 1 3) (A 3 1)) = mi A 15 15 := by
  rw [adj_4_1_0, adj_4_1_1, adj_4_1_2, adj_4_1_3, mE_14_13, mE_13_13, mE_11_13, mE_7_13, mE_15_15]
  letI := pr
  simp only [hA, hM, hG, h0, h1]
  grind
theorem ajL_4_1_2 (A : Nat → Nat → Po) : pAdd (pAdd (pAdd (pAdd (pC 0) (pMul (adj A 4 1 0) (A 0 2))) (pMul (adj A 4 1 1) (A 1 2))) (pMul (adj A 4 1 2) (A 2 2))) (pMul (adj A 4 1 3) (A 3 2)) = pC 0 := by
  rw [adj_4_1_0, adj_4_1_1, adj_4_1_2, adj_4_1_3, mE_14_13, mE_13_13, mE_11_13, mE_7_13]
  letI := pr
  simp only [hA, hM, hG, h0, h1]
  grind
theorem ajL_4_1_3 (A : Nat → Nat → Po) : pAdd (pAdd (pAdd (pAdd (pC 0) (pMul (adj A 4 1 0) (A 0 3))) (pMul (adj A 4 1 1) (A 1 3))) (pMul (adj A 4 1 2) (A 2 3))) (pMul (adj A 4 1 3) (A 3 3)) = pC 0 := by
  rw [adj_4_1_0, adj_4_1_1, adj_4_1_2, adj_4_1_3, mE_14_13, mE_13_13, mE_11_13, mE_7_13]
  letI := pr
  simp only [hA, hM, hG, h0, h1]
  grind
theorem ajL_4_2_0 (A : Nat → Nat → Po) : pAdd (pAdd (pAdd (pAdd (pC 0) (pMul (adj A 4 2 0) (A 0 0))) (pMul (adj A 4 2 1) (A 1 0))) (pMul (adj A 4 2 2) (A 2 0))) (pMul (adj A 4 2 3) (A 3 0)) = pC 0 := by
  rw [adj_4_2_0, adj_4_2_1, adj_4_2_2, adj_4_2_3, mE_14_11, mE_13_11, mE_11_11, mE_7_11]
  letI := pr
  simp only [hA, hM, hG, h0, h1]
  grind
theorem ajL_4_2_1 (A : Nat → Nat → Po) : pAdd (pAdd (pAdd (pAdd (pC 0) (pMul (adj A 4 2 0) (A 0 1))) (pMul (adj A 4 2 1) (A 1 1))) (pMul (adj A 4 2 2) (A 2 1))) (pMul (adj A 4 2 3) (A 3 1)) = pC 0 := by
  rw [adj_4_2_0, adj_4_2_1, adj_4_2_2, adj_4_2_3, mE_14_11, mE_13_11, mE_11_11, mE_7_11]
  letI := pr
  simp only [hA, hM, hG, h0, h1]
  grind
theorem ajL_4_2_2 (A : Nat → Nat → Po) : pAdd (pAdd (pAdd (pAdd (pC 0) (pMul (adj A 4 2 0) (A 0 2))) (pMul (adj A 4 2 1) (A 1 2))) (pMul (adj A 4 2 2) (A 2 2))) (pMul (adj A 4 2 3) (A 3 2)) = mi A 15 15 := by
  rw [adj_4_2_0, adj_4_2_1, adj_4_2_2, adj_4_2_3, mE_14_11, mE_13_11, mE_11_11, mE_7_11, mE_15_15]
  letI := pr
  simp only [hA, hM, hG, h0, h1]
  grind
theorem ajL_4_2_3 (A : Nat → Nat → Po) : pAdd (pAdd (pAdd (pAdd (pC 0) (pMul (adj A 4 2 0) (A 0 3))) (pMul (adj A 4 2 1) (A 1 3))) (pMul (adj A 4 2 2) (A 2 3))) (pMul (adj A 4 2 3) (A 3 3)) = pC 0 := by
  rw [adj_4_2_0, adj_4_2_1, adj_4_2_2, adj_4_2_3, mE_14_11, mE_13_11, mE_11_11, mE_7_11]
  letI := pr
  simp only [hA, hM, hG, h0, h1]
  grind
theorem ajL_4_3_0 (A : Nat → Nat → Po) : pAdd (pAdd (pAdd (pAdd (pC 0) (pMul (adj A 4 3 0) (A 0 0))) (pMul (adj A 4 3 1) (A 1 0))) (pMul (adj A 4 3 2) (A 2 0))) (pMul (adj A 4 3 3) (A 3 0)) = pC 0 := by
  rw [adj_4_3_0, adj_4_3_1, adj_4_3_2, adj_4_3_3, mE_14_7, mE_13_7, mE_11_7, mE_7_7]
  letI := pr
  simp only [hA, hM, hG, h0, h1]
  grind
theorem ajL_4_3_1 (A : Nat → Nat → Po) : pAdd (pAdd (pAdd (pAdd (pC 0) (pMul (adj A 4 3 0) (A 0 1))) (pMul (adj A 4 3 1) (A 1 1))) (pMul (adj A 4 3 2) (A 2 1))) (pMul (adj A 4 3 3) (A 3 1)) = pC 0 := by
  rw [adj_4_3_0, adj_4_3_1, adj_4_3_2, adj_4_3_3, mE_14_7, mE_13_7, mE_11_7, mE_7_7]
  letI := pr
  simp only [hA, hM, hG, h0, h1]
  grind
theorem ajL_4_3_2 (A : Nat → Nat → Po) : pAdd (pAdd (pAdd (pAdd (pC 0) (pMul (adj A 4 3 0) (A 0 2))) (pMul (adj A 4 3 1) (A 1 2))) (pMul (adj A 4 3 2) (A 2 2))) (pMul (adj A 4 3 3) (A 3 2)) = pC 0 := by
  rw [adj_4_3_0, adj_4_3_1, adj_4_3_2, adj_4_3_3, mE_14_7, mE_13_7, mE_11_7, mE_7_7]
  letI := pr
  simp only [hA, hM, hG, h0, h1]
  grind
theorem ajL_4_3_3 (A : Nat → Nat → Po) : pAdd (pAdd (pAdd (pAdd (pC 0) (pMul (adj A 4 3 0) (A 0 3))) (pMul (adj A 4 3 1) (A 1 3))) (pMul (adj A 4 3 2) (A 2 3))) (pMul (adj A 4 3 3) (A 3 3)) = mi A 15 15 := by
  rw [adj_4_3_0, adj_4_3_1, adj_4_3_2, adj_4_3_3, mE_14_7, mE_13_7, mE_11_7, mE_7_7, mE_15_15]
  letI := pr
  simp only [hA, hM, hG, h0, h1]
  grind
