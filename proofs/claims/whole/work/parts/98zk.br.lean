/-! minors of a matrix of numbers, and its rank as the number of leading places -/
def cM (A : Nat → Nat → Fp) : Nat → Nat → Po := fun i j => pC (A i j)
def d2 (A : Nat → Nat → Fp) (a b c d : Nat) : Fp := A a c * (A b d) - A a d * (A b c)
def d3 (A : Nat → Nat → Fp) (a b e c d f : Nat) : Fp := A a c * (A b d * (A e f) - A b f * (A e d)) - A a d * (A b c * (A e f) - A b f * (A e c)) + A a f * (A b c * (A e d) - A b d * (A e c))
def d4 (A : Nat → Nat → Fp) : Fp := A 0 0 * d3 A 1 2 3 1 2 3 - A 0 1 * d3 A 1 2 3 0 2 3 + A 0 2 * d3 A 1 2 3 0 1 3 - A 0 3 * d3 A 1 2 3 0 1 2
theorem pcM (x y : Fp) : (letI := pr; pC x * pC y) = pC (x * y) := po_ext (fun j => by
  show co (pMul (pC x) (pC y)) j = _
  rw [pC_mul_co, co_C, co_C]
  split
  · rfl
  · grind)
theorem pcS (x y : Fp) : (letI := pr; pC x - pC y) = pC (x - y) := by
  have e : (letI := pr; pC x - pC y) = pAdd (pC x) (pNeg (pC y)) := by
    letI := pr
    simp only [hA, hG]
    grind
  rw [e]
  refine po_ext (fun j => ?_)
  rw [co_add, co_neg, co_C, co_C, co_C]
  split
  · grind
  · grind
theorem pcA (x y : Fp) : (letI := pr; pC x + pC y) = pC (x + y) := po_ext (fun j => by
  show co (pAdd (pC x) (pC y)) j = _
  rw [co_add, co_C, co_C, co_C]
  split
  · rfl
  · grind)
theorem sz_pC {x : Fp} : sz (pC x) ≠ 0 ↔ x ≠ 0 := by
  constructor
  · intro h z
    rw [z, sz_z] at h
    exact h rfl
  · intro h z
    have e := sz_0 z
    have : co (pC x) 0 = co (pC 0) 0 := by rw [e]
    rw [co_C, co_C, if_pos rfl, if_pos rfl] at this
    exact h this
section BRM
variable {A : Nat → Nat → Fp}
theorem mi1 {a c : Nat} (ha : a < 4) (hc : c < 4) : mi (cM A) (2 ^ a) (2 ^ c) = pC (A a c) := by
  have h1 : a = 0 ∨ a = 1 ∨ a = 2 ∨ a = 3 := by omega
  have h2 : c = 0 ∨ c = 1 ∨ c = 2 ∨ c = 3 := by omega
  rcases h1 with e | e | e | e <;> subst e <;> rcases h2 with e | e | e | e <;> subst e
  · exact mE_1_1 _
  · exact mE_1_2 _
  · exact mE_1_4 _
  · exact mE_1_8 _
  · exact mE_2_1 _
  · exact mE_2_2 _
  · exact mE_2_4 _
  · exact mE_2_8 _
  · exact mE_4_1 _
  · exact mE_4_2 _
  · exact mE_4_4 _
  · exact mE_4_8 _
  · exact mE_8_1 _
  · exact mE_8_2 _
  · exact mE_8_4 _
  · exact mE_8_8 _
theorem mi2 {a b c d : Nat} (hab : a < b) (hb : b < 4) (hcd : c < d) (hd : d < 4) : mi (cM A) (2 ^ a + 2 ^ b) (2 ^ c + 2 ^ d) = pC (d2 A a b c d) := by
  have h1 : (a = 0 ∧ b = 1) ∨ (a = 0 ∧ b = 2) ∨ (a = 0 ∧ b = 3) ∨ (a = 1 ∧ b = 2) ∨ (a = 1 ∧ b = 3) ∨ (a = 2 ∧ b = 3) := by omega
  have h2 : (c = 0 ∧ d = 1) ∨ (c = 0 ∧ d = 2) ∨ (c = 0 ∧ d = 3) ∨ (c = 1 ∧ d = 2) ∨ (c = 1 ∧ d = 3) ∨ (c = 2 ∧ d = 3) := by omega
  rcases h1 with ⟨e, f⟩ | ⟨e, f⟩ | ⟨e, f⟩ | ⟨e, f⟩ | ⟨e, f⟩ | ⟨e, f⟩ <;> subst e f <;> rcases h2 with ⟨e, f⟩ | ⟨e, f⟩ | ⟨e, f⟩ | ⟨e, f⟩ | ⟨e, f⟩ | ⟨e, f⟩ <;> subst e f
  · exact (mE_3_3 (cM A)).trans (by unfold cM d2; rw [pcM, pcM, pcS])
  · exact (mE_3_5 (cM A)).trans (by unfold cM d2; rw [pcM, pcM, pcS])
  · exact (mE_3_9 (cM A)).trans (by unfold cM d2; rw [pcM, pcM, pcS])
  · exact (mE_3_6 (cM A)).trans (by unfold cM d2; rw [pcM, pcM, pcS])
  · exact (mE_3_10 (cM A)).trans (by unfold cM d2; rw [pcM, pcM, pcS])
  · exact (mE_3_12 (cM A)).trans (by unfold cM d2; rw [pcM, pcM, pcS])
  · exact (mE_5_3 (cM A)).trans (by unfold cM d2; rw [pcM, pcM, pcS])
  · exact (mE_5_5 (cM A)).trans (by unfold cM d2; rw [pcM, pcM, pcS])
  · exact (mE_5_9 (cM A)).trans (by unfold cM d2; rw [pcM, pcM, pcS])
  · exact (mE_5_6 (cM A)).trans (by unfold cM d2; rw [pcM, pcM, pcS])
  · exact (mE_5_10 (cM A)).trans (by unfold cM d2; rw [pcM, pcM, pcS])
  · exact (mE_5_12 (cM A)).trans (by unfold cM d2; rw [pcM, pcM, pcS])
  · exact (mE_9_3 (cM A)).trans (by unfold cM d2; rw [pcM, pcM, pcS])
  · exact (mE_9_5 (cM A)).trans (by unfold cM d2; rw [pcM, pcM, pcS])
  · exact (mE_9_9 (cM A)).trans (by unfold cM d2; rw [pcM, pcM, pcS])
  · exact (mE_9_6 (cM A)).trans (by unfold cM d2; rw [pcM, pcM, pcS])
  · exact (mE_9_10 (cM A)).trans (by unfold cM d2; rw [pcM, pcM, pcS])
  · exact (mE_9_12 (cM A)).trans (by unfold cM d2; rw [pcM, pcM, pcS])
  · exact (mE_6_3 (cM A)).trans (by unfold cM d2; rw [pcM, pcM, pcS])
  · exact (mE_6_5 (cM A)).trans (by unfold cM d2; rw [pcM, pcM, pcS])
  · exact (mE_6_9 (cM A)).trans (by unfold cM d2; rw [pcM, pcM, pcS])
  · exact (mE_6_6 (cM A)).trans (by unfold cM d2; rw [pcM, pcM, pcS])
  · exact (mE_6_10 (cM A)).trans (by unfold cM d2; rw [pcM, pcM, pcS])
  · exact (mE_6_12 (cM A)).trans (by unfold cM d2; rw [pcM, pcM, pcS])
  · exact (mE_10_3 (cM A)).trans (by unfold cM d2; rw [pcM, pcM, pcS])
  · exact (mE_10_5 (cM A)).trans (by unfold cM d2; rw [pcM, pcM, pcS])
  · exact (mE_10_9 (cM A)).trans (by unfold cM d2; rw [pcM, pcM, pcS])
  · exact (mE_10_6 (cM A)).trans (by unfold cM d2; rw [pcM, pcM, pcS])
  · exact (mE_10_10 (cM A)).trans (by unfold cM d2; rw [pcM, pcM, pcS])
  · exact (mE_10_12 (cM A)).trans (by unfold cM d2; rw [pcM, pcM, pcS])
  · exact (mE_12_3 (cM A)).trans (by unfold cM d2; rw [pcM, pcM, pcS])
  · exact (mE_12_5 (cM A)).trans (by unfold cM d2; rw [pcM, pcM, pcS])
  · exact (mE_12_9 (cM A)).trans (by unfold cM d2; rw [pcM, pcM, pcS])
  · exact (mE_12_6 (cM A)).trans (by unfold cM d2; rw [pcM, pcM, pcS])
  · exact (mE_12_10 (cM A)).trans (by unfold cM d2; rw [pcM, pcM, pcS])
  · exact (mE_12_12 (cM A)).trans (by unfold cM d2; rw [pcM, pcM, pcS])
theorem mi3 {a b e c d f : Nat} (hab : a < b) (hbe : b < e) (he : e < 4) (hcd : c < d) (hdf : d < f) (hf : f < 4) : mi (cM A) (2 ^ a + 2 ^ b + 2 ^ e) (2 ^ c + 2 ^ d + 2 ^ f) = pC (d3 A a b e c d f) := by
  have h1 : (a = 0 ∧ b = 1 ∧ e = 2) ∨ (a = 0 ∧ b = 1 ∧ e = 3) ∨ (a = 0 ∧ b = 2 ∧ e = 3) ∨ (a = 1 ∧ b = 2 ∧ e = 3) := by omega
  have h2 : (c = 0 ∧ d = 1 ∧ f = 2) ∨ (c = 0 ∧ d = 1 ∧ f = 3) ∨ (c = 0 ∧ d = 2 ∧ f = 3) ∨ (c = 1 ∧ d = 2 ∧ f = 3) := by omega
  rcases h1 with ⟨p, q, w⟩ | ⟨p, q, w⟩ | ⟨p, q, w⟩ | ⟨p, q, w⟩ <;> subst p q w <;> rcases h2 with ⟨p, q, w⟩ | ⟨p, q, w⟩ | ⟨p, q, w⟩ | ⟨p, q, w⟩ <;> subst p q w
  · exact (mE_7_7 (cM A)).trans (by unfold cM d3; simp only [pcM, pcS, pcA])
  · exact (mE_7_11 (cM A)).trans (by unfold cM d3; simp only [pcM, pcS, pcA])
  · exact (mE_7_13 (cM A)).trans (by unfold cM d3; simp only [pcM, pcS, pcA])
  · exact (mE_7_14 (cM A)).trans (by unfold cM d3; simp only [pcM, pcS, pcA])
  · exact (mE_11_7 (cM A)).trans (by unfold cM d3; simp only [pcM, pcS, pcA])
  · exact (mE_11_11 (cM A)).trans (by unfold cM d3; simp only [pcM, pcS, pcA])
  · exact (mE_11_13 (cM A)).trans (by unfold cM d3; simp only [pcM, pcS, pcA])
  · exact (mE_11_14 (cM A)).trans (by unfold cM d3; simp only [pcM, pcS, pcA])
  · exact (mE_13_7 (cM A)).trans (by unfold cM d3; simp only [pcM, pcS, pcA])
  · exact (mE_13_11 (cM A)).trans (by unfold cM d3; simp only [pcM, pcS, pcA])
  · exact (mE_13_13 (cM A)).trans (by unfold cM d3; simp only [pcM, pcS, pcA])
  · exact (mE_13_14 (cM A)).trans (by unfold cM d3; simp only [pcM, pcS, pcA])
  · exact (mE_14_7 (cM A)).trans (by unfold cM d3; simp only [pcM, pcS, pcA])
  · exact (mE_14_11 (cM A)).trans (by unfold cM d3; simp only [pcM, pcS, pcA])
  · exact (mE_14_13 (cM A)).trans (by unfold cM d3; simp only [pcM, pcS, pcA])
  · exact (mE_14_14 (cM A)).trans (by unfold cM d3; simp only [pcM, pcS, pcA])
theorem mi4 : mi (cM A) 15 15 = pC (d4 A) := (mE_15_15 (cM A)).trans (by unfold cM d4 d3; simp only [pcM, pcS, pcA])
theorem bc1 : ∀ r, r < 16 → bc r = 1 → ∃ a, a < 4 ∧ r = 2 ^ a := by decide +kernel
theorem bc2 : ∀ r, r < 16 → bc r = 2 → ∃ a, a < 4 ∧ ∃ b, b < 4 ∧ a < b ∧ r = 2 ^ a + 2 ^ b := by decide +kernel
theorem bc3 : ∀ r, r < 16 → bc r = 3 → ∃ a, a < 4 ∧ ∃ b, b < 4 ∧ ∃ e, e < 4 ∧ a < b ∧ b < e ∧ r = 2 ^ a + 2 ^ b + 2 ^ e := by decide +kernel
theorem bc4 : ∀ r, r < 16 → bc r = 4 → r = 15 := by decide +kernel
theorem bk2 : ∀ b, b < 4 → ∀ a, a < b → 2 ^ a + 2 ^ b < 16 ∧ bc (2 ^ a + 2 ^ b) = 2 := by decide +kernel
theorem bk1 : ∀ a, a < 4 → 2 ^ a < 16 ∧ bc (2 ^ a) = 1 := by decide +kernel
theorem bk3 : ∀ e, e < 4 → ∀ b, b < e → ∀ a, a < b → 2 ^ a + 2 ^ b + 2 ^ e < 16 ∧ bc (2 ^ a + 2 ^ b + 2 ^ e) = 3 := by decide +kernel
theorem no1 (h : ¬ nz (cM A) 1) {a c : Nat} (ha : a < 4) (hc : c < 4) : A a c = 0 := Classical.byContradiction (fun z => h ⟨_, _, (bk1 a ha).1, (bk1 c hc).1, (bk1 a ha).2, (bk1 c hc).2, by rw [mi1 ha hc]; exact sz_pC.mpr z⟩)
theorem no2s (h : ¬ nz (cM A) 2) {a b c d : Nat} (hab : a < b) (hb : b < 4) (hcd : c < d) (hd : d < 4) : d2 A a b c d = 0 := Classical.byContradiction (fun z => h ⟨_, _, (bk2 b hb a hab).1, (bk2 d hd c hcd).1, (bk2 b hb a hab).2, (bk2 d hd c hcd).2, by rw [mi2 hab hb hcd hd]; exact sz_pC.mpr z⟩)
theorem no3s (h : ¬ nz (cM A) 3) {a b e c d f : Nat} (hab : a < b) (hbe : b < e) (he : e < 4) (hcd : c < d) (hdf : d < f) (hf : f < 4) : d3 A a b e c d f = 0 := Classical.byContradiction (fun z => h ⟨_, _, (bk3 e he b hbe a hab).1, (bk3 f hf d hdf c hcd).1, (bk3 e he b hbe a hab).2, (bk3 f hf d hdf c hcd).2, by rw [mi3 hab hbe he hcd hdf hf]; exact sz_pC.mpr z⟩)
theorem d2r (a b c d : Nat) : d2 A b a c d = - d2 A a b c d := by unfold d2; grind
theorem d2c (a b c d : Nat) : d2 A a b d c = - d2 A a b c d := by unfold d2; grind
theorem d2r0 (a c d : Nat) : d2 A a a c d = 0 := by unfold d2; grind
theorem d2c0 (a b c : Nat) : d2 A a b c c = 0 := by unfold d2; grind
theorem no2r (h : ¬ nz (cM A) 2) {a b c d : Nat} (ha : a < 4) (hb : b < 4) (hcd : c < d) (hd : d < 4) : d2 A a b c d = 0 := by
  rcases Nat.lt_trichotomy a b with q | q | q
  · exact no2s h q hb hcd hd
  · rw [q]; exact d2r0 _ _ _
  · rw [d2r, no2s h q ha hcd hd]; rfl
theorem no2 (h : ¬ nz (cM A) 2) {a b c d : Nat} (ha : a < 4) (hb : b < 4) (hc : c < 4) (hd : d < 4) : d2 A a b c d = 0 := by
  rcases Nat.lt_trichotomy c d with q | q | q
  · exact no2r h ha hb q hd
  · rw [q]; exact d2c0 _ _ _
  · rw [d2c, no2r h ha hb q hc]; rfl
theorem d3r1 (a b e c d f : Nat) : d3 A b a e c d f = - d3 A a b e c d f := by unfold d3; grind
theorem d3r2 (a b e c d f : Nat) : d3 A a e b c d f = - d3 A a b e c d f := by unfold d3; grind
theorem d3c1 (a b e c d f : Nat) : d3 A a b e d c f = - d3 A a b e c d f := by unfold d3; grind
theorem d3c2 (a b e c d f : Nat) : d3 A a b e c f d = - d3 A a b e c d f := by unfold d3; grind
theorem d3r0 (a b c d f : Nat) : d3 A a b b c d f = 0 := by unfold d3; grind
theorem d3c0 (a b e c d : Nat) : d3 A a b e c d d = 0 := by unfold d3; grind
theorem d3r01 (a b c d f : Nat) : d3 A a a b c d f = 0 := by unfold d3; grind
theorem d3c01 (a b e c d : Nat) : d3 A a b e c c d = 0 := by unfold d3; grind
theorem fn0 : - (0 : Fp) = 0 := by decide
theorem no3r (h : ¬ nz (cM A) 3) {a b e c d f : Nat} (hab : a < b) (hb : b < 4) (he : e < 4) (hcd : c < d) (hdf : d < f) (hf : f < 4) : d3 A a b e c d f = 0 := by
  rcases Nat.lt_trichotomy b e with q | q | q
  · exact no3s h hab q he hcd hdf hf
  · rw [q]; exact d3r0 _ _ _ _ _
  · rw [d3r2]
    rcases Nat.lt_trichotomy a e with q2 | q2 | q2
    · rw [no3s h q2 q hb hcd hdf hf]; exact fn0
    · rw [q2, d3r01]; exact fn0
    · rw [d3r1, no3s h q2 hab hb hcd hdf hf]; decide
theorem no3 (h : ¬ nz (cM A) 3) {a b e c d f : Nat} (hab : a < b) (hb : b < 4) (he : e < 4) (hcd : c < d) (hd : d < 4) (hf : f < 4) : d3 A a b e c d f = 0 := by
  rcases Nat.lt_trichotomy d f with q | q | q
  · exact no3r h hab hb he hcd q hf
  · rw [q]; exact d3c0 _ _ _ _ _
  · rw [d3c2]
    rcases Nat.lt_trichotomy c f with q2 | q2 | q2
    · rw [no3r h hab hb he q2 q hd]; exact fn0
    · rw [q2, d3c01]; exact fn0
    · rw [d3c1, no3r h hab hb he q2 hcd hd]; decide
theorem dp_0 (h : d4 A = 0) (j : Nat) (hj : j < 4) : d3 A 1 2 3 1 2 3 * A 0 j - d3 A 0 2 3 1 2 3 * A 1 j + d3 A 0 1 3 1 2 3 * A 2 j - d3 A 0 1 2 1 2 3 * A 3 j = 0 := by
  have : j = 0 ∨ j = 1 ∨ j = 2 ∨ j = 3 := by omega
  rcases this with e | e | e | e <;> subst e
  · have e : d3 A 1 2 3 1 2 3 * A 0 0 - d3 A 0 2 3 1 2 3 * A 1 0 + d3 A 0 1 3 1 2 3 * A 2 0 - d3 A 0 1 2 1 2 3 * A 3 0 = d4 A := by
      clear h
      unfold d4 d3
      generalize A 0 0 = a00, A 0 1 = a01, A 0 2 = a02, A 0 3 = a03, A 1 0 = a10, A 1 1 = a11, A 1 2 = a12, A 1 3 = a13, A 2 0 = a20, A 2 1 = a21, A 2 2 = a22, A 2 3 = a23, A 3 0 = a30, A 3 1 = a31, A 3 2 = a32, A 3 3 = a33
      grind
    rw [e, h]
  · clear h
    unfold d3
    generalize A 0 0 = a00, A 0 1 = a01, A 0 2 = a02, A 0 3 = a03, A 1 0 = a10, A 1 1 = a11, A 1 2 = a12, A 1 3 = a13, A 2 0 = a20, A 2 1 = a21, A 2 2 = a22, A 2 3 = a23, A 3 0 = a30, A 3 1 = a31, A 3 2 = a32, A 3 3 = a33
    grind
  · clear h
    unfold d3
    generalize A 0 0 = a00, A 0 1 = a01, A 0 2 = a02, A 0 3 = a03, A 1 0 = a10, A 1 1 = a11, A 1 2 = a12, A 1 3 = a13, A 2 0 = a20, A 2 1 = a21, A 2 2 = a22, A 2 3 = a23, A 3 0 = a30, A 3 1 = a31, A 3 2 = a32, A 3 3 = a33
    grind
  · clear h
    unfold d3
    generalize A 0 0 = a00, A 0 1 = a01, A 0 2 = a02, A 0 3 = a03, A 1 0 = a10, A 1 1 = a11, A 1 2 = a12, A 1 3 = a13, A 2 0 = a20, A 2 1 = a21, A 2 2 = a22, A 2 3 = a23, A 3 0 = a30, A 3 1 = a31, A 3 2 = a32, A 3 3 = a33
    grind
theorem dp_1 (h : d4 A = 0) (j : Nat) (hj : j < 4) : d3 A 1 2 3 0 2 3 * A 0 j - d3 A 0 2 3 0 2 3 * A 1 j + d3 A 0 1 3 0 2 3 * A 2 j - d3 A 0 1 2 0 2 3 * A 3 j = 0 := by
  have : j = 0 ∨ j = 1 ∨ j = 2 ∨ j = 3 := by omega
  rcases this with e | e | e | e <;> subst e
  · clear h
    unfold d3
    generalize A 0 0 = a00, A 0 1 = a01, A 0 2 = a02, A 0 3 = a03, A 1 0 = a10, A 1 1 = a11, A 1 2 = a12, A 1 3 = a13, A 2 0 = a20, A 2 1 = a21, A 2 2 = a22, A 2 3 = a23, A 3 0 = a30, A 3 1 = a31, A 3 2 = a32, A 3 3 = a33
    grind
  · have e : d3 A 1 2 3 0 2 3 * A 0 1 - d3 A 0 2 3 0 2 3 * A 1 1 + d3 A 0 1 3 0 2 3 * A 2 1 - d3 A 0 1 2 0 2 3 * A 3 1 = - d4 A := by
      clear h
      unfold d4 d3
      generalize A 0 0 = a00, A 0 1 = a01, A 0 2 = a02, A 0 3 = a03, A 1 0 = a10, A 1 1 = a11, A 1 2 = a12, A 1 3 = a13, A 2 0 = a20, A 2 1 = a21, A 2 2 = a22, A 2 3 = a23, A 3 0 = a30, A 3 1 = a31, A 3 2 = a32, A 3 3 = a33
      grind
    rw [e, h]
    exact fn0
  · clear h
    unfold d3
    generalize A 0 0 = a00, A 0 1 = a01, A 0 2 = a02, A 0 3 = a03, A 1 0 = a10, A 1 1 = a11, A 1 2 = a12, A 1 3 = a13, A 2 0 = a20, A 2 1 = a21, A 2 2 = a22, A 2 3 = a23, A 3 0 = a30, A 3 1 = a31, A 3 2 = a32, A 3 3 = a33
    grind
  · clear h
    unfold d3
    generalize A 0 0 = a00, A 0 1 = a01, A 0 2 = a02, A 0 3 = a03, A 1 0 = a10, A 1 1 = a11, A 1 2 = a12, A 1 3 = a13, A 2 0 = a20, A 2 1 = a21, A 2 2 = a22, A 2 3 = a23, A 3 0 = a30, A 3 1 = a31, A 3 2 = a32, A 3 3 = a33
    grind
theorem dp_2 (h : d4 A = 0) (j : Nat) (hj : j < 4) : d3 A 1 2 3 0 1 3 * A 0 j - d3 A 0 2 3 0 1 3 * A 1 j + d3 A 0 1 3 0 1 3 * A 2 j - d3 A 0 1 2 0 1 3 * A 3 j = 0 := by
  have : j = 0 ∨ j = 1 ∨ j = 2 ∨ j = 3 := by omega
  rcases this with e | e | e | e <;> subst e
  · clear h
    unfold d3
    generalize A 0 0 = a00, A 0 1 = a01, A 0 2 = a02, A 0 3 = a03, A 1 0 = a10, A 1 1 = a11, A 1 2 = a12, A 1 3 = a13, A 2 0 = a20, A 2 1 = a21, A 2 2 = a22, A 2 3 = a23, A 3 0 = a30, A 3 1 = a31, A 3 2 = a32, A 3 3 = a33
    grind
  · clear h
    unfold d3
    generalize A 0 0 = a00, A 0 1 = a01, A 0 2 = a02, A 0 3 = a03, A 1 0 = a10, A 1 1 = a11, A 1 2 = a12, A 1 3 = a13, A 2 0 = a20, A 2 1 = a21, A 2 2 = a22, A 2 3 = a23, A 3 0 = a30, A 3 1 = a31, A 3 2 = a32, A 3 3 = a33
    grind
  · have e : d3 A 1 2 3 0 1 3 * A 0 2 - d3 A 0 2 3 0 1 3 * A 1 2 + d3 A 0 1 3 0 1 3 * A 2 2 - d3 A 0 1 2 0 1 3 * A 3 2 = d4 A := by
      clear h
      unfold d4 d3
      generalize A 0 0 = a00, A 0 1 = a01, A 0 2 = a02, A 0 3 = a03, A 1 0 = a10, A 1 1 = a11, A 1 2 = a12, A 1 3 = a13, A 2 0 = a20, A 2 1 = a21, A 2 2 = a22, A 2 3 = a23, A 3 0 = a30, A 3 1 = a31, A 3 2 = a32, A 3 3 = a33
      grind
    rw [e, h]
  · clear h
    unfold d3
    generalize A 0 0 = a00, A 0 1 = a01, A 0 2 = a02, A 0 3 = a03, A 1 0 = a10, A 1 1 = a11, A 1 2 = a12, A 1 3 = a13, A 2 0 = a20, A 2 1 = a21, A 2 2 = a22, A 2 3 = a23, A 3 0 = a30, A 3 1 = a31, A 3 2 = a32, A 3 3 = a33
    grind
theorem dp_3 (h : d4 A = 0) (j : Nat) (hj : j < 4) : d3 A 1 2 3 0 1 2 * A 0 j - d3 A 0 2 3 0 1 2 * A 1 j + d3 A 0 1 3 0 1 2 * A 2 j - d3 A 0 1 2 0 1 2 * A 3 j = 0 := by
  have : j = 0 ∨ j = 1 ∨ j = 2 ∨ j = 3 := by omega
  rcases this with e | e | e | e <;> subst e
  · clear h
    unfold d3
    generalize A 0 0 = a00, A 0 1 = a01, A 0 2 = a02, A 0 3 = a03, A 1 0 = a10, A 1 1 = a11, A 1 2 = a12, A 1 3 = a13, A 2 0 = a20, A 2 1 = a21, A 2 2 = a22, A 2 3 = a23, A 3 0 = a30, A 3 1 = a31, A 3 2 = a32, A 3 3 = a33
    grind
  · clear h
    unfold d3
    generalize A 0 0 = a00, A 0 1 = a01, A 0 2 = a02, A 0 3 = a03, A 1 0 = a10, A 1 1 = a11, A 1 2 = a12, A 1 3 = a13, A 2 0 = a20, A 2 1 = a21, A 2 2 = a22, A 2 3 = a23, A 3 0 = a30, A 3 1 = a31, A 3 2 = a32, A 3 3 = a33
    grind
  · clear h
    unfold d3
    generalize A 0 0 = a00, A 0 1 = a01, A 0 2 = a02, A 0 3 = a03, A 1 0 = a10, A 1 1 = a11, A 1 2 = a12, A 1 3 = a13, A 2 0 = a20, A 2 1 = a21, A 2 2 = a22, A 2 3 = a23, A 3 0 = a30, A 3 1 = a31, A 3 2 = a32, A 3 3 = a33
    grind
  · have e : d3 A 1 2 3 0 1 2 * A 0 3 - d3 A 0 2 3 0 1 2 * A 1 3 + d3 A 0 1 3 0 1 2 * A 2 3 - d3 A 0 1 2 0 1 2 * A 3 3 = - d4 A := by
      clear h
      unfold d4 d3
      generalize A 0 0 = a00, A 0 1 = a01, A 0 2 = a02, A 0 3 = a03, A 1 0 = a10, A 1 1 = a11, A 1 2 = a12, A 1 3 = a13, A 2 0 = a20, A 2 1 = a21, A 2 2 = a22, A 2 3 = a23, A 3 0 = a30, A 3 1 = a31, A 3 2 = a32, A 3 3 = a33
      grind
    rw [e, h]
    exact fn0
theorem li0 (x0 x1 x2 x3 y A0 A1 A2 A3 : Fp) (f : y * x0 = 1) (k : x0 * A0 - x1 * A1 + x2 * A2 - x3 * A3 = 0) : A0 = y * (x1 * A1 - x2 * A2 + x3 * A3) := by
  have e : y * (x0 * A0 - x1 * A1 + x2 * A2 - x3 * A3) = (y * x0) * A0 - y * (x1 * A1 - x2 * A2 + x3 * A3) := by clear f k; grind
  rw [k, f] at e
  clear f k
  grind
theorem dpx {x0 x1 x2 x3 : Fp} (h : ∀ j, j < 4 → x0 * A 0 j - x1 * A 1 j + x2 * A 2 j - x3 * A 3 j = 0) (hn : x0 ≠ 0 ∨ x1 ≠ 0 ∨ x2 ≠ 0 ∨ x3 ≠ 0) : ldim (Rs A) ≤ 3 := by
  rcases hn with q | q | q | q
  · have f := finv_mul q
    generalize finv x0 = y at f
    exact ld_3 (b := A 1) (d := A 2) (f := A 3) (fun v ⟨a, c, p, g, e⟩ => ⟨c + a * y * x1, p - a * y * x2, g + a * y * x3, fun j hj => by
      have k := h j hj
      rw [e j hj]
      generalize A 0 j = A0, A 1 j = A1, A 2 j = A2, A 3 j = A3 at k ⊢
      rw [li0 x0 x1 x2 x3 y A0 A1 A2 A3 f k]
      clear k h e f q
      grind⟩)
  · have f := finv_mul q
    generalize finv x1 = y at f
    exact ld_3 (b := A 0) (d := A 2) (f := A 3) (fun v ⟨a, c, p, g, e⟩ => ⟨a + c * y * x0, p + c * y * x2, g - c * y * x3, fun j hj => by
      have k := h j hj
      rw [e j hj]
      generalize A 0 j = A0, A 1 j = A1, A 2 j = A2, A 3 j = A3 at k ⊢
      rw [li0 x1 x0 (- x2) (- x3) y A1 A0 A2 A3 f (by clear h e f q; grind)]
      clear k h e f q
      grind⟩)
  · have f := finv_mul q
    generalize finv x2 = y at f
    exact ld_3 (b := A 0) (d := A 1) (f := A 3) (fun v ⟨a, c, p, g, e⟩ => ⟨a - p * y * x0, c + p * y * x1, g + p * y * x3, fun j hj => by
      have k := h j hj
      rw [e j hj]
      generalize A 0 j = A0, A 1 j = A1, A 2 j = A2, A 3 j = A3 at k ⊢
      rw [li0 x2 x1 x0 x3 y A2 A1 A0 A3 f (by clear h e f q; grind)]
      clear k h e f q
      grind⟩)
  · have f := finv_mul q
    generalize finv x3 = y at f
    exact ld_3 (b := A 0) (d := A 1) (f := A 2) (fun v ⟨a, c, p, g, e⟩ => ⟨a + g * y * x0, c - g * y * x1, p + g * y * x2, fun j hj => by
      have k := h j hj
      rw [e j hj]
      generalize A 0 j = A0, A 1 j = A1, A 2 j = A2, A 3 j = A3 at k ⊢
      rw [li0 x3 x0 x1 x2 y A3 A0 A1 A2 f (by clear h e f q; grind)]
      clear k h e f q
      grind⟩)
theorem lo3 (h4 : d4 A = 0) {a b e c d f : Nat} (hab : a < b) (hbe : b < e) (he : e < 4) (hcd : c < d) (hdf : d < f) (hf : f < 4) (hn : d3 A a b e c d f ≠ 0) : ldim (Rs A) ≤ 3 := by
  have h1 : (a = 0 ∧ b = 1 ∧ e = 2) ∨ (a = 0 ∧ b = 1 ∧ e = 3) ∨ (a = 0 ∧ b = 2 ∧ e = 3) ∨ (a = 1 ∧ b = 2 ∧ e = 3) := by omega
  have h2 : (c = 0 ∧ d = 1 ∧ f = 2) ∨ (c = 0 ∧ d = 1 ∧ f = 3) ∨ (c = 0 ∧ d = 2 ∧ f = 3) ∨ (c = 1 ∧ d = 2 ∧ f = 3) := by omega
  rcases h2 with ⟨p, q, w⟩ | ⟨p, q, w⟩ | ⟨p, q, w⟩ | ⟨p, q, w⟩ <;> subst p q w <;> rcases h1 with ⟨p, q, w⟩ | ⟨p, q, w⟩ | ⟨p, q, w⟩ | ⟨p, q, w⟩ <;> subst p q w
  · exact dpx (dp_3 h4) (Or.inr (Or.inr (Or.inr hn)))
  · exact dpx (dp_3 h4) (Or.inr (Or.inr (Or.inl hn)))
  · exact dpx (dp_3 h4) (Or.inr (Or.inl hn))
  · exact dpx (dp_3 h4) (Or.inl hn)
  · exact dpx (dp_2 h4) (Or.inr (Or.inr (Or.inr hn)))
  · exact dpx (dp_2 h4) (Or.inr (Or.inr (Or.inl hn)))
  · exact dpx (dp_2 h4) (Or.inr (Or.inl hn))
  · exact dpx (dp_2 h4) (Or.inl hn)
  · exact dpx (dp_1 h4) (Or.inr (Or.inr (Or.inr hn)))
  · exact dpx (dp_1 h4) (Or.inr (Or.inr (Or.inl hn)))
  · exact dpx (dp_1 h4) (Or.inr (Or.inl hn))
  · exact dpx (dp_1 h4) (Or.inl hn)
  · exact dpx (dp_0 h4) (Or.inr (Or.inr (Or.inr hn)))
  · exact dpx (dp_0 h4) (Or.inr (Or.inr (Or.inl hn)))
  · exact dpx (dp_0 h4) (Or.inr (Or.inl hn))
  · exact dpx (dp_0 h4) (Or.inl hn)
theorem lo2 (h : ¬ nz (cM A) 3) {a b c d : Nat} (hab : a < b) (hb : b < 4) (hcd : c < d) (hd : d < 4) (hn : d2 A a b c d ≠ 0) : ldim (Rs A) ≤ 2 := by
  have f := finv_mul hn
  generalize finv (d2 A a b c d) = y at f
  refine ld_2 (b := A a) (d := A b) (rs_sub (z2_v _ _) (fun r hr => ⟨y * d2 A r b c d, y * d2 A a r c d, fun j hj => ?_⟩))
  have k := no3 h hab hb hr hcd hd hj
  have e : d3 A a b r c d j = d2 A a b c d * A r j - d2 A r b c d * A a j - d2 A a r c d * A b j := by unfold d3 d2; grind
  rw [e] at k
  generalize d2 A a b c d = D, d2 A r b c d = D1, d2 A a r c d = D2, A r j = R1, A a j = R2, A b j = R3 at f k ⊢
  grind
theorem lo1 (h : ¬ nz (cM A) 2) {a c : Nat} (ha : a < 4) (hc : c < 4) (hn : A a c ≠ 0) : ldim (Rs A) ≤ 1 := by
  have f := finv_mul hn
  generalize finv (A a c) = y at f
  refine ld_1 (b := A a) (rs_sub (z1_v _) (fun r hr => ⟨y * A r c, fun j hj => ?_⟩))
  have k := no2 h ha hr hc hj
  unfold d2 at k
  grind
theorem lo0 (h : ¬ nz (cM A) 1) : ldim (Rs A) = 0 := by
  have := ld_mono (S := Rs A) (T := Z0) (rs_sub z0_v (fun a ha j hj => no1 h ha hj))
  rw [ld_0] at this
  omega
theorem hi1 (h : nz (cM A) 1) : 1 ≤ ldim (Rs A) := by
  obtain ⟨r, s, hr, hs, b1, b2, k⟩ := h
  obtain ⟨a, ha, e1⟩ := bc1 r hr b1
  obtain ⟨c, hc, e2⟩ := bc1 s hs b2
  rw [e1, e2, mi1 ha hc, sz_pC] at k
  exact up1 (rs_v A) (rs_row A ha) (fun z => k (z c hc))
theorem hi2 (h : nz (cM A) 2) : 2 ≤ ldim (Rs A) := by
  obtain ⟨r, s, hr, hs, b1, b2, k⟩ := h
  obtain ⟨a, ha, b, hb, hab, e1⟩ := bc2 r hr b1
  obtain ⟨c, hc, d, hd, hcd, e2⟩ := bc2 s hs b2
  rw [e1, e2, mi2 hab hb hcd hd, sz_pC] at k
  refine up2 (rs_v A) (rs_row A ha) (rs_row A hb) (fun z => k ?_) (fun ⟨x, z⟩ => k ?_)
  · unfold d2; rw [z c hc, z d hd]; grind
  · unfold d2; rw [z c hc, z d hd]; grind
theorem hi3 (h : nz (cM A) 3) : 3 ≤ ldim (Rs A) := by
  obtain ⟨r, s, hr, hs, b1, b2, k⟩ := h
  obtain ⟨a, ha, b, hb, e, he, hab, hbe, e1⟩ := bc3 r hr b1
  obtain ⟨c, hc, d, hd, f, hf, hcd, hdf, e2⟩ := bc3 s hs b2
  rw [e1, e2, mi3 hab hbe he hcd hdf hf, sz_pC] at k
  refine up3 (rs_v A) (rs_row A ha) (rs_row A hb) (rs_row A he) (fun z => k ?_) (fun ⟨x, z⟩ => k ?_) (fun ⟨x, y, z⟩ => k ?_)
  · unfold d3; rw [z c hc, z d hd, z f hf]; grind
  · unfold d3; rw [z c hc, z d hd, z f hf]; grind
  · unfold d3; rw [z c hc, z d hd, z f hf]; grind
theorem hi4 (h : nz (cM A) 4) : 4 ≤ ldim (Rs A) := by
  obtain ⟨r, s, hr, hs, b1, b2, k⟩ := h
  rw [bc4 r hr b1, bc4 s hs b2, mi4, sz_pC] at k
  refine up4 (rs_v A) (rs_row A (a := 0) (by omega)) (rs_row A (a := 1) (by omega)) (rs_row A (a := 2) (by omega)) (rs_row A (a := 3) (by omega)) (fun z => k ?_) (fun ⟨x, z⟩ => k ?_) (fun ⟨x, y, z⟩ => k ?_) (fun ⟨x, y, w, z⟩ => k ?_)
  · unfold d4 d3
    rw [z 0 (by omega), z 1 (by omega), z 2 (by omega), z 3 (by omega)]
    generalize A 0 0 = a00, A 0 1 = a01, A 0 2 = a02, A 0 3 = a03, A 1 0 = a10, A 1 1 = a11, A 1 2 = a12, A 1 3 = a13, A 2 0 = a20, A 2 1 = a21, A 2 2 = a22, A 2 3 = a23, A 3 0 = a30, A 3 1 = a31, A 3 2 = a32, A 3 3 = a33
    grind
  · unfold d4 d3
    rw [z 0 (by omega), z 1 (by omega), z 2 (by omega), z 3 (by omega)]
    generalize A 0 0 = a00, A 0 1 = a01, A 0 2 = a02, A 0 3 = a03, A 1 0 = a10, A 1 1 = a11, A 1 2 = a12, A 1 3 = a13, A 2 0 = a20, A 2 1 = a21, A 2 2 = a22, A 2 3 = a23, A 3 0 = a30, A 3 1 = a31, A 3 2 = a32, A 3 3 = a33
    grind
  · unfold d4 d3
    rw [z 0 (by omega), z 1 (by omega), z 2 (by omega), z 3 (by omega)]
    generalize A 0 0 = a00, A 0 1 = a01, A 0 2 = a02, A 0 3 = a03, A 1 0 = a10, A 1 1 = a11, A 1 2 = a12, A 1 3 = a13, A 2 0 = a20, A 2 1 = a21, A 2 2 = a22, A 2 3 = a23, A 3 0 = a30, A 3 1 = a31, A 3 2 = a32, A 3 3 = a33
    grind
  · unfold d4 d3
    rw [z 0 (by omega), z 1 (by omega), z 2 (by omega), z 3 (by omega)]
    generalize A 0 0 = a00, A 0 1 = a01, A 0 2 = a02, A 0 3 = a03, A 1 0 = a10, A 1 1 = a11, A 1 2 = a12, A 1 3 = a13, A 2 0 = a20, A 2 1 = a21, A 2 2 = a22, A 2 3 = a23, A 3 0 = a30, A 3 1 = a31, A 3 2 = a32, A 3 3 = a33
    grind
theorem br {n : Nat} (h : RKf (cM A) n) : n = ldim (Rs A) := by
  obtain ⟨h5, h1, h2⟩ := h
  have no : ∀ k, n < k → ¬ nz (cM A) k := fun k hk z => by have := h2 k z; omega
  have : n = 0 ∨ n = 1 ∨ n = 2 ∨ n = 3 ∨ n = 4 := by omega
  rcases this with e | e | e | e | e <;> subst e
  · exact (lo0 (no 1 (by omega))).symm
  · have z := h1.resolve_left (by omega)
    have up := hi1 z
    obtain ⟨r, s, hr, hs, b1, b2, k⟩ := z
    obtain ⟨a, ha, e1⟩ := bc1 r hr b1
    obtain ⟨c, hc, e2⟩ := bc1 s hs b2
    rw [e1, e2, mi1 ha hc, sz_pC] at k
    have := lo1 (no 2 (by omega)) ha hc k
    omega
  · have z := h1.resolve_left (by omega)
    have up := hi2 z
    obtain ⟨r, s, hr, hs, b1, b2, k⟩ := z
    obtain ⟨a, ha, b, hb, hab, e1⟩ := bc2 r hr b1
    obtain ⟨c, hc, d, hd, hcd, e2⟩ := bc2 s hs b2
    rw [e1, e2, mi2 hab hb hcd hd, sz_pC] at k
    have := lo2 (no 3 (by omega)) hab hb hcd hd k
    omega
  · have z := h1.resolve_left (by omega)
    have up := hi3 z
    obtain ⟨r, s, hr, hs, b1, b2, k⟩ := z
    obtain ⟨a, ha, b, hb, e, he, hab, hbe, e1⟩ := bc3 r hr b1
    obtain ⟨c, hc, d, hd, f, hf, hcd, hdf, e2⟩ := bc3 s hs b2
    rw [e1, e2, mi3 hab hbe he hcd hdf hf, sz_pC] at k
    have d0 : d4 A = 0 := Classical.byContradiction (fun y => no 4 (by omega) ⟨15, 15, by decide, by decide, by decide, by decide, by rw [mi4]; exact sz_pC.mpr y⟩)
    have := lo3 d0 hab hbe he hcd hdf hf k
    omega
  · have z := h1.resolve_left (by omega)
    have up := hi4 z
    have := ld_le4 (Rs A)
    omega
end BRM
