/-! the last invariant of x less the numbers is the least relation of their powers -/
theorem gr_mz (E : Nat → Nat → Po) (k : Nat) : ∀ (n r : Nat) (g : Po), (sz g = 0 ∨ mnc g) → (sz (gr E k n r g) = 0 ∨ mnc (gr E k n r g)) := by
  have pg : ∀ a b, sz (pgcd a b) = 0 ∨ mnc (pgcd a b) := fun a b => by
    by_cases q : sz a = 0 ∧ sz b = 0
    · exact Or.inl (pgcd_0.mpr q)
    · exact Or.inr (pgcd_mnc (by omega))
  have hs : ∀ (n s r : Nat) (g : Po), (sz g = 0 ∨ mnc g) → (sz (gs E k r n s g) = 0 ∨ mnc (gs E k r n s g)) := by
    intro n
    induction n with
    | zero => intro s r g h; exact h
    | succ n ih =>
      intro s r g h
      rw [gs]
      refine ih _ _ _ ?_
      by_cases q : bc r = k ∧ bc s = k
      · rw [if_pos q]; exact pg _ _
      · rw [if_neg q]; exact h
  intro n
  induction n with
  | zero => intro r g h; exact h
  | succ n ih => intro r g h; rw [gr]; exact ih _ _ (hs _ _ _ _ h)
theorem gd_mnc {E : Nat → Nat → Po} {k : Nat} (h : sz (gd E k) ≠ 0) : mnc (gd E k) := by
  by_cases q : k = 0
  · rw [q, gd_0]; exact lin_mnc []
  · rw [gd_gr E q] at h ⊢
    rcases gr_mz E k 16 0 (pC 0) (Or.inl sz_z) with z | z
    · exact absurd z h
    · exact z
theorem pd_szle {a b : Po} (h : pd a b) (hb : sz b ≠ 0) : sz a ≤ sz b ∧ sz a ≠ 0 := by
  obtain ⟨t, ht⟩ := h
  have t0 : sz t ≠ 0 := fun z => by rw [sz_0 z, pZero_mul] at ht; rw [← ht, sz_z] at hb; exact hb rfl
  have a0 : sz a ≠ 0 := fun z => by rw [sz_0 z, pMul_comm, pZero_mul] at ht; rw [← ht, sz_z] at hb; exact hb rfl
  have := sz_mul t0 a0
  rw [ht] at this
  omega
theorem mnc_dd {a b : Po} (ha : mnc a) (hb : mnc b) (h1 : pd a b) (h2 : pd b a) : a = b := by
  have x := pd_szle h1 (mnc_sz hb)
  have y := pd_szle h2 (mnc_sz ha)
  exact mnc_eq ha hb h1 (by omega)
theorem pd_spo {d : Po} {f : Nat → Po} : ∀ n, (∀ i, i < n → pd d (f i)) → pd d (spo f n)
  | 0, _ => pd_0 d
  | n + 1, h => by rw [spo]; exact pd_add (pd_spo n (fun i hi => h i (by omega))) (h n (by omega))
theorem allR : ∀ r, r < 16 → ∀ R, R < 5 → (bc r = R ∧ r < 2 ^ R) → r = 2 ^ R - 1 := by decide +kernel
theorem allR1 : ∀ r, r < 16 → ∀ R, R < 5 → (bc r + 1 = R ∧ r < 2 ^ R) → ∃ j, j < R ∧ r = 2 ^ R - 1 - 2 ^ j := by decide +kernel
/-- the common divisor of the whole is the characteristic polynomial -/
theorem gd_all (E : Nat → Nat → Po) {R : Nat} (hR : R < 5) : gd (xE E R) R = chp E R := by
  have p := pw_lt R hR
  have cm := chp_mn E hR
  have c0 := mnc_sz cm.2
  have h1 : pd (gd (xE E R) R) (chp E R) := gd_dv (xE E R) p.1 p.1 p.2 p.2
  have h2 : pd (chp E R) (pMul (pC 1) (gd (xE E R) R)) := gd_f (fun r s hr hs b1 b2 => by
    rw [pOne_mul]
    by_cases q : r < 2 ^ R ∧ s < 2 ^ R
    · rw [allR r hr R hR ⟨b1, q.1⟩, allR s hs R hR ⟨b2, q.2⟩]
      exact pd_refl _
    · have : mi (xE E R) r s = pC 0 := mnx_out E hR (bc r) r s hr hs rfl (by omega) (by
        by_cases y : r < 2 ^ R
        · right; exact fun z => q ⟨y, z⟩
        · left; exact y)
      rw [this]
      exact pd_0 _)
  rw [pOne_mul] at h2
  have g0 := (pd_szle h1 c0).2
  exact mnc_dd (gd_mnc g0) cm.2 h1 h2
theorem co_xmul (E : Nat → Nat → Po) {R i k : Nat} (hi : i < R) (hk : k < R) (X : Po) (t : Nat) : co (pMul (xE E R i k) X) t = - (nuA E i k * co X t) + (if i = k then (if 1 ≤ t then co X (t - 1) else 0) else 0) := by
  have e : xE E R i k = pAdd (pC (- nuA E i k)) (if i = k then mono 1 1 else pC 0) := by
    unfold xE nuA
    rw [if_pos ⟨hi, hk⟩]
  rw [e, pMul_comm, pMul_add, co_add, pMul_comm, co_Cmul]
  by_cases q : i = k
  · rw [if_pos q, if_pos q, pMul_comm, co_monom]
    by_cases z : 1 ≤ t
    · rw [if_pos z, if_pos z]; grind
    · rw [if_neg z, if_neg z]; grind
  · rw [if_neg q, if_neg q, pMul_comm, pZero_mul, co_0]
    grind
theorem sm_delta {f : Nat → Fp} {n k : Nat} (hk : k < n) : sm (fun i => if i = k then f i else 0) n = f k := by
  rw [sm_single n k hk (fun i _ hi => by rw [if_neg hi]), if_pos rfl]
theorem sm_neg (f : Nat → Fp) (n : Nat) : sm (fun i => - f i) n = - sm f n := by
  have := sm_mul (-1 : Fp) f n
  rw [show - sm f n = -1 * sm f n by grind, ← this]
  exact sm_congr _ (fun i _ => by grind)
/-- the coefficients of (x less the numbers) times a matrix of polynomials -/
theorem co_xsum (E : Nat → Nat → Po) {R i : Nat} (hi : i < R) (X : Nat → Po) (t : Nat) : co (spo (fun k => pMul (xE E R i k) (X k)) R) t = (if 1 ≤ t then co (X i) (t - 1) else 0) + - sm (fun k => nuA E i k * co (X k) t) R := by
  rw [co_spo]
  have e : sm (fun k => co (pMul (xE E R i k) (X k)) t) R = sm (fun k => (if k = i then (if 1 ≤ t then co (X k) (t - 1) else 0) else 0) + - (nuA E i k * co (X k) t)) R := sm_congr _ (fun k hk => by
    rw [co_xmul E hi hk]
    by_cases q : i = k
    · rw [if_pos q, if_pos q.symm]; grind
    · rw [if_neg q, if_neg (Ne.symm q)]; grind)
  rw [e, sm_add, sm_delta (f := fun k => if 1 ≤ t then co (X k) (t - 1) else 0) hi, sm_neg]
theorem mpw_in (a : Nat → Nat → Fp) {R i j : Nat} (k : Nat) (hi : i < R) (hj : j < R) : mpw a R (k + 1) i j = sm (fun l => mpw a R k i l * a l j) R := if_pos ⟨hi, hj⟩
theorem mpw_left (a : Nat → Nat → Fp) {R : Nat} : ∀ (m : Nat) {i j : Nat}, i < R → j < R → sm (fun k => a i k * mpw a R m k j) R = mpw a R (m + 1) i j
  | 0, i, j, hi, hj => by
    rw [mpw_in a 0 hi hj]
    have e1 : sm (fun k => a i k * mpw a R 0 k j) R = sm (fun k => if k = j then a i k else 0) R := sm_congr _ (fun k hk => by
      show a i k * (if k = j ∧ k < R then 1 else 0) = _
      by_cases q : k = j
      · rw [if_pos ⟨q, hk⟩, if_pos q]; grind
      · rw [if_neg (fun y => q y.1), if_neg q]; grind)
    have e2 : sm (fun l => mpw a R 0 i l * a l j) R = sm (fun l => if l = i then a l j else 0) R := sm_congr _ (fun l hl => by
      show (if i = l ∧ i < R then 1 else 0) * a l j = _
      by_cases q : l = i
      · rw [if_pos ⟨q.symm, hi⟩, if_pos q]; grind
      · rw [if_neg (fun y => q y.1.symm), if_neg q]; grind)
    rw [e1, e2, sm_delta hj, sm_delta (f := fun l => a l j) hi]
  | m + 1, i, j, hi, hj => by
    rw [mpw_in a (m + 1) hi hj]
    have e1 : sm (fun k => a i k * mpw a R (m + 1) k j) R = sm (fun k => sm (fun l => a i k * mpw a R m k l * a l j) R) R := sm_congr _ (fun k hk => by
      rw [mpw_in a m hk hj, ← sm_mul]
      exact sm_congr _ (fun l _ => by generalize mpw a R m k l = u; grind))
    rw [e1, sm_swap]
    refine sm_congr _ (fun l hl => ?_)
    rw [← mpw_left a m hi hl]
    have := sm_mul (a l j) (fun k => a i k * mpw a R m k l) R
    rw [Lean.Grind.CommSemiring.mul_comm, ← this]
    exact sm_congr _ (fun k _ => by generalize mpw a R m k l = u; grind)
/-- a polynomial times the unit matrix is (x less the numbers) times something: the matrix annuls it -/
theorem ann_of (E : Nat → Nat → Po) {R : Nat} {q : Po} {X : Nat → Nat → Po} (hX : ∀ k j, sz (X k j) ≤ 4) (h : ∀ i j, i < R → j < R → spo (fun k => pMul (xE E R i k) (X k j)) R = if i = j then q else pC 0) : ∀ k, k < 16 → Phi (nuA E) R q k = 0 := by
  intro k hk
  by_cases o : k / 4 < R ∧ k % 4 < R
  · have cf : ∀ i, i < R → ∀ t, (if i = k % 4 then co q t else 0) = (if 1 ≤ t then co (X i (k % 4)) (t - 1) else 0) + - sm (fun l => nuA E i l * co (X l (k % 4)) t) R := fun i hi t => by
      rw [← co_xsum E hi (fun l => X l (k % 4)) t, h i (k % 4) hi o.2]
      by_cases z : i = k % 4
      · rw [if_pos z, if_pos z]
      · rw [if_neg z, if_neg z, co_0]
    have T : ∀ t, co q t * pwv (nuA E) R t k = sm (fun i => mpw (nuA E) R t (k / 4) i * (if 1 ≤ t then co (X i (k % 4)) (t - 1) else 0)) R + - sm (fun i => mpw (nuA E) R (t + 1) (k / 4) i * co (X i (k % 4)) t) R := fun t => by
      have e1 : co q t * pwv (nuA E) R t k = sm (fun i => if i = k % 4 then mpw (nuA E) R t (k / 4) i * co q t else 0) R := by
        rw [sm_delta (f := fun i => mpw (nuA E) R t (k / 4) i * co q t) o.2]
        unfold pwv
        generalize mpw (nuA E) R t (k / 4) (k % 4) = u
        grind
      have e2 : sm (fun i => if i = k % 4 then mpw (nuA E) R t (k / 4) i * co q t else 0) R = sm (fun i => mpw (nuA E) R t (k / 4) i * (if 1 ≤ t then co (X i (k % 4)) (t - 1) else 0) + - sm (fun l => mpw (nuA E) R t (k / 4) i * (nuA E i l * co (X l (k % 4)) t)) R) R := sm_congr _ (fun i hi => by
        have c := cf i hi t
        rw [sm_mul]
        generalize mpw (nuA E) R t (k / 4) i = u
        by_cases z : i = k % 4
        · rw [if_pos z] at c ⊢
          rw [c]
          grind
        · rw [if_neg z] at c ⊢
          grind)
      rw [e1, e2, sm_add, sm_neg, sm_swap]
      congr 2
      refine sm_congr _ (fun l hl => ?_)
      rw [mpw_in (nuA E) t o.1 hl]
      have e3 := sm_mul (co (X l (k % 4)) t) (fun i => mpw (nuA E) R t (k / 4) i * nuA E i l) R
      rw [Lean.Grind.CommSemiring.mul_comm, ← e3]
      exact sm_congr _ (fun i _ => by generalize mpw (nuA E) R t (k / 4) i = u; grind)
    have z0 : sm (fun i => mpw (nuA E) R 0 (k / 4) i * (if 1 ≤ 0 then co (X i (k % 4)) (0 - 1) else 0)) R = 0 := sm_zero _ (fun i _ => by rw [if_neg (by decide)]; generalize mpw (nuA E) R 0 (k / 4) i = u; grind)
    have z5 : sm (fun i => mpw (nuA E) R (4 + 1) (k / 4) i * co (X i (k % 4)) 4) R = 0 := sm_zero _ (fun i _ => by rw [sz_hi (p := X i (k % 4)) (hX _ _)]; generalize mpw (nuA E) R (4 + 1) (k / 4) i = u; grind)
    have s1 : ∀ t, sm (fun i => mpw (nuA E) R (t + 1) (k / 4) i * (if 1 ≤ t + 1 then co (X i (k % 4)) (t + 1 - 1) else 0)) R = sm (fun i => mpw (nuA E) R (t + 1) (k / 4) i * co (X i (k % 4)) t) R := fun t => sm_congr _ (fun i _ => by rw [if_pos (by omega), Nat.add_sub_cancel])
    unfold Phi
    rw [sm, sm, sm, sm, sm, sm, T 0, T 1, T 2, T 3, T 4, z0, z5, s1 0, s1 1, s1 2, s1 3]
    generalize sm (fun i => mpw (nuA E) R (0 + 1) (k / 4) i * co (X i (k % 4)) 0) R = u0
    generalize sm (fun i => mpw (nuA E) R (1 + 1) (k / 4) i * co (X i (k % 4)) 1) R = u1
    generalize sm (fun i => mpw (nuA E) R (2 + 1) (k / 4) i * co (X i (k % 4)) 2) R = u2
    generalize sm (fun i => mpw (nuA E) R (3 + 1) (k / 4) i * co (X i (k % 4)) 3) R = u3
    grind
  · refine sm_zero _ (fun m _ => ?_)
    unfold pwv
    rw [mpw_out _ _ _ _ _ o]
    grind
