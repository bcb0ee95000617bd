/-! blocks: how many of the multiplicities are so great, by the ranks of the powers -/
def cv (v : Nat → Nat) (m : Nat) : Nat → Nat
  | 0 => 0
  | n + 1 => cv v m n + (if v (n + 1) - v n = m then 1 else 0)
theorem num1 (r v : Nat → Nat) (h0 : r 0 = 1) (z0 : v 0 = 0) (d : ∀ m, r (m + 1) ≤ r m) (l : ∀ m, m < v 1 - v 0 → r (m + 1) < r m) (k : ∀ m, v 1 - v 0 ≤ m → r (m + 1) = r m) (g : r 1 + 1 = 1 → ∀ m, r m ≤ r (m + 1) + 1) (b : ∀ k, k ≤ 1 → v k ≤ k) (mo : ∀ k, k < 1 → v k ≤ v (k + 1)) (f : ∀ k, k ≤ 1 → (k ≤ r 1 ↔ v k = 0)) (K : v 1 = 1 → r (v 1 - v 0) = 0) (G : v 1 + 1 = 1 → ∀ m, 1 ≤ r m) (I : r 1 = 0 → ∀ k, k ≤ 1 → k ≤ v k) : r 0 + r 2 = cv v 1 1 + 2 * r 1 ∧ r 1 + r 3 = cv v 2 1 + 2 * r 2 ∧ r 2 + r 4 = cv v 3 1 + 2 * r 3 ∧ r 3 + r 5 = cv v 4 1 + 2 * r 4 ∧ r 4 + r 6 = cv v 5 1 + 2 * r 5 := by
  have b1 := b 1 (by omega)
  have m0 : v 0 ≤ v 1 := mo 0 (by omega)
  have c1 : v 1 = 0 ∨ v 1 = 1 := by omega
  rcases c1 with e1 | e1
  · have T : v 1 - v 0 = 0 := by omega
    rw [T] at l k K
    have k0 : r 1 = r 0 := k 0 (by omega)
    have k1 : r 2 = r 1 := k 1 (by omega)
    have k2 : r 3 = r 2 := k 2 (by omega)
    have k3 : r 4 = r 3 := k 3 (by omega)
    have k4 : r 5 = r 4 := k 4 (by omega)
    have k5 : r 6 = r 5 := k 5 (by omega)
    have k6 : r 7 = r 6 := k 6 (by omega)
    have f1 : 1 ≤ r 1 := (f 1 (by omega)).mpr e1
    have d0 : r 1 ≤ r 0 := d 0
    have R1 : r 1 = 1 := by omega
    have G1 := G (by omega) 1
    have G2 := G (by omega) 2
    have G3 := G (by omega) 3
    have c1 : cv v 1 1 = 0 := by simp [cv, z0, e1]
    have c2 : cv v 2 1 = 0 := by simp [cv, z0, e1]
    have c3 : cv v 3 1 = 0 := by simp [cv, z0, e1]
    have c4 : cv v 4 1 = 0 := by simp [cv, z0, e1]
    have c5 : cv v 5 1 = 0 := by simp [cv, z0, e1]
    rw [c1, c2, c3, c4, c5]
    omega
  · have T : v 1 - v 0 = 1 := by omega
    rw [T] at l k K
    have l0 : r 1 < r 0 := l 0 (by omega)
    have k1 : r 2 = r 1 := k 1 (by omega)
    have k2 : r 3 = r 2 := k 2 (by omega)
    have k3 : r 4 = r 3 := k 3 (by omega)
    have k4 : r 5 = r 4 := k 4 (by omega)
    have k5 : r 6 = r 5 := k 5 (by omega)
    have k6 : r 7 = r 6 := k 6 (by omega)
    have f1 : ¬ 1 ≤ r 1 := fun z => by
      have := (f 1 (by omega)).mp z
      omega
    have d0 : r 1 ≤ r 0 := d 0
    have R1 : r 1 = 0 := by omega
    have i1 := I R1 1 (by omega)
    have g1 : r 1 ≤ r 2 + 1 := g (by omega) 1
    have g2 : r 2 ≤ r 3 + 1 := g (by omega) 2
    have g3 : r 3 ≤ r 4 + 1 := g (by omega) 3
    have g4 : r 4 ≤ r 5 + 1 := g (by omega) 4
    have g5 : r 5 ≤ r 6 + 1 := g (by omega) 5
    have q : r 1 = 0 := K (by omega)
    have c1 : cv v 1 1 = 1 := by simp [cv, z0, e1]
    have c2 : cv v 2 1 = 0 := by simp [cv, z0, e1]
    have c3 : cv v 3 1 = 0 := by simp [cv, z0, e1]
    have c4 : cv v 4 1 = 0 := by simp [cv, z0, e1]
    have c5 : cv v 5 1 = 0 := by simp [cv, z0, e1]
    rw [c1, c2, c3, c4, c5]
    omega
theorem num2 (r v : Nat → Nat) (h0 : r 0 = 2) (z0 : v 0 = 0) (d : ∀ m, r (m + 1) ≤ r m) (l : ∀ m, m < v 2 - v 1 → r (m + 1) < r m) (k : ∀ m, v 2 - v 1 ≤ m → r (m + 1) = r m) (g : r 1 + 1 = 2 → ∀ m, r m ≤ r (m + 1) + 1) (b : ∀ k, k ≤ 2 → v k ≤ k) (mo : ∀ k, k < 2 → v k ≤ v (k + 1)) (f : ∀ k, k ≤ 2 → (k ≤ r 1 ↔ v k = 0)) (K : v 2 = 2 → r (v 2 - v 1) = 0) (G : v 2 + 1 = 2 → ∀ m, 1 ≤ r m) (I : r 1 = 0 → ∀ k, k ≤ 2 → k ≤ v k) : r 0 + r 2 = cv v 1 2 + 2 * r 1 ∧ r 1 + r 3 = cv v 2 2 + 2 * r 2 ∧ r 2 + r 4 = cv v 3 2 + 2 * r 3 ∧ r 3 + r 5 = cv v 4 2 + 2 * r 4 ∧ r 4 + r 6 = cv v 5 2 + 2 * r 5 := by
  have b1 := b 1 (by omega)
  have b2 := b 2 (by omega)
  have m0 : v 0 ≤ v 1 := mo 0 (by omega)
  have m1 : v 1 ≤ v 2 := mo 1 (by omega)
  have c1 : v 1 = 0 ∨ v 1 = 1 := by omega
  rcases c1 with e1 | e1
  · have c2 : v 2 = 0 ∨ v 2 = 1 ∨ v 2 = 2 := by omega
    rcases c2 with e2 | e2 | e2
    · have T : v 2 - v 1 = 0 := by omega
      rw [T] at l k K
      have k0 : r 1 = r 0 := k 0 (by omega)
      have k1 : r 2 = r 1 := k 1 (by omega)
      have k2 : r 3 = r 2 := k 2 (by omega)
      have k3 : r 4 = r 3 := k 3 (by omega)
      have k4 : r 5 = r 4 := k 4 (by omega)
      have k5 : r 6 = r 5 := k 5 (by omega)
      have k6 : r 7 = r 6 := k 6 (by omega)
      have f1 : 1 ≤ r 1 := (f 1 (by omega)).mpr e1
      have f2 : 2 ≤ r 1 := (f 2 (by omega)).mpr e2
      have d0 : r 1 ≤ r 0 := d 0
      have R1 : r 1 = 2 := by omega
      have c1 : cv v 1 2 = 0 := by simp [cv, z0, e1, e2]
      have c2 : cv v 2 2 = 0 := by simp [cv, z0, e1, e2]
      have c3 : cv v 3 2 = 0 := by simp [cv, z0, e1, e2]
      have c4 : cv v 4 2 = 0 := by simp [cv, z0, e1, e2]
      have c5 : cv v 5 2 = 0 := by simp [cv, z0, e1, e2]
      rw [c1, c2, c3, c4, c5]
      omega
    · have T : v 2 - v 1 = 1 := by omega
      rw [T] at l k K
      have l0 : r 1 < r 0 := l 0 (by omega)
      have k1 : r 2 = r 1 := k 1 (by omega)
      have k2 : r 3 = r 2 := k 2 (by omega)
      have k3 : r 4 = r 3 := k 3 (by omega)
      have k4 : r 5 = r 4 := k 4 (by omega)
      have k5 : r 6 = r 5 := k 5 (by omega)
      have k6 : r 7 = r 6 := k 6 (by omega)
      have f1 : 1 ≤ r 1 := (f 1 (by omega)).mpr e1
      have f2 : ¬ 2 ≤ r 1 := fun z => by
        have := (f 2 (by omega)).mp z
        omega
      have d0 : r 1 ≤ r 0 := d 0
      have R1 : r 1 = 1 := by omega
      have g1 : r 1 ≤ r 2 + 1 := g (by omega) 1
      have g2 : r 2 ≤ r 3 + 1 := g (by omega) 2
      have g3 : r 3 ≤ r 4 + 1 := g (by omega) 3
      have g4 : r 4 ≤ r 5 + 1 := g (by omega) 4
      have g5 : r 5 ≤ r 6 + 1 := g (by omega) 5
      have G1 := G (by omega) 1
      have G2 := G (by omega) 2
      have G3 := G (by omega) 3
      have c1 : cv v 1 2 = 1 := by simp [cv, z0, e1, e2]
      have c2 : cv v 2 2 = 0 := by simp [cv, z0, e1, e2]
      have c3 : cv v 3 2 = 0 := by simp [cv, z0, e1, e2]
      have c4 : cv v 4 2 = 0 := by simp [cv, z0, e1, e2]
      have c5 : cv v 5 2 = 0 := by simp [cv, z0, e1, e2]
      rw [c1, c2, c3, c4, c5]
      omega
    · have T : v 2 - v 1 = 2 := by omega
      rw [T] at l k K
      have l0 : r 1 < r 0 := l 0 (by omega)
      have l1 : r 2 < r 1 := l 1 (by omega)
      have k2 : r 3 = r 2 := k 2 (by omega)
      have k3 : r 4 = r 3 := k 3 (by omega)
      have k4 : r 5 = r 4 := k 4 (by omega)
      have k5 : r 6 = r 5 := k 5 (by omega)
      have k6 : r 7 = r 6 := k 6 (by omega)
      have f1 : 1 ≤ r 1 := (f 1 (by omega)).mpr e1
      have f2 : ¬ 2 ≤ r 1 := fun z => by
        have := (f 2 (by omega)).mp z
        omega
      have d0 : r 1 ≤ r 0 := d 0
      have R1 : r 1 = 1 := by omega
      have g1 : r 1 ≤ r 2 + 1 := g (by omega) 1
      have g2 : r 2 ≤ r 3 + 1 := g (by omega) 2
      have g3 : r 3 ≤ r 4 + 1 := g (by omega) 3
      have g4 : r 4 ≤ r 5 + 1 := g (by omega) 4
      have g5 : r 5 ≤ r 6 + 1 := g (by omega) 5
      have q : r 2 = 0 := K (by omega)
      have c1 : cv v 1 2 = 0 := by simp [cv, z0, e1, e2]
      have c2 : cv v 2 2 = 1 := by simp [cv, z0, e1, e2]
      have c3 : cv v 3 2 = 0 := by simp [cv, z0, e1, e2]
      have c4 : cv v 4 2 = 0 := by simp [cv, z0, e1, e2]
      have c5 : cv v 5 2 = 0 := by simp [cv, z0, e1, e2]
      rw [c1, c2, c3, c4, c5]
      omega
  · have c2 : v 2 = 1 ∨ v 2 = 2 := by omega
    rcases c2 with e2 | e2
    · have T : v 2 - v 1 = 0 := by omega
      rw [T] at l k K
      have k0 : r 1 = r 0 := k 0 (by omega)
      have k1 : r 2 = r 1 := k 1 (by omega)
      have k2 : r 3 = r 2 := k 2 (by omega)
      have k3 : r 4 = r 3 := k 3 (by omega)
      have k4 : r 5 = r 4 := k 4 (by omega)
      have k5 : r 6 = r 5 := k 5 (by omega)
      have k6 : r 7 = r 6 := k 6 (by omega)
      have f1 : ¬ 1 ≤ r 1 := fun z => by
        have := (f 1 (by omega)).mp z
        omega
      have f2 : ¬ 2 ≤ r 1 := fun z => by
        have := (f 2 (by omega)).mp z
        omega
      have d0 : r 1 ≤ r 0 := d 0
      have R1 : r 1 = 0 := by omega
      have i1 := I R1 1 (by omega)
      have i2 := I R1 2 (by omega)
      have G1 := G (by omega) 1
      have G2 := G (by omega) 2
      have G3 := G (by omega) 3
      exfalso
      omega
    · have T : v 2 - v 1 = 1 := by omega
      rw [T] at l k K
      have l0 : r 1 < r 0 := l 0 (by omega)
      have k1 : r 2 = r 1 := k 1 (by omega)
      have k2 : r 3 = r 2 := k 2 (by omega)
      have k3 : r 4 = r 3 := k 3 (by omega)
      have k4 : r 5 = r 4 := k 4 (by omega)
      have k5 : r 6 = r 5 := k 5 (by omega)
      have k6 : r 7 = r 6 := k 6 (by omega)
      have f1 : ¬ 1 ≤ r 1 := fun z => by
        have := (f 1 (by omega)).mp z
        omega
      have f2 : ¬ 2 ≤ r 1 := fun z => by
        have := (f 2 (by omega)).mp z
        omega
      have d0 : r 1 ≤ r 0 := d 0
      have R1 : r 1 = 0 := by omega
      have i1 := I R1 1 (by omega)
      have i2 := I R1 2 (by omega)
      have q : r 1 = 0 := K (by omega)
      have c1 : cv v 1 2 = 2 := by simp [cv, z0, e1, e2]
      have c2 : cv v 2 2 = 0 := by simp [cv, z0, e1, e2]
      have c3 : cv v 3 2 = 0 := by simp [cv, z0, e1, e2]
      have c4 : cv v 4 2 = 0 := by simp [cv, z0, e1, e2]
      have c5 : cv v 5 2 = 0 := by simp [cv, z0, e1, e2]
      rw [c1, c2, c3, c4, c5]
      omega
theorem num3 (r v : Nat → Nat) (h0 : r 0 = 3) (z0 : v 0 = 0) (d : ∀ m, r (m + 1) ≤ r m) (l : ∀ m, m < v 3 - v 2 → r (m + 1) < r m) (k : ∀ m, v 3 - v 2 ≤ m → r (m + 1) = r m) (g : r 1 + 1 = 3 → ∀ m, r m ≤ r (m + 1) + 1) (b : ∀ k, k ≤ 3 → v k ≤ k) (mo : ∀ k, k < 3 → v k ≤ v (k + 1)) (f : ∀ k, k ≤ 3 → (k ≤ r 1 ↔ v k = 0)) (K : v 3 = 3 → r (v 3 - v 2) = 0) (G : v 3 + 1 = 3 → ∀ m, 1 ≤ r m) (I : r 1 = 0 → ∀ k, k ≤ 3 → k ≤ v k) : r 0 + r 2 = cv v 1 3 + 2 * r 1 ∧ r 1 + r 3 = cv v 2 3 + 2 * r 2 ∧ r 2 + r 4 = cv v 3 3 + 2 * r 3 ∧ r 3 + r 5 = cv v 4 3 + 2 * r 4 ∧ r 4 + r 6 = cv v 5 3 + 2 * r 5 := by
  have b1 := b 1 (by omega)
  have b2 := b 2 (by omega)
  have b3 := b 3 (by omega)
  have m0 : v 0 ≤ v 1 := mo 0 (by omega)
  have m1 : v 1 ≤ v 2 := mo 1 (by omega)
  have m2 : v 2 ≤ v 3 := mo 2 (by omega)
  have c1 : v 1 = 0 ∨ v 1 = 1 := by omega
  rcases c1 with e1 | e1
  · have c2 : v 2 = 0 ∨ v 2 = 1 ∨ v 2 = 2 := by omega
    rcases c2 with e2 | e2 | e2
    · have c3 : v 3 = 0 ∨ v 3 = 1 ∨ v 3 = 2 ∨ v 3 = 3 := by omega
      rcases c3 with e3 | e3 | e3 | e3
      · have T : v 3 - v 2 = 0 := by omega
        rw [T] at l k K
        have k0 : r 1 = r 0 := k 0 (by omega)
        have k1 : r 2 = r 1 := k 1 (by omega)
        have k2 : r 3 = r 2 := k 2 (by omega)
        have k3 : r 4 = r 3 := k 3 (by omega)
        have k4 : r 5 = r 4 := k 4 (by omega)
        have k5 : r 6 = r 5 := k 5 (by omega)
        have k6 : r 7 = r 6 := k 6 (by omega)
        have f1 : 1 ≤ r 1 := (f 1 (by omega)).mpr e1
        have f2 : 2 ≤ r 1 := (f 2 (by omega)).mpr e2
        have f3 : 3 ≤ r 1 := (f 3 (by omega)).mpr e3
        have d0 : r 1 ≤ r 0 := d 0
        have R1 : r 1 = 3 := by omega
        have c1 : cv v 1 3 = 0 := by simp [cv, z0, e1, e2, e3]
        have c2 : cv v 2 3 = 0 := by simp [cv, z0, e1, e2, e3]
        have c3 : cv v 3 3 = 0 := by simp [cv, z0, e1, e2, e3]
        have c4 : cv v 4 3 = 0 := by simp [cv, z0, e1, e2, e3]
        have c5 : cv v 5 3 = 0 := by simp [cv, z0, e1, e2, e3]
        rw [c1, c2, c3, c4, c5]
        omega
      · have T : v 3 - v 2 = 1 := by omega
        rw [T] at l k K
        have l0 : r 1 < r 0 := l 0 (by omega)
        have k1 : r 2 = r 1 := k 1 (by omega)
        have k2 : r 3 = r 2 := k 2 (by omega)
        have k3 : r 4 = r 3 := k 3 (by omega)
        have k4 : r 5 = r 4 := k 4 (by omega)
        have k5 : r 6 = r 5 := k 5 (by omega)
        have k6 : r 7 = r 6 := k 6 (by omega)
        have f1 : 1 ≤ r 1 := (f 1 (by omega)).mpr e1
        have f2 : 2 ≤ r 1 := (f 2 (by omega)).mpr e2
        have f3 : ¬ 3 ≤ r 1 := fun z => by
          have := (f 3 (by omega)).mp z
          omega
        have d0 : r 1 ≤ r 0 := d 0
        have R1 : r 1 = 2 := by omega
        have g1 : r 1 ≤ r 2 + 1 := g (by omega) 1
        have g2 : r 2 ≤ r 3 + 1 := g (by omega) 2
        have g3 : r 3 ≤ r 4 + 1 := g (by omega) 3
        have g4 : r 4 ≤ r 5 + 1 := g (by omega) 4
        have g5 : r 5 ≤ r 6 + 1 := g (by omega) 5
        have c1 : cv v 1 3 = 1 := by simp [cv, z0, e1, e2, e3]
        have c2 : cv v 2 3 = 0 := by simp [cv, z0, e1, e2, e3]
        have c3 : cv v 3 3 = 0 := by simp [cv, z0, e1, e2, e3]
        have c4 : cv v 4 3 = 0 := by simp [cv, z0, e1, e2, e3]
        have c5 : cv v 5 3 = 0 := by simp [cv, z0, e1, e2, e3]
        rw [c1, c2, c3, c4, c5]
        omega
      · have T : v 3 - v 2 = 2 := by omega
        rw [T] at l k K
        have l0 : r 1 < r 0 := l 0 (by omega)
        have l1 : r 2 < r 1 := l 1 (by omega)
        have k2 : r 3 = r 2 := k 2 (by omega)
        have k3 : r 4 = r 3 := k 3 (by omega)
        have k4 : r 5 = r 4 := k 4 (by omega)
        have k5 : r 6 = r 5 := k 5 (by omega)
        have k6 : r 7 = r 6 := k 6 (by omega)
        have f1 : 1 ≤ r 1 := (f 1 (by omega)).mpr e1
        have f2 : 2 ≤ r 1 := (f 2 (by omega)).mpr e2
        have f3 : ¬ 3 ≤ r 1 := fun z => by
          have := (f 3 (by omega)).mp z
          omega
        have d0 : r 1 ≤ r 0 := d 0
        have R1 : r 1 = 2 := by omega
        have g1 : r 1 ≤ r 2 + 1 := g (by omega) 1
        have g2 : r 2 ≤ r 3 + 1 := g (by omega) 2
        have g3 : r 3 ≤ r 4 + 1 := g (by omega) 3
        have g4 : r 4 ≤ r 5 + 1 := g (by omega) 4
        have g5 : r 5 ≤ r 6 + 1 := g (by omega) 5
        have G1 := G (by omega) 1
        have G2 := G (by omega) 2
        have G3 := G (by omega) 3
        have c1 : cv v 1 3 = 0 := by simp [cv, z0, e1, e2, e3]
        have c2 : cv v 2 3 = 1 := by simp [cv, z0, e1, e2, e3]
        have c3 : cv v 3 3 = 0 := by simp [cv, z0, e1, e2, e3]
        have c4 : cv v 4 3 = 0 := by simp [cv, z0, e1, e2, e3]
        have c5 : cv v 5 3 = 0 := by simp [cv, z0, e1, e2, e3]
        rw [c1, c2, c3, c4, c5]
        omega
      · have T : v 3 - v 2 = 3 := by omega
        rw [T] at l k K
        have l0 : r 1 < r 0 := l 0 (by omega)
        have l1 : r 2 < r 1 := l 1 (by omega)
        have l2 : r 3 < r 2 := l 2 (by omega)
        have k3 : r 4 = r 3 := k 3 (by omega)
        have k4 : r 5 = r 4 := k 4 (by omega)
        have k5 : r 6 = r 5 := k 5 (by omega)
        have k6 : r 7 = r 6 := k 6 (by omega)
        have f1 : 1 ≤ r 1 := (f 1 (by omega)).mpr e1
        have f2 : 2 ≤ r 1 := (f 2 (by omega)).mpr e2
        have f3 : ¬ 3 ≤ r 1 := fun z => by
          have := (f 3 (by omega)).mp z
          omega
        have d0 : r 1 ≤ r 0 := d 0
        have R1 : r 1 = 2 := by omega
        have g1 : r 1 ≤ r 2 + 1 := g (by omega) 1
        have g2 : r 2 ≤ r 3 + 1 := g (by omega) 2
        have g3 : r 3 ≤ r 4 + 1 := g (by omega) 3
        have g4 : r 4 ≤ r 5 + 1 := g (by omega) 4
        have g5 : r 5 ≤ r 6 + 1 := g (by omega) 5
        have q : r 3 = 0 := K (by omega)
        have c1 : cv v 1 3 = 0 := by simp [cv, z0, e1, e2, e3]
        have c2 : cv v 2 3 = 0 := by simp [cv, z0, e1, e2, e3]
        have c3 : cv v 3 3 = 1 := by simp [cv, z0, e1, e2, e3]
        have c4 : cv v 4 3 = 0 := by simp [cv, z0, e1, e2, e3]
        have c5 : cv v 5 3 = 0 := by simp [cv, z0, e1, e2, e3]
        rw [c1, c2, c3, c4, c5]
        omega
    · have c3 : v 3 = 1 ∨ v 3 = 2 ∨ v 3 = 3 := by omega
      rcases c3 with e3 | e3 | e3
      · have T : v 3 - v 2 = 0 := by omega
        rw [T] at l k K
        have k0 : r 1 = r 0 := k 0 (by omega)
        have k1 : r 2 = r 1 := k 1 (by omega)
        have k2 : r 3 = r 2 := k 2 (by omega)
        have k3 : r 4 = r 3 := k 3 (by omega)
        have k4 : r 5 = r 4 := k 4 (by omega)
        have k5 : r 6 = r 5 := k 5 (by omega)
        have k6 : r 7 = r 6 := k 6 (by omega)
        have f1 : 1 ≤ r 1 := (f 1 (by omega)).mpr e1
        have f2 : ¬ 2 ≤ r 1 := fun z => by
          have := (f 2 (by omega)).mp z
          omega
        have f3 : ¬ 3 ≤ r 1 := fun z => by
          have := (f 3 (by omega)).mp z
          omega
        have d0 : r 1 ≤ r 0 := d 0
        have R1 : r 1 = 1 := by omega
        exfalso
        omega
      · have T : v 3 - v 2 = 1 := by omega
        rw [T] at l k K
        have l0 : r 1 < r 0 := l 0 (by omega)
        have k1 : r 2 = r 1 := k 1 (by omega)
        have k2 : r 3 = r 2 := k 2 (by omega)
        have k3 : r 4 = r 3 := k 3 (by omega)
        have k4 : r 5 = r 4 := k 4 (by omega)
        have k5 : r 6 = r 5 := k 5 (by omega)
        have k6 : r 7 = r 6 := k 6 (by omega)
        have f1 : 1 ≤ r 1 := (f 1 (by omega)).mpr e1
        have f2 : ¬ 2 ≤ r 1 := fun z => by
          have := (f 2 (by omega)).mp z
          omega
        have f3 : ¬ 3 ≤ r 1 := fun z => by
          have := (f 3 (by omega)).mp z
          omega
        have d0 : r 1 ≤ r 0 := d 0
        have R1 : r 1 = 1 := by omega
        have G1 := G (by omega) 1
        have G2 := G (by omega) 2
        have G3 := G (by omega) 3
        have c1 : cv v 1 3 = 2 := by simp [cv, z0, e1, e2, e3]
        have c2 : cv v 2 3 = 0 := by simp [cv, z0, e1, e2, e3]
        have c3 : cv v 3 3 = 0 := by simp [cv, z0, e1, e2, e3]
        have c4 : cv v 4 3 = 0 := by simp [cv, z0, e1, e2, e3]
        have c5 : cv v 5 3 = 0 := by simp [cv, z0, e1, e2, e3]
        rw [c1, c2, c3, c4, c5]
        omega
      · have T : v 3 - v 2 = 2 := by omega
        rw [T] at l k K
        have l0 : r 1 < r 0 := l 0 (by omega)
        have l1 : r 2 < r 1 := l 1 (by omega)
        have k2 : r 3 = r 2 := k 2 (by omega)
        have k3 : r 4 = r 3 := k 3 (by omega)
        have k4 : r 5 = r 4 := k 4 (by omega)
        have k5 : r 6 = r 5 := k 5 (by omega)
        have k6 : r 7 = r 6 := k 6 (by omega)
        have f1 : 1 ≤ r 1 := (f 1 (by omega)).mpr e1
        have f2 : ¬ 2 ≤ r 1 := fun z => by
          have := (f 2 (by omega)).mp z
          omega
        have f3 : ¬ 3 ≤ r 1 := fun z => by
          have := (f 3 (by omega)).mp z
          omega
        have d0 : r 1 ≤ r 0 := d 0
        have R1 : r 1 = 1 := by omega
        have q : r 2 = 0 := K (by omega)
        have c1 : cv v 1 3 = 1 := by simp [cv, z0, e1, e2, e3]
        have c2 : cv v 2 3 = 1 := by simp [cv, z0, e1, e2, e3]
        have c3 : cv v 3 3 = 0 := by simp [cv, z0, e1, e2, e3]
        have c4 : cv v 4 3 = 0 := by simp [cv, z0, e1, e2, e3]
        have c5 : cv v 5 3 = 0 := by simp [cv, z0, e1, e2, e3]
        rw [c1, c2, c3, c4, c5]
        omega
    · have c3 : v 3 = 2 ∨ v 3 = 3 := by omega
      rcases c3 with e3 | e3
      · have T : v 3 - v 2 = 0 := by omega
        rw [T] at l k K
        have k0 : r 1 = r 0 := k 0 (by omega)
        have k1 : r 2 = r 1 := k 1 (by omega)
        have k2 : r 3 = r 2 := k 2 (by omega)
        have k3 : r 4 = r 3 := k 3 (by omega)
        have k4 : r 5 = r 4 := k 4 (by omega)
        have k5 : r 6 = r 5 := k 5 (by omega)
        have k6 : r 7 = r 6 := k 6 (by omega)
        have f1 : 1 ≤ r 1 := (f 1 (by omega)).mpr e1
        have f2 : ¬ 2 ≤ r 1 := fun z => by
          have := (f 2 (by omega)).mp z
          omega
        have f3 : ¬ 3 ≤ r 1 := fun z => by
          have := (f 3 (by omega)).mp z
          omega
        have d0 : r 1 ≤ r 0 := d 0
        have R1 : r 1 = 1 := by omega
        have G1 := G (by omega) 1
        have G2 := G (by omega) 2
        have G3 := G (by omega) 3
        exfalso
        omega
      · have T : v 3 - v 2 = 1 := by omega
        rw [T] at l k K
        have l0 : r 1 < r 0 := l 0 (by omega)
        have k1 : r 2 = r 1 := k 1 (by omega)
        have k2 : r 3 = r 2 := k 2 (by omega)
        have k3 : r 4 = r 3 := k 3 (by omega)
        have k4 : r 5 = r 4 := k 4 (by omega)
        have k5 : r 6 = r 5 := k 5 (by omega)
        have k6 : r 7 = r 6 := k 6 (by omega)
        have f1 : 1 ≤ r 1 := (f 1 (by omega)).mpr e1
        have f2 : ¬ 2 ≤ r 1 := fun z => by
          have := (f 2 (by omega)).mp z
          omega
        have f3 : ¬ 3 ≤ r 1 := fun z => by
          have := (f 3 (by omega)).mp z
          omega
        have d0 : r 1 ≤ r 0 := d 0
        have R1 : r 1 = 1 := by omega
        have q : r 1 = 0 := K (by omega)
        exfalso
        omega
  · have c2 : v 2 = 1 ∨ v 2 = 2 := by omega
    rcases c2 with e2 | e2
    · have c3 : v 3 = 1 ∨ v 3 = 2 ∨ v 3 = 3 := by omega
      rcases c3 with e3 | e3 | e3
      · have T : v 3 - v 2 = 0 := by omega
        rw [T] at l k K
        have k0 : r 1 = r 0 := k 0 (by omega)
        have k1 : r 2 = r 1 := k 1 (by omega)
        have k2 : r 3 = r 2 := k 2 (by omega)
        have k3 : r 4 = r 3 := k 3 (by omega)
        have k4 : r 5 = r 4 := k 4 (by omega)
        have k5 : r 6 = r 5 := k 5 (by omega)
        have k6 : r 7 = r 6 := k 6 (by omega)
        have f1 : ¬ 1 ≤ r 1 := fun z => by
          have := (f 1 (by omega)).mp z
          omega
        have f2 : ¬ 2 ≤ r 1 := fun z => by
          have := (f 2 (by omega)).mp z
          omega
        have f3 : ¬ 3 ≤ r 1 := fun z => by
          have := (f 3 (by omega)).mp z
          omega
        have d0 : r 1 ≤ r 0 := d 0
        have R1 : r 1 = 0 := by omega
        have i1 := I R1 1 (by omega)
        have i2 := I R1 2 (by omega)
        have i3 := I R1 3 (by omega)
        exfalso
        omega
      · have T : v 3 - v 2 = 1 := by omega
        rw [T] at l k K
        have l0 : r 1 < r 0 := l 0 (by omega)
        have k1 : r 2 = r 1 := k 1 (by omega)
        have k2 : r 3 = r 2 := k 2 (by omega)
        have k3 : r 4 = r 3 := k 3 (by omega)
        have k4 : r 5 = r 4 := k 4 (by omega)
        have k5 : r 6 = r 5 := k 5 (by omega)
        have k6 : r 7 = r 6 := k 6 (by omega)
        have f1 : ¬ 1 ≤ r 1 := fun z => by
          have := (f 1 (by omega)).mp z
          omega
        have f2 : ¬ 2 ≤ r 1 := fun z => by
          have := (f 2 (by omega)).mp z
          omega
        have f3 : ¬ 3 ≤ r 1 := fun z => by
          have := (f 3 (by omega)).mp z
          omega
        have d0 : r 1 ≤ r 0 := d 0
        have R1 : r 1 = 0 := by omega
        have i1 := I R1 1 (by omega)
        have i2 := I R1 2 (by omega)
        have i3 := I R1 3 (by omega)
        have G1 := G (by omega) 1
        have G2 := G (by omega) 2
        have G3 := G (by omega) 3
        exfalso
        omega
      · have T : v 3 - v 2 = 2 := by omega
        rw [T] at l k K
        have l0 : r 1 < r 0 := l 0 (by omega)
        have l1 : r 2 < r 1 := l 1 (by omega)
        have k2 : r 3 = r 2 := k 2 (by omega)
        have k3 : r 4 = r 3 := k 3 (by omega)
        have k4 : r 5 = r 4 := k 4 (by omega)
        have k5 : r 6 = r 5 := k 5 (by omega)
        have k6 : r 7 = r 6 := k 6 (by omega)
        have f1 : ¬ 1 ≤ r 1 := fun z => by
          have := (f 1 (by omega)).mp z
          omega
        have f2 : ¬ 2 ≤ r 1 := fun z => by
          have := (f 2 (by omega)).mp z
          omega
        have f3 : ¬ 3 ≤ r 1 := fun z => by
          have := (f 3 (by omega)).mp z
          omega
        have d0 : r 1 ≤ r 0 := d 0
        have R1 : r 1 = 0 := by omega
        have i1 := I R1 1 (by omega)
        have i2 := I R1 2 (by omega)
        have i3 := I R1 3 (by omega)
        have q : r 2 = 0 := K (by omega)
        exfalso
        omega
    · have c3 : v 3 = 2 ∨ v 3 = 3 := by omega
      rcases c3 with e3 | e3
      · have T : v 3 - v 2 = 0 := by omega
        rw [T] at l k K
        have k0 : r 1 = r 0 := k 0 (by omega)
        have k1 : r 2 = r 1 := k 1 (by omega)
        have k2 : r 3 = r 2 := k 2 (by omega)
        have k3 : r 4 = r 3 := k 3 (by omega)
        have k4 : r 5 = r 4 := k 4 (by omega)
        have k5 : r 6 = r 5 := k 5 (by omega)
        have k6 : r 7 = r 6 := k 6 (by omega)
        have f1 : ¬ 1 ≤ r 1 := fun z => by
          have := (f 1 (by omega)).mp z
          omega
        have f2 : ¬ 2 ≤ r 1 := fun z => by
          have := (f 2 (by omega)).mp z
          omega
        have f3 : ¬ 3 ≤ r 1 := fun z => by
          have := (f 3 (by omega)).mp z
          omega
        have d0 : r 1 ≤ r 0 := d 0
        have R1 : r 1 = 0 := by omega
        have i1 := I R1 1 (by omega)
        have i2 := I R1 2 (by omega)
        have i3 := I R1 3 (by omega)
        have G1 := G (by omega) 1
        have G2 := G (by omega) 2
        have G3 := G (by omega) 3
        exfalso
        omega
      · have T : v 3 - v 2 = 1 := by omega
        rw [T] at l k K
        have l0 : r 1 < r 0 := l 0 (by omega)
        have k1 : r 2 = r 1 := k 1 (by omega)
        have k2 : r 3 = r 2 := k 2 (by omega)
        have k3 : r 4 = r 3 := k 3 (by omega)
        have k4 : r 5 = r 4 := k 4 (by omega)
        have k5 : r 6 = r 5 := k 5 (by omega)
        have k6 : r 7 = r 6 := k 6 (by omega)
        have f1 : ¬ 1 ≤ r 1 := fun z => by
          have := (f 1 (by omega)).mp z
          omega
        have f2 : ¬ 2 ≤ r 1 := fun z => by
          have := (f 2 (by omega)).mp z
          omega
        have f3 : ¬ 3 ≤ r 1 := fun z => by
          have := (f 3 (by omega)).mp z
          omega
        have d0 : r 1 ≤ r 0 := d 0
        have R1 : r 1 = 0 := by omega
        have i1 := I R1 1 (by omega)
        have i2 := I R1 2 (by omega)
        have i3 := I R1 3 (by omega)
        have q : r 1 = 0 := K (by omega)
        have c1 : cv v 1 3 = 3 := by simp [cv, z0, e1, e2, e3]
        have c2 : cv v 2 3 = 0 := by simp [cv, z0, e1, e2, e3]
        have c3 : cv v 3 3 = 0 := by simp [cv, z0, e1, e2, e3]
        have c4 : cv v 4 3 = 0 := by simp [cv, z0, e1, e2, e3]
        have c5 : cv v 5 3 = 0 := by simp [cv, z0, e1, e2, e3]
        rw [c1, c2, c3, c4, c5]
        omega
theorem num4 (r v : Nat → Nat) (h0 : r 0 = 4) (z0 : v 0 = 0) (d : ∀ m, r (m + 1) ≤ r m) (l : ∀ m, m < v 4 - v 3 → r (m + 1) < r m) (k : ∀ m, v 4 - v 3 ≤ m → r (m + 1) = r m) (g : r 1 + 1 = 4 → ∀ m, r m ≤ r (m + 1) + 1) (b : ∀ k, k ≤ 4 → v k ≤ k) (mo : ∀ k, k < 4 → v k ≤ v (k + 1)) (f : ∀ k, k ≤ 4 → (k ≤ r 1 ↔ v k = 0)) (K : v 4 = 4 → r (v 4 - v 3) = 0) (G : v 4 + 1 = 4 → ∀ m, 1 ≤ r m) (I : r 1 = 0 → ∀ k, k ≤ 4 → k ≤ v k) (H : v 4 = 3 → v 4 - v 3 = 1 → r 1 ≤ 1) (J : r 1 = 1 → v 2 ≤ 1 ∧ 2 ≤ v 3) : r 0 + r 2 = cv v 1 4 + 2 * r 1 ∧ r 1 + r 3 = cv v 2 4 + 2 * r 2 ∧ r 2 + r 4 = cv v 3 4 + 2 * r 3 ∧ r 3 + r 5 = cv v 4 4 + 2 * r 4 ∧ r 4 + r 6 = cv v 5 4 + 2 * r 5 := by
  have b1 := b 1 (by omega)
  have b2 := b 2 (by omega)
  have b3 := b 3 (by omega)
  have b4 := b 4 (by omega)
  have m0 : v 0 ≤ v 1 := mo 0 (by omega)
  have m1 : v 1 ≤ v 2 := mo 1 (by omega)
  have m2 : v 2 ≤ v 3 := mo 2 (by omega)
  have m3 : v 3 ≤ v 4 := mo 3 (by omega)
  have c1 : v 1 = 0 ∨ v 1 = 1 := by omega
  rcases c1 with e1 | e1
  · have c2 : v 2 = 0 ∨ v 2 = 1 ∨ v 2 = 2 := by omega
    rcases c2 with e2 | e2 | e2
    · have c3 : v 3 = 0 ∨ v 3 = 1 ∨ v 3 = 2 ∨ v 3 = 3 := by omega
      rcases c3 with e3 | e3 | e3 | e3
      · have c4 : v 4 = 0 ∨ v 4 = 1 ∨ v 4 = 2 ∨ v 4 = 3 ∨ v 4 = 4 := by omega
        rcases c4 with e4 | e4 | e4 | e4 | e4
        · have T : v 4 - v 3 = 0 := by omega
          rw [T] at l k K
          have k0 : r 1 = r 0 := k 0 (by omega)
          have k1 : r 2 = r 1 := k 1 (by omega)
          have k2 : r 3 = r 2 := k 2 (by omega)
          have k3 : r 4 = r 3 := k 3 (by omega)
          have k4 : r 5 = r 4 := k 4 (by omega)
          have k5 : r 6 = r 5 := k 5 (by omega)
          have k6 : r 7 = r 6 := k 6 (by omega)
          have f1 : 1 ≤ r 1 := (f 1 (by omega)).mpr e1
          have f2 : 2 ≤ r 1 := (f 2 (by omega)).mpr e2
          have f3 : 3 ≤ r 1 := (f 3 (by omega)).mpr e3
          have f4 : 4 ≤ r 1 := (f 4 (by omega)).mpr e4
          have d0 : r 1 ≤ r 0 := d 0
          have R1 : r 1 = 4 := by omega
          have c1 : cv v 1 4 = 0 := by simp [cv, z0, e1, e2, e3, e4]
          have c2 : cv v 2 4 = 0 := by simp [cv, z0, e1, e2, e3, e4]
          have c3 : cv v 3 4 = 0 := by simp [cv, z0, e1, e2, e3, e4]
          have c4 : cv v 4 4 = 0 := by simp [cv, z0, e1, e2, e3, e4]
          have c5 : cv v 5 4 = 0 := by simp [cv, z0, e1, e2, e3, e4]
          rw [c1, c2, c3, c4, c5]
          omega
        · have T : v 4 - v 3 = 1 := by omega
          rw [T] at l k K
          have l0 : r 1 < r 0 := l 0 (by omega)
          have k1 : r 2 = r 1 := k 1 (by omega)
          have k2 : r 3 = r 2 := k 2 (by omega)
          have k3 : r 4 = r 3 := k 3 (by omega)
          have k4 : r 5 = r 4 := k 4 (by omega)
          have k5 : r 6 = r 5 := k 5 (by omega)
          have k6 : r 7 = r 6 := k 6 (by omega)
          have f1 : 1 ≤ r 1 := (f 1 (by omega)).mpr e1
          have f2 : 2 ≤ r 1 := (f 2 (by omega)).mpr e2
          have f3 : 3 ≤ r 1 := (f 3 (by omega)).mpr e3
          have f4 : ¬ 4 ≤ r 1 := fun z => by
            have := (f 4 (by omega)).mp z
            omega
          have d0 : r 1 ≤ r 0 := d 0
          have R1 : r 1 = 3 := by omega
          have g1 : r 1 ≤ r 2 + 1 := g (by omega) 1
          have g2 : r 2 ≤ r 3 + 1 := g (by omega) 2
          have g3 : r 3 ≤ r 4 + 1 := g (by omega) 3
          have g4 : r 4 ≤ r 5 + 1 := g (by omega) 4
          have g5 : r 5 ≤ r 6 + 1 := g (by omega) 5
          have c1 : cv v 1 4 = 1 := by simp [cv, z0, e1, e2, e3, e4]
          have c2 : cv v 2 4 = 0 := by simp [cv, z0, e1, e2, e3, e4]
          have c3 : cv v 3 4 = 0 := by simp [cv, z0, e1, e2, e3, e4]
          have c4 : cv v 4 4 = 0 := by simp [cv, z0, e1, e2, e3, e4]
          have c5 : cv v 5 4 = 0 := by simp [cv, z0, e1, e2, e3, e4]
          rw [c1, c2, c3, c4, c5]
          omega
        · have T : v 4 - v 3 = 2 := by omega
          rw [T] at l k K
          have l0 : r 1 < r 0 := l 0 (by omega)
          have l1 : r 2 < r 1 := l 1 (by omega)
          have k2 : r 3 = r 2 := k 2 (by omega)
          have k3 : r 4 = r 3 := k 3 (by omega)
          have k4 : r 5 = r 4 := k 4 (by omega)
          have k5 : r 6 = r 5 := k 5 (by omega)
          have k6 : r 7 = r 6 := k 6 (by omega)
          have f1 : 1 ≤ r 1 := (f 1 (by omega)).mpr e1
          have f2 : 2 ≤ r 1 := (f 2 (by omega)).mpr e2
          have f3 : 3 ≤ r 1 := (f 3 (by omega)).mpr e3
          have f4 : ¬ 4 ≤ r 1 := fun z => by
            have := (f 4 (by omega)).mp z
            omega
          have d0 : r 1 ≤ r 0 := d 0
          have R1 : r 1 = 3 := by omega
          have g1 : r 1 ≤ r 2 + 1 := g (by omega) 1
          have g2 : r 2 ≤ r 3 + 1 := g (by omega) 2
          have g3 : r 3 ≤ r 4 + 1 := g (by omega) 3
          have g4 : r 4 ≤ r 5 + 1 := g (by omega) 4
          have g5 : r 5 ≤ r 6 + 1 := g (by omega) 5
          have c1 : cv v 1 4 = 0 := by simp [cv, z0, e1, e2, e3, e4]
          have c2 : cv v 2 4 = 1 := by simp [cv, z0, e1, e2, e3, e4]
          have c3 : cv v 3 4 = 0 := by simp [cv, z0, e1, e2, e3, e4]
          have c4 : cv v 4 4 = 0 := by simp [cv, z0, e1, e2, e3, e4]
          have c5 : cv v 5 4 = 0 := by simp [cv, z0, e1, e2, e3, e4]
          rw [c1, c2, c3, c4, c5]
          omega
        · have T : v 4 - v 3 = 3 := by omega
          rw [T] at l k K
          have l0 : r 1 < r 0 := l 0 (by omega)
          have l1 : r 2 < r 1 := l 1 (by omega)
          have l2 : r 3 < r 2 := l 2 (by omega)
          have k3 : r 4 = r 3 := k 3 (by omega)
          have k4 : r 5 = r 4 := k 4 (by omega)
          have k5 : r 6 = r 5 := k 5 (by omega)
          have k6 : r 7 = r 6 := k 6 (by omega)
          have f1 : 1 ≤ r 1 := (f 1 (by omega)).mpr e1
          have f2 : 2 ≤ r 1 := (f 2 (by omega)).mpr e2
          have f3 : 3 ≤ r 1 := (f 3 (by omega)).mpr e3
          have f4 : ¬ 4 ≤ r 1 := fun z => by
            have := (f 4 (by omega)).mp z
            omega
          have d0 : r 1 ≤ r 0 := d 0
          have R1 : r 1 = 3 := by omega
          have g1 : r 1 ≤ r 2 + 1 := g (by omega) 1
          have g2 : r 2 ≤ r 3 + 1 := g (by omega) 2
          have g3 : r 3 ≤ r 4 + 1 := g (by omega) 3
          have g4 : r 4 ≤ r 5 + 1 := g (by omega) 4
          have g5 : r 5 ≤ r 6 + 1 := g (by omega) 5
          have G1 := G (by omega) 1
          have G2 := G (by omega) 2
          have G3 := G (by omega) 3
          have c1 : cv v 1 4 = 0 := by simp [cv, z0, e1, e2, e3, e4]
          have c2 : cv v 2 4 = 0 := by simp [cv, z0, e1, e2, e3, e4]
          have c3 : cv v 3 4 = 1 := by simp [cv, z0, e1, e2, e3, e4]
          have c4 : cv v 4 4 = 0 := by simp [cv, z0, e1, e2, e3, e4]
          have c5 : cv v 5 4 = 0 := by simp [cv, z0, e1, e2, e3, e4]
          rw [c1, c2, c3, c4, c5]
          omega
        · have T : v 4 - v 3 = 4 := by omega
          rw [T] at l k K
          have l0 : r 1 < r 0 := l 0 (by omega)
          have l1 : r 2 < r 1 := l 1 (by omega)
          have l2 : r 3 < r 2 := l 2 (by omega)
          have l3 : r 4 < r 3 := l 3 (by omega)
          have k4 : r 5 = r 4 := k 4 (by omega)
          have k5 : r 6 = r 5 := k 5 (by omega)
          have k6 : r 7 = r 6 := k 6 (by omega)
          have f1 : 1 ≤ r 1 := (f 1 (by omega)).mpr e1
          have f2 : 2 ≤ r 1 := (f 2 (by omega)).mpr e2
          have f3 : 3 ≤ r 1 := (f 3 (by omega)).mpr e3
          have f4 : ¬ 4 ≤ r 1 := fun z => by
            have := (f 4 (by omega)).mp z
            omega
          have d0 : r 1 ≤ r 0 := d 0
          have R1 : r 1 = 3 := by omega
          have g1 : r 1 ≤ r 2 + 1 := g (by omega) 1
          have g2 : r 2 ≤ r 3 + 1 := g (by omega) 2
          have g3 : r 3 ≤ r 4 + 1 := g (by omega) 3
          have g4 : r 4 ≤ r 5 + 1 := g (by omega) 4
          have g5 : r 5 ≤ r 6 + 1 := g (by omega) 5
          have q : r 4 = 0 := K (by omega)
          have c1 : cv v 1 4 = 0 := by simp [cv, z0, e1, e2, e3, e4]
          have c2 : cv v 2 4 = 0 := by simp [cv, z0, e1, e2, e3, e4]
          have c3 : cv v 3 4 = 0 := by simp [cv, z0, e1, e2, e3, e4]
          have c4 : cv v 4 4 = 1 := by simp [cv, z0, e1, e2, e3, e4]
          have c5 : cv v 5 4 = 0 := by simp [cv, z0, e1, e2, e3, e4]
          rw [c1, c2, c3, c4, c5]
          omega
      · have c4 : v 4 = 1 ∨ v 4 = 2 ∨ v 4 = 3 ∨ v 4 = 4 := by omega
        rcases c4 with e4 | e4 | e4 | e4
        · have T : v 4 - v 3 = 0 := by omega
          rw [T] at l k K
          have k0 : r 1 = r 0 := k 0 (by omega)
          have k1 : r 2 = r 1 := k 1 (by omega)
          have k2 : r 3 = r 2 := k 2 (by omega)
          have k3 : r 4 = r 3 := k 3 (by omega)
          have k4 : r 5 = r 4 := k 4 (by omega)
          have k5 : r 6 = r 5 := k 5 (by omega)
          have k6 : r 7 = r 6 := k 6 (by omega)
          have f1 : 1 ≤ r 1 := (f 1 (by omega)).mpr e1
          have f2 : 2 ≤ r 1 := (f 2 (by omega)).mpr e2
          have f3 : ¬ 3 ≤ r 1 := fun z => by
            have := (f 3 (by omega)).mp z
            omega
          have f4 : ¬ 4 ≤ r 1 := fun z => by
            have := (f 4 (by omega)).mp z
            omega
          have d0 : r 1 ≤ r 0 := d 0
          have R1 : r 1 = 2 := by omega
          exfalso
          omega
        · have T : v 4 - v 3 = 1 := by omega
          rw [T] at l k K
          have l0 : r 1 < r 0 := l 0 (by omega)
          have k1 : r 2 = r 1 := k 1 (by omega)
          have k2 : r 3 = r 2 := k 2 (by omega)
          have k3 : r 4 = r 3 := k 3 (by omega)
          have k4 : r 5 = r 4 := k 4 (by omega)
          have k5 : r 6 = r 5 := k 5 (by omega)
          have k6 : r 7 = r 6 := k 6 (by omega)
          have f1 : 1 ≤ r 1 := (f 1 (by omega)).mpr e1
          have f2 : 2 ≤ r 1 := (f 2 (by omega)).mpr e2
          have f3 : ¬ 3 ≤ r 1 := fun z => by
            have := (f 3 (by omega)).mp z
            omega
          have f4 : ¬ 4 ≤ r 1 := fun z => by
            have := (f 4 (by omega)).mp z
            omega
          have d0 : r 1 ≤ r 0 := d 0
          have R1 : r 1 = 2 := by omega
          have c1 : cv v 1 4 = 2 := by simp [cv, z0, e1, e2, e3, e4]
          have c2 : cv v 2 4 = 0 := by simp [cv, z0, e1, e2, e3, e4]
          have c3 : cv v 3 4 = 0 := by simp [cv, z0, e1, e2, e3, e4]
          have c4 : cv v 4 4 = 0 := by simp [cv, z0, e1, e2, e3, e4]
          have c5 : cv v 5 4 = 0 := by simp [cv, z0, e1, e2, e3, e4]
          rw [c1, c2, c3, c4, c5]
          omega
        · have T : v 4 - v 3 = 2 := by omega
          rw [T] at l k K
          have l0 : r 1 < r 0 := l 0 (by omega)
          have l1 : r 2 < r 1 := l 1 (by omega)
          have k2 : r 3 = r 2 := k 2 (by omega)
          have k3 : r 4 = r 3 := k 3 (by omega)
          have k4 : r 5 = r 4 := k 4 (by omega)
          have k5 : r 6 = r 5 := k 5 (by omega)
          have k6 : r 7 = r 6 := k 6 (by omega)
          have f1 : 1 ≤ r 1 := (f 1 (by omega)).mpr e1
          have f2 : 2 ≤ r 1 := (f 2 (by omega)).mpr e2
          have f3 : ¬ 3 ≤ r 1 := fun z => by
            have := (f 3 (by omega)).mp z
            omega
          have f4 : ¬ 4 ≤ r 1 := fun z => by
            have := (f 4 (by omega)).mp z
            omega
          have d0 : r 1 ≤ r 0 := d 0
          have R1 : r 1 = 2 := by omega
          have G1 := G (by omega) 1
          have G2 := G (by omega) 2
          have G3 := G (by omega) 3
          have c1 : cv v 1 4 = 1 := by simp [cv, z0, e1, e2, e3, e4]
          have c2 : cv v 2 4 = 1 := by simp [cv, z0, e1, e2, e3, e4]
          have c3 : cv v 3 4 = 0 := by simp [cv, z0, e1, e2, e3, e4]
          have c4 : cv v 4 4 = 0 := by simp [cv, z0, e1, e2, e3, e4]
          have c5 : cv v 5 4 = 0 := by simp [cv, z0, e1, e2, e3, e4]
          rw [c1, c2, c3, c4, c5]
          omega
        · have T : v 4 - v 3 = 3 := by omega
          rw [T] at l k K
          have l0 : r 1 < r 0 := l 0 (by omega)
          have l1 : r 2 < r 1 := l 1 (by omega)
          have l2 : r 3 < r 2 := l 2 (by omega)
          have k3 : r 4 = r 3 := k 3 (by omega)
          have k4 : r 5 = r 4 := k 4 (by omega)
          have k5 : r 6 = r 5 := k 5 (by omega)
          have k6 : r 7 = r 6 := k 6 (by omega)
          have f1 : 1 ≤ r 1 := (f 1 (by omega)).mpr e1
          have f2 : 2 ≤ r 1 := (f 2 (by omega)).mpr e2
          have f3 : ¬ 3 ≤ r 1 := fun z => by
            have := (f 3 (by omega)).mp z
            omega
          have f4 : ¬ 4 ≤ r 1 := fun z => by
            have := (f 4 (by omega)).mp z
            omega
          have d0 : r 1 ≤ r 0 := d 0
          have R1 : r 1 = 2 := by omega
          have q : r 3 = 0 := K (by omega)
          have c1 : cv v 1 4 = 1 := by simp [cv, z0, e1, e2, e3, e4]
          have c2 : cv v 2 4 = 0 := by simp [cv, z0, e1, e2, e3, e4]
          have c3 : cv v 3 4 = 1 := by simp [cv, z0, e1, e2, e3, e4]
          have c4 : cv v 4 4 = 0 := by simp [cv, z0, e1, e2, e3, e4]
          have c5 : cv v 5 4 = 0 := by simp [cv, z0, e1, e2, e3, e4]
          rw [c1, c2, c3, c4, c5]
          omega
      · have c4 : v 4 = 2 ∨ v 4 = 3 ∨ v 4 = 4 := by omega
        rcases c4 with e4 | e4 | e4
        · have T : v 4 - v 3 = 0 := by omega
          rw [T] at l k K
          have k0 : r 1 = r 0 := k 0 (by omega)
          have k1 : r 2 = r 1 := k 1 (by omega)
          have k2 : r 3 = r 2 := k 2 (by omega)
          have k3 : r 4 = r 3 := k 3 (by omega)
          have k4 : r 5 = r 4 := k 4 (by omega)
          have k5 : r 6 = r 5 := k 5 (by omega)
          have k6 : r 7 = r 6 := k 6 (by omega)
          have f1 : 1 ≤ r 1 := (f 1 (by omega)).mpr e1
          have f2 : 2 ≤ r 1 := (f 2 (by omega)).mpr e2
          have f3 : ¬ 3 ≤ r 1 := fun z => by
            have := (f 3 (by omega)).mp z
            omega
          have f4 : ¬ 4 ≤ r 1 := fun z => by
            have := (f 4 (by omega)).mp z
            omega
          have d0 : r 1 ≤ r 0 := d 0
          have R1 : r 1 = 2 := by omega
          exfalso
          omega
        · have T : v 4 - v 3 = 1 := by omega
          rw [T] at l k K
          have l0 : r 1 < r 0 := l 0 (by omega)
          have k1 : r 2 = r 1 := k 1 (by omega)
          have k2 : r 3 = r 2 := k 2 (by omega)
          have k3 : r 4 = r 3 := k 3 (by omega)
          have k4 : r 5 = r 4 := k 4 (by omega)
          have k5 : r 6 = r 5 := k 5 (by omega)
          have k6 : r 7 = r 6 := k 6 (by omega)
          have f1 : 1 ≤ r 1 := (f 1 (by omega)).mpr e1
          have f2 : 2 ≤ r 1 := (f 2 (by omega)).mpr e2
          have f3 : ¬ 3 ≤ r 1 := fun z => by
            have := (f 3 (by omega)).mp z
            omega
          have f4 : ¬ 4 ≤ r 1 := fun z => by
            have := (f 4 (by omega)).mp z
            omega
          have d0 : r 1 ≤ r 0 := d 0
          have R1 : r 1 = 2 := by omega
          have G1 := G (by omega) 1
          have G2 := G (by omega) 2
          have G3 := G (by omega) 3
          have h := H (by omega) (by omega)
          exfalso
          omega
        · have T : v 4 - v 3 = 2 := by omega
          rw [T] at l k K
          have l0 : r 1 < r 0 := l 0 (by omega)
          have l1 : r 2 < r 1 := l 1 (by omega)
          have k2 : r 3 = r 2 := k 2 (by omega)
          have k3 : r 4 = r 3 := k 3 (by omega)
          have k4 : r 5 = r 4 := k 4 (by omega)
          have k5 : r 6 = r 5 := k 5 (by omega)
          have k6 : r 7 = r 6 := k 6 (by omega)
          have f1 : 1 ≤ r 1 := (f 1 (by omega)).mpr e1
          have f2 : 2 ≤ r 1 := (f 2 (by omega)).mpr e2
          have f3 : ¬ 3 ≤ r 1 := fun z => by
            have := (f 3 (by omega)).mp z
            omega
          have f4 : ¬ 4 ≤ r 1 := fun z => by
            have := (f 4 (by omega)).mp z
            omega
          have d0 : r 1 ≤ r 0 := d 0
          have R1 : r 1 = 2 := by omega
          have q : r 2 = 0 := K (by omega)
          have c1 : cv v 1 4 = 0 := by simp [cv, z0, e1, e2, e3, e4]
          have c2 : cv v 2 4 = 2 := by simp [cv, z0, e1, e2, e3, e4]
          have c3 : cv v 3 4 = 0 := by simp [cv, z0, e1, e2, e3, e4]
          have c4 : cv v 4 4 = 0 := by simp [cv, z0, e1, e2, e3, e4]
          have c5 : cv v 5 4 = 0 := by simp [cv, z0, e1, e2, e3, e4]
          rw [c1, c2, c3, c4, c5]
          omega
      · have c4 : v 4 = 3 ∨ v 4 = 4 := by omega
        rcases c4 with e4 | e4
        · have T : v 4 - v 3 = 0 := by omega
          rw [T] at l k K
          have k0 : r 1 = r 0 := k 0 (by omega)
          have k1 : r 2 = r 1 := k 1 (by omega)
          have k2 : r 3 = r 2 := k 2 (by omega)
          have k3 : r 4 = r 3 := k 3 (by omega)
          have k4 : r 5 = r 4 := k 4 (by omega)
          have k5 : r 6 = r 5 := k 5 (by omega)
          have k6 : r 7 = r 6 := k 6 (by omega)
          have f1 : 1 ≤ r 1 := (f 1 (by omega)).mpr e1
          have f2 : 2 ≤ r 1 := (f 2 (by omega)).mpr e2
          have f3 : ¬ 3 ≤ r 1 := fun z => by
            have := (f 3 (by omega)).mp z
            omega
          have f4 : ¬ 4 ≤ r 1 := fun z => by
            have := (f 4 (by omega)).mp z
            omega
          have d0 : r 1 ≤ r 0 := d 0
          have R1 : r 1 = 2 := by omega
          have G1 := G (by omega) 1
          have G2 := G (by omega) 2
          have G3 := G (by omega) 3
          exfalso
          omega
        · have T : v 4 - v 3 = 1 := by omega
          rw [T] at l k K
          have l0 : r 1 < r 0 := l 0 (by omega)
          have k1 : r 2 = r 1 := k 1 (by omega)
          have k2 : r 3 = r 2 := k 2 (by omega)
          have k3 : r 4 = r 3 := k 3 (by omega)
          have k4 : r 5 = r 4 := k 4 (by omega)
          have k5 : r 6 = r 5 := k 5 (by omega)
          have k6 : r 7 = r 6 := k 6 (by omega)
          have f1 : 1 ≤ r 1 := (f 1 (by omega)).mpr e1
          have f2 : 2 ≤ r 1 := (f 2 (by omega)).mpr e2
          have f3 : ¬ 3 ≤ r 1 := fun z => by
            have := (f 3 (by omega)).mp z
            omega
          have f4 : ¬ 4 ≤ r 1 := fun z => by
            have := (f 4 (by omega)).mp z
            omega
          have d0 : r 1 ≤ r 0 := d 0
          have R1 : r 1 = 2 := by omega
          have q : r 1 = 0 := K (by omega)
          exfalso
          omega
    · have c3 : v 3 = 1 ∨ v 3 = 2 ∨ v 3 = 3 := by omega
      rcases c3 with e3 | e3 | e3
      · have c4 : v 4 = 1 ∨ v 4 = 2 ∨ v 4 = 3 ∨ v 4 = 4 := by omega
        rcases c4 with e4 | e4 | e4 | e4
        · have T : v 4 - v 3 = 0 := by omega
          rw [T] at l k K
          have k0 : r 1 = r 0 := k 0 (by omega)
          have k1 : r 2 = r 1 := k 1 (by omega)
          have k2 : r 3 = r 2 := k 2 (by omega)
          have k3 : r 4 = r 3 := k 3 (by omega)
          have k4 : r 5 = r 4 := k 4 (by omega)
          have k5 : r 6 = r 5 := k 5 (by omega)
          have k6 : r 7 = r 6 := k 6 (by omega)
          have f1 : 1 ≤ r 1 := (f 1 (by omega)).mpr e1
          have f2 : ¬ 2 ≤ r 1 := fun z => by
            have := (f 2 (by omega)).mp z
            omega
          have f3 : ¬ 3 ≤ r 1 := fun z => by
            have := (f 3 (by omega)).mp z
            omega
          have f4 : ¬ 4 ≤ r 1 := fun z => by
            have := (f 4 (by omega)).mp z
            omega
          have d0 : r 1 ≤ r 0 := d 0
          have R1 : r 1 = 1 := by omega
          have j := J R1
          exfalso
          omega
        · have T : v 4 - v 3 = 1 := by omega
          rw [T] at l k K
          have l0 : r 1 < r 0 := l 0 (by omega)
          have k1 : r 2 = r 1 := k 1 (by omega)
          have k2 : r 3 = r 2 := k 2 (by omega)
          have k3 : r 4 = r 3 := k 3 (by omega)
          have k4 : r 5 = r 4 := k 4 (by omega)
          have k5 : r 6 = r 5 := k 5 (by omega)
          have k6 : r 7 = r 6 := k 6 (by omega)
          have f1 : 1 ≤ r 1 := (f 1 (by omega)).mpr e1
          have f2 : ¬ 2 ≤ r 1 := fun z => by
            have := (f 2 (by omega)).mp z
            omega
          have f3 : ¬ 3 ≤ r 1 := fun z => by
            have := (f 3 (by omega)).mp z
            omega
          have f4 : ¬ 4 ≤ r 1 := fun z => by
            have := (f 4 (by omega)).mp z
            omega
          have d0 : r 1 ≤ r 0 := d 0
          have R1 : r 1 = 1 := by omega
          have j := J R1
          exfalso
          omega
        · have T : v 4 - v 3 = 2 := by omega
          rw [T] at l k K
          have l0 : r 1 < r 0 := l 0 (by omega)
          have l1 : r 2 < r 1 := l 1 (by omega)
          have k2 : r 3 = r 2 := k 2 (by omega)
          have k3 : r 4 = r 3 := k 3 (by omega)
          have k4 : r 5 = r 4 := k 4 (by omega)
          have k5 : r 6 = r 5 := k 5 (by omega)
          have k6 : r 7 = r 6 := k 6 (by omega)
          have f1 : 1 ≤ r 1 := (f 1 (by omega)).mpr e1
          have f2 : ¬ 2 ≤ r 1 := fun z => by
            have := (f 2 (by omega)).mp z
            omega
          have f3 : ¬ 3 ≤ r 1 := fun z => by
            have := (f 3 (by omega)).mp z
            omega
          have f4 : ¬ 4 ≤ r 1 := fun z => by
            have := (f 4 (by omega)).mp z
            omega
          have d0 : r 1 ≤ r 0 := d 0
          have R1 : r 1 = 1 := by omega
          have j := J R1
          have G1 := G (by omega) 1
          have G2 := G (by omega) 2
          have G3 := G (by omega) 3
          exfalso
          omega
        · have T : v 4 - v 3 = 3 := by omega
          rw [T] at l k K
          have l0 : r 1 < r 0 := l 0 (by omega)
          have l1 : r 2 < r 1 := l 1 (by omega)
          have l2 : r 3 < r 2 := l 2 (by omega)
          have k3 : r 4 = r 3 := k 3 (by omega)
          have k4 : r 5 = r 4 := k 4 (by omega)
          have k5 : r 6 = r 5 := k 5 (by omega)
          have k6 : r 7 = r 6 := k 6 (by omega)
          have f1 : 1 ≤ r 1 := (f 1 (by omega)).mpr e1
          have f2 : ¬ 2 ≤ r 1 := fun z => by
            have := (f 2 (by omega)).mp z
            omega
          have f3 : ¬ 3 ≤ r 1 := fun z => by
            have := (f 3 (by omega)).mp z
            omega
          have f4 : ¬ 4 ≤ r 1 := fun z => by
            have := (f 4 (by omega)).mp z
            omega
          have d0 : r 1 ≤ r 0 := d 0
          have R1 : r 1 = 1 := by omega
          have j := J R1
          have q : r 3 = 0 := K (by omega)
          exfalso
          omega
      · have c4 : v 4 = 2 ∨ v 4 = 3 ∨ v 4 = 4 := by omega
        rcases c4 with e4 | e4 | e4
        · have T : v 4 - v 3 = 0 := by omega
          rw [T] at l k K
          have k0 : r 1 = r 0 := k 0 (by omega)
          have k1 : r 2 = r 1 := k 1 (by omega)
          have k2 : r 3 = r 2 := k 2 (by omega)
          have k3 : r 4 = r 3 := k 3 (by omega)
          have k4 : r 5 = r 4 := k 4 (by omega)
          have k5 : r 6 = r 5 := k 5 (by omega)
          have k6 : r 7 = r 6 := k 6 (by omega)
          have f1 : 1 ≤ r 1 := (f 1 (by omega)).mpr e1
          have f2 : ¬ 2 ≤ r 1 := fun z => by
            have := (f 2 (by omega)).mp z
            omega
          have f3 : ¬ 3 ≤ r 1 := fun z => by
            have := (f 3 (by omega)).mp z
            omega
          have f4 : ¬ 4 ≤ r 1 := fun z => by
            have := (f 4 (by omega)).mp z
            omega
          have d0 : r 1 ≤ r 0 := d 0
          have R1 : r 1 = 1 := by omega
          have j := J R1
          exfalso
          omega
        · have T : v 4 - v 3 = 1 := by omega
          rw [T] at l k K
          have l0 : r 1 < r 0 := l 0 (by omega)
          have k1 : r 2 = r 1 := k 1 (by omega)
          have k2 : r 3 = r 2 := k 2 (by omega)
          have k3 : r 4 = r 3 := k 3 (by omega)
          have k4 : r 5 = r 4 := k 4 (by omega)
          have k5 : r 6 = r 5 := k 5 (by omega)
          have k6 : r 7 = r 6 := k 6 (by omega)
          have f1 : 1 ≤ r 1 := (f 1 (by omega)).mpr e1
          have f2 : ¬ 2 ≤ r 1 := fun z => by
            have := (f 2 (by omega)).mp z
            omega
          have f3 : ¬ 3 ≤ r 1 := fun z => by
            have := (f 3 (by omega)).mp z
            omega
          have f4 : ¬ 4 ≤ r 1 := fun z => by
            have := (f 4 (by omega)).mp z
            omega
          have d0 : r 1 ≤ r 0 := d 0
          have R1 : r 1 = 1 := by omega
          have j := J R1
          have G1 := G (by omega) 1
          have G2 := G (by omega) 2
          have G3 := G (by omega) 3
          have h := H (by omega) (by omega)
          have c1 : cv v 1 4 = 3 := by simp [cv, z0, e1, e2, e3, e4]
          have c2 : cv v 2 4 = 0 := by simp [cv, z0, e1, e2, e3, e4]
          have c3 : cv v 3 4 = 0 := by simp [cv, z0, e1, e2, e3, e4]
          have c4 : cv v 4 4 = 0 := by simp [cv, z0, e1, e2, e3, e4]
          have c5 : cv v 5 4 = 0 := by simp [cv, z0, e1, e2, e3, e4]
          rw [c1, c2, c3, c4, c5]
          omega
        · have T : v 4 - v 3 = 2 := by omega
          rw [T] at l k K
          have l0 : r 1 < r 0 := l 0 (by omega)
          have l1 : r 2 < r 1 := l 1 (by omega)
          have k2 : r 3 = r 2 := k 2 (by omega)
          have k3 : r 4 = r 3 := k 3 (by omega)
          have k4 : r 5 = r 4 := k 4 (by omega)
          have k5 : r 6 = r 5 := k 5 (by omega)
          have k6 : r 7 = r 6 := k 6 (by omega)
          have f1 : 1 ≤ r 1 := (f 1 (by omega)).mpr e1
          have f2 : ¬ 2 ≤ r 1 := fun z => by
            have := (f 2 (by omega)).mp z
            omega
          have f3 : ¬ 3 ≤ r 1 := fun z => by
            have := (f 3 (by omega)).mp z
            omega
          have f4 : ¬ 4 ≤ r 1 := fun z => by
            have := (f 4 (by omega)).mp z
            omega
          have d0 : r 1 ≤ r 0 := d 0
          have R1 : r 1 = 1 := by omega
          have j := J R1
          have q : r 2 = 0 := K (by omega)
          have c1 : cv v 1 4 = 2 := by simp [cv, z0, e1, e2, e3, e4]
          have c2 : cv v 2 4 = 1 := by simp [cv, z0, e1, e2, e3, e4]
          have c3 : cv v 3 4 = 0 := by simp [cv, z0, e1, e2, e3, e4]
          have c4 : cv v 4 4 = 0 := by simp [cv, z0, e1, e2, e3, e4]
          have c5 : cv v 5 4 = 0 := by simp [cv, z0, e1, e2, e3, e4]
          rw [c1, c2, c3, c4, c5]
          omega
      · have c4 : v 4 = 3 ∨ v 4 = 4 := by omega
        rcases c4 with e4 | e4
        · have T : v 4 - v 3 = 0 := by omega
          rw [T] at l k K
          have k0 : r 1 = r 0 := k 0 (by omega)
          have k1 : r 2 = r 1 := k 1 (by omega)
          have k2 : r 3 = r 2 := k 2 (by omega)
          have k3 : r 4 = r 3 := k 3 (by omega)
          have k4 : r 5 = r 4 := k 4 (by omega)
          have k5 : r 6 = r 5 := k 5 (by omega)
          have k6 : r 7 = r 6 := k 6 (by omega)
          have f1 : 1 ≤ r 1 := (f 1 (by omega)).mpr e1
          have f2 : ¬ 2 ≤ r 1 := fun z => by
            have := (f 2 (by omega)).mp z
            omega
          have f3 : ¬ 3 ≤ r 1 := fun z => by
            have := (f 3 (by omega)).mp z
            omega
          have f4 : ¬ 4 ≤ r 1 := fun z => by
            have := (f 4 (by omega)).mp z
            omega
          have d0 : r 1 ≤ r 0 := d 0
          have R1 : r 1 = 1 := by omega
          have j := J R1
          have G1 := G (by omega) 1
          have G2 := G (by omega) 2
          have G3 := G (by omega) 3
          exfalso
          omega
        · have T : v 4 - v 3 = 1 := by omega
          rw [T] at l k K
          have l0 : r 1 < r 0 := l 0 (by omega)
          have k1 : r 2 = r 1 := k 1 (by omega)
          have k2 : r 3 = r 2 := k 2 (by omega)
          have k3 : r 4 = r 3 := k 3 (by omega)
          have k4 : r 5 = r 4 := k 4 (by omega)
          have k5 : r 6 = r 5 := k 5 (by omega)
          have k6 : r 7 = r 6 := k 6 (by omega)
          have f1 : 1 ≤ r 1 := (f 1 (by omega)).mpr e1
          have f2 : ¬ 2 ≤ r 1 := fun z => by
            have := (f 2 (by omega)).mp z
            omega
          have f3 : ¬ 3 ≤ r 1 := fun z => by
            have := (f 3 (by omega)).mp z
            omega
          have f4 : ¬ 4 ≤ r 1 := fun z => by
            have := (f 4 (by omega)).mp z
            omega
          have d0 : r 1 ≤ r 0 := d 0
          have R1 : r 1 = 1 := by omega
          have j := J R1
          have q : r 1 = 0 := K (by omega)
          exfalso
          omega
    · have c3 : v 3 = 2 ∨ v 3 = 3 := by omega
      rcases c3 with e3 | e3
      · have c4 : v 4 = 2 ∨ v 4 = 3 ∨ v 4 = 4 := by omega
        rcases c4 with e4 | e4 | e4
        · have T : v 4 - v 3 = 0 := by omega
          rw [T] at l k K
          have k0 : r 1 = r 0 := k 0 (by omega)
          have k1 : r 2 = r 1 := k 1 (by omega)
          have k2 : r 3 = r 2 := k 2 (by omega)
          have k3 : r 4 = r 3 := k 3 (by omega)
          have k4 : r 5 = r 4 := k 4 (by omega)
          have k5 : r 6 = r 5 := k 5 (by omega)
          have k6 : r 7 = r 6 := k 6 (by omega)
          have f1 : 1 ≤ r 1 := (f 1 (by omega)).mpr e1
          have f2 : ¬ 2 ≤ r 1 := fun z => by
            have := (f 2 (by omega)).mp z
            omega
          have f3 : ¬ 3 ≤ r 1 := fun z => by
            have := (f 3 (by omega)).mp z
            omega
          have f4 : ¬ 4 ≤ r 1 := fun z => by
            have := (f 4 (by omega)).mp z
            omega
          have d0 : r 1 ≤ r 0 := d 0
          have R1 : r 1 = 1 := by omega
          have j := J R1
          exfalso
          omega
        · have T : v 4 - v 3 = 1 := by omega
          rw [T] at l k K
          have l0 : r 1 < r 0 := l 0 (by omega)
          have k1 : r 2 = r 1 := k 1 (by omega)
          have k2 : r 3 = r 2 := k 2 (by omega)
          have k3 : r 4 = r 3 := k 3 (by omega)
          have k4 : r 5 = r 4 := k 4 (by omega)
          have k5 : r 6 = r 5 := k 5 (by omega)
          have k6 : r 7 = r 6 := k 6 (by omega)
          have f1 : 1 ≤ r 1 := (f 1 (by omega)).mpr e1
          have f2 : ¬ 2 ≤ r 1 := fun z => by
            have := (f 2 (by omega)).mp z
            omega
          have f3 : ¬ 3 ≤ r 1 := fun z => by
            have := (f 3 (by omega)).mp z
            omega
          have f4 : ¬ 4 ≤ r 1 := fun z => by
            have := (f 4 (by omega)).mp z
            omega
          have d0 : r 1 ≤ r 0 := d 0
          have R1 : r 1 = 1 := by omega
          have j := J R1
          have G1 := G (by omega) 1
          have G2 := G (by omega) 2
          have G3 := G (by omega) 3
          have h := H (by omega) (by omega)
          exfalso
          omega
        · have T : v 4 - v 3 = 2 := by omega
          rw [T] at l k K
          have l0 : r 1 < r 0 := l 0 (by omega)
          have l1 : r 2 < r 1 := l 1 (by omega)
          have k2 : r 3 = r 2 := k 2 (by omega)
          have k3 : r 4 = r 3 := k 3 (by omega)
          have k4 : r 5 = r 4 := k 4 (by omega)
          have k5 : r 6 = r 5 := k 5 (by omega)
          have k6 : r 7 = r 6 := k 6 (by omega)
          have f1 : 1 ≤ r 1 := (f 1 (by omega)).mpr e1
          have f2 : ¬ 2 ≤ r 1 := fun z => by
            have := (f 2 (by omega)).mp z
            omega
          have f3 : ¬ 3 ≤ r 1 := fun z => by
            have := (f 3 (by omega)).mp z
            omega
          have f4 : ¬ 4 ≤ r 1 := fun z => by
            have := (f 4 (by omega)).mp z
            omega
          have d0 : r 1 ≤ r 0 := d 0
          have R1 : r 1 = 1 := by omega
          have j := J R1
          have q : r 2 = 0 := K (by omega)
          exfalso
          omega
      · have c4 : v 4 = 3 ∨ v 4 = 4 := by omega
        rcases c4 with e4 | e4
        · have T : v 4 - v 3 = 0 := by omega
          rw [T] at l k K
          have k0 : r 1 = r 0 := k 0 (by omega)
          have k1 : r 2 = r 1 := k 1 (by omega)
          have k2 : r 3 = r 2 := k 2 (by omega)
          have k3 : r 4 = r 3 := k 3 (by omega)
          have k4 : r 5 = r 4 := k 4 (by omega)
          have k5 : r 6 = r 5 := k 5 (by omega)
          have k6 : r 7 = r 6 := k 6 (by omega)
          have f1 : 1 ≤ r 1 := (f 1 (by omega)).mpr e1
          have f2 : ¬ 2 ≤ r 1 := fun z => by
            have := (f 2 (by omega)).mp z
            omega
          have f3 : ¬ 3 ≤ r 1 := fun z => by
            have := (f 3 (by omega)).mp z
            omega
          have f4 : ¬ 4 ≤ r 1 := fun z => by
            have := (f 4 (by omega)).mp z
            omega
          have d0 : r 1 ≤ r 0 := d 0
          have R1 : r 1 = 1 := by omega
          have j := J R1
          have G1 := G (by omega) 1
          have G2 := G (by omega) 2
          have G3 := G (by omega) 3
          exfalso
          omega
        · have T : v 4 - v 3 = 1 := by omega
          rw [T] at l k K
          have l0 : r 1 < r 0 := l 0 (by omega)
          have k1 : r 2 = r 1 := k 1 (by omega)
          have k2 : r 3 = r 2 := k 2 (by omega)
          have k3 : r 4 = r 3 := k 3 (by omega)
          have k4 : r 5 = r 4 := k 4 (by omega)
          have k5 : r 6 = r 5 := k 5 (by omega)
          have k6 : r 7 = r 6 := k 6 (by omega)
          have f1 : 1 ≤ r 1 := (f 1 (by omega)).mpr e1
          have f2 : ¬ 2 ≤ r 1 := fun z => by
            have := (f 2 (by omega)).mp z
            omega
          have f3 : ¬ 3 ≤ r 1 := fun z => by
            have := (f 3 (by omega)).mp z
            omega
          have f4 : ¬ 4 ≤ r 1 := fun z => by
            have := (f 4 (by omega)).mp z
            omega
          have d0 : r 1 ≤ r 0 := d 0
          have R1 : r 1 = 1 := by omega
          have j := J R1
          have q : r 1 = 0 := K (by omega)
          exfalso
          omega
  · have c2 : v 2 = 1 ∨ v 2 = 2 := by omega
    rcases c2 with e2 | e2
    · have c3 : v 3 = 1 ∨ v 3 = 2 ∨ v 3 = 3 := by omega
      rcases c3 with e3 | e3 | e3
      · have c4 : v 4 = 1 ∨ v 4 = 2 ∨ v 4 = 3 ∨ v 4 = 4 := by omega
        rcases c4 with e4 | e4 | e4 | e4
        · have T : v 4 - v 3 = 0 := by omega
          rw [T] at l k K
          have k0 : r 1 = r 0 := k 0 (by omega)
          have k1 : r 2 = r 1 := k 1 (by omega)
          have k2 : r 3 = r 2 := k 2 (by omega)
          have k3 : r 4 = r 3 := k 3 (by omega)
          have k4 : r 5 = r 4 := k 4 (by omega)
          have k5 : r 6 = r 5 := k 5 (by omega)
          have k6 : r 7 = r 6 := k 6 (by omega)
          have f1 : ¬ 1 ≤ r 1 := fun z => by
            have := (f 1 (by omega)).mp z
            omega
          have f2 : ¬ 2 ≤ r 1 := fun z => by
            have := (f 2 (by omega)).mp z
            omega
          have f3 : ¬ 3 ≤ r 1 := fun z => by
            have := (f 3 (by omega)).mp z
            omega
          have f4 : ¬ 4 ≤ r 1 := fun z => by
            have := (f 4 (by omega)).mp z
            omega
          have d0 : r 1 ≤ r 0 := d 0
          have R1 : r 1 = 0 := by omega
          have i1 := I R1 1 (by omega)
          have i2 := I R1 2 (by omega)
          have i3 := I R1 3 (by omega)
          have i4 := I R1 4 (by omega)
          exfalso
          omega
        · have T : v 4 - v 3 = 1 := by omega
          rw [T] at l k K
          have l0 : r 1 < r 0 := l 0 (by omega)
          have k1 : r 2 = r 1 := k 1 (by omega)
          have k2 : r 3 = r 2 := k 2 (by omega)
          have k3 : r 4 = r 3 := k 3 (by omega)
          have k4 : r 5 = r 4 := k 4 (by omega)
          have k5 : r 6 = r 5 := k 5 (by omega)
          have k6 : r 7 = r 6 := k 6 (by omega)
          have f1 : ¬ 1 ≤ r 1 := fun z => by
            have := (f 1 (by omega)).mp z
            omega
          have f2 : ¬ 2 ≤ r 1 := fun z => by
            have := (f 2 (by omega)).mp z
            omega
          have f3 : ¬ 3 ≤ r 1 := fun z => by
            have := (f 3 (by omega)).mp z
            omega
          have f4 : ¬ 4 ≤ r 1 := fun z => by
            have := (f 4 (by omega)).mp z
            omega
          have d0 : r 1 ≤ r 0 := d 0
          have R1 : r 1 = 0 := by omega
          have i1 := I R1 1 (by omega)
          have i2 := I R1 2 (by omega)
          have i3 := I R1 3 (by omega)
          have i4 := I R1 4 (by omega)
          exfalso
          omega
        · have T : v 4 - v 3 = 2 := by omega
          rw [T] at l k K
          have l0 : r 1 < r 0 := l 0 (by omega)
          have l1 : r 2 < r 1 := l 1 (by omega)
          have k2 : r 3 = r 2 := k 2 (by omega)
          have k3 : r 4 = r 3 := k 3 (by omega)
          have k4 : r 5 = r 4 := k 4 (by omega)
          have k5 : r 6 = r 5 := k 5 (by omega)
          have k6 : r 7 = r 6 := k 6 (by omega)
          have f1 : ¬ 1 ≤ r 1 := fun z => by
            have := (f 1 (by omega)).mp z
            omega
          have f2 : ¬ 2 ≤ r 1 := fun z => by
            have := (f 2 (by omega)).mp z
            omega
          have f3 : ¬ 3 ≤ r 1 := fun z => by
            have := (f 3 (by omega)).mp z
            omega
          have f4 : ¬ 4 ≤ r 1 := fun z => by
            have := (f 4 (by omega)).mp z
            omega
          have d0 : r 1 ≤ r 0 := d 0
          have R1 : r 1 = 0 := by omega
          have i1 := I R1 1 (by omega)
          have i2 := I R1 2 (by omega)
          have i3 := I R1 3 (by omega)
          have i4 := I R1 4 (by omega)
          have G1 := G (by omega) 1
          have G2 := G (by omega) 2
          have G3 := G (by omega) 3
          exfalso
          omega
        · have T : v 4 - v 3 = 3 := by omega
          rw [T] at l k K
          have l0 : r 1 < r 0 := l 0 (by omega)
          have l1 : r 2 < r 1 := l 1 (by omega)
          have l2 : r 3 < r 2 := l 2 (by omega)
          have k3 : r 4 = r 3 := k 3 (by omega)
          have k4 : r 5 = r 4 := k 4 (by omega)
          have k5 : r 6 = r 5 := k 5 (by omega)
          have k6 : r 7 = r 6 := k 6 (by omega)
          have f1 : ¬ 1 ≤ r 1 := fun z => by
            have := (f 1 (by omega)).mp z
            omega
          have f2 : ¬ 2 ≤ r 1 := fun z => by
            have := (f 2 (by omega)).mp z
            omega
          have f3 : ¬ 3 ≤ r 1 := fun z => by
            have := (f 3 (by omega)).mp z
            omega
          have f4 : ¬ 4 ≤ r 1 := fun z => by
            have := (f 4 (by omega)).mp z
            omega
          have d0 : r 1 ≤ r 0 := d 0
          have R1 : r 1 = 0 := by omega
          have i1 := I R1 1 (by omega)
          have i2 := I R1 2 (by omega)
          have i3 := I R1 3 (by omega)
          have i4 := I R1 4 (by omega)
          have q : r 3 = 0 := K (by omega)
          exfalso
          omega
      · have c4 : v 4 = 2 ∨ v 4 = 3 ∨ v 4 = 4 := by omega
        rcases c4 with e4 | e4 | e4
        · have T : v 4 - v 3 = 0 := by omega
          rw [T] at l k K
          have k0 : r 1 = r 0 := k 0 (by omega)
          have k1 : r 2 = r 1 := k 1 (by omega)
          have k2 : r 3 = r 2 := k 2 (by omega)
          have k3 : r 4 = r 3 := k 3 (by omega)
          have k4 : r 5 = r 4 := k 4 (by omega)
          have k5 : r 6 = r 5 := k 5 (by omega)
          have k6 : r 7 = r 6 := k 6 (by omega)
          have f1 : ¬ 1 ≤ r 1 := fun z => by
            have := (f 1 (by omega)).mp z
            omega
          have f2 : ¬ 2 ≤ r 1 := fun z => by
            have := (f 2 (by omega)).mp z
            omega
          have f3 : ¬ 3 ≤ r 1 := fun z => by
            have := (f 3 (by omega)).mp z
            omega
          have f4 : ¬ 4 ≤ r 1 := fun z => by
            have := (f 4 (by omega)).mp z
            omega
          have d0 : r 1 ≤ r 0 := d 0
          have R1 : r 1 = 0 := by omega
          have i1 := I R1 1 (by omega)
          have i2 := I R1 2 (by omega)
          have i3 := I R1 3 (by omega)
          have i4 := I R1 4 (by omega)
          exfalso
          omega
        · have T : v 4 - v 3 = 1 := by omega
          rw [T] at l k K
          have l0 : r 1 < r 0 := l 0 (by omega)
          have k1 : r 2 = r 1 := k 1 (by omega)
          have k2 : r 3 = r 2 := k 2 (by omega)
          have k3 : r 4 = r 3 := k 3 (by omega)
          have k4 : r 5 = r 4 := k 4 (by omega)
          have k5 : r 6 = r 5 := k 5 (by omega)
          have k6 : r 7 = r 6 := k 6 (by omega)
          have f1 : ¬ 1 ≤ r 1 := fun z => by
            have := (f 1 (by omega)).mp z
            omega
          have f2 : ¬ 2 ≤ r 1 := fun z => by
            have := (f 2 (by omega)).mp z
            omega
          have f3 : ¬ 3 ≤ r 1 := fun z => by
            have := (f 3 (by omega)).mp z
            omega
          have f4 : ¬ 4 ≤ r 1 := fun z => by
            have := (f 4 (by omega)).mp z
            omega
          have d0 : r 1 ≤ r 0 := d 0
          have R1 : r 1 = 0 := by omega
          have i1 := I R1 1 (by omega)
          have i2 := I R1 2 (by omega)
          have i3 := I R1 3 (by omega)
          have i4 := I R1 4 (by omega)
          have G1 := G (by omega) 1
          have G2 := G (by omega) 2
          have G3 := G (by omega) 3
          have h := H (by omega) (by omega)
          exfalso
          omega
        · have T : v 4 - v 3 = 2 := by omega
          rw [T] at l k K
          have l0 : r 1 < r 0 := l 0 (by omega)
          have l1 : r 2 < r 1 := l 1 (by omega)
          have k2 : r 3 = r 2 := k 2 (by omega)
          have k3 : r 4 = r 3 := k 3 (by omega)
          have k4 : r 5 = r 4 := k 4 (by omega)
          have k5 : r 6 = r 5 := k 5 (by omega)
          have k6 : r 7 = r 6 := k 6 (by omega)
          have f1 : ¬ 1 ≤ r 1 := fun z => by
            have := (f 1 (by omega)).mp z
            omega
          have f2 : ¬ 2 ≤ r 1 := fun z => by
            have := (f 2 (by omega)).mp z
            omega
          have f3 : ¬ 3 ≤ r 1 := fun z => by
            have := (f 3 (by omega)).mp z
            omega
          have f4 : ¬ 4 ≤ r 1 := fun z => by
            have := (f 4 (by omega)).mp z
            omega
          have d0 : r 1 ≤ r 0 := d 0
          have R1 : r 1 = 0 := by omega
          have i1 := I R1 1 (by omega)
          have i2 := I R1 2 (by omega)
          have i3 := I R1 3 (by omega)
          have i4 := I R1 4 (by omega)
          have q : r 2 = 0 := K (by omega)
          exfalso
          omega
      · have c4 : v 4 = 3 ∨ v 4 = 4 := by omega
        rcases c4 with e4 | e4
        · have T : v 4 - v 3 = 0 := by omega
          rw [T] at l k K
          have k0 : r 1 = r 0 := k 0 (by omega)
          have k1 : r 2 = r 1 := k 1 (by omega)
          have k2 : r 3 = r 2 := k 2 (by omega)
          have k3 : r 4 = r 3 := k 3 (by omega)
          have k4 : r 5 = r 4 := k 4 (by omega)
          have k5 : r 6 = r 5 := k 5 (by omega)
          have k6 : r 7 = r 6 := k 6 (by omega)
          have f1 : ¬ 1 ≤ r 1 := fun z => by
            have := (f 1 (by omega)).mp z
            omega
          have f2 : ¬ 2 ≤ r 1 := fun z => by
            have := (f 2 (by omega)).mp z
            omega
          have f3 : ¬ 3 ≤ r 1 := fun z => by
            have := (f 3 (by omega)).mp z
            omega
          have f4 : ¬ 4 ≤ r 1 := fun z => by
            have := (f 4 (by omega)).mp z
            omega
          have d0 : r 1 ≤ r 0 := d 0
          have R1 : r 1 = 0 := by omega
          have i1 := I R1 1 (by omega)
          have i2 := I R1 2 (by omega)
          have i3 := I R1 3 (by omega)
          have i4 := I R1 4 (by omega)
          have G1 := G (by omega) 1
          have G2 := G (by omega) 2
          have G3 := G (by omega) 3
          exfalso
          omega
        · have T : v 4 - v 3 = 1 := by omega
          rw [T] at l k K
          have l0 : r 1 < r 0 := l 0 (by omega)
          have k1 : r 2 = r 1 := k 1 (by omega)
          have k2 : r 3 = r 2 := k 2 (by omega)
          have k3 : r 4 = r 3 := k 3 (by omega)
          have k4 : r 5 = r 4 := k 4 (by omega)
          have k5 : r 6 = r 5 := k 5 (by omega)
          have k6 : r 7 = r 6 := k 6 (by omega)
          have f1 : ¬ 1 ≤ r 1 := fun z => by
            have := (f 1 (by omega)).mp z
            omega
          have f2 : ¬ 2 ≤ r 1 := fun z => by
            have := (f 2 (by omega)).mp z
            omega
          have f3 : ¬ 3 ≤ r 1 := fun z => by
            have := (f 3 (by omega)).mp z
            omega
          have f4 : ¬ 4 ≤ r 1 := fun z => by
            have := (f 4 (by omega)).mp z
            omega
          have d0 : r 1 ≤ r 0 := d 0
          have R1 : r 1 = 0 := by omega
          have i1 := I R1 1 (by omega)
          have i2 := I R1 2 (by omega)
          have i3 := I R1 3 (by omega)
          have i4 := I R1 4 (by omega)
          have q : r 1 = 0 := K (by omega)
          exfalso
          omega
    · have c3 : v 3 = 2 ∨ v 3 = 3 := by omega
      rcases c3 with e3 | e3
      · have c4 : v 4 = 2 ∨ v 4 = 3 ∨ v 4 = 4 := by omega
        rcases c4 with e4 | e4 | e4
        · have T : v 4 - v 3 = 0 := by omega
          rw [T] at l k K
          have k0 : r 1 = r 0 := k 0 (by omega)
          have k1 : r 2 = r 1 := k 1 (by omega)
          have k2 : r 3 = r 2 := k 2 (by omega)
          have k3 : r 4 = r 3 := k 3 (by omega)
          have k4 : r 5 = r 4 := k 4 (by omega)
          have k5 : r 6 = r 5 := k 5 (by omega)
          have k6 : r 7 = r 6 := k 6 (by omega)
          have f1 : ¬ 1 ≤ r 1 := fun z => by
            have := (f 1 (by omega)).mp z
            omega
          have f2 : ¬ 2 ≤ r 1 := fun z => by
            have := (f 2 (by omega)).mp z
            omega
          have f3 : ¬ 3 ≤ r 1 := fun z => by
            have := (f 3 (by omega)).mp z
            omega
          have f4 : ¬ 4 ≤ r 1 := fun z => by
            have := (f 4 (by omega)).mp z
            omega
          have d0 : r 1 ≤ r 0 := d 0
          have R1 : r 1 = 0 := by omega
          have i1 := I R1 1 (by omega)
          have i2 := I R1 2 (by omega)
          have i3 := I R1 3 (by omega)
          have i4 := I R1 4 (by omega)
          exfalso
          omega
        · have T : v 4 - v 3 = 1 := by omega
          rw [T] at l k K
          have l0 : r 1 < r 0 := l 0 (by omega)
          have k1 : r 2 = r 1 := k 1 (by omega)
          have k2 : r 3 = r 2 := k 2 (by omega)
          have k3 : r 4 = r 3 := k 3 (by omega)
          have k4 : r 5 = r 4 := k 4 (by omega)
          have k5 : r 6 = r 5 := k 5 (by omega)
          have k6 : r 7 = r 6 := k 6 (by omega)
          have f1 : ¬ 1 ≤ r 1 := fun z => by
            have := (f 1 (by omega)).mp z
            omega
          have f2 : ¬ 2 ≤ r 1 := fun z => by
            have := (f 2 (by omega)).mp z
            omega
          have f3 : ¬ 3 ≤ r 1 := fun z => by
            have := (f 3 (by omega)).mp z
            omega
          have f4 : ¬ 4 ≤ r 1 := fun z => by
            have := (f 4 (by omega)).mp z
            omega
          have d0 : r 1 ≤ r 0 := d 0
          have R1 : r 1 = 0 := by omega
          have i1 := I R1 1 (by omega)
          have i2 := I R1 2 (by omega)
          have i3 := I R1 3 (by omega)
          have i4 := I R1 4 (by omega)
          have G1 := G (by omega) 1
          have G2 := G (by omega) 2
          have G3 := G (by omega) 3
          have h := H (by omega) (by omega)
          exfalso
          omega
        · have T : v 4 - v 3 = 2 := by omega
          rw [T] at l k K
          have l0 : r 1 < r 0 := l 0 (by omega)
          have l1 : r 2 < r 1 := l 1 (by omega)
          have k2 : r 3 = r 2 := k 2 (by omega)
          have k3 : r 4 = r 3 := k 3 (by omega)
          have k4 : r 5 = r 4 := k 4 (by omega)
          have k5 : r 6 = r 5 := k 5 (by omega)
          have k6 : r 7 = r 6 := k 6 (by omega)
          have f1 : ¬ 1 ≤ r 1 := fun z => by
            have := (f 1 (by omega)).mp z
            omega
          have f2 : ¬ 2 ≤ r 1 := fun z => by
            have := (f 2 (by omega)).mp z
            omega
          have f3 : ¬ 3 ≤ r 1 := fun z => by
            have := (f 3 (by omega)).mp z
            omega
          have f4 : ¬ 4 ≤ r 1 := fun z => by
            have := (f 4 (by omega)).mp z
            omega
          have d0 : r 1 ≤ r 0 := d 0
          have R1 : r 1 = 0 := by omega
          have i1 := I R1 1 (by omega)
          have i2 := I R1 2 (by omega)
          have i3 := I R1 3 (by omega)
          have i4 := I R1 4 (by omega)
          have q : r 2 = 0 := K (by omega)
          exfalso
          omega
      · have c4 : v 4 = 3 ∨ v 4 = 4 := by omega
        rcases c4 with e4 | e4
        · have T : v 4 - v 3 = 0 := by omega
          rw [T] at l k K
          have k0 : r 1 = r 0 := k 0 (by omega)
          have k1 : r 2 = r 1 := k 1 (by omega)
          have k2 : r 3 = r 2 := k 2 (by omega)
          have k3 : r 4 = r 3 := k 3 (by omega)
          have k4 : r 5 = r 4 := k 4 (by omega)
          have k5 : r 6 = r 5 := k 5 (by omega)
          have k6 : r 7 = r 6 := k 6 (by omega)
          have f1 : ¬ 1 ≤ r 1 := fun z => by
            have := (f 1 (by omega)).mp z
            omega
          have f2 : ¬ 2 ≤ r 1 := fun z => by
            have := (f 2 (by omega)).mp z
            omega
          have f3 : ¬ 3 ≤ r 1 := fun z => by
            have := (f 3 (by omega)).mp z
            omega
          have f4 : ¬ 4 ≤ r 1 := fun z => by
            have := (f 4 (by omega)).mp z
            omega
          have d0 : r 1 ≤ r 0 := d 0
          have R1 : r 1 = 0 := by omega
          have i1 := I R1 1 (by omega)
          have i2 := I R1 2 (by omega)
          have i3 := I R1 3 (by omega)
          have i4 := I R1 4 (by omega)
          have G1 := G (by omega) 1
          have G2 := G (by omega) 2
          have G3 := G (by omega) 3
          exfalso
          omega
        · have T : v 4 - v 3 = 1 := by omega
          rw [T] at l k K
          have l0 : r 1 < r 0 := l 0 (by omega)
          have k1 : r 2 = r 1 := k 1 (by omega)
          have k2 : r 3 = r 2 := k 2 (by omega)
          have k3 : r 4 = r 3 := k 3 (by omega)
          have k4 : r 5 = r 4 := k 4 (by omega)
          have k5 : r 6 = r 5 := k 5 (by omega)
          have k6 : r 7 = r 6 := k 6 (by omega)
          have f1 : ¬ 1 ≤ r 1 := fun z => by
            have := (f 1 (by omega)).mp z
            omega
          have f2 : ¬ 2 ≤ r 1 := fun z => by
            have := (f 2 (by omega)).mp z
            omega
          have f3 : ¬ 3 ≤ r 1 := fun z => by
            have := (f 3 (by omega)).mp z
            omega
          have f4 : ¬ 4 ≤ r 1 := fun z => by
            have := (f 4 (by omega)).mp z
            omega
          have d0 : r 1 ≤ r 0 := d 0
          have R1 : r 1 = 0 := by omega
          have i1 := I R1 1 (by omega)
          have i2 := I R1 2 (by omega)
          have i3 := I R1 3 (by omega)
          have i4 := I R1 4 (by omega)
          have q : r 1 = 0 := K (by omega)
          have c1 : cv v 1 4 = 4 := by simp [cv, z0, e1, e2, e3, e4]
          have c2 : cv v 2 4 = 0 := by simp [cv, z0, e1, e2, e3, e4]
          have c3 : cv v 3 4 = 0 := by simp [cv, z0, e1, e2, e3, e4]
          have c4 : cv v 4 4 = 0 := by simp [cv, z0, e1, e2, e3, e4]
          have c5 : cv v 5 4 = 0 := by simp [cv, z0, e1, e2, e3, e4]
          rw [c1, c2, c3, c4, c5]
          omega
