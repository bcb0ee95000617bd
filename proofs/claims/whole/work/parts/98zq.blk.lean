/-! blocks: the class's count is what the reference reckons of ranks -/
theorem rk_le {E : Nat → Nat → Po} {R : Nat} {ρ : Fp} (hR : R ≤ 4) : ∀ m, rk E R ρ m ≤ R
  | 0 => by rw [rk_0 hR]; exact Nat.le_refl _
  | m + 1 => Nat.le_trans (rk_st hR m) (rk_le hR m)
theorem blk_v (E : Nat → Nat → Po) {R : Nat} (hR : R ≤ 4) (ρ : Fp) : ∃ v : Nat → Nat, (∀ k, k ≤ R → VA ρ (gd (xE E R) k) (v k)) ∧ v 0 = 0 ∧ (∀ k, k ≤ R → v k ≤ k) ∧ (∀ k, k < R → v k ≤ v (k + 1) ∧ ho 13 (ivf (gd (xE E R)) k) (xs (- ρ)) = v (k + 1) - v k) := by
  have ex : ∀ k, ∃ e, k ≤ R → VA ρ (gd (xE E R) k) e := fun k => by
    by_cases q : k ≤ R
    · obtain ⟨e, h, _⟩ := va_ex (ρ := ρ) _ (gd (xE E R) k) (Nat.le_refl _) (sz_ne (gd_ok hR q))
      exact ⟨e, fun _ => h⟩
    · exact ⟨0, fun y => absurd y q⟩
  obtain ⟨v, hv⟩ := Classical.axiomOfChoice ex
  have le : ∀ k, k ≤ R → v k ≤ k := fun k hk => by
    have p := pw_lt k (by omega)
    have d := mnx_dg E (R := R) (by omega) k (2 ^ k - 1) p.1 (by
      have : 2 ^ k ≤ 2 ^ R := Nat.pow_le_pow_right (by decide) hk
      have : 1 ≤ 2 ^ k := Nat.one_le_two_pow
      omega) p.2
    have mn : mi (xE E R) (2 ^ k - 1) (2 ^ k - 1) = mnr (xE E R) k (2 ^ k - 1) (2 ^ k - 1) := by
      unfold mi
      rw [p.2]
    have dv := gd_dv (xE E R) p.1 p.1 p.2 p.2
    rw [mn] at dv
    obtain ⟨e, h1, h2⟩ := va_ex (ρ := ρ) _ (mnr (xE E R) k (2 ^ k - 1) (2 ^ k - 1)) (Nat.le_refl _) (sz_ne (by omega))
    have := va_dv (hv k hk) h1 dv
    omega
  refine ⟨v, hv, by have := le 0 (by omega); omega, le, fun k hk => ?_⟩
  have g1 := gd_ok (E := E) hR (k := k + 1) (by omega)
  have e : pMul (ivf (gd (xE E R)) k) (gd (xE E R) k) = gd (xE E R) (k + 1) := by
    unfold ivf
    rw [if_neg g1]
    exact pd_div (gd_dd (xE E R) k)
  have i0 : ivf (gd (xE E R)) k ≠ pC 0 := fun z => g1 (by rw [← e, z, pZero_mul, sz_z])
  obtain ⟨f, h1, _⟩ := va_ex (ρ := ρ) _ _ (Nat.le_refl _) i0
  have u := va_un (hv (k + 1) (by omega)) (by rw [← e]; exact va_mul h1 (hv k (by omega)))
  have b := le (k + 1) (by omega)
  exact ⟨by omega, by rw [ho_va 13 _ f h1 (by omega)]; omega⟩
theorem bc_cv {D : Nat → Po} {l : Po} {v : Nat → Nat} {R m : Nat} (hm : m ≤ 5) (h : ∀ k, k < R → ho 13 (D k) l = v (k + 1) - v k ∧ v (k + 1) ≤ 4) : ∀ n, n ≤ R → bcnt D l (nI m) n = cv v m n
  | 0, _ => rfl
  | n + 1, hn => by
    have := h n (by omega)
    rw [bcnt, cv, bc_cv hm h n (by omega), this.1]
    congr 1
    by_cases q : v (n + 1) - v n = m
    · rw [if_pos (by rw [q]), if_pos q]
    · rw [if_neg (fun z => q ((eq_n (by omega) (by omega)).mp z)), if_neg q]
theorem blk_num (E : Nat → Nat → Po) {R : Nat} (hR : R ≤ 4) (ρ : Fp) {m : Nat} (h1 : 1 ≤ m) (h5 : m ≤ 5) : rk E R ρ (m - 1) + rk E R ρ (m + 1) = bcnt (ivf (gd (xE E R))) (xs (- ρ)) (nI m) R + 2 * rk E R ρ m := by
  obtain ⟨v, hv, v0, vb, vh⟩ := blk_v E hR ρ
  rw [bc_cv h5 (R := R) (fun k hk => ⟨(vh k hk).2, by have := vb (k + 1) (by omega); omega⟩) R (Nat.le_refl _)]
  by_cases R0 : R = 0
  · have a := rk_le (E := E) (ρ := ρ) hR (m - 1)
    have b := rk_le (E := E) (ρ := ρ) hR m
    have c := rk_le (E := E) (ρ := ρ) hR (m + 1)
    subst R0
    show _ = 0 + _
    omega
  have R1 : 1 ≤ R := by omega
  have mf := (min_facts E (R := R) (by omega) R1).2.2.2.2
  have ga := gd_all E (R := R) (by omega)
  have m0 : ivf (gd (xE E R)) (R - 1) ≠ pC 0 := fun z => gd_ok (E := E) hR (Nat.le_refl R) (by rw [ga, ← mf, z, pZero_mul, sz_z])
  obtain ⟨t, ht, _⟩ := va_ex (ρ := ρ) _ _ (Nat.le_refl _) m0
  have hw := hv (R - 1) (by omega)
  have hc := hv R (Nat.le_refl _)
  rw [ga] at hc
  have tw := va_un hc (by rw [← mf]; exact va_mul ht hw)
  have te : v R - v (R - 1) = t := by omega
  have L : ∀ m, m < v R - v (R - 1) → rk E R ρ (m + 1) < rk E R ρ m := fun m hm => rk_lo hR R1 ht (by omega)
  have K : ∀ m, v R - v (R - 1) ≤ m → rk E R ρ (m + 1) = rk E R ρ m := fun m hm => rk_hi hR R1 ht (by omega)
  have G1 : rk E R ρ 1 + 1 = R → ∀ m, rk E R ρ m ≤ rk E R ρ (m + 1) + 1 := fun h m => rk_g1 hR h m
  have F : ∀ k, k ≤ R → (k ≤ rk E R ρ 1 ↔ v k = 0) := fun k hk => by rw [rk_ev]; exact (va_0 (hv k hk)).symm
  have Kz : v R = R → rk E R ρ (v R - v (R - 1)) = 0 := fun h => by rw [te]; exact bkK hR R1 ht hw (by omega)
  have Gz : v R + 1 = R → ∀ m, 1 ≤ rk E R ρ m := fun h m => bkG hR R1 hc h m
  have I : rk E R ρ 1 = 0 → ∀ k, k ≤ R → k ≤ v k := fun h k hk => bkI hR h (hv k hk)
  have d := rk_st (E := E) (ρ := ρ) hR
  have mo : ∀ k, k < R → v k ≤ v (k + 1) := fun k hk => (vh k hk).1
  have r0 := rk_0 (E := E) (ρ := ρ) hR
  have ms : m = 1 ∨ m = 2 ∨ m = 3 ∨ m = 4 ∨ m = 5 := by omega
  have Rs' : R = 1 ∨ R = 2 ∨ R = 3 ∨ R = 4 := by omega
  rcases Rs' with e | e | e | e
  · subst e
    obtain ⟨a1, a2, a3, a4, a5⟩ := num1 (rk E 1 ρ) v r0 v0 d L K G1 vb mo F Kz Gz I
    rcases ms with e | e | e | e | e <;> subst e
    · exact a1
    · exact a2
    · exact a3
    · exact a4
    · exact a5
  · subst e
    obtain ⟨a1, a2, a3, a4, a5⟩ := num2 (rk E 2 ρ) v r0 v0 d L K G1 vb mo F Kz Gz I
    rcases ms with e | e | e | e | e <;> subst e
    · exact a1
    · exact a2
    · exact a3
    · exact a4
    · exact a5
  · subst e
    obtain ⟨a1, a2, a3, a4, a5⟩ := num3 (rk E 3 ρ) v r0 v0 d L K G1 vb mo F Kz Gz I
    rcases ms with e | e | e | e | e <;> subst e
    · exact a1
    · exact a2
    · exact a3
    · exact a4
    · exact a5
  · subst e
    obtain ⟨a1, a2, a3, a4, a5⟩ := num4 (rk E 4 ρ) v r0 v0 d L K G1 vb mo F Kz Gz I (fun h1 h2 => bkH rfl ht hw (by have e : v (4 - 1) = v 3 := rfl; omega) (by have e : v (4 - 1) = v 3 := rfl; omega)) (fun h => bkJ h (hv 2 (by omega)) (hv 3 (by omega)))
    rcases ms with e | e | e | e | e <;> subst e
    · exact a1
    · exact a2
    · exact a3
    · exact a4
    · exact a5
/-- the class's number of blocks and the reference's -/
theorem blk_tie (E : Nat → Nat → Po) {R : Nat} (hR : R ≤ 4) (ρ : Fp) {m r0 r1 r2 : Nat} (h1 : 1 ≤ m) (h5 : m ≤ 5) (k0 : RKf (pwE E R ρ (m - 1)) r0) (k1 : RKf (pwE E R ρ m) r1) (k2 : RKf (pwE E R ρ (m + 1)) r2) : nI (bcnt (ivf (gd (xE E R))) (xs (- ρ)) (nI m) R) = (nI r0 - ((2 : Int32) * nI r1)) + nI r2 := by
  have h := blk_num E hR ρ h1 h5
  rw [← rk_of k0, ← rk_of k1, ← rk_of k2] at h
  have b := bcnt_le (ivf (gd (xE E R))) (xs (- ρ)) (nI m) R
  have e : nI r0 + nI r2 = nI (bcnt (ivf (gd (xE E R))) (xs (- ρ)) (nI m) R) + (2 : Int32) * nI r1 := by
    show _ = _ + nI 2 * nI r1
    rw [nI_add, pk_mul, nI_add, h]
  generalize nI (bcnt (ivf (gd (xE E R))) (xs (- ρ)) (nI m) R) = x at e ⊢
  generalize nI r0 = a, nI r2 = c at e ⊢
  generalize (2 : Int32) * nI r1 = y at e ⊢
  grind
theorem blk_0 (E : Nat → Nat → Po) {R : Nat} (hR : R ≤ 4) (ρ : Fp) {a : Int32} (h : ¬ a ≤ 5) : bcnt (ivf (gd (xE E R))) (xs (- ρ)) a R = 0 := by
  obtain ⟨v, hv, v0, vb, vh⟩ := blk_v E hR ρ
  have : ∀ n, n ≤ R → bcnt (ivf (gd (xE E R))) (xs (- ρ)) a n = 0 := by
    intro n
    induction n with
    | zero => exact fun _ => rfl
    | succ n ih =>
      intro hn
      rw [bcnt, ih (by omega), (vh n (by omega)).2, if_neg (fun z => h ?_)]
      rw [← z]
      have := vb (n + 1) (by omega)
      exact (le_n (a := v (n + 1) - v n) (b := 5) (by omega) (by omega)).mpr (by omega)
  exact this R (Nat.le_refl _)
