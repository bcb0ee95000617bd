/-! a polynomial of the matrix of numbers: the remainder by x less the matrix -/
theorem spo_add (f g : Nat → Po) : ∀ n, spo (fun k => pAdd (f k) (g k)) n = pAdd (spo f n) (spo g n)
  | 0 => by rw [spo, spo, spo, pAdd_zero]
  | n + 1 => by
    rw [spo, spo, spo, spo_add f g n]
    generalize spo f n = a, spo g n = b, f n = c, g n = d
    letI := pr
    simp only [hA]
    grind
theorem spo_pC (x : Nat → Fp) : ∀ n, spo (fun k => pC (x k)) n = pC (sm x n)
  | 0 => rfl
  | n + 1 => by rw [spo, sm, spo_pC x n, pca]
def Rl (E : Nat → Nat → Po) (R : Nat) (f : Po) (C : Nat → Nat → Fp) : Prop := ∃ Y : Nat → Nat → Po, ∀ i j, i < R → j < R → (if i = j then f else pC 0) = pAdd (spo (fun k => pMul (xE E R i k) (Y k j)) R) (pC (C i j))
theorem szb (W : Nat → Po) : ∀ n, ∃ B, ∀ k, k < n → sz (W k) ≤ B
  | 0 => ⟨0, fun k hk => absurd hk (Nat.not_lt_zero _)⟩
  | n + 1 => by
    obtain ⟨B, h⟩ := szb W n
    refine ⟨B + sz (W n), fun k hk => ?_⟩
    by_cases q : k = n
    · rw [q]; omega
    · have := h k (by omega); omega
section RLS
variable {E : Nat → Nat → Po} {R : Nat}
theorem rl_un {f : Po} {C D : Nat → Nat → Fp} (h : Rl E R f C) (k : Rl E R f D) {i j : Nat} (hi : i < R) (hj : j < R) : C i j = D i j := by
  obtain ⟨Y, hY⟩ := h
  obtain ⟨Z, hZ⟩ := k
  have eq : ∀ i, i < R → ∀ t, ((if 1 ≤ t then co (Y i j) (t - 1) else 0) + - sm (fun k => nuA E i k * co (Y k j) t) R) + co (pC (C i j)) t = ((if 1 ≤ t then co (Z i j) (t - 1) else 0) + - sm (fun k => nuA E i k * co (Z k j) t) R) + co (pC (D i j)) t := fun i hi t => by
    rw [← co_xsum E hi (fun k => Y k j) t, ← co_xsum E hi (fun k => Z k j) t, ← co_add, ← co_add, ← hY i j hi hj, ← hZ i j hi hj]
  obtain ⟨B1, b1⟩ := szb (fun k => Y k j) R
  obtain ⟨B2, b2⟩ := szb (fun k => Z k j) R
  have all : ∀ d t, B1 + B2 ≤ t + d → ∀ k, k < R → co (Y k j) t = co (Z k j) t := by
    intro d
    induction d with
    | zero =>
      intro t ht k hk
      have h1 := b1 k hk
      have h2 := b2 k hk
      rw [sz_hi (p := Y k j) (show sz (Y k j) ≤ t by omega), sz_hi (p := Z k j) (show sz (Z k j) ≤ t by omega)]
    | succ d ih =>
      intro t ht k hk
      have e := eq k hk (t + 1)
      have s : sm (fun l => nuA E k l * co (Y l j) (t + 1)) R = sm (fun l => nuA E k l * co (Z l j) (t + 1)) R := sm_congr R (fun l hl => by rw [ih (t + 1) (by omega) l hl])
      rw [s, if_pos (by omega), if_pos (by omega), co_C, co_C, if_neg (by omega), if_neg (by omega), show t + 1 - 1 = t by omega] at e
      generalize sm (fun l => nuA E k l * co (Z l j) (t + 1)) R = S at e
      generalize co (Y k j) t = y, co (Z k j) t = z at e ⊢
      clear ih
      grind
  have e := eq i hi 0
  have s : sm (fun l => nuA E i l * co (Y l j) 0) R = sm (fun l => nuA E i l * co (Z l j) 0) R := sm_congr R (fun l hl => by rw [all (B1 + B2) 0 (by omega) l hl])
  rw [s, if_neg (by omega), if_neg (by omega), co_C, co_C, if_pos rfl, if_pos rfl] at e
  generalize sm (fun l => nuA E i l * co (Z l j) 0) R = S at e
  generalize C i j = y, D i j = z at e ⊢
  clear all s eq
  grind
theorem rl_cg {f : Po} {C D : Nat → Nat → Fp} (h : Rl E R f C) (e : ∀ i j, i < R → j < R → D i j = C i j) : Rl E R f D := by
  obtain ⟨Y, hY⟩ := h
  exact ⟨Y, fun i j hi hj => by rw [e i j hi hj]; exact hY i j hi hj⟩
theorem rl_add {f g : Po} {C D : Nat → Nat → Fp} (h : Rl E R f C) (k : Rl E R g D) : Rl E R (pAdd f g) (fun i j => C i j + D i j) := by
  obtain ⟨Y, hY⟩ := h
  obtain ⟨Z, hZ⟩ := k
  refine ⟨fun i j => pAdd (Y i j) (Z i j), fun i j hi hj => ?_⟩
  have e1 : (if i = j then pAdd f g else pC 0) = pAdd (if i = j then f else pC 0) (if i = j then g else pC 0) := by
    split
    · rfl
    · rw [pAdd_zero]
  have e2 : spo (fun k => pMul (xE E R i k) (pAdd (Y k j) (Z k j))) R = pAdd (spo (fun k => pMul (xE E R i k) (Y k j)) R) (spo (fun k => pMul (xE E R i k) (Z k j)) R) := by
    rw [← spo_add]
    refine spo_congr (fun k _ => ?_)
    generalize xE E R i k = a, Y k j = b, Z k j = c
    letI := pr
    simp only [hA, hM]
    grind
  rw [e1, e2, hY i j hi hj, hZ i j hi hj, ← pca]
  generalize spo (fun k => pMul (xE E R i k) (Y k j)) R = a, spo (fun k => pMul (xE E R i k) (Z k j)) R = b, pC (C i j) = c, pC (D i j) = d
  letI := pr
  simp only [hA]
  grind
theorem rl_c (c : Fp) : Rl E R (pC c) (fun i j => if i = j then c else 0) := by
  refine ⟨fun _ _ => pC 0, fun i j hi hj => ?_⟩
  have e : spo (fun k => pMul (xE E R i k) (pC 0)) R = pC 0 := by
    rw [spo_mulr, pMul_comm, pZero_mul]
  rw [e, pAdd_comm, pAdd_zero]
  show (if i = j then pC c else pC 0) = pC (if i = j then c else 0)
  split <;> rfl
theorem rl_l (ρ : Fp) : Rl E R (xs (- ρ)) (shA E ρ) := by
  refine ⟨fun k j => if k = j then pC 1 else pC 0, fun i j hi hj => ?_⟩
  have e : spo (fun k => pMul (xE E R i k) (if k = j then pC 1 else pC 0)) R = xE E R i j := by
    rw [spo_one hj (fun k _ hk => by rw [if_neg hk, pMul_comm, pZero_mul]), if_pos rfl, pMul_comm, pOne_mul]
  rw [e]
  unfold xE shA
  rw [if_pos (show i < R ∧ j < R from ⟨hi, hj⟩)]
  by_cases q : i = j
  · rw [if_pos q, if_pos q, if_pos q]
    unfold xs
    refine po_ext (fun t => ?_)
    rw [co_add, co_add, co_add, co_C, co_C, co_C]
    by_cases z : t = 0
    · rw [if_pos z, if_pos z, if_pos z]
      generalize co (mono 1 1) t = m, co (E i j) 0 = n
      grind
    · rw [if_neg z, if_neg z, if_neg z]
      grind
  · rw [if_neg q, if_neg q, if_neg q]
    refine po_ext (fun t => ?_)
    rw [co_add, co_add, co_0, co_C, co_C]
    by_cases z : t = 0
    · rw [if_pos z, if_pos z]
      grind
    · rw [if_neg z, if_neg z]
      grind
theorem rl_mul {f g : Po} {C D : Nat → Nat → Fp} (h : Rl E R f C) (k : Rl E R g D) : Rl E R (pMul f g) (fun i j => sm (fun m => C i m * D m j) R) := by
  obtain ⟨Y, hY⟩ := h
  obtain ⟨Z, hZ⟩ := k
  refine ⟨fun i j => pAdd (pMul f (Z i j)) (spo (fun m => pMul (Y i m) (pC (D m j))) R), fun i j hi hj => ?_⟩
  have e1 : (if i = j then pMul f g else pC 0) = pMul f (if i = j then g else pC 0) := by
    split
    · rfl
    · rw [pMul_comm, pZero_mul]
  have e2 : pMul f (pC (D i j)) = pAdd (spo (fun k => pMul (xE E R i k) (spo (fun m => pMul (Y k m) (pC (D m j))) R)) R) (pC (sm (fun m => C i m * D m j) R)) := by
    have a : pMul f (pC (D i j)) = spo (fun m => pMul (if i = m then f else pC 0) (pC (D m j))) R := by
      rw [spo_one hi (fun m _ hm => by rw [if_neg (Ne.symm hm), pZero_mul]), if_pos rfl]
    have b : spo (fun m => pMul (if i = m then f else pC 0) (pC (D m j))) R = spo (fun m => pAdd (spo (fun k => pMul (xE E R i k) (pMul (Y k m) (pC (D m j)))) R) (pC (C i m * D m j))) R := spo_congr (fun m hm => by
      rw [hY i m hi hm, ← pcm]
      have : spo (fun k => pMul (xE E R i k) (pMul (Y k m) (pC (D m j)))) R = pMul (spo (fun k => pMul (xE E R i k) (Y k m)) R) (pC (D m j)) := by
        rw [← spo_mulr]
        exact spo_congr (fun k _ => (pMul_assoc _ _ _).symm)
      rw [this]
      generalize spo (fun k => pMul (xE E R i k) (Y k m)) R = p, pC (C i m) = q, pC (D m j) = r
      letI := pr
      simp only [hA, hM]
      grind)
    rw [a, b, spo_add, spo_pC, spo_swap]
    congr 1
    exact spo_congr (fun k _ => spo_mul _ _ _)
  have e3 : spo (fun k => pMul (xE E R i k) (pAdd (pMul f (Z k j)) (spo (fun m => pMul (Y k m) (pC (D m j))) R))) R = pAdd (pMul f (spo (fun k => pMul (xE E R i k) (Z k j)) R)) (spo (fun k => pMul (xE E R i k) (spo (fun m => pMul (Y k m) (pC (D m j))) R)) R) := by
    rw [← spo_mul, ← spo_add]
    refine spo_congr (fun k _ => ?_)
    generalize xE E R i k = a, Z k j = b, spo (fun m => pMul (Y k m) (pC (D m j))) R = c
    letI := pr
    simp only [hA, hM]
    grind
  rw [e1, e3, hZ i j hi hj]
  generalize spo (fun k => pMul (xE E R i k) (Z k j)) R = a at *
  generalize spo (fun k => pMul (xE E R i k) (spo (fun m => pMul (Y k m) (pC (D m j))) R)) R = b at *
  generalize pC (sm (fun m => C i m * D m j) R) = c at *
  generalize pC (D i j) = d at *
  clear e1 e3 hY hZ
  letI := pr
  simp only [hA, hM] at e2 ⊢
  grind
theorem rl_ex : ∀ (n : Nat) (f : Po), sz f ≤ n → ∃ C, Rl E R f C
  | 0, f, h => by
    rw [sz_0 (p := f) (by omega)]
    exact ⟨_, rl_c 0⟩
  | n + 1, f, h => by
    have l0 : sz (xs (- (0 : Fp))) ≠ 0 := by rw [xs_sz]; decide
    have dm := pdm f l0
    rw [xs_sz] at dm
    have cs := pdv_cs (a := f) l0
    rw [xs_sz] at cs
    obtain ⟨C, hC⟩ := rl_ex n (pdv f (xs (- 0))) (by
      rcases cs with e | e
      · rw [e.1, sz_z]; omega
      · omega)
    have e : pmd f (xs (- 0)) = pC (co (pmd f (xs (- 0))) 0) := po_ext (fun t => by
      rw [co_C]
      by_cases z : t = 0
      · rw [if_pos z, z]
      · rw [if_neg z, sz_hi (by omega)])
    have r := rl_add (rl_mul hC (rl_l (E := E) (R := R) 0)) (rl_c (E := E) (R := R) (co (pmd f (xs (- 0))) 0))
    rw [← e, dm.1] at r
    exact ⟨_, r⟩
theorem rl_pw (ρ : Fp) : ∀ m, Rl E R (pPow (xs (- ρ)) m) (mpw (shA E ρ) R m)
  | 0 => rl_cg (rl_c 1) (fun i j hi hj => by
    show (if i = j ∧ i < R then (1 : Fp) else 0) = if i = j then 1 else 0
    by_cases q : i = j
    · rw [if_pos ⟨q, hi⟩, if_pos q]
    · rw [if_neg (fun z => q z.1), if_neg q])
  | m + 1 => rl_cg (rl_mul (rl_pw ρ m) (rl_l ρ)) (fun i j hi hj => mpw_in _ m hi hj)
theorem rl_mu (hR : R < 5) (h1 : 1 ≤ R) : Rl E R (ivf (gd (xE E R)) (R - 1)) (fun _ _ => 0) := by
  have mf := min_facts E hR h1
  exact ⟨fun k j => quo (nuA E) R (ivf (gd (xE E R)) (R - 1)) k j, fun i j hi hj => by rw [quo_s E mf.2.1 mf.2.2.1 hR hi hj, pAdd_zero]⟩
theorem rl_min (hR : R < 5) (h1 : 1 ≤ R) {f : Po} (h : Rl E R f (fun _ _ => 0)) : pd (ivf (gd (xE E R)) (R - 1)) f := by
  have mf := (min_facts E hR h1).2.2.2.2
  obtain ⟨Y, hY⟩ := h
  have hY2 : ∀ i j, i < R → j < R → spo (fun k => pMul (xE E R i k) (Y k j)) R = if i = j then f else pC 0 := fun i j hi hj => by
    rw [hY i j hi hj, pAdd_zero]
  have cm := chp_mn E hR
  have c0 := mnc_sz cm.2
  have gn : gd (xE E R) (R - 1) ≠ pC 0 := fun z => c0 (by rw [← mf, z, pMul_comm, pZero_mul, sz_z])
  have key : ∀ i j, i < R → j < R → pMul (chp E R) (Y i j) = pMul (adj (xE E R) R i j) f := fun i j hi hj => by
    have l1 : spo (fun k => pMul (adj (xE E R) R i k) (spo (fun l => pMul (xE E R k l) (Y l j)) R)) R = pMul (adj (xE E R) R i j) f := by
      have e : spo (fun k => pMul (adj (xE E R) R i k) (spo (fun l => pMul (xE E R k l) (Y l j)) R)) R = spo (fun k => if k = j then pMul (adj (xE E R) R i k) f else pC 0) R := spo_congr (fun k hk => by
        rw [hY2 k j hk hj]
        by_cases z : k = j
        · rw [if_pos z, if_pos z]
        · rw [if_neg z, if_neg z, pMul_comm, pZero_mul])
      rw [e, spo_one hj (fun k _ hk => if_neg hk), if_pos rfl]
    have l2 : spo (fun k => pMul (adj (xE E R) R i k) (spo (fun l => pMul (xE E R k l) (Y l j)) R)) R = pMul (chp E R) (Y i j) := by
      have e : spo (fun k => pMul (adj (xE E R) R i k) (spo (fun l => pMul (xE E R k l) (Y l j)) R)) R = spo (fun k => spo (fun l => pMul (pMul (adj (xE E R) R i k) (xE E R k l)) (Y l j)) R) R := spo_congr (fun k hk => by
        rw [← spo_mul]
        exact spo_congr (fun l _ => (pMul_assoc _ _ _).symm))
      have e2 : spo (fun l => spo (fun k => pMul (pMul (adj (xE E R) R i k) (xE E R k l)) (Y l j)) R) R = spo (fun l => if l = i then pMul (chp E R) (Y l j) else pC 0) R := spo_congr (fun l hl => by
        rw [spo_mulr (Y l j) (fun k => pMul (adj (xE E R) R i k) (xE E R k l)), adjL (xE E R) hR hi hl]
        by_cases z : i = l
        · rw [if_pos z, if_pos z.symm]; rfl
        · rw [if_neg z, if_neg (Ne.symm z), pZero_mul])
      rw [e, spo_swap, e2, spo_one hi (fun l _ hl => if_neg hl), if_pos rfl]
    exact l2.symm.trans l1
  have big : pd (pMul (ivf (gd (xE E R)) (R - 1)) (gd (xE E R) (R - 1))) (pMul f (gd (xE E R) (R - 1))) := by
    rw [mf]
    refine gd_f (fun r s hr hs b1 b2 => ?_)
    by_cases z : r < 2 ^ R ∧ s < 2 ^ R
    · obtain ⟨j, hj, ej⟩ := allR1 r hr R hR ⟨by omega, z.1⟩
      obtain ⟨k, hk, ek⟩ := allR1 s hs R hR ⟨by omega, z.2⟩
      have sg : sgn k j * sgn k j = 1 := by unfold sgn; split <;> decide
      have em : mi (xE E R) r s = pMul (pC (sgn k j)) (adj (xE E R) R k j) := by
        rw [ej, ek]
        unfold adj
        refine po_ext (fun t => ?_)
        rw [co_Cmul, co_Cmul]
        grind
      rw [em]
      refine ⟨pMul (pC (sgn k j)) (Y k j), ?_⟩
      have kk := key k j hk hj
      generalize Y k j = Q at kk ⊢
      generalize adj (xE E R) R k j = D at kk ⊢
      generalize chp E R = X at kk ⊢
      generalize pC (sgn k j) = S
      clear key hY hY2 em
      letI := pr
      simp only [hM] at kk ⊢
      grind
    · have : mi (xE E R) r s = pC 0 := mnx_out E hR (bc r) r s hr hs rfl (by omega) (by
        by_cases y : r < 2 ^ R
        · right; exact fun w => z ⟨y, w⟩
        · left; exact y)
      rw [this, pMul_comm f, pZero_mul]
      exact pd_0 _
  obtain ⟨t, ht⟩ := big
  exact ⟨t, po_cancel (c := gd (xE E R) (R - 1)) (by rw [pMul_assoc]; exact ht) gn⟩
end RLS
