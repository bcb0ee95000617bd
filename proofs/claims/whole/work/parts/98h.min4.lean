/-- what the matrix annuls is (x less the numbers) times this -/
def quo (a : Nat → Nat → Fp) (R : Nat) (f : Po) (i j : Nat) : Po := ⟨fun t => sm (fun s => if t < s then co f s * mpw a R (s - t - 1) i j else 0) 5, 4, fun t ht => sm_zero _ (fun s hs => if_neg (by omega))⟩
theorem co_quo (a : Nat → Nat → Fp) (R : Nat) (f : Po) (i j t : Nat) : co (quo a R f i j) t = sm (fun s => if t < s then co f s * mpw a R (s - t - 1) i j else 0) 5 := rfl
theorem quo_s (E : Nat → Nat → Po) {R : Nat} {f : Po} (hs : sz f ≤ 5) (h : ∀ k, k < 16 → Phi (nuA E) R f k = 0) (hR : R < 5) {i j : Nat} (hi : i < R) (hj : j < R) : spo (fun k => pMul (xE E R i k) (quo (nuA E) R f k j)) R = if i = j then f else pC 0 := by
  refine po_ext (fun t => ?_)
  rw [co_xsum E hi (fun k => quo (nuA E) R f k j) t]
  -- the numbers times the quotient
  have e1 : sm (fun k => nuA E i k * co (quo (nuA E) R f k j) t) R = sm (fun s => if t < s then co f s * mpw (nuA E) R (s - t) i j else 0) 5 := by
    have e : sm (fun k => nuA E i k * co (quo (nuA E) R f k j) t) R = sm (fun k => sm (fun s => if t < s then co f s * (nuA E i k * mpw (nuA E) R (s - t - 1) k j) else 0) 5) R := sm_congr _ (fun k _ => by
      rw [co_quo, ← sm_mul]
      refine sm_congr _ (fun s _ => ?_)
      by_cases z : t < s
      · rw [if_pos z, if_pos z]; generalize mpw (nuA E) R (s - t - 1) k j = u; grind
      · rw [if_neg z, if_neg z]; grind)
    rw [e, sm_swap]
    refine sm_congr _ (fun s _ => ?_)
    by_cases z : t < s
    · rw [if_pos z]
      have e2 : sm (fun k => if t < s then co f s * (nuA E i k * mpw (nuA E) R (s - t - 1) k j) else 0) R = sm (fun k => co f s * (nuA E i k * mpw (nuA E) R (s - t - 1) k j)) R := sm_congr _ (fun k _ => if_pos z)
      rw [e2, sm_mul, mpw_left _ _ hi hj, show s - t - 1 + 1 = s - t by omega]
    · rw [if_neg z]
      exact sm_zero _ (fun k _ => if_neg z)
  rw [e1]
  have dl : mpw (nuA E) R 0 i j = if i = j then 1 else 0 := by
    show (if i = j ∧ i < R then 1 else 0) = _
    by_cases q : i = j
    · rw [if_pos ⟨q, hi⟩, if_pos q]
    · rw [if_neg (fun y => q y.1), if_neg q]
  -- what remains is f's coefficient on the diagonal
  have goal : (if 1 ≤ t then co (quo (nuA E) R f i j) (t - 1) else 0) = sm (fun s => if t < s then co f s * mpw (nuA E) R (s - t) i j else 0) 5 + co f t * mpw (nuA E) R 0 i j := by
    by_cases z : 1 ≤ t
    · rw [if_pos z, co_quo]
      by_cases z5 : t < 5
      · have e3 : sm (fun s => if t - 1 < s then co f s * mpw (nuA E) R (s - (t - 1) - 1) i j else 0) 5 = sm (fun s => (if t < s then co f s * mpw (nuA E) R (s - t) i j else 0) + (if s = t then co f s * mpw (nuA E) R 0 i j else 0)) 5 := sm_congr _ (fun s _ => by
          by_cases y : s = t
          · rw [y, if_pos (by omega), if_neg (by omega), if_pos rfl, show t - (t - 1) - 1 = 0 by omega]
            generalize mpw (nuA E) R 0 i j = u
            grind
          · rw [if_neg y]
            by_cases w : t < s
            · rw [if_pos w, if_pos (by omega), show s - (t - 1) - 1 = s - t by omega]
              generalize mpw (nuA E) R (s - t) i j = u
              grind
            · rw [if_neg w, if_neg (by omega)]
              grind)
        rw [e3, sm_add, sm_delta (f := fun s => co f s * mpw (nuA E) R 0 i j) z5]
      · rw [sm_zero _ (fun s hs => if_neg (by omega)), sm_zero _ (fun s hs => if_neg (by omega)), sz_hi (p := f) (by omega)]
        generalize mpw (nuA E) R 0 i j = u
        grind
    · have t0 : t = 0 := by omega
      subst t0
      rw [if_neg (by omega)]
      have p := h (4 * i + j) (by omega)
      unfold Phi pwv at p
      rw [show (4 * i + j) / 4 = i by omega, show (4 * i + j) % 4 = j by omega] at p
      have e4 : sm (fun m => co f m * mpw (nuA E) R m i j) 5 = sm (fun s => (if 0 < s then co f s * mpw (nuA E) R (s - 0) i j else 0) + (if s = 0 then co f s * mpw (nuA E) R 0 i j else 0)) 5 := sm_congr _ (fun s _ => by
        by_cases y : s = 0
        · rw [y, if_neg (by omega), if_pos rfl]
          generalize mpw (nuA E) R 0 i j = u
          grind
        · rw [if_neg y, if_pos (by omega), Nat.sub_zero]
          generalize mpw (nuA E) R s i j = u
          grind)
      rw [e4, sm_add, sm_delta (f := fun s => co f s * mpw (nuA E) R 0 i j) (by decide)] at p
      exact p.symm
  rw [goal, dl]
  generalize sm (fun s => if t < s then co f s * mpw (nuA E) R (s - t) i j else 0) 5 = u
  by_cases q : i = j
  · rw [if_pos q, if_pos q]
    grind
  · rw [if_neg q, if_neg q, co_0]
    grind
/-- what there is to know of the last invariant -/
theorem min_facts (E : Nat → Nat → Po) {R : Nat} (hR : R < 5) (h1 : 1 ≤ R) : mnc (ivf (gd (xE E R)) (R - 1)) ∧ sz (ivf (gd (xE E R)) (R - 1)) ≤ 5 ∧ (∀ k, k < 16 → Phi (nuA E) R (ivf (gd (xE E R)) (R - 1)) k = 0) ∧ (∀ f, sz f ≤ 5 → (∀ k, k < 16 → Phi (nuA E) R f k = 0) → pd (ivf (gd (xE E R)) (R - 1)) f) ∧ pMul (ivf (gd (xE E R)) (R - 1)) (gd (xE E R) (R - 1)) = chp E R := by
  have cm := chp_mn E hR
  have c0 := mnc_sz cm.2
  have ga := gd_all E hR
  obtain ⟨g, hg⟩ : ∃ g, g = gd (xE E R) (R - 1) := ⟨_, rfl⟩
  have hord : R ≤ ord (xE E R) := (ord_rk (xE E R)).2.2 R ((gd_nz (xE E R) (by omega)).mp (by rw [ga]; exact c0))
  have g0 : sz g ≠ 0 := by rw [hg]; exact gd_lt (by omega)
  have gm : mnc g := by rw [hg] at g0 ⊢; exact gd_mnc g0
  have gn : g ≠ pC 0 := fun z => g0 (by rw [z, sz_z])
  obtain ⟨q, hq⟩ : ∃ q, q = ivf (gd (xE E R)) (R - 1) := ⟨_, rfl⟩
  have q1 : q = pdv (chp E R) g := by
    rw [hq, ivf, show R - 1 + 1 = R by omega, ga, if_neg c0, hg]
  have da : ∀ k j, k < R → j < R → pd g (adj (xE E R) R k j) := fun k j hk hj => by
    have x1 := ixn R hR j hj
    have x2 := ixn R hR k hk
    unfold adj
    rw [hg]
    exact pd_mul _ (gd_dv (xE E R) x1.2.2 x2.2.2 (by omega) (by omega))
  have dc : pd g (chp E R) := by
    have a := adjR (xE E R) hR (i := 0) (j := 0) (by omega) (by omega)
    rw [if_pos rfl] at a
    show pd g (mi (xE E R) (2 ^ R - 1) (2 ^ R - 1))
    rw [← a]
    exact pd_spo R (fun k hk => pd_mul _ (da k 0 hk (by omega)))
  have qg : pMul q g = chp E R := by rw [q1]; exact pd_div dc
  have q0 : sz q ≠ 0 := fun z => by rw [sz_0 z, pZero_mul] at qg; rw [← qg, sz_z] at c0; exact c0 rfl
  have qm : mnc q := by
    have := mnc_mul q0 g0
    rw [qg, cm.2, gm] at this
    unfold mnc
    grind
  obtain ⟨Cc, hC⟩ : ∃ Cc : Nat → Nat → Po, Cc = fun k j => pdv (adj (xE E R) R k j) g := ⟨_, rfl⟩
  have Cg : ∀ k j, k < R → j < R → pMul (Cc k j) g = adj (xE E R) R k j := fun k j hk hj => by rw [hC]; exact pd_div (da k j hk hj)
  have Csz : ∀ k j, sz (Cc k j) ≤ 4 := fun k j => by
    rw [hC]
    have a1 := pdv_sz (adj (xE E R) R k j) g
    have a2 : sz (adj (xE E R) R k j) ≤ sz (mi (xE E R) (2 ^ R - 1 - 2 ^ j) (2 ^ R - 1 - 2 ^ k)) := sz_Cmul _ _
    have a3 : sz (mi (xE E R) (2 ^ R - 1 - 2 ^ j) (2 ^ R - 1 - 2 ^ k)) ≤ bc (2 ^ R - 1 - 2 ^ j) + 1 := mnx_sz E R _ _ _
    have a4 : bc (2 ^ R - 1 - 2 ^ j) + 1 ≤ 4 := by
      by_cases z : j < R
      · have := ixn R hR j z; omega
      · have p := pw_lt R hR
        have : 2 ^ R ≤ 2 ^ j := Nat.pow_le_pow_right (by decide) (by omega)
        rw [show 2 ^ R - 1 - 2 ^ j = 0 by omega]
        decide
    show sz (pdv (adj (xE E R) R k j) g) ≤ 4
    omega
  have MC : ∀ i j, i < R → j < R → spo (fun k => pMul (xE E R i k) (Cc k j)) R = if i = j then q else pC 0 := fun i j hi hj => by
    refine po_cancel (c := g) ?_ gn
    rw [← spo_mulr]
    have e : spo (fun k => pMul (pMul (xE E R i k) (Cc k j)) g) R = spo (fun k => pMul (xE E R i k) (adj (xE E R) R k j)) R := spo_congr (fun k hk => by rw [pMul_assoc, Cg k j hk hj])
    rw [e, adjR (xE E R) hR hi hj]
    by_cases z : i = j
    · rw [if_pos z, if_pos z]; exact qg.symm
    · rw [if_neg z, if_neg z, pZero_mul]
  have CM : ∀ i j, i < R → j < R → spo (fun k => pMul (Cc i k) (xE E R k j)) R = if i = j then q else pC 0 := fun i j hi hj => by
    refine po_cancel (c := g) ?_ gn
    rw [← spo_mulr]
    have e : spo (fun k => pMul (pMul (Cc i k) (xE E R k j)) g) R = spo (fun k => pMul (adj (xE E R) R i k) (xE E R k j)) R := spo_congr (fun k hk => by
      rw [← Cg i k hi hk, pMul_assoc, pMul_comm (xE E R k j), ← pMul_assoc])
    rw [e, adjL (xE E R) hR hi hj]
    by_cases z : i = j
    · rw [if_pos z, if_pos z]; exact qg.symm
    · rw [if_neg z, if_neg z, pZero_mul]
  rw [← hq, ← hg]
  refine ⟨qm, ?_, ann_of E Csz MC, fun f hf hz => ?_, qg⟩
  · have := pdv_sz (chp E R) g
    rw [q1]
    omega
  · -- q times the quotient is the cofactor times f
    have key : ∀ i j, i < R → j < R → pMul q (quo (nuA E) R f i j) = pMul (Cc i j) f := fun i j hi hj => by
      have l1 : spo (fun k => pMul (Cc i k) (spo (fun l => pMul (xE E R k l) (quo (nuA E) R f l j)) R)) R = pMul (Cc i j) f := by
        have e : spo (fun k => pMul (Cc i k) (spo (fun l => pMul (xE E R k l) (quo (nuA E) R f l j)) R)) R = spo (fun k => if k = j then pMul (Cc i k) f else pC 0) R := spo_congr (fun k hk => by
          rw [quo_s E hf hz hR hk hj]
          by_cases z : k = j
          · rw [if_pos z, if_pos z]
          · rw [if_neg z, if_neg z, pMul_comm, pZero_mul])
        rw [e, spo_one hj (fun k _ hk => if_neg hk), if_pos rfl]
      have l2 : spo (fun k => pMul (Cc i k) (spo (fun l => pMul (xE E R k l) (quo (nuA E) R f l j)) R)) R = pMul q (quo (nuA E) R f i j) := by
        have e : spo (fun k => pMul (Cc i k) (spo (fun l => pMul (xE E R k l) (quo (nuA E) R f l j)) R)) R = spo (fun k => spo (fun l => pMul (pMul (Cc i k) (xE E R k l)) (quo (nuA E) R f l j)) R) R := spo_congr (fun k hk => by
          rw [← spo_mul]
          exact spo_congr (fun l _ => (pMul_assoc _ _ _).symm))
        have e2 : spo (fun l => spo (fun k => pMul (pMul (Cc i k) (xE E R k l)) (quo (nuA E) R f l j)) R) R = spo (fun l => if l = i then pMul q (quo (nuA E) R f l j) else pC 0) R := spo_congr (fun l hl => by
          rw [spo_mulr (quo (nuA E) R f l j) (fun k => pMul (Cc i k) (xE E R k l)), CM i l hi hl]
          by_cases z : i = l
          · rw [if_pos z, if_pos z.symm]
          · rw [if_neg z, if_neg (Ne.symm z), pZero_mul])
        rw [e, spo_swap, e2, spo_one hi (fun l _ hl => if_neg hl), if_pos rfl]
      exact l2.symm.trans l1
    have big : pd (pMul q g) (pMul f g) := by
      rw [hg]
      refine gd_f (fun r s hr hs b1 b2 => ?_)
      rw [← hg]
      by_cases z : r < 2 ^ R ∧ s < 2 ^ R
      · obtain ⟨j, hj, ej⟩ := allR1 r hr R hR ⟨by omega, z.1⟩
        obtain ⟨k, hk, ek⟩ := allR1 s hs R hR ⟨by omega, z.2⟩
        -- the minor is a cofactor but for its sign
        have sg : sgn k j * sgn k j = 1 := by unfold sgn; split <;> decide
        have em : mi (xE E R) r s = pMul (pC (sgn k j)) (pMul (Cc k j) g) := by
          rw [Cg k j hk hj, ej, ek]
          unfold adj
          refine po_ext (fun t => ?_)
          rw [co_Cmul, co_Cmul]
          grind
        rw [em]
        refine ⟨pMul (pC (sgn k j)) (quo (nuA E) R f k j), ?_⟩
        have kk := key k j hk hj
        generalize quo (nuA E) R f k j = Q at kk ⊢
        generalize Cc k j = D at kk ⊢
        generalize pC (sgn k j) = S
        letI := pr
        simp only [hM] at kk ⊢
        grind
      · have : mi (xE E R) r s = pC 0 := mnx_out E hR (bc r) r s hr hs rfl (by omega) (by
          by_cases y : r < 2 ^ R
          · right; exact fun w => z ⟨y, w⟩
          · left; exact y)
        rw [this, pMul_comm f, pZero_mul]
        exact pd_0 _
    obtain ⟨t, ht⟩ := big
    exact ⟨t, po_cancel (c := g) (by rw [pMul_assoc]; exact ht) gn⟩
/-- the least relation is the last invariant -/
theorem min_tie (E : Nat → Nat → Po) {R n : Nat} (hR : R < 5) (h1 : 1 ≤ R) {f : Po} (h : LEA (nuA E) R n f) : ivf (gd (xE E R)) (R - 1) = f := by
  obtain ⟨a1, a2, a3, a4, a5⟩ := min_facts E hR h1
  obtain ⟨l1, l2, l3, l4, l5⟩ := h
  have d := a4 f (by omega) l4
  have s := pd_szle d (by omega)
  have q0 := mnc_sz a1
  have lo : n + 1 ≤ sz (ivf (gd (xE E R)) (R - 1)) := by
    by_cases z : n + 1 ≤ sz (ivf (gd (xE E R)) (R - 1))
    · exact z
    · have := l5 _ (by omega) a3
      rw [this, sz_z] at q0
      exact absurd rfl q0
  refine mnc_eq a1 ?_ d (by omega)
  unfold mnc lead
  rw [l2, Nat.add_sub_cancel]
  exact l3
