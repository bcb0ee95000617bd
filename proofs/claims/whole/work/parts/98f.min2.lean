/-! the characteristic polynomial is monic -/
theorem exq_lead {g : Nat → Po} {s n : Nat} : ∀ (k c : Nat) (sg : Fp) (acc : Po), n < sz acc → (∀ x, c ≤ x → x < c + k → s / 2 ^ x % 2 = 1 → sz (g x) ≤ n) → sz (exq g s k c sg acc) = sz acc ∧ lead (exq g s k c sg acc) = lead acc
  | 0, _, _, _, _, _ => ⟨rfl, rfl⟩
  | k + 1, c, sg, acc, h, h2 => by
    rw [exq]
    by_cases q : s / 2 ^ c % 2 = 1
    · rw [if_pos q]
      have hs := sz_Cmul sg (g c)
      have hg := h2 c (by omega) (by omega) q
      have e := sz_add_lt (p := acc) (q := pMul (pC sg) (g c)) (by omega)
      have ih := exq_lead k (c + 1) (- sg) (pAdd acc (pMul (pC sg) (g c))) (by omega) (fun x h3 h4 => h2 x (by omega) (by omega))
      rw [ih.1, ih.2, e]
      refine ⟨rfl, ?_⟩
      unfold lead
      rw [e, co_add, sz_hi (p := pMul (pC sg) (g c)) (by omega)]
      grind
    · rw [if_neg q]
      exact exq_lead k (c + 1) sg acc h (fun x h3 h4 => h2 x (by omega) (by omega))
theorem xE_off {E : Nat → Nat → Po} {R i j : Nat} (h : i ≠ j) : sz (xE E R i j) ≤ 1 := sz_le (fun t ht => by
  rw [xE_co]
  by_cases q : i < R ∧ j < R
  · rw [if_pos q, if_neg (by omega), if_neg (by omega)]
  · rw [if_neg q])
theorem xE_dg {E : Nat → Nat → Po} {R i : Nat} (h : i < R) : sz (xE E R i i) = 2 ∧ lead (xE E R i i) = 1 := by
  have c1 : co (xE E R i i) 1 = 1 := by rw [xE_co, if_pos ⟨h, h⟩, if_neg (by decide), if_pos ⟨rfl, rfl⟩]
  have e : sz (xE E R i i) = 2 := sz_eq (fun t ht => sz_hi (Nat.le_trans (xE_sz E R i i) ht)) (fun _ => by rw [show 2 - 1 = 1 from rfl, c1]; decide)
  refine ⟨e, ?_⟩
  unfold lead
  rw [e]
  exact c1
theorem mnx_sz (E : Nat → Nat → Po) (R : Nat) : ∀ (n r s : Nat), sz (mnr (xE E R) n r s) ≤ n + 1
  | 0, r, s => by rw [mnr]; exact sz_C 1
  | n + 1, r, s => by
    rw [mnr]
    refine exq_sz _ _ _ _ (by rw [sz_z]; omega) (fun x _ _ _ => ?_)
    have h1 := sz_mul_le (xE E R (low r) x) (mnr (xE E R) n (r - 2 ^ low r) (s - 2 ^ x))
    have h2 := xE_sz E R (low r) x
    have h3 := mnx_sz E R n (r - 2 ^ low r) (s - 2 ^ x)
    omega
theorem bne (r : Nat) (hr : r < 16) (s : Nat) (hs : s < 16) (i : Nat) (hi : i < 4) (h1 : r / 2 ^ i % 2 = 1) (h2 : s / 2 ^ i % 2 = 1) (h3 : r - 2 ^ i = s - 2 ^ i) : r = s := by
  have a1 := bit_le r hr i hi h1
  have a2 := bit_le s hs i hi h2
  revert a1 a2 h3
  generalize 2 ^ i = u
  intro h3 a1 a2
  omega
theorem mnx_off (E : Nat → Nat → Po) (R : Nat) : ∀ (n r s : Nat), r < 16 → s < 16 → bc r = n → bc s = n → r ≠ s → sz (mnr (xE E R) n r s) ≤ n
  | 0, r, s, hr, hs, h1, h2, hne => absurd ((bc_0 r hr h1).trans (bc_0 s hs h2).symm) hne
  | n + 1, r, s, hr, hs, h1, h2, hne => by
    have l := ix3 r hr (by omega)
    have x1 := ix2 r hr (low r) l.1 l.2
    rw [mnr]
    refine exq_sz _ _ _ _ (by rw [sz_z]; omega) (fun x _ hx hz => ?_)
    have y := ix2 s hs x (by omega) hz
    have k1 := sz_mul_le (xE E R (low r) x) (mnr (xE E R) n (r - 2 ^ low r) (s - 2 ^ x))
    by_cases q : low r = x
    · have k2 := xE_sz E R (low r) x
      have k3 := mnx_off E R n (r - 2 ^ low r) (s - 2 ^ x) (by omega) (by omega) (by omega) (by omega) (fun e => by
        rw [← q] at e hz
        exact hne (bne r hr s hs (low r) l.1 l.2 hz e))
      omega
    · have k2 := xE_off (E := E) (R := R) q
      have k3 := mnx_sz E R n (r - 2 ^ low r) (s - 2 ^ x)
      omega
theorem lowb1 : ∀ r, r < 16 → ∀ R, R < 5 → (r < 2 ^ R ∧ bc r ≠ 0) → (low r < R ∧ r - 2 ^ low r < 2 ^ R) := by decide +kernel
theorem lowb2 : ∀ r, r < 16 → ∀ x, x < low r → r / 2 ^ x % 2 ≠ 1 := by decide +kernel
theorem lowb (r : Nat) (hr : r < 16) (R : Nat) (hR : R < 5) (h1 : r < 2 ^ R) (h2 : bc r ≠ 0) : low r < R ∧ (∀ x, x < low r → r / 2 ^ x % 2 ≠ 1) ∧ r - 2 ^ low r < 2 ^ R := by
  have := lowb1 r hr R hR ⟨h1, h2⟩
  exact ⟨this.1, lowb2 r hr, this.2⟩
theorem pw_inj : ∀ i, i < 4 → ∀ x, x < 4 → 2 ^ i = 2 ^ x → i = x := by decide +kernel
theorem bne2 (r : Nat) (hr : r < 16) (i : Nat) (hi : i < 4) (x : Nat) (hx : x < 4) (h1 : r / 2 ^ i % 2 = 1) (h2 : r / 2 ^ x % 2 = 1) (h3 : i ≠ x) : r - 2 ^ i ≠ r - 2 ^ x := by
  have a1 := bit_le r hr i hi h1
  have a2 := bit_le r hr x hx h2
  intro e
  refine h3 (pw_inj i hi x hx ?_)
  revert a1 a2 e
  generalize 2 ^ i = u
  generalize 2 ^ x = w
  intro a1 a2 e
  omega
theorem exq_skip {g : Nat → Po} {s : Nat} {sg : Fp} {acc : Po} : ∀ (d k c : Nat), (∀ x, c ≤ x → x < c + d → s / 2 ^ x % 2 ≠ 1) → exq g s (d + k) c sg acc = exq g s k (c + d) sg acc
  | 0, k, c, _ => by rw [Nat.zero_add, Nat.add_zero]
  | d + 1, k, c, h => by
    rw [show d + 1 + k = (d + k) + 1 by omega, exq, if_neg (h c (by omega) (by omega)), exq_skip d k (c + 1) (fun x h1 h2 => h x (by omega) (by omega)), show c + 1 + d = c + (d + 1) by omega]
theorem mnx_dg (E : Nat → Nat → Po) {R : Nat} (hR : R < 5) : ∀ (n r : Nat), r < 16 → r < 2 ^ R → bc r = n → sz (mnr (xE E R) n r r) = n + 1 ∧ lead (mnr (xE E R) n r r) = 1
  | 0, r, hr, hrR, h1 => by
    rw [mnr]
    exact ⟨lin_sz [], lin_mnc []⟩
  | n + 1, r, hr, hrR, h1 => by
    have l := ix3 r hr (by omega)
    have lb := lowb r hr R hR hrR (by omega)
    have x1 := ix2 r hr (low r) l.1 l.2
    have ih := mnx_dg E hR n (r - 2 ^ low r) (by omega) lb.2.2 (by omega)
    have dg := xE_dg (E := E) (R := R) lb.1
    rw [mnr, show (4 : Nat) = low r + ((4 - low r - 1) + 1) by omega, exq_skip (low r) _ 0 (fun x _ hx => lb.2.1 x (by omega)), Nat.zero_add, exq, if_pos l.2]
    have e0 : pAdd (pC 0) (pMul (pC 1) (pMul (xE E R (low r) (low r)) (mnr (xE E R) n (r - 2 ^ low r) (r - 2 ^ low r)))) = pMul (xE E R (low r) (low r)) (mnr (xE E R) n (r - 2 ^ low r) (r - 2 ^ low r)) := add_z _
    rw [e0]
    have sm1 := sz_mul (p := xE E R (low r) (low r)) (q := mnr (xE E R) n (r - 2 ^ low r) (r - 2 ^ low r)) (by omega) (by omega)
    have lm1 := mnc_mul (p := xE E R (low r) (low r)) (q := mnr (xE E R) n (r - 2 ^ low r) (r - 2 ^ low r)) (by omega) (by omega)
    have fin := exq_lead (g := fun c => pMul (xE E R (low r) c) (mnr (xE E R) n (r - 2 ^ low r) (r - 2 ^ c))) (s := r) (n := n + 1) (4 - low r - 1) (low r + 1) (- 1) (pMul (xE E R (low r) (low r)) (mnr (xE E R) n (r - 2 ^ low r) (r - 2 ^ low r))) (by omega) (fun x h3 h4 hz => by
      have y := ix2 r hr x (by omega) hz
      have k1 := sz_mul_le (xE E R (low r) x) (mnr (xE E R) n (r - 2 ^ low r) (r - 2 ^ x))
      have k2 := xE_off (E := E) (R := R) (show low r ≠ x by omega)
      have k3 := mnx_off E R n (r - 2 ^ low r) (r - 2 ^ x) (by omega) (by omega) (by omega) (by omega) (bne2 r hr (low r) l.1 x (by omega) l.2 hz (by omega))
      show sz (pMul (xE E R (low r) x) (mnr (xE E R) n (r - 2 ^ low r) (r - 2 ^ x))) ≤ n + 1
      omega)
    rw [fin.1, fin.2, sm1, lm1, dg.2, ih.2]
    exact ⟨by omega, by decide⟩
theorem chp_mn (E : Nat → Nat → Po) {R : Nat} (hR : R < 5) : sz (chp E R) = R + 1 ∧ mnc (chp E R) := by
  have p := pw_lt R hR
  have h2 : 2 ^ R - 1 < 2 ^ R := by have := Nat.two_pow_pos R; omega
  have := mnx_dg E hR (bc (2 ^ R - 1)) (2 ^ R - 1) p.1 h2 rfl
  unfold chp mi mnc
  rw [this.1, this.2, p.2]
  exact ⟨rfl, rfl⟩
-- minors of rows or columns outside are 0
theorem xE_out {E : Nat → Nat → Po} {R i j : Nat} (h : ¬ (i < R ∧ j < R)) : xE E R i j = pC 0 := by
  unfold xE
  rw [if_neg h]
theorem lowo : ∀ r, r < 16 → ∀ R, R < 5 → ¬ r < 2 ^ R → low r < R → ¬ r - 2 ^ low r < 2 ^ R := by decide +kernel
theorem coo1 : ∀ s, s < 16 → ∀ R, R < 5 → ∀ x, x < 4 → (¬ s < 2 ^ R ∧ x < R ∧ s / 2 ^ x % 2 = 1) → ¬ s - 2 ^ x < 2 ^ R := by decide +kernel
theorem coo (s : Nat) (hs : s < 16) (R : Nat) (hR : R < 5) (h1 : ¬ s < 2 ^ R) (x : Nat) (hx : x < 4) (h2 : x < R) (h3 : s / 2 ^ x % 2 = 1) : ¬ s - 2 ^ x < 2 ^ R := coo1 s hs R hR x hx ⟨h1, h2, h3⟩
theorem mnx_out (E : Nat → Nat → Po) {R : Nat} (hR : R < 5) : ∀ (n r s : Nat), r < 16 → s < 16 → bc r = n → bc s = n → (¬ r < 2 ^ R ∨ ¬ s < 2 ^ R) → mnr (xE E R) n r s = pC 0
  | 0, r, s, hr, hs, h1, h2, ho => by
    exfalso
    have e1 := bc_0 r hr h1
    have e2 := bc_0 s hs h2
    have := Nat.two_pow_pos R
    rw [e1, e2] at ho
    omega
  | n + 1, r, s, hr, hs, h1, h2, ho => by
    have l := ix3 r hr (by omega)
    have x1 := ix2 r hr (low r) l.1 l.2
    rw [mnr]
    refine exq_z 4 0 1 (pC 0) (fun x _ hx hz => ?_)
    have y := ix2 s hs x (by omega) hz
    by_cases q : low r < R ∧ x < R
    · have := mnx_out E hR n (r - 2 ^ low r) (s - 2 ^ x) (by omega) (by omega) (by omega) (by omega) (by
        rcases ho with h | h
        · exact Or.inl (lowo r hr R hR h q.1)
        · exact Or.inr (coo s hs R hR h x (by omega) q.2 hz))
      rw [this, pMul_comm, pZero_mul]
    · rw [xE_out q, pZero_mul]
