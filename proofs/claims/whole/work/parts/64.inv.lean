def fpw : Nat → Nat → Nat → Nat → Nat
  | 0, _, r, _ => r
  | n + 1, e, r, s => fpw n (e / 2) (if e % 2 = 1 then r * s % 32003 else r) (s * s % 32003)
theorem fpw_eq : ∀ (n e r s : Nat), e < 2 ^ n → r < 32003 → fpw n e r s = r * s ^ e % 32003
  | 0, e, r, s, he, hr => by
    rw [show e = 0 by omega, fpw, Nat.pow_zero, Nat.mul_one, Nat.mod_eq_of_lt hr]
  | n + 1, e, r, s, he, hr => by
    have he2 : e / 2 < 2 ^ n := by rw [Nat.pow_succ] at he; omega
    rw [fpw]
    by_cases ho : e % 2 = 1
    · rw [if_pos ho, fpw_eq n _ _ _ he2 (Nat.mod_lt _ (by decide)), pow_odd s e ho, ← Nat.mul_mod_mod, pow_mod2, Nat.mul_mod_mod, Nat.mod_mul_mod, Nat.mul_assoc]
    · rw [if_neg ho, fpw_eq n _ _ _ he2 hr, pow_even s e (by omega), ← Nat.mul_mod_mod, pow_mod2, Nat.mul_mod_mod]
set_option maxRecDepth 100000 in
theorem fermat0 : ∀ a, a < 179 → ∀ b, b < 179 → (179 * a + b = 0 ∨ 32003 ≤ 179 * a + b ∨ fpw 15 32002 1 (179 * a + b) = 1) := by decide +kernel
/-- every number but 0 to the 32002nd power is 1 -/
theorem fermat {x : Nat} (h0 : x ≠ 0) (h : x < 32003) : x ^ 32002 % 32003 = 1 := by
  have q := fermat0 (x / 179) (by omega) (x % 179) (Nat.mod_lt _ (by decide))
  rw [Nat.div_add_mod] at q
  rcases q with q | q | q
  · exact absurd q h0
  · omega
  · have e := fpw_eq 15 32002 1 x (by decide) (by decide)
    rw [Nat.one_mul] at e
    exact e.symm.trans q
theorem inv_mul {x : Nat} (h0 : x ≠ 0) (h : x < 32003) : inv x * x % 32003 = 1 := by
  unfold inv
  rw [Nat.mod_mul_mod, ← Nat.pow_succ]
  exact fermat h0 h
theorem inv_lt (x : Nat) : inv x < 32003 := Nat.mod_lt _ (by decide)
theorem mul_ne0 {x k : Nat} (hx : x < 32003) (h0 : x ≠ 0) (hk : k < 32003) (hk0 : k ≠ 0) : x * k % 32003 ≠ 0 := by
  intro q
  have e : x * k % 32003 * inv k % 32003 = x % 32003 := by
    rw [Nat.mod_mul_mod, Nat.mul_assoc, ← Nat.mul_mod_mod, Nat.mul_comm k, inv_mul hk0 hk, Nat.mul_one]
  rw [q, Nat.zero_mul, Nat.zero_mod, Nat.mod_eq_of_lt hx] at e
  exact h0 e.symm
theorem inv_ne0 {x : Nat} (h0 : x ≠ 0) (h : x < 32003) : inv x ≠ 0 := by
  intro q
  have := inv_mul h0 h
  rw [q, Nat.zero_mul] at this
  cases this
/-- the monic one: all by the inverse of the highest -/
def monic (c : Nat → Nat) (s : Nat) : Nat → Nat := fun j => if s = 0 then 0 else c j * inv (c (s - 1)) % 32003
theorem makeMonic_s {N : Nat} (hN : 1000 ≤ N) {h : Hp} {a len : Nat} {c : Nat → Nat} (w : PA h a len c) : ∃ h', fX4_makeMonic N a h = some h' ∧ PA h' a len (monic c (dgs c len)) ∧ fr2 h h' a := by
  have hl := w.lt
  have hd := dgs_le c len
  by_cases q : dgs c len = 0
  · refine ⟨h, ?_, ?_, fr2.rf⟩
    · unfold fX4_makeMonic jn
      rw [w.deg, q]
      rfl
    · have : monic c (dgs c len) = c := by
        funext j
        unfold monic
        rw [if_pos q, w.hi (by omega)]
      rw [this]
      exact w
  · obtain ⟨t, ht⟩ : ∃ t, dgs c len = t + 1 := ⟨dgs c len - 1, by omega⟩
    have hc : c t ≠ 0 := by have := dgs_top c len (by omega); rw [ht] at this; exact this
    obtain ⟨h1, e1, w1, r1⟩ := mult_s hN w (k := inv (c t)) (inv_lt _) (fun x hx hx0 => mul_ne0 hx hx0 (inv_lt _) (inv_ne0 hc (w.bd t)))
    refine ⟨h1, ?_, ?_, r1⟩
    · unfold fX4_makeMonic jn
      rw [w.deg]
      show (if dI (dgs c len) < 0 then _ else _) = _
      rw [if_neg (fun z => q ((dI_lt_0 (by omega)).mp z)), w.row]
      show (aI h (a + 1) (dI (dgs c len))).bind _ = _
      rw [ht, dI_succ, w.at (by omega)]
      show (fX7_inverseOf N (nI (c t)) h).bind _ = _
      rw [inverseOf_s hN (w.bd t)]
      show (cK h a 6).bind _ = _
      rw [w.ck]
      show (fX4_multiply N a (nI (inv (c t))) h).bind _ = _
      rw [e1]
      rfl
    · have : monic c (dgs c len) = fun j => c j * inv (c t) % 32003 := by
        funext j
        unfold monic
        rw [if_neg q, ht]
        rfl
      rw [this]
      exact w1
