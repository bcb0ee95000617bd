/-- the monic one: all by the inverse of the highest -/
def monic (c : Nat → Nat) (s : Nat) : Nat → Nat := fun j => if s = 0 then 0 else c j * inv (c (s - 1)) % 32003
theorem makeMonic_s {N : Nat} (hN : 1000 ≤ N) {h : Hp} {a len : Nat} {c : Nat → Nat} (w : PA h a len c) : ∃ h', fX4_makeMonic N a h = some h' ∧ PA h' a len (monic c (dgs c len)) ∧ fr2 h h' a := by
  have hl := w.lt
  have hd := dgs_le c len
  by_cases q : dgs c len = 0
  · refine ⟨h, ?_, ?_, fr2.rf⟩
    · unfold fX4_makeMonic jn
      rw [w.deg, q]
      rfl
    · have : monic c (dgs c len) = c := by
        funext j
        unfold monic
        rw [if_pos q, w.hi (by omega)]
      rw [this]
      exact w
  · obtain ⟨t, ht⟩ : ∃ t, dgs c len = t + 1 := ⟨dgs c len - 1, by omega⟩
    have hc : c t ≠ 0 := by have := dgs_top c len (by omega); rw [ht] at this; exact this
    obtain ⟨h1, e1, w1, r1⟩ := mult_s hN w (k := inv (c t)) (inv_lt _) (fun x hx hx0 => mul_ne0 hx hx0 (inv_lt _) (inv_ne0 hc (w.bd t)))
    refine ⟨h1, ?_, ?_, r1⟩
    · unfold fX4_makeMonic jn
      rw [w.deg]
      show (if dI (dgs c len) < 0 then _ else _) = _
      rw [if_neg (fun z => q ((dI_lt_0 (by omega)).mp z)), w.row]
      show (aI h (a + 1) (dI (dgs c len))).bind _ = _
      rw [ht, dI_succ, w.at (by omega)]
      show (fX7_inverseOf N (nI (c t)) h).bind _ = _
      rw [inverseOf_s hN (w.bd t)]
      show (cK h a 6).bind _ = _
      rw [w.ck]
      show (fX4_multiply N a (nI (inv (c t))) h).bind _ = _
      rw [e1]
      rfl
    · have : monic c (dgs c len) = fun j => c j * inv (c t) % 32003 := by
        funext j
        unfold monic
        rw [if_neg q, ht]
        rfl
      rw [this]
      exact w1
