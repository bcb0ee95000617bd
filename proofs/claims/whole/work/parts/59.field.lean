theorem irm_nI {x : Nat} (h : x < 2 ^ 31) : irm (nI x) (32003 : Int32) = nI (x % 32003) := pk_rem h (by decide) (by decide)
theorem mul_mod_nI {a b : Nat} (ha : a < 32003) (hb : b < 32003) : irm (nI a * nI b) (32003 : Int32) = nI (a * b % 32003) := by
  rw [pk_mul]
  exact irm_nI (by have := Nat.mul_lt_mul'' ha hb; omega)
theorem mad_mod_nI {a b c : Nat} (ha : a < 32003) (hb : b ≤ 32003) (hc : c < 32003) : irm (nI a + nI b * nI c) (32003 : Int32) = nI ((a + b * c) % 32003) := by
  rw [pk_mul, nI_add]
  exact irm_nI (by have : b * c ≤ 32003 * 32003 := Nat.mul_le_mul hb (by omega); omega)
/-! the numbers modulo 32003: powers, inverses -/
theorem half_nI {e : Nat} (h : e < 2 ^ 31) : nI e >>> ((1 : Int32) &&& 31) = nI (e / 2) := pk_shrN h _ 1 (by decide)
theorem odd_nI {e : Nat} (h : e < 2 ^ 31) : nI e &&& (1 : Int32) = nI (e % 2) := pk_andN (by omega) 1 (by decide)
theorem pow_even (s e : Nat) (h : e % 2 = 0) : s ^ e = (s * s) ^ (e / 2) := by
  rw [← Nat.pow_two, ← Nat.pow_mul]; congr 1; omega
theorem pow_odd (s e : Nat) (h : e % 2 = 1) : s ^ e = s * (s * s) ^ (e / 2) := by
  rw [← Nat.pow_two, ← Nat.pow_mul, ← Nat.pow_succ']; congr 1; omega
theorem pow_mod2 (s k : Nat) : (s % 32003) ^ k % 32003 = s ^ k % 32003 := (Nat.pow_mod s k 32003).symm
theorem inv_l {N : Nat} {x : Int32} {h : Hp} : ∀ (n e r s : Nat), e < 2 ^ n → n < 31 → r < 32003 → s < 32003 → ∃ y, ∀ κ, lX7_inverseOf_8 N x (n + 1) (nI r) (nI s) (nI e) h κ = κ (nI (r * s ^ e % 32003)) y (nI 0) h
  | n, 0, r, s, _, _, hr, _ => by
    refine ⟨nI s, fun κ => ?_⟩
    rw [lX7_inverseOf_8, if_pos (show nI 0 ≤ 0 by decide), Nat.pow_zero, Nat.mul_one, Nat.mod_eq_of_lt hr]
  | 0, e + 1, r, s, he, _, _, _ => absurd he (by omega)
  | n + 1, e + 1, r, s, he, hn, hr, hs => by
    have hb : 2 ^ (n + 1) ≤ 2 ^ 30 := Nat.pow_le_pow_right (by decide) (by omega)
    have he2 : (e + 1) / 2 < 2 ^ n := by rw [Nat.pow_succ] at he; omega
    have hpos : ¬ nI (e + 1) ≤ 0 := nI_nle (Nat.succ_pos e) (by omega)
    by_cases ho : (e + 1) % 2 = 1
    · obtain ⟨y, hy⟩ := inv_l (N := N) (x := x) (h := h) n ((e + 1) / 2) (r * s % 32003) (s * s % 32003) he2 (by omega) (Nat.mod_lt _ (by decide)) (Nat.mod_lt _ (by decide))
      refine ⟨y, fun κ => ?_⟩
      rw [lX7_inverseOf_8, if_neg hpos]
      unfold jn nm
      dsimp only
      rw [odd_nI (by omega), ho, if_pos (show nI 1 = (1 : Int32) from rfl), mul_mod_nI hr hs, mul_mod_nI hs hs, half_nI (by omega), hy]
      congr 2
      rw [pow_odd s (e + 1) ho, ← Nat.mul_mod_mod, pow_mod2, Nat.mul_mod_mod, Nat.mod_mul_mod, Nat.mul_assoc]
    · have ho : (e + 1) % 2 = 0 := by omega
      obtain ⟨y, hy⟩ := inv_l (N := N) (x := x) (h := h) n ((e + 1) / 2) r (s * s % 32003) he2 (by omega) hr (Nat.mod_lt _ (by decide))
      refine ⟨y, fun κ => ?_⟩
      rw [lX7_inverseOf_8, if_neg hpos]
      unfold jn nm
      dsimp only
      rw [odd_nI (by omega), ho, if_neg (show ¬ nI 0 = (1 : Int32) by decide), mul_mod_nI hs hs, half_nI (by omega), hy]
      congr 2
      rw [pow_even s (e + 1) ho, ← Nat.mul_mod_mod, pow_mod2, Nat.mul_mod_mod]
def inv (v : Nat) : Nat := v ^ 32001 % 32003
theorem lX7_more {N : Nat} {x : Int32} : ∀ (n k : Nat) (a b c : Int32) (h : Hp) (κ : Int32 → Int32 → Int32 → Hp → Option (Int32 × Hp)) (r : Int32 × Hp), lX7_inverseOf_8 N x n a b c h κ = some r → lX7_inverseOf_8 N x (n + k) a b c h κ = some r
  | 0, k, a, b, c, h, κ, r, e => by rw [lX7_inverseOf_8] at e; cases e
  | n + 1, k, a, b, c, h, κ, r, e => by
    rw [show n + 1 + k = (n + k) + 1 by omega]
    rw [lX7_inverseOf_8] at e ⊢
    unfold jn nm at e ⊢
    dsimp only at e ⊢
    by_cases q : c ≤ 0
    · rw [if_pos q] at e ⊢; exact e
    · rw [if_neg q] at e ⊢
      by_cases q2 : c &&& 1 = 1
      · rw [if_pos q2] at e ⊢; exact lX7_more n k _ _ _ _ _ _ e
      · rw [if_neg q2] at e ⊢; exact lX7_more n k _ _ _ _ _ _ e
/-- inverseOf: the number to the 32001st power -/
theorem inverseOf_s {N : Nat} (hN : 1000 ≤ N) {h : Hp} {v : Nat} (hv : v < 32003) : fX7_inverseOf N (nI v) h = some (nI (inv v), h) := by
  obtain ⟨y, hy⟩ := inv_l (N := N) (x := nI v) (h := h) 15 32001 1 v (by decide) (by decide) (by decide) hv
  unfold fX7_inverseOf
  have e := hy (fun y1 y2 y3 h4 => some (y1, h4))
  rw [Nat.one_mul] at e
  rw [show N = 16 + (N - 16) by omega]
  exact lX7_more 16 (N - 16) _ _ _ _ _ _ e
theorem negative_s {N : Nat} {h : Hp} {v : Nat} (hv : v < 32003) : fX7_negative N (nI v) h = some (nI ((32003 - v) % 32003), h) := by
  unfold fX7_negative jn
  dsimp only
  by_cases q : v = 0
  · subst q; rw [if_pos (show nI 0 = 0 from rfl)]; rfl
  · rw [if_neg (nI_ne0 (by omega) (by omega)), show (32003 : Int32) - nI v = nI (32003 - v) from pk_sub (a := 32003) (by omega), Nat.mod_eq_of_lt (by omega)]
def fpw : Nat → Nat → Nat → Nat → Nat
  | 0, _, r, _ => r
  | n + 1, e, r, s => fpw n (e / 2) (if e % 2 = 1 then r * s % 32003 else r) (s * s % 32003)
theorem fpw_eq : ∀ (n e r s : Nat), e < 2 ^ n → r < 32003 → fpw n e r s = r * s ^ e % 32003
  | 0, e, r, s, he, hr => by
    rw [show e = 0 by omega, fpw, Nat.pow_zero, Nat.mul_one, Nat.mod_eq_of_lt hr]
  | n + 1, e, r, s, he, hr => by
    have he2 : e / 2 < 2 ^ n := by rw [Nat.pow_succ] at he; omega
    rw [fpw]
    by_cases ho : e % 2 = 1
    · rw [if_pos ho, fpw_eq n _ _ _ he2 (Nat.mod_lt _ (by decide)), pow_odd s e ho, ← Nat.mul_mod_mod, pow_mod2, Nat.mul_mod_mod, Nat.mod_mul_mod, Nat.mul_assoc]
    · rw [if_neg ho, fpw_eq n _ _ _ he2 hr, pow_even s e (by omega), ← Nat.mul_mod_mod, pow_mod2, Nat.mul_mod_mod]
set_option maxRecDepth 100000 in
theorem fermat0 : ∀ a, a < 179 → ∀ b, b < 179 → (179 * a + b = 0 ∨ 32003 ≤ 179 * a + b ∨ fpw 15 32002 1 (179 * a + b) = 1) := by decide +kernel
/-- every number but 0 to the 32002nd power is 1 -/
theorem fermat {x : Nat} (h0 : x ≠ 0) (h : x < 32003) : x ^ 32002 % 32003 = 1 := by
  have q := fermat0 (x / 179) (by omega) (x % 179) (Nat.mod_lt _ (by decide))
  rw [Nat.div_add_mod] at q
  rcases q with q | q | q
  · exact absurd q h0
  · omega
  · have e := fpw_eq 15 32002 1 x (by decide) (by decide)
    rw [Nat.one_mul] at e
    exact e.symm.trans q
theorem inv_mul {x : Nat} (h0 : x ≠ 0) (h : x < 32003) : inv x * x % 32003 = 1 := by
  unfold inv
  rw [Nat.mod_mul_mod, ← Nat.pow_succ]
  exact fermat h0 h
theorem inv_lt (x : Nat) : inv x < 32003 := Nat.mod_lt _ (by decide)
theorem mul_ne0 {x k : Nat} (hx : x < 32003) (h0 : x ≠ 0) (hk : k < 32003) (hk0 : k ≠ 0) : x * k % 32003 ≠ 0 := by
  intro q
  have e : x * k % 32003 * inv k % 32003 = x % 32003 := by
    rw [Nat.mod_mul_mod, Nat.mul_assoc, ← Nat.mul_mod_mod, Nat.mul_comm k, inv_mul hk0 hk, Nat.mul_one]
  rw [q, Nat.zero_mul, Nat.zero_mod, Nat.mod_eq_of_lt hx] at e
  exact h0 e.symm
theorem inv_ne0 {x : Nat} (h0 : x ≠ 0) (h : x < 32003) : inv x ≠ 0 := by
  intro q
  have := inv_mul h0 h
  rw [q, Nat.zero_mul] at this
  cases this
