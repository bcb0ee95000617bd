/-! the reference: the inverse -/
section R7
variable {N : Nat} {h0 : Hp} {rw cl : Int32}
theorem mpos8 {N : Nat} (a b : Fp) (h : Hp) : fX8_modulo N ((nI a.val).toInt64 * lN b.val) h = some (nI (a * b).val, h) := by
  have h2 := Nat.mul_lt_mul'' a.isLt b.isLt
  rw [lV, lN_mul, mod_s, pk_lT (by omega)]
  congr 3
  rw [Int.natCast_mul, fZ_mul, fZ_val, fZ_val]
theorem mneg8 {N : Nat} (a b : Fp) (h : Hp) : fX8_modulo N ((-(nI a.val)).toInt64 * lN b.val) h = some (nI (- (a * b)).val, h) := by
  have h1 := a.isLt
  have hb := b.isLt
  have h2 := Nat.mul_lt_mul'' a.isLt b.isLt
  have e1 : (-(nI a.val)).toInt = - (a.val : Int) := by
    rw [Int32.toInt_neg, nI_toInt (by omega)]
    apply Int.bmod_eq_of_le <;> omega
  have e : ((-(nI a.val)).toInt64 * lN b.val).toInt = - ((a.val : Int) * b.val) := by
    rw [Int64.toInt_mul, Int32.toInt_toInt64, e1, pk_lT (by omega), Int.neg_mul]
    have h3 : (a.val : Int) * b.val = ((a.val * b.val : Nat) : Int) := by rw [Int.natCast_mul]
    rw [h3]
    apply Int.bmod_eq_of_le <;> omega
  rw [mod_s, e]
  congr 3
  rw [fZ_neg, fZ_mul, fZ_val, fZ_val]
/-- the sign at a place -/
def sgn (i j : Nat) : Fp := if (i + j) % 2 = 0 then 1 else -1
theorem inv139 {cd : Int32} {b1 b2 b5 : Int32} {i j fr : Nat} (hi : i < 4) (hj : j < 4) {b : Fp} {p : Po} (hfr : fr + 13 ≤ 3328) : ∀ (d n z : Nat) (A : Nat → Nat → Int32), z + d = 13 → d < n → RP (A 6) fr 13 p → (∀ t, t < 256 → A 10 t = if t < z then nI (sgn i j * (co p t * b)).val else 0) → ∃ f, (∀ κ, lX8_makeInverse_139 N 645 b1 b2 (lN b.val) b5 (nI i) (nI j) (nI fr) n (nI z) (rfh h0 cd rw cl A) κ = κ (nI 13) (rfh h0 cd rw cl (ua A 10 f))) ∧ (∀ t, t < 256 → f t = if t < 13 then nI (sgn i j * (co p t * b)).val else 0)
  | d, 0, z, A, _, hn, _, _ => absurd hn (Nat.not_lt_zero _)
  | 0, n + 1, z, A, hz, hn, hp, hf => by
    have e : z = 13 := by omega
    subst e
    refine ⟨A 10, fun κ => ?_, hf⟩
    rw [lX8_makeInverse_139, ua_id]
    show (if nI 13 ≤ nI 13 then _ else _) = _
    rw [if_pos (by decide)]
  | d + 1, n + 1, z, A, hz, hn, hp, hf => by
    obtain ⟨f, g1, g2⟩ := inv139 (cd := cd) (b1 := b1) (b2 := b2) (b5 := b5) hi hj (b := b) (p := p) hfr d n (z + 1) (ua A 10 (upd (A 10) z (nI (sgn i j * (co p z * b)).val))) (by omega) (by omega) (by rw [ua_n _ _ (by decide)]; exact hp) (fun t ht => by
      rw [ua_s]
      unfold upd
      by_cases q : t = z
      · rw [if_pos q, if_pos (by omega), q]
      · rw [if_neg q, hf t ht]
        by_cases q2 : t < z
        · rw [if_pos q2, if_pos (by omega)]
        · rw [if_neg q2, if_neg (by omega)])
    refine ⟨f, fun κ => ?_, g2⟩
    have e1 : irm (nI (i + j)) (2 : Int32) = nI ((i + j) % 2) := pk_rem (by omega) (by decide) (by decide)
    have w := g1 κ
    rw [ua_ua] at w
    rw [lX8_makeInverse_139]
    show (if nI 13 ≤ nI z then _ else _) = _
    rw [if_neg (fun y => by have := (le_n (by omega) (by omega)).mp y; omega), rg_10, Option.bind_some, nI_add, e1]
    unfold jn nm
    dsimp only
    by_cases q : (i + j) % 2 = 0
    · have es : sgn i j * (co p z * b) = co p z * b := by unfold sgn; rw [if_pos q]; grind
      rw [es] at w
      rw [q, if_pos (show nI 0 = 0 from rfl), rg_6, Option.bind_some, nI_add, ra_6 (by omega), Option.bind_some, hp z (by omega), show vl p z = (co p z).val from rfl, mpos8, Option.bind_some]
      dsimp only
      rw [rs_10 (by omega), Option.bind_some, nI_1]
      exact w
    · have es : sgn i j * (co p z * b) = - (co p z * b) := by unfold sgn; rw [if_neg q]; grind
      rw [es] at w
      rw [if_neg (nI_ne0 (by omega) (by omega)), rg_6, Option.bind_some, nI_add, ra_6 (by omega), Option.bind_some, hp z (by omega), show vl p z = (co p z).val from rfl, mneg8, Option.bind_some]
      dsimp only
      rw [rs_10 (by omega), Option.bind_some, nI_1]
      exact w
/-- an entry of the inverse of the first n rows and columns -/
noncomputable def ivE (E : Nat → Nat → Po) (n i j : Nat) : Po := pMul (pC (sgn i j * finv (co (mi E (2 ^ n - 1) (2 ^ n - 1)) 0))) (mi E (2 ^ n - 1 - 2 ^ j) (2 ^ n - 1 - 2 ^ i))
theorem ixn : ∀ n, n < 5 → ∀ j, j < n → 2 ^ j ≤ 2 ^ n - 1 ∧ bc (2 ^ n - 1 - 2 ^ j) + 1 = n ∧ 2 ^ n - 1 - 2 ^ j < 16 := by decide +kernel
theorem inv97 {cd : Int32} (hN : 1000 ≤ N) {E : Nat → Nat → Po} (hE : ∀ i j, sz (E i j) ≤ 4) {b1 b2 : Int32} {R i : Nat} (hR : R < 5) (hi : i < R) {b : Fp} (hb : b = finv (co (mi E (2 ^ R - 1) (2 ^ R - 1)) 0)) : ∀ (d n j : Nat) (A : Nat → Nat → Int32), j + d = R → d < n → MF E (A 6) → ∃ A', (∀ κ, lX8_makeInverse_97 N 645 b1 b2 (lN b.val) (nI (2 ^ R - 1)) (nI i) n (nI j) (rfh h0 cd (nI R) cl A) κ = κ (nI R) (rfh h0 cd (nI R) cl A')) ∧ (∀ k, k ≠ 5 → k ≠ 10 → A' k = A k) ∧ (∀ j', j ≤ j' → j' < R → FMp (A' 5) 2 i j' (ivE E R i j')) ∧ (∀ y, (∀ j', j ≤ j' → j' < R → ¬ (40 * (16 * 2 + 4 * i + j') ≤ y ∧ y < 40 * (16 * 2 + 4 * i + j') + 40)) → A' 5 y = A 5 y)
  | d, 0, j, A, _, hn, _ => absurd hn (Nat.not_lt_zero _)
  | 0, n + 1, j, A, hj, hn, hM => by
    have e : j = R := by omega
    subst e
    refine ⟨A, fun κ => ?_, fun _ _ _ => rfl, fun i h1 h2 => by omega, fun _ _ => rfl⟩
    rw [lX8_makeInverse_97, rg_1, Option.bind_some, if_pos ((le_n (by omega) (by omega)).mpr (Nat.le_refl _))]
  | d + 1, n + 1, j, A, hj, hn, hM => by
    have x1 := ixn R hR j (by omega)
    have x2 := ixn R hR i hi
    obtain ⟨f0, e1, e2⟩ := empty_s (N := N) (h0 := h0) (cd := cd) (rw := nI R) (cl := cl) (A := A) hN (k := 10) (by omega) (by omega)
    obtain ⟨f1, u1, u2⟩ := inv139 (N := N) (h0 := h0) (cd := cd) (rw := nI R) (cl := cl) (b1 := b1) (b2 := b2) (b5 := nI (2 ^ R - 1)) (i := i) (j := j) (fr := 13 * (16 * (2 ^ R - 1 - 2 ^ j) + (2 ^ R - 1 - 2 ^ i))) (by omega) (by omega) (b := b) (p := mi E (2 ^ R - 1 - 2 ^ j) (2 ^ R - 1 - 2 ^ i)) (by have a1 := x1.2.2; have a2 := x2.2.2; revert a1 a2; generalize 2 ^ R - 1 - 2 ^ j = u; generalize 2 ^ R - 1 - 2 ^ i = w; intro a1 a2; omega) 13 N 0 (ua A 10 f0) rfl (by omega) (by rw [ua_n _ _ (by decide)]; exact hM _ _ x1.2.2 x2.2.2 (by have a1 := x1.2.1; have a2 := x2.2.1; omega)) (fun t ht => by rw [ua_s, if_neg (by omega), e2.1 t ht, vl_0.mpr (co_0 t)]; rfl)
    have p0 := put0_s (N := N) (h0 := h0) (cd := cd) (rw := nI R) (cl := cl) hN (A := ua A 10 f1) (k := 10) (f := 2) (i := i) (j := j) (by omega) (by omega) (by omega) (by omega) (by omega)
    rw [ua_s, ua_n _ _ (by decide : (5 : Nat) ≠ 10)] at p0
    obtain ⟨f5, hf5⟩ : ∃ f5, f5 = wr (A 5) (40 * (16 * 2 + 4 * i + j)) (40 * (16 * 2 + 4 * i + j) + 40) (fun y => f1 (y - (40 * (16 * 2 + 4 * i + j)))) := ⟨_, rfl⟩
    rw [← hf5] at p0
    obtain ⟨A', g1, g2, g3, g4⟩ := inv97 (cd := cd) hN hE (b1 := b1) (b2 := b2) hR hi hb d n (j + 1) (ua (ua A 10 f1) 5 f5) (by omega) (by omega) (by rw [ua_n _ _ (by decide), ua_n _ _ (by decide)]; exact hM)
    rw [ua_s] at g4
    refine ⟨A', fun κ => ?_, fun k k1 k2 => by rw [g2 k k1 k2, ua_n _ _ k1, ua_n _ _ k2], fun j' h1 h2 => ?_, fun y hy => ?_⟩
    · rw [lX8_makeInverse_97, rg_1, Option.bind_some, if_neg (fun y => by have := (le_n (by omega) (by omega)).mp y; omega)]
      unfold nm
      show (gR (rfh h0 cd (nI R) cl A) 645 10 10).bind _ = _
      rw [rg_10, Option.bind_some]
      show (fX8_empty N (643 + 10) (rfh h0 cd (nI R) cl A)).bind _ = _
      rw [e1, Option.bind_some]
      show lX8_makeInverse_139 N 645 b1 b2 (lN b.val) (nI (2 ^ R - 1)) (nI i) (nI j) (nI 13 * ((nI 16 * (nI (2 ^ R - 1) - ((1 : Int32) <<< (nI j &&& 31))) + nI (2 ^ R - 1)) - ((1 : Int32) <<< (nI i &&& 31)))) N (nI 0) _ _ = _
      rw [sh1 j (by omega), sh1 i (by omega), pk_sub x1.1, pk_mul, nI_add, pk_sub (Nat.le_trans x2.1 (Nat.le_add_left _ _)), pk_mul, Nat.add_sub_assoc x2.1, u1, ua_ua, rg_10, Option.bind_some, rf_ck, Option.bind_some]
      show (fX8_put0 N 645 (nI 2) (nI i) (nI j) (643 + 10) (rfh h0 cd (nI R) cl (ua A 10 f1))).bind _ = _
      rw [p0, Option.bind_some, nI_1]
      exact g1 κ
    · by_cases z : j' = j
      · intro t ht
        rw [g4 _ (fun j'' h3 h4 => by omega), hf5, z, wr_in (by omega), Nat.add_sub_cancel_left, u2 t (by omega)]
        unfold ivE vl
        rw [co_Cmul, ← hb]
        by_cases y : t < 13
        · rw [if_pos y]
          congr 2
          grind
        · rw [if_neg y, sz_hi (p := mi E (2 ^ R - 1 - 2 ^ j) (2 ^ R - 1 - 2 ^ i)) (by have := mi_sz hE (r := 2 ^ R - 1 - 2 ^ j) (s := 2 ^ R - 1 - 2 ^ i) x1.2.2; omega)]
          rw [show sgn i j * b * 0 = (0 : Fp) by grind]
          rfl
      · exact g3 j' (by omega) h2
    · rw [g4 y (fun j' h1 h2 => hy j' (by omega) h2), hf5, wr_out (hy j (Nat.le_refl _) (by omega))]
theorem inv85 {cd : Int32} (hN : 1000 ≤ N) {E : Nat → Nat → Po} (hE : ∀ i j, sz (E i j) ≤ 4) {b1 b2 : Int32} {R : Nat} (hR : R < 5) {b : Fp} (hb : b = finv (co (mi E (2 ^ R - 1) (2 ^ R - 1)) 0)) : ∀ (d n i : Nat) (A : Nat → Nat → Int32), i + d = R → d < n → MF E (A 6) → ∃ A', (∀ κ, lX8_makeInverse_85 N 645 b1 b2 (lN b.val) (nI (2 ^ R - 1)) n (nI i) (rfh h0 cd (nI R) cl A) κ = κ (nI R) (rfh h0 cd (nI R) cl A')) ∧ (∀ k, k ≠ 5 → k ≠ 10 → A' k = A k) ∧ (∀ i' j', i ≤ i' → i' < R → j' < R → FMp (A' 5) 2 i' j' (ivE E R i' j')) ∧ (∀ y, (∀ i' j', i ≤ i' → i' < R → j' < R → ¬ (40 * (16 * 2 + 4 * i' + j') ≤ y ∧ y < 40 * (16 * 2 + 4 * i' + j') + 40)) → A' 5 y = A 5 y)
  | d, 0, i, A, _, hn, _ => absurd hn (Nat.not_lt_zero _)
  | 0, n + 1, i, A, hi, hn, hM => by
    have e : i = R := by omega
    subst e
    refine ⟨A, fun κ => ?_, fun _ _ _ => rfl, fun i' j' h1 h2 => by omega, fun _ _ => rfl⟩
    rw [lX8_makeInverse_85, rg_1, Option.bind_some, if_pos ((le_n (by omega) (by omega)).mpr (Nat.le_refl _))]
  | d + 1, n + 1, i, A, hi, hn, hM => by
    obtain ⟨A1, u1, u2, u3, u4⟩ := inv97 (N := N) (h0 := h0) (cl := cl) (cd := cd) hN hE (b1 := b1) (b2 := b2) hR (i := i) (by omega) hb R N 0 A (by omega) (by omega) hM
    obtain ⟨A', g1, g2, g3, g4⟩ := inv85 (cd := cd) hN hE (b1 := b1) (b2 := b2) hR hb d n (i + 1) A1 (by omega) (by omega) (by rw [u2 6 (by decide) (by decide)]; exact hM)
    refine ⟨A', fun κ => ?_, fun k k1 k2 => by rw [g2 k k1 k2, u2 k k1 k2], fun i' j' h1 h2 h3 => ?_, fun y hy => ?_⟩
    · rw [lX8_makeInverse_85, rg_1, Option.bind_some, if_neg (fun y => by have := (le_n (by omega) (by omega)).mp y; omega)]
      show lX8_makeInverse_97 N 645 b1 b2 (lN b.val) (nI (2 ^ R - 1)) (nI i) N (nI 0) _ _ = _
      rw [u1]
      unfold nm
      rw [nI_1]
      exact g1 κ
    · by_cases z : i' = i
      · rw [z]
        exact (u3 j' (by omega) h3).ext (fun t ht => g4 _ (fun i'' j'' h4 h5 h6 => by omega))
      · exact g3 i' j' (by omega) h2 h3
    · rw [g4 y (fun i' j' h1 h2 h3 => hy i' j' (by omega) h2 h3), u4 y (fun j' h1 h2 => hy i j' (Nat.le_refl _) (by omega) h2)]
end R7
