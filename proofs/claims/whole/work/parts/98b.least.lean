/-! the reference: the least relation of the powers -/
def nuA (E : Nat → Nat → Po) (i j : Nat) : Fp := co (E i j) 0
/-- a power as a row of 16 -/
def pwv (a : Nat → Nat → Fp) (R m k : Nat) : Fp := mpw a R m (k / 4) (k % 4)
/-- a polynomial at the matrix, as a row of 16 -/
def Phi (a : Nat → Nat → Fp) (R : Nat) (h : Po) (k : Nat) : Fp := sm (fun m => co h m * pwv a R m k) 5
theorem Phi_add (a : Nat → Nat → Fp) (R : Nat) (p q : Po) (k : Nat) : Phi a R (pAdd p q) k = Phi a R p k + Phi a R q k := by
  unfold Phi
  rw [← sm_add]
  exact sm_congr _ (fun m _ => by rw [co_add]; generalize pwv a R m k = u; grind)
theorem Phi_C (a : Nat → Nat → Fp) (R : Nat) (c : Fp) (p : Po) (k : Nat) : Phi a R (pMul (pC c) p) k = c * Phi a R p k := by
  unfold Phi
  rw [← sm_mul]
  exact sm_congr _ (fun m _ => by rw [co_Cmul]; generalize pwv a R m k = u; grind)
theorem Phi_neg (a : Nat → Nat → Fp) (R : Nat) (p : Po) (k : Nat) : Phi a R (pNeg p) k = - Phi a R p k := by
  have e := Phi_add a R (pNeg p) p k
  rw [pNeg_add] at e
  have z : Phi a R (pC 0) k = 0 := sm_zero _ (fun m _ => by rw [co_0]; generalize pwv a R m k = u; grind)
  rw [z] at e
  grind
theorem Phi_mono (a : Nat → Nat → Fp) (R : Nat) {n : Nat} (hn : n < 5) (k : Nat) : Phi a R (mono 1 n) k = pwv a R n k := by
  unfold Phi
  rw [sm_single 5 n hn (fun i _ hi => by rw [co_mono, if_neg hi]; generalize pwv a R i k = u; grind), co_mono, if_pos rfl]
  generalize pwv a R n k = u
  grind
theorem tn6 {N : Nat} {h0 : Hp} {cd cl : Int32} {E : Nat → Nat → Po} {R : Nat} (hR : R < 5) {A : Nat → Nat → Int32} (hE : EN E (A 3)) {m i j : Nat} (hm : m < 5) (hi : i < R) (hj : j < R) (hP : ∀ k, k < 16 → A 14 (16 * m + k) = nI (pwv (nuA E) R m k).val) : ∀ (d n l : Nat) (s : Fp), l + d = R → d < n → (s = sm (fun l => mpw (nuA E) R m i l * nuA E l j) l) → ∀ κ, lX8_timesNumbers_6 N 645 (nI m) (nI i) (nI j) n (lN s.val) (nI l) (rfh h0 cd (nI R) cl A) κ = κ (lN (sm (fun l => mpw (nuA E) R m i l * nuA E l j) R).val) (nI R) (rfh h0 cd (nI R) cl A)
  | d, 0, l, s, _, hn, _, κ => absurd hn (Nat.not_lt_zero _)
  | 0, n + 1, l, s, hl, hn, hs, κ => by
    have e : l = R := by omega
    subst e
    rw [lX8_timesNumbers_6, rg_1, Option.bind_some, if_pos ((le_n (by omega) (by omega)).mpr (Nat.le_refl _)), hs]
  | d + 1, n + 1, l, s, hl, hn, hs, κ => by
    have ih := tn6 (N := N) (h0 := h0) (cd := cd) (cl := cl) hR hE hm hi hj hP d n (l + 1) (s + mpw (nuA E) R m i l * nuA E l j) (by omega) (by omega) (by rw [sm, ← hs]) κ
    have h1 := Nat.mul_lt_mul'' (mpw (nuA E) R m i l).isLt (nuA E l j).isLt
    have h2 := s.isLt
    have e1 : lrm (lN s.val + (nI (mpw (nuA E) R m i l).val).toInt64 * (nI (nuA E l j).val).toInt64) (32003 : Int64) = lN (s + mpw (nuA E) R m i l * nuA E l j).val := by
      rw [lV, lV, lN_mul, lN_add, lrm_n (by omega), fv_add, fv_mul, Nat.add_mod_mod]
    have e2 := hP (4 * i + l) (by omega)
    unfold pwv at e2
    rw [show (4 * i + l) / 4 = i by omega, show (4 * i + l) % 4 = l by omega] at e2
    rw [lX8_timesNumbers_6, rg_1, Option.bind_some, if_neg (fun y => by have := (le_n (by omega) (by omega)).mp y; omega), Option.bind_some, if_neg (fun y => by have := (le_n (by omega) (by omega)).mp y; omega), Option.bind_some, if_neg (fun y => by have := (le_n (by omega) (by omega)).mp y; omega), rg_14, Option.bind_some]
    show (aI (rfh h0 cd (nI R) cl A) 657 ((nI 16 * nI m + nI 4 * nI i) + nI l)).bind _ = _
    rw [pk_mul, pk_mul, nI_add, nI_add, ra_14 (by omega), Option.bind_some, show 16 * m + 4 * i + l = 16 * m + (4 * i + l) by omega, e2, rf_ck, Option.bind_some, numAt_s hE (by omega) (by omega), Option.bind_some]
    unfold nm
    dsimp only
    rw [show co (E l j) 0 = nuA E l j from rfl, e1, nI_1]
    exact ih
theorem times_s {N : Nat} {h0 : Hp} {cd cl : Int32} (hN : 1000 ≤ N) {E : Nat → Nat → Po} {R : Nat} (hR : R < 5) {A : Nat → Nat → Int32} (hE : EN E (A 3)) {m i j : Nat} (hm : m < 5) (hi : i < 4) (hj : j < 4) (hP : ∀ k, k < 16 → A 14 (16 * m + k) = nI (pwv (nuA E) R m k).val) : fX8_timesNumbers N 645 (nI m) (nI i) (nI j) (rfh h0 cd (nI R) cl A) = some (nI (mpw (nuA E) R (m + 1) i j).val, rfh h0 cd (nI R) cl A) := by
  unfold fX8_timesNumbers
  show lX8_timesNumbers_6 N 645 (nI m) (nI i) (nI j) N (lN (0 : Fp).val) (nI 0) _ _ = _
  by_cases q : i < R ∧ j < R
  · rw [tn6 hR hE hm q.1 q.2 hP R N 0 0 (by omega) (by omega) rfl, lN_i]
    rw [show mpw (nuA E) R (m + 1) i j = sm (fun l => mpw (nuA E) R m i l * nuA E l j) R from if_pos q]
  · rw [mpw_out _ _ _ _ _ q, show N = (N - 1) + 1 by omega, lX8_timesNumbers_6, rg_1, Option.bind_some]
    by_cases q0 : R ≤ 0
    · rw [if_pos ((le_n (by omega) (by omega)).mpr q0)]
      rfl
    · rw [if_neg (fun y => by have := (le_n (by omega) (by omega)).mp y; omega), Option.bind_some]
      by_cases q1 : R ≤ i
      · rw [if_pos ((le_n (by omega) (by omega)).mpr q1)]
        rfl
      · rw [if_neg (fun y => by have := (le_n (by omega) (by omega)).mp y; omega), Option.bind_some, if_pos ((le_n (by omega) (by omega)).mpr (by omega))]
        rfl
theorem fl4 {N : Nat} {h0 : Hp} {cd cl : Int32} (hN : 1000 ≤ N) {E : Nat → Nat → Po} {R : Nat} (hR : R < 5) {m : Nat} (hm : m < 5) : ∀ (d n z : Nat) (A : Nat → Nat → Int32), z + d = 16 → d < n → EN E (A 3) → (m ≠ 0 → ∀ k, k < 16 → A 14 (16 * (m - 1) + k) = nI (pwv (nuA E) R (m - 1) k).val) → (∀ y, y < z → A 16 y = nI (pwv (nuA E) R m y).val) → ∃ f, (∀ κ, lX8_findLeast_4 N 645 (nI m) n (nI z) (rfh h0 cd (nI R) cl A) κ = κ (nI 16) (rfh h0 cd (nI R) cl (ua A 16 f))) ∧ (∀ y, y < 16 → f y = nI (pwv (nuA E) R m y).val)
  | d, 0, z, A, _, hn, _, _, _ => absurd hn (Nat.not_lt_zero _)
  | 0, n + 1, z, A, hz, hn, hE, hP, hf => by
    have e : z = 16 := by omega
    subst e
    refine ⟨A 16, fun κ => ?_, hf⟩
    rw [lX8_findLeast_4, ua_id]
    show (if nI 16 ≤ nI 16 then _ else _) = _
    rw [if_pos (by decide)]
  | d + 1, n + 1, z, A, hz, hn, hE, hP, hf => by
    obtain ⟨f, g1, g2⟩ := fl4 (h0 := h0) (cd := cd) (cl := cl) hN hR hm d n (z + 1) (ua A 16 (upd (A 16) z (nI (pwv (nuA E) R m z).val))) (by omega) (by omega) (by rw [ua_n _ _ (by decide)]; exact hE) (by rw [ua_n _ _ (by decide)]; exact hP) (fun y hy => by
      rw [ua_s]
      unfold upd
      by_cases q : y = z
      · rw [if_pos q, q]
      · rw [if_neg q]; exact hf y (by omega))
    refine ⟨f, fun κ => ?_, g2⟩
    have w := g1 κ
    rw [ua_ua] at w
    rw [lX8_findLeast_4]
    show (if nI 16 ≤ nI z then _ else _) = _
    rw [if_neg (fun y => by have := (le_n (by omega) (by omega)).mp y; omega), rg_16, Option.bind_some, div4 (by omega), rem4 (by omega)]
    unfold jn nm
    dsimp only
    show (if nI m = nI 0 then _ else _) = _
    by_cases q0 : m = 0
    · subst q0
      rw [if_pos rfl, rg_1, Option.bind_some, nI_1]
      unfold pwv at w
      by_cases q : z / 4 = z % 4
      · rw [if_pos (by rw [q])]
        by_cases q2 : z / 4 < R
        · rw [if_neg (fun y => by have := (le_n (by omega) (by omega)).mp y; omega)]
          rw [show mpw (nuA E) R 0 (z / 4) (z % 4) = 1 from if_pos ⟨q, q2⟩] at w
          show (aIs (rfh h0 cd (nI R) cl A) 659 (nI z) (nI (1 : Fp).val)).bind _ = _
          rw [rs_16 (by omega), Option.bind_some]
          exact w
        · rw [if_pos ((le_n (by omega) (by omega)).mpr (by omega))]
          rw [show mpw (nuA E) R 0 (z / 4) (z % 4) = 0 from if_neg (fun y => q2 y.2)] at w
          show (aIs (rfh h0 cd (nI R) cl A) 659 (nI z) (nI (0 : Fp).val)).bind _ = _
          rw [rs_16 (by omega), Option.bind_some]
          exact w
      · rw [if_neg (fun y => q ((eq_n (by omega) (by omega)).mp y))]
        rw [show mpw (nuA E) R 0 (z / 4) (z % 4) = 0 from if_neg (fun y => q y.1)] at w
        show (aIs (rfh h0 cd (nI R) cl A) 659 (nI z) (nI (0 : Fp).val)).bind _ = _
        rw [rs_16 (by omega), Option.bind_some]
        exact w
    · rw [if_neg (fun y => q0 ((eq_n (by omega) (by omega)).mp y)), rf_ck, Option.bind_some]
      have t := times_s (N := N) (h0 := h0) (cd := cd) (cl := cl) hN hR hE (m := m - 1) (i := z / 4) (j := z % 4) (by omega) (by omega) (by omega) (hP q0)
      rw [show nI m - 1 = nI (m - 1) from pk_sub (b := 1) (by omega), t, Option.bind_some, show m - 1 + 1 = m by omega]
      dsimp only
      rw [rs_16 (by omega), Option.bind_some, nI_1]
      exact w
theorem fl99 {N : Nat} {h0 : Hp} {cd rw cl : Int32} {m : Nat} (hm : m < 5) : ∀ (d n z : Nat) (A : Nat → Nat → Int32), z + d = 5 → d < n → (∀ y, y < z → A 17 y = nI (co (mono 1 m) y).val) → ∃ f, (∀ κ, lX8_findLeast_99 N 645 (nI m) n (nI z) (rfh h0 cd rw cl A) κ = κ (nI 5) (rfh h0 cd rw cl (ua A 17 f))) ∧ (∀ y, y < 5 → f y = nI (co (mono 1 m) y).val)
  | d, 0, z, A, _, hn, _ => absurd hn (Nat.not_lt_zero _)
  | 0, n + 1, z, A, hz, hn, hf => by
    have e : z = 5 := by omega
    subst e
    refine ⟨A 17, fun κ => ?_, hf⟩
    rw [lX8_findLeast_99, ua_id]
    show (if nI 5 ≤ nI 5 then _ else _) = _
    rw [if_pos (by decide)]
  | d + 1, n + 1, z, A, hz, hn, hf => by
    obtain ⟨f, g1, g2⟩ := fl99 (N := N) (h0 := h0) (cd := cd) (rw := rw) (cl := cl) hm d n (z + 1) (ua A 17 (upd (A 17) z (nI (co (mono 1 m) z).val))) (by omega) (by omega) (fun y hy => by
      rw [ua_s]
      unfold upd
      by_cases q : y = z
      · rw [if_pos q, q]
      · rw [if_neg q]; exact hf y (by omega))
    refine ⟨f, fun κ => ?_, g2⟩
    have w := g1 κ
    rw [ua_ua, co_mono] at w
    rw [lX8_findLeast_99]
    show (if nI 5 ≤ nI z then _ else _) = _
    rw [if_neg (fun y => by have := (le_n (by omega) (by omega)).mp y; omega), rg_17, Option.bind_some]
    unfold jn nm
    dsimp only
    rw [nI_1]
    by_cases q : z = m
    · rw [if_pos q] at w
      rw [if_pos (by rw [q])]
      show (aIs (rfh h0 cd rw cl A) 660 (nI z) (nI (1 : Fp).val)).bind _ = _
      rw [rs_17 (by omega), Option.bind_some]
      exact w
    · rw [if_neg q] at w
      rw [if_neg (fun y => q ((eq_n (by omega) (by omega)).mp y))]
      show (aIs (rfh h0 cd rw cl A) 660 (nI z) (nI (0 : Fp).val)).bind _ = _
      rw [rs_17 (by omega), Option.bind_some]
      exact w
/-- clearBy's loops -/
theorem cb33 {N r : Nat} {h0 : Hp} {cd rw cl : Int32} (hr : r < 5) {a2 : Int32} {v : Fp} {x c : Nat → Fp} : ∀ (d n z : Nat) (A : Nat → Nat → Int32), z + d = 16 → d < n → (∀ k, k < 16 → A 18 (16 * r + k) = nI (c k).val) → (∀ k, k < 16 → A 16 k = if k < z then nI (x k + - (v * c k)).val else nI (x k).val) → ∃ f, (∀ κ, lX8_clearBy_33 N 645 (nI r) a2 (lN v.val) n (nI z) (rfh h0 cd rw cl A) κ = κ (nI 16) (rfh h0 cd rw cl (ua A 16 f))) ∧ (∀ k, k < 16 → f k = nI (x k + - (v * c k)).val)
  | d, 0, z, A, _, hn, _, _ => absurd hn (Nat.not_lt_zero _)
  | 0, n + 1, z, A, hz, hn, hc, hx => by
    have e : z = 16 := by omega
    subst e
    refine ⟨A 16, fun κ => ?_, fun k hk => by rw [hx k hk, if_pos hk]⟩
    rw [lX8_clearBy_33, ua_id]
    show (if nI 16 ≤ nI 16 then _ else _) = _
    rw [if_pos (by decide)]
  | d + 1, n + 1, z, A, hz, hn, hc, hx => by
    obtain ⟨f, g1, g2⟩ := cb33 (N := N) (h0 := h0) (cd := cd) (rw := rw) (cl := cl) hr (a2 := a2) (v := v) (x := x) (c := c) d n (z + 1) (ua A 16 (upd (A 16) z (nI (x z + - (v * c z)).val))) (by omega) (by omega) (by rw [ua_n _ _ (by decide)]; exact hc) (fun k hk => by
      rw [ua_s]
      unfold upd
      by_cases q : k = z
      · rw [if_pos q, if_pos (by omega), q]
      · rw [if_neg q, hx k hk]
        by_cases q2 : k < z
        · rw [if_pos q2, if_pos (by omega)]
        · rw [if_neg q2, if_neg (by omega)])
    refine ⟨f, fun κ => ?_, g2⟩
    rw [lX8_clearBy_33]
    show (if nI 16 ≤ nI z then _ else _) = _
    rw [if_neg (fun y => by have := (le_n (by omega) (by omega)).mp y; omega), rg_16, Option.bind_some, Option.bind_some, ra_16 (by omega), Option.bind_some, rg_18, Option.bind_some]
    show (aI (rfh h0 cd rw cl A) 661 (nI 16 * nI r + nI z)).bind _ = _
    rw [pk_mul, nI_add, ra_18 (by omega), Option.bind_some, hx z (by omega), if_neg (by omega), hc z (by omega), msub8, Option.bind_some]
    dsimp only
    rw [rs_16 (by omega), Option.bind_some]
    unfold nm
    rw [nI_1]
    have := g1 κ
    rw [ua_ua] at this
    exact this
theorem cb83 {N r : Nat} {h0 : Hp} {cd rw cl : Int32} (hr : r < 5) {a2 : Int32} {v : Fp} {x c : Nat → Fp} : ∀ (d n z : Nat) (A : Nat → Nat → Int32), z + d = 5 → d < n → (∀ k, k < 5 → A 15 (5 * r + k) = nI (c k).val) → (∀ k, k < 5 → A 17 k = if k < z then nI (x k + - (v * c k)).val else nI (x k).val) → ∃ f, (∀ κ, lX8_clearBy_83 N 645 (nI r) a2 (lN v.val) n (nI z) (rfh h0 cd rw cl A) κ = κ (nI 5) (rfh h0 cd rw cl (ua A 17 f))) ∧ (∀ k, k < 5 → f k = nI (x k + - (v * c k)).val)
  | d, 0, z, A, _, hn, _, _ => absurd hn (Nat.not_lt_zero _)
  | 0, n + 1, z, A, hz, hn, hc, hx => by
    have e : z = 5 := by omega
    subst e
    refine ⟨A 17, fun κ => ?_, fun k hk => by rw [hx k hk, if_pos hk]⟩
    rw [lX8_clearBy_83, ua_id]
    show (if nI 5 ≤ nI 5 then _ else _) = _
    rw [if_pos (by decide)]
  | d + 1, n + 1, z, A, hz, hn, hc, hx => by
    obtain ⟨f, g1, g2⟩ := cb83 (N := N) (h0 := h0) (cd := cd) (rw := rw) (cl := cl) hr (a2 := a2) (v := v) (x := x) (c := c) d n (z + 1) (ua A 17 (upd (A 17) z (nI (x z + - (v * c z)).val))) (by omega) (by omega) (by rw [ua_n _ _ (by decide)]; exact hc) (fun k hk => by
      rw [ua_s]
      unfold upd
      by_cases q : k = z
      · rw [if_pos q, if_pos (by omega), q]
      · rw [if_neg q, hx k hk]
        by_cases q2 : k < z
        · rw [if_pos q2, if_pos (by omega)]
        · rw [if_neg q2, if_neg (by omega)])
    refine ⟨f, fun κ => ?_, g2⟩
    rw [lX8_clearBy_83]
    show (if nI 5 ≤ nI z then _ else _) = _
    rw [if_neg (fun y => by have := (le_n (by omega) (by omega)).mp y; omega), rg_17, Option.bind_some, Option.bind_some, ra_17 (by omega), Option.bind_some, rg_15, Option.bind_some]
    show (aI (rfh h0 cd rw cl A) 658 (nI 5 * nI r + nI z)).bind _ = _
    rw [pk_mul, nI_add, ra_15 (by omega), Option.bind_some, hx z (by omega), if_neg (by omega), hc z (by omega), msub8, Option.bind_some]
    dsimp only
    rw [rs_17 (by omega), Option.bind_some]
    unfold nm
    rw [nI_1]
    have := g1 κ
    rw [ua_ua] at this
    exact this
theorem cb2 {N r p : Nat} {h0 : Hp} {cd rw cl : Int32} {A : Nat → Nat → Int32} (hr : r < 5) {c : Nat → Fp} (hc : ∀ k, k < 16 → A 18 (16 * r + k) = nI (c k).val) (hp : p < 16) (hcp : c p ≠ 0) (hcz : ∀ k, k < p → c k = 0) : ∀ (d n z : Nat), z + d = p → d < n → ∀ κ, lX8_clearBy_2 N 645 (nI r) n (nI z) (rfh h0 cd rw cl A) κ = κ (nI p) (rfh h0 cd rw cl A)
  | d, 0, z, _, hn, κ => absurd hn (Nat.not_lt_zero _)
  | 0, n + 1, z, hz, hn, κ => by
    have e : z = p := by omega
    subst e
    have hv := (c z).isLt
    have h0' : (c z).val ≠ 0 := fun y => hcp (Fin.ext y)
    rw [lX8_clearBy_2, rg_18, Option.bind_some]
    show (aI (rfh h0 cd rw cl A) 661 (nI 16 * nI r + nI z)).bind _ = _
    rw [pk_mul, nI_add, ra_18 (by omega), Option.bind_some, hc z (by omega), if_neg (nI_ne0 (by omega) (by omega))]
  | d + 1, n + 1, z, hz, hn, κ => by
    rw [lX8_clearBy_2, rg_18, Option.bind_some]
    show (aI (rfh h0 cd rw cl A) 661 (nI 16 * nI r + nI z)).bind _ = _
    rw [pk_mul, nI_add, ra_18 (by omega), Option.bind_some, hc z (by omega), hcz z (by omega), if_pos (show nI (0 : Fp).val = 0 from rfl)]
    unfold nm
    rw [nI_1]
    exact cb2 hr hc hp hcp hcz d n (z + 1) (by omega) (by omega) κ
/-- clearBy -/
theorem clearBy_s {N r p : Nat} {h0 : Hp} {cd rw cl : Int32} (hN : 1000 ≤ N) (hr : r < 5) {A : Nat → Nat → Int32} {a : Nat → Nat → Fp} {R : Nat} {F g : Po} (h18 : ∀ k, k < 16 → A 18 (16 * r + k) = nI (Phi a R F k).val) (h15 : ∀ k, k < 5 → A 15 (5 * r + k) = nI (co F k).val) (hp : p < 16) (hcp : Phi a R F p = 1) (hcz : ∀ k, k < p → Phi a R F k = 0) (h16 : ∀ k, k < 16 → A 16 k = nI (Phi a R g k).val) (h17 : ∀ k, k < 5 → A 17 k = nI (co g k).val) : ∃ f16 f17, fX8_clearBy N 645 (nI r) (rfh h0 cd rw cl A) = some (rfh h0 cd rw cl (ua (ua A 16 f16) 17 f17)) ∧ (∀ k, k < 16 → f16 k = nI (Phi a R (pAdd g (pNeg (pMul (pC (Phi a R g p)) F))) k).val) ∧ (∀ k, k < 5 → f17 k = nI (co (pAdd g (pNeg (pMul (pC (Phi a R g p)) F))) k).val) := by
  obtain ⟨f16, u1, u2⟩ := cb33 (N := N) (h0 := h0) (cd := cd) (rw := rw) (cl := cl) hr (a2 := nI p) (v := Phi a R g p) (x := Phi a R g) (c := Phi a R F) 16 N 0 A rfl (by omega) h18 (fun k hk => by rw [if_neg (by omega)]; exact h16 k hk)
  obtain ⟨f17, w1, w2⟩ := cb83 (N := N) (h0 := h0) (cd := cd) (rw := rw) (cl := cl) hr (a2 := nI p) (v := Phi a R g p) (x := co g) (c := co F) 5 N 0 (ua A 16 f16) rfl (by omega) (by rw [ua_n _ _ (by decide)]; exact h15) (fun k hk => by rw [if_neg (by omega), ua_n _ _ (by decide)]; exact h17 k hk)
  refine ⟨f16, f17, ?_, fun k hk => by rw [u2 k hk, Phi_add, Phi_neg, Phi_C], fun k hk => by rw [w2 k hk, co_add, co_neg, co_Cmul]⟩
  unfold fX8_clearBy
  show lX8_clearBy_2 N 645 (nI r) N (nI 0) _ _ = _
  rw [cb2 hr h18 hp (by rw [hcp]; decide) hcz p N 0 (by omega) (by omega), rg_16, Option.bind_some, ra_16 hp, Option.bind_some, h16 p hp, lV]
  unfold nm
  show lX8_clearBy_33 N 645 (nI r) (nI p) (lN (Phi a R g p).val) N (nI 0) _ _ = _
  rw [u1]
  show lX8_clearBy_83 N 645 (nI r) (nI p) (lN (Phi a R g p).val) N (nI 0) _ _ = _
  rw [w1]
