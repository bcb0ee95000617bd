/-! the reference: powers of a matrix of numbers, their ranks -/
def mpw (a : Nat → Nat → Fp) (R : Nat) : Nat → Nat → Nat → Fp
  | 0 => fun i j => if i = j ∧ i < R then 1 else 0
  | k + 1 => fun i j => if i < R ∧ j < R then sm (fun l => mpw a R k i l * a l j) R else 0
theorem mpw_out (a : Nat → Nat → Fp) (R : Nat) : ∀ (k i j : Nat), ¬ (i < R ∧ j < R) → mpw a R k i j = 0
  | 0, i, j, h => if_neg (by omega)
  | k + 1, i, j, h => if_neg h
/-- the numbers less a root on the diagonal -/
def shA (E : Nat → Nat → Po) (ρ : Fp) (i j : Nat) : Fp := co (E i j) 0 + - (if i = j then ρ else 0)
theorem numAt_s {N : Nat} {h0 : Hp} {cd rw cl : Int32} {A : Nat → Nat → Int32} {E : Nat → Nat → Po} (hE : EN E (A 3)) {i j : Nat} (hi : i < 4) (hj : j < 4) : fX8_numberAt N 645 (nI i) (nI j) (rfh h0 cd rw cl A) = some (nI (co (E i j) 0).val, rfh h0 cd rw cl A) := by
  unfold fX8_numberAt
  rw [rg_3, Option.bind_some]
  show (aI (rfh h0 cd rw cl A) 646 (nI 16 * nI i + nI 4 * nI j)).bind _ = _
  rw [pk_mul, pk_mul, nI_add, ra_3 (by omega), Option.bind_some]
  have := hE i j hi hj 0 (by omega)
  rw [Nat.add_zero] at this
  rw [this]
  rfl
theorem div4 {k : Nat} (h : k < 16) : nI k / (4 : Int32) = nI (k / 4) := pk_div (by omega) (by decide) (by decide)
theorem rem4 {k : Nat} (h : k < 16) : irm (nI k) (4 : Int32) = nI (k % 4) := pk_rem (by omega) (by decide) (by decide)
theorem lsub (a b : Fp) : fZ ((nI a.val).toInt64 - (nI b.val).toInt64).toInt = a + - b := by
  have h1 := a.isLt
  have h2 := b.isLt
  have e : ((nI a.val).toInt64 - (nI b.val).toInt64).toInt = (a.val : Int) - b.val := by
    rw [lV, lV, Int64.toInt_sub, pk_lT (by omega), pk_lT (by omega)]
    apply Int.bmod_eq_of_le <;> omega
  rw [e, show (a.val : Int) - b.val = (a.val : Int) + - (b.val : Int) by omega, fZ_add, fZ_neg, fZ_val, fZ_val]
theorem ro73 {N : Nat} {h0 : Hp} {cd cl : Int32} {E : Nat → Nat → Po} {R : Nat} (hR : R < 5) {ρ : Fp} {a2 a3 : Int32} {A : Nat → Nat → Int32} (hE : EN E (A 3)) {M : Nat → Nat → Fp} (hM : ∀ i j, i < 4 → j < 4 → A 19 (4 * i + j) = nI (M i j).val) {k : Nat} (hk : k < 16) : ∀ (d n l : Nat) (s : Fp), l + d = R → d < n → (s = sm (fun l => M (k / 4) l * (if k % 4 < R then shA E ρ l (k % 4) else 0)) l) → ∀ κ, lX8_rankOf_73 N 645 (nI ρ.val) a2 a3 (nI k) n (lN s.val) (nI l) (rfh h0 cd (nI R) cl A) κ = κ (lN (sm (fun l => M (k / 4) l * (if k % 4 < R then shA E ρ l (k % 4) else 0)) R).val) (nI R) (rfh h0 cd (nI R) cl A)
  | d, 0, l, s, _, hn, _, κ => absurd hn (Nat.not_lt_zero _)
  | 0, n + 1, l, s, hl, hn, hs, κ => by
    have e : l = R := by omega
    subst e
    rw [lX8_rankOf_73, rg_1, Option.bind_some, if_pos ((le_n (by omega) (by omega)).mpr (Nat.le_refl _)), hs]
  | d + 1, n + 1, l, s, hl, hn, hs, κ => by
    obtain ⟨t, ht⟩ : ∃ t : Fp, t = (if k % 4 < R then shA E ρ l (k % 4) else 0) := ⟨_, rfl⟩
    have ih := ro73 (N := N) (h0 := h0) (cd := cd) (cl := cl) hR (ρ := ρ) (a2 := a2) (a3 := a3) hE hM hk d n (l + 1) (s + M (k / 4) l * t) (by omega) (by omega) (by rw [sm, ← hs, ht]) κ
    have h1 := Nat.mul_lt_mul'' (M (k / 4) l).isLt t.isLt
    have h2 := s.isLt
    have e1 : lrm (lN s.val + (nI (M (k / 4) l).val).toInt64 * (nI t.val).toInt64) (32003 : Int64) = lN (s + M (k / 4) l * t).val := by
      rw [lV, lV, lN_mul, lN_add, lrm_n (by omega), fv_add, fv_mul, Nat.add_mod_mod]
    rw [lX8_rankOf_73, rg_1, Option.bind_some, if_neg (fun y => by have := (le_n (by omega) (by omega)).mp y; omega), rg_19, Option.bind_some, div4 hk]
    show (aI (rfh h0 cd (nI R) cl A) 662 (nI 4 * nI (k / 4) + nI l)).bind _ = _
    rw [pk_mul, nI_add, ra_19 (by omega), Option.bind_some, hM _ _ (by omega) (by omega), Option.bind_some]
    unfold jn nm
    dsimp only
    rw [if_neg (fun y => by have := (le_n (by omega) (by omega)).mp y; omega), Option.bind_some, rem4 hk]
    by_cases q : k % 4 < R
    · rw [if_pos q] at ht
      rw [if_neg (fun y => by have := (le_n (by omega) (by omega)).mp y; omega), rf_ck, Option.bind_some, numAt_s hE (by omega) (by omega), Option.bind_some]
      dsimp only
      unfold shA at ht
      by_cases q2 : l = k % 4
      · rw [if_pos q2] at ht
        rw [if_pos (by rw [← q2]), mod_s, lsub, Option.bind_some, ← ht]
        dsimp only
        rw [e1, nI_1]
        exact ih
      · rw [if_neg q2] at ht
        rw [if_neg (fun y => q2 ((eq_n (by omega) (by omega)).mp y))]
        rw [show ((0 : Int32)).toInt64 = (nI (0 : Fp).val).toInt64 from rfl, mod_s, lsub, Option.bind_some, ← ht]
        dsimp only
        rw [e1, nI_1]
        exact ih
    · rw [if_neg q] at ht
      rw [if_pos ((le_n (by omega) (by omega)).mpr (by omega))]
      rw [ht] at e1 ih
      rw [show ((0 : Int32)).toInt64 = (nI (0 : Fp).val).toInt64 from rfl, e1, nI_1]
      exact ih
theorem ro60 {N : Nat} {h0 : Hp} {cd cl : Int32} (hN : 1000 ≤ N) {E : Nat → Nat → Po} {R : Nat} (hR : R < 5) {ρ : Fp} {a2 a3 : Int32} {M : Nat → Nat → Fp} : ∀ (d n z : Nat) (A : Nat → Nat → Int32), z + d = 16 → d < n → EN E (A 3) → (∀ i j, i < 4 → j < 4 → A 19 (4 * i + j) = nI (M i j).val) → (∀ y, y < z → A 20 y = nI (sm (fun l => M (y / 4) l * (if y % 4 < R then shA E ρ l (y % 4) else 0)) R).val) → ∃ f, (∀ κ, lX8_rankOf_60 N 645 (nI ρ.val) a2 a3 n (nI z) (rfh h0 cd (nI R) cl A) κ = κ (nI 16) (rfh h0 cd (nI R) cl (ua A 20 f))) ∧ (∀ y, y < 16 → f y = nI (sm (fun l => M (y / 4) l * (if y % 4 < R then shA E ρ l (y % 4) else 0)) R).val)
  | d, 0, z, A, _, hn, _, _, _ => absurd hn (Nat.not_lt_zero _)
  | 0, n + 1, z, A, hz, hn, hE, hM, hf => by
    have e : z = 16 := by omega
    subst e
    refine ⟨A 20, fun κ => ?_, hf⟩
    rw [lX8_rankOf_60, ua_id]
    show (if nI 16 ≤ nI 16 then _ else _) = _
    rw [if_pos (by decide)]
  | d + 1, n + 1, z, A, hz, hn, hE, hM, hf => by
    obtain ⟨f, g1, g2⟩ := ro60 (h0 := h0) (cd := cd) (cl := cl) hN hR (ρ := ρ) (a2 := a2) (a3 := a3) (M := M) d n (z + 1) (ua A 20 (upd (A 20) z (nI (sm (fun l => M (z / 4) l * (if z % 4 < R then shA E ρ l (z % 4) else 0)) R).val))) (by omega) (by omega) (by rw [ua_n _ _ (by decide)]; exact hE) (by rw [ua_n _ _ (by decide)]; exact hM) (fun y hy => by
      rw [ua_s]
      unfold upd
      by_cases q : y = z
      · rw [if_pos q, q]
      · rw [if_neg q]; exact hf y (by omega))
    refine ⟨f, fun κ => ?_, g2⟩
    rw [lX8_rankOf_60]
    show (if nI 16 ≤ nI z then _ else _) = _
    rw [if_neg (fun y => by have := (le_n (by omega) (by omega)).mp y; omega)]
    show lX8_rankOf_73 N 645 (nI ρ.val) a2 a3 (nI z) N (lN (0 : Fp).val) (nI 0) _ _ = _
    rw [ro73 hR hE hM (by omega) R N 0 0 (by omega) (by omega) rfl, rg_20, Option.bind_some, lN_i, rs_20 (by omega), Option.bind_some]
    unfold nm
    rw [nI_1]
    have := g1 κ
    rw [ua_ua] at this
    exact this
theorem ro46 {N : Nat} {h0 : Hp} {cd cl : Int32} (hN : 1000 ≤ N) {E : Nat → Nat → Po} {R : Nat} (hR : R < 5) {ρ : Fp} {m : Nat} (hm : m ≤ 6) : ∀ (d n t : Nat) (A : Nat → Nat → Int32), t + d = m → d < n → EN E (A 3) → (∀ i j, i < 4 → j < 4 → A 19 (4 * i + j) = nI (mpw (shA E ρ) R t i j).val) → ∃ A', (∀ κ, lX8_rankOf_46 N 645 (nI ρ.val) (nI m) n (nI t) (rfh h0 cd (nI R) cl A) κ = κ (nI m) (rfh h0 cd (nI R) cl A')) ∧ (∀ i j, i < 4 → j < 4 → A' 19 (4 * i + j) = nI (mpw (shA E ρ) R m i j).val) ∧ (∀ k, k ≠ 19 → k ≠ 20 → A' k = A k)
  | d, 0, t, A, _, hn, _, _ => absurd hn (Nat.not_lt_zero _)
  | 0, n + 1, t, A, ht, hn, hE, hM => by
    have e : t = m := by omega
    subst e
    refine ⟨A, fun κ => ?_, hM, fun _ _ _ => rfl⟩
    rw [lX8_rankOf_46, if_pos ((le_n (by omega) (by omega)).mpr (Nat.le_refl _))]
  | d + 1, n + 1, t, A, ht, hn, hE, hM => by
    obtain ⟨f, u1, u2⟩ := ro60 (N := N) (h0 := h0) (cd := cd) (cl := cl) hN (E := E) hR (ρ := ρ) (a2 := nI m) (a3 := nI t) (M := mpw (shA E ρ) R t) 16 N 0 A rfl (by omega) hE hM (fun y hy => by omega)
    have c := ro187_l (N := N) (h0 := h0) (cd := cd) (rw := nI R) (cl := cl) (a1 := nI ρ.val) (a2 := nI m) (a3 := nI t) (V := f) 16 N 0 (ua A 20 f) rfl (by omega) (fun t _ => by rw [ua_s])
    obtain ⟨A', g1, g2, g3⟩ := ro46 (h0 := h0) (cd := cd) (cl := cl) hN hR (ρ := ρ) hm d n (t + 1) (ua (ua A 20 f) 19 (wr (ua A 20 f 19) 0 16 f)) (by omega) (by omega) (by rw [ua_n _ _ (by decide), ua_n _ _ (by decide)]; exact hE) (fun i j hi hj => by
      rw [ua_s, wr_in (by omega), u2 _ (by omega), show (4 * i + j) / 4 = i by omega, show (4 * i + j) % 4 = j by omega]
      congr 2
      show _ = if i < R ∧ j < R then sm (fun l => mpw (shA E ρ) R t i l * shA E ρ l j) R else 0
      by_cases q : i < R ∧ j < R
      · rw [if_pos q]
        exact sm_congr _ (fun l _ => by rw [if_pos q.2])
      · rw [if_neg q]
        refine sm_zero _ (fun l hl => ?_)
        by_cases q2 : j < R
        · rw [mpw_out _ _ _ _ _ (fun z => q ⟨z.1, q2⟩)]; grind
        · rw [if_neg q2]; grind)
    refine ⟨A', fun κ => ?_, g2, fun k k1 k2 => by rw [g3 k k1 k2, ua_n _ _ k1, ua_n _ _ k2]⟩
    rw [lX8_rankOf_46, if_neg (fun y => by have := (le_n (by omega) (by omega)).mp y; omega)]
    show (if nI 6 ≤ nI t then _ else _) = _
    rw [if_neg (fun y => by have := (le_n (by omega) (by omega)).mp y; omega)]
    show lX8_rankOf_60 N 645 (nI ρ.val) (nI m) (nI t) N (nI 0) _ _ = _
    rw [u1]
    show lX8_rankOf_187 N 645 (nI ρ.val) (nI m) (nI t) N (nI 0) _ _ = _
    rw [c]
    unfold nm
    rw [nI_1]
    exact g1 κ
theorem ro2 {N : Nat} {h0 : Hp} {cd cl : Int32} {R : Nat} (hR : R < 5) {a1 a2 : Int32} {a : Nat → Nat → Fp} : ∀ (d n z : Nat) (A : Nat → Nat → Int32), z + d = 16 → d < n → (∀ y, y < z → A 19 y = nI (mpw a R 0 (y / 4) (y % 4)).val) → ∃ f, (∀ κ, lX8_rankOf_2 N 645 a1 a2 n (nI z) (rfh h0 cd (nI R) cl A) κ = κ (nI 16) (rfh h0 cd (nI R) cl (ua A 19 f))) ∧ (∀ y, y < 16 → f y = nI (mpw a R 0 (y / 4) (y % 4)).val)
  | d, 0, z, A, _, hn, _ => absurd hn (Nat.not_lt_zero _)
  | 0, n + 1, z, A, hz, hn, hf => by
    have e : z = 16 := by omega
    subst e
    refine ⟨A 19, fun κ => ?_, hf⟩
    rw [lX8_rankOf_2, ua_id]
    show (if nI 16 ≤ nI 16 then _ else _) = _
    rw [if_pos (by decide)]
  | d + 1, n + 1, z, A, hz, hn, hf => by
    obtain ⟨f, g1, g2⟩ := ro2 (N := N) (h0 := h0) (cd := cd) (cl := cl) hR (a1 := a1) (a2 := a2) (a := a) d n (z + 1) (ua A 19 (upd (A 19) z (nI (mpw a R 0 (z / 4) (z % 4)).val))) (by omega) (by omega) (fun y hy => by
      rw [ua_s]
      unfold upd
      by_cases q : y = z
      · rw [if_pos q, q]
      · rw [if_neg q]; exact hf y (by omega))
    refine ⟨f, fun κ => ?_, g2⟩
    have w := g1 κ
    rw [ua_ua] at w
    rw [lX8_rankOf_2]
    show (if nI 16 ≤ nI z then _ else _) = _
    rw [if_neg (fun y => by have := (le_n (by omega) (by omega)).mp y; omega), rg_19, Option.bind_some, div4 (by omega), rem4 (by omega)]
    unfold jn nm
    dsimp only
    rw [rg_1, Option.bind_some, nI_1]
    by_cases q : z / 4 = z % 4
    · rw [if_pos (by rw [q])]
      by_cases q2 : z / 4 < R
      · rw [if_neg (fun y => by have := (le_n (by omega) (by omega)).mp y; omega)]
        rw [show mpw a R 0 (z / 4) (z % 4) = 1 from if_pos ⟨q, q2⟩] at w
        show (aIs (rfh h0 cd (nI R) cl A) 662 (nI z) (nI (1 : Fp).val)).bind _ = _
        rw [rs_19 (by omega), Option.bind_some]
        exact w
      · rw [if_pos ((le_n (by omega) (by omega)).mpr (by omega))]
        rw [show mpw a R 0 (z / 4) (z % 4) = 0 from if_neg (fun y => q2 y.2)] at w
        show (aIs (rfh h0 cd (nI R) cl A) 662 (nI z) (nI (0 : Fp).val)).bind _ = _
        rw [rs_19 (by omega), Option.bind_some]
        exact w
    · rw [if_neg (fun y => q ((eq_n (by omega) (by omega)).mp y))]
      rw [show mpw a R 0 (z / 4) (z % 4) = 0 from if_neg (fun y => q y.1)] at w
      show (aIs (rfh h0 cd (nI R) cl A) 662 (nI z) (nI (0 : Fp).val)).bind _ = _
      rw [rs_19 (by omega), Option.bind_some]
      exact w
theorem ro243 {N : Nat} {h0 : Hp} {cd rw cl : Int32} {a1 a2 : Int32} {V : Nat → Int32} : ∀ (d n z : Nat) (A : Nat → Nat → Int32), z + d = 16 → d < n → (∀ t, t < 16 → A 19 t = V t) → ∃ f, (∀ κ, lX8_rankOf_243 N 645 a1 a2 n (nI z) (rfh h0 cd rw cl A) κ = κ (nI 16) (rfh h0 cd rw cl (ua A 7 f))) ∧ (∀ t, z ≤ t → t < 16 → f (4 * t) = V t) ∧ (∀ y, (∀ t, z ≤ t → t < 16 → y ≠ 4 * t) → f y = A 7 y)
  | d, 0, z, A, _, hn, _ => absurd hn (Nat.not_lt_zero _)
  | 0, n + 1, z, A, hz, hn, hV => by
    have e : z = 16 := by omega
    subst e
    refine ⟨A 7, fun κ => ?_, fun t h1 h2 => by omega, fun _ _ => rfl⟩
    rw [lX8_rankOf_243, ua_id]
    show (if nI 16 ≤ nI 16 then _ else _) = _
    rw [if_pos (by decide)]
  | d + 1, n + 1, z, A, hz, hn, hV => by
    obtain ⟨f, g1, g2, g3⟩ := ro243 (N := N) (h0 := h0) (cd := cd) (rw := rw) (cl := cl) (a1 := a1) (a2 := a2) (V := V) d n (z + 1) (ua A 7 (upd (A 7) (4 * z) (V z))) (by omega) (by omega) (fun t ht => by rw [ua_n _ _ (by decide)]; exact hV t ht)
    refine ⟨f, fun κ => ?_, fun t h1 h2 => ?_, fun y hy => ?_⟩
    · rw [lX8_rankOf_243]
      show (if nI 16 ≤ nI z then _ else _) = _
      rw [if_neg (fun y => by have := (le_n (by omega) (by omega)).mp y; omega), rg_7, Option.bind_some, rg_19, Option.bind_some, ra_19 (by omega), Option.bind_some, hV z (by omega)]
      show (aIs (rfh h0 cd rw cl A) 650 (nI 4 * nI z) (V z)).bind _ = _
      rw [pk_mul, rs_7 (by omega), Option.bind_some]
      unfold nm
      rw [nI_1]
      have := g1 κ
      rw [ua_ua] at this
      exact this
    · by_cases q : t = z
      · rw [q, g3 _ (fun t' h3 h4 => by omega), ua_s]
        unfold upd
        rw [if_pos rfl]
      · exact g2 t (by omega) h2
    · rw [g3 y (fun t h1 h2 => hy t (by omega) h2), ua_s]
      unfold upd
      rw [if_neg (hy z (Nat.le_refl _) (by omega))]
/-- rankOf: the rank of a power -/
theorem rankOf_s {N : Nat} {h0 : Hp} {cd cl : Int32} (hN : 33000 ≤ N) {E : Nat → Nat → Po} {R : Nat} (hR : R < 5) {A : Nat → Nat → Int32} (hE : EN E (A 3)) (ρ : Fp) {m : Nat} (hm : m ≤ 6) : ∃ r A', fX8_rankOf N 645 (nI ρ.val) (nI m) (rfh h0 cd (nI R) cl A) = some (nI r, rfh h0 cd (nI R) cl A') ∧ RKf (fun i j => pC (mpw (shA E ρ) R m i j)) r ∧ (∀ k, k ≠ 6 → k ≠ 7 → k ≠ 19 → k ≠ 20 → A' k = A k) := by
  obtain ⟨f1, u1, u2⟩ := ro2 (N := N) (h0 := h0) (cd := cd) (cl := cl) hR (a1 := nI ρ.val) (a2 := nI m) (a := shA E ρ) 16 N 0 A rfl (by omega) (fun y hy => by omega)
  obtain ⟨A2, v1, v2, v3⟩ := ro46 (N := N) (h0 := h0) (cd := cd) (cl := cl) (by omega) (E := E) hR (ρ := ρ) hm m N 0 (ua A 19 f1) (by omega) (by omega) (by rw [ua_n _ _ (by decide)]; exact hE) (fun i j hi hj => by rw [ua_s, u2 _ (by omega), show (4 * i + j) / 4 = i by omega, show (4 * i + j) % 4 = j by omega])
  have c := ro222_l (N := N) (h0 := h0) (cd := cd) (rw := nI R) (cl := cl) (a1 := nI ρ.val) (a2 := nI m) (V := fun _ => 0) 64 N 0 A2 rfl (by omega) (fun _ _ => rfl)
  obtain ⟨f7, w1, w2, w3⟩ := ro243 (N := N) (h0 := h0) (cd := cd) (rw := nI R) (cl := cl) (a1 := nI ρ.val) (a2 := nI m) (V := A2 19) 16 N 0 (ua A2 7 (wr (A2 7) 0 64 (fun _ => 0))) rfl (by omega) (fun t _ => by rw [ua_n _ _ (by decide)])
  rw [ua_ua] at w1
  rw [ua_s] at w3
  have hsz : ∀ i j, sz (pC (mpw (shA E ρ) R m i j)) ≤ 4 := fun i j => by have := sz_C (mpw (shA E ρ) R m i j); omega
  obtain ⟨f6, g1, g2⟩ := minors_s (N := N) (h0 := h0) (cd := cd) (rw := nI R) (cl := cl) hN (E := fun i j => pC (mpw (shA E ρ) R m i j)) hsz (A := ua A2 7 f7) (fun i j hi hj t ht => by
    rw [ua_s]
    unfold vl
    rw [co_C]
    by_cases q : t = 0
    · rw [q, Nat.add_zero, if_pos rfl, show 16 * i + 4 * j = 4 * (4 * i + j) by omega, w2 _ (by omega) (by omega), v2 i j hi hj]
    · rw [if_neg q, w3 _ (fun t' h1 h2 => by omega), wr_in (by omega)]
      rfl)
  obtain ⟨r, k1, k2⟩ := rankNow_s (N := N) (h0 := h0) (cd := cd) (rw := nI R) (cl := cl) (by omega) hsz (A := ua (ua A2 7 f7) 6 f6) (by rw [ua_s]; exact g2)
  refine ⟨r, ua (ua A2 7 f7) 6 f6, ?_, k2, fun k h1 h2 h3 h4 => by rw [ua_n _ _ h1, ua_n _ _ h2, v3 k h3 h4, ua_n _ _ h3]⟩
  unfold fX8_rankOf
  show lX8_rankOf_2 N 645 (nI ρ.val) (nI m) N (nI 0) _ _ = _
  rw [u1]
  show lX8_rankOf_46 N 645 (nI ρ.val) (nI m) N (nI 0) _ _ = _
  rw [v1]
  show lX8_rankOf_222 N 645 (nI ρ.val) (nI m) N (nI 0) _ _ = _
  rw [c]
  show lX8_rankOf_243 N 645 (nI ρ.val) (nI m) N (nI 0) _ _ = _
  rw [w1, rf_ck, Option.bind_some, g1, Option.bind_some, rf_ck, Option.bind_some, k1]
  rfl
