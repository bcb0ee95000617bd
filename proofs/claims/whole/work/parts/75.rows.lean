/-! Row and Matrix -/
/-- a Row at r, of Polynomials with room len -/
def RO (m : Hp) (r len : Nat) : Prop := m r = some (.inr (8, [.ref (r + 1)])) ∧ (∃ f, m (r + 1) = some (.inl (4, 4, .inr (.inr (.inr (.inr f))))) ∧ ∀ j, j < 4 → f j = some (r + 2 + 2 * j)) ∧ np r ∧ np (r + 1) ∧ len ≠ 0 ∧ ∀ j, j < 4 → pl (r + 2 + 2 * j) = len
theorem RO.g {m : Hp} {r len : Nat} (w : RO m r len) (P : Nat → Po) : gR (conc P m) r 8 0 = some (r + 1) := cm_gR w.2.2.1 w.1 rfl
theorem RO.ck {m : Hp} {r len : Nat} (w : RO m r len) (P : Nat → Po) : cK (conc P m) r 8 = some () := cm_cK w.2.2.1 w.1
theorem RO.a {m : Hp} {r len : Nat} (w : RO m r len) (P : Nat → Po) {j : Nat} (hj : j < 4) : aR (conc P m) (r + 1) 4 (nI j) = some (r + 2 + 2 * j) := by
  obtain ⟨f, h1, h2⟩ := w.2.1
  exact cm_aR w.2.2.2.1 h1 hj (by decide) (h2 j hj)
theorem RO.p {m : Hp} {r len : Nat} (w : RO m r len) {j : Nat} (hj : j < 4) : pl (r + 2 + 2 * j) = len := w.2.2.2.2.2 j hj
theorem RO.n {m : Hp} {r len : Nat} (w : RO m r len) {j : Nat} (hj : j < 4) : pl (r + 2 + 2 * j) ≠ 0 := by rw [w.p hj]; exact w.2.2.2.2.1
theorem rclear_l {N r len : Nat} {m : Hp} (hN : 1000 ≤ N) (ro : RO m r len) : ∀ (k n j : Nat) (P : Nat → Po), j + k = 4 → k < n → FT P → ∃ P', lX6_clear_2 N r n (nI j) (conc P m) (fun _ h2 => some h2) = some (conc P' m) ∧ FT P' ∧ (∀ i, j ≤ i → i < 4 → P' (r + 2 + 2 * i) = pC 0) ∧ (∀ x, (∀ i, j ≤ i → i < 4 → x ≠ r + 2 + 2 * i) → P' x = P x)
  | k, 0, j, P, _, hn, _ => absurd hn (Nat.not_lt_zero _)
  | 0, n + 1, j, P, hk, hn, w => by
    refine ⟨P, ?_, w, fun i h1 h2 => by omega, fun _ _ => rfl⟩
    rw [lX6_clear_2]
    show (if nI 4 ≤ nI j then _ else _) = _
    rw [if_pos ((le_n (by omega) (by omega)).mpr (by omega))]
  | k + 1, n + 1, j, P, hk, hn, w => by
    have hp := ro.n (j := j) (by omega)
    have c := clear_c hN (m := m) w hp
    obtain ⟨P', g1, g2, g3, g4⟩ := rclear_l hN ro k n (j + 1) _ (by omega) (by omega) (w.st (a := r + 2 + 2 * j) (p := pC 0) (by rw [sz_z]; omega))
    refine ⟨P', ?_, g2, fun i h1 h2 => ?_, fun x hx => ?_⟩
    · rw [lX6_clear_2]
      show (if nI 4 ≤ nI j then _ else _) = _
      rw [if_neg (fun z => by have := (le_n (by omega) (by omega)).mp z; omega)]
      simp only [ro.g, Option.bind_some, ro.a _ (show j < 4 by omega), po_ck hp, c]
      show lX6_clear_2 N r n (nI j + 1) _ _ = _
      rw [nI_1]
      exact g1
    · by_cases q : i = j
      · rw [q, g4 _ (fun i h1 h2 => by omega), st_same]
      · exact g3 i (by omega) h2
    · rw [g4 x (fun i h1 h2 => hx i (by omega) h2), st_ne _ _ (hx j (Nat.le_refl _) (by omega))]
theorem rclear_c {N : Nat} (hN : 1000 ≤ N) {P : Nat → Po} {m : Hp} (w : FT P) {r len : Nat} (ro : RO m r len) : ∃ P', fX6_clear N r (conc P m) = some (conc P' m) ∧ FT P' ∧ (∀ i, i < 4 → P' (r + 2 + 2 * i) = pC 0) ∧ (∀ x, (∀ i, i < 4 → x ≠ r + 2 + 2 * i) → P' x = P x) := by
  obtain ⟨P', g1, g2, g3, g4⟩ := rclear_l hN ro 4 N 0 P rfl (by omega) w
  exact ⟨P', g1, g2, fun i h => g3 i (by omega) h, fun x h => g4 x (fun i _ h2 => h i h2)⟩
theorem rcopy_l {N r o len lo : Nat} {m : Hp} (hN : 1000 ≤ N) (ro : RO m r len) (oo : RO m o lo) (hd : r + 10 ≤ o ∨ o + 10 ≤ r) : ∀ (k n j : Nat) (P : Nat → Po), j + k = 4 → k < n → FT P → (∀ i, i < 4 → sz (P (o + 2 + 2 * i)) ≤ len) → ∃ P', lX6_copyFrom_2 N r o n (nI j) (conc P m) (fun _ h2 => some h2) = some (conc P' m) ∧ FT P' ∧ (∀ i, j ≤ i → i < 4 → P' (r + 2 + 2 * i) = P (o + 2 + 2 * i)) ∧ (∀ x, (∀ i, j ≤ i → i < 4 → x ≠ r + 2 + 2 * i) → P' x = P x)
  | k, 0, j, P, _, hn, _, _ => absurd hn (Nat.not_lt_zero _)
  | 0, n + 1, j, P, hk, hn, w, hs => by
    refine ⟨P, ?_, w, fun i h1 h2 => by omega, fun _ _ => rfl⟩
    rw [lX6_copyFrom_2]
    show (if nI 4 ≤ nI j then _ else _) = _
    rw [if_pos ((le_n (by omega) (by omega)).mpr (by omega))]
  | k + 1, n + 1, j, P, hk, hn, w, hs => by
    have hp := ro.n (j := j) (by omega)
    have hs1 : sz (P (o + 2 + 2 * j)) ≤ pl (r + 2 + 2 * j) := by rw [ro.p (by omega)]; exact hs j (by omega)
    have c := copyFrom_c hN (m := m) w hp (oo.n (j := j) (by omega)) (by omega) hs1
    obtain ⟨P', g1, g2, g3, g4⟩ := rcopy_l hN ro oo hd k n (j + 1) _ (by omega) (by omega) (w.st hs1) (fun i hi => by rw [st_ne _ _ (by omega)]; exact hs i hi)
    refine ⟨P', ?_, g2, fun i h1 h2 => ?_, fun x hx => ?_⟩
    · rw [lX6_copyFrom_2]
      show (if nI 4 ≤ nI j then _ else _) = _
      rw [if_neg (fun z => by have := (le_n (by omega) (by omega)).mp z; omega)]
      simp only [ro.g, oo.g, Option.bind_some, ro.a _ (show j < 4 by omega), oo.a _ (show j < 4 by omega), po_ck hp, c]
      show lX6_copyFrom_2 N r o n (nI j + 1) _ _ = _
      rw [nI_1]
      exact g1
    · by_cases q : i = j
      · rw [q, g4 _ (fun i h1 h2 => by omega), st_same]
      · rw [g3 i (by omega) h2, st_ne _ _ (by omega)]
    · rw [g4 x (fun i h1 h2 => hx i (by omega) h2), st_ne _ _ (hx j (Nat.le_refl _) (by omega))]
theorem rcopy_c {N : Nat} (hN : 1000 ≤ N) {P : Nat → Po} {m : Hp} (w : FT P) {r o len lo : Nat} (ro : RO m r len) (oo : RO m o lo) (hd : r + 10 ≤ o ∨ o + 10 ≤ r) (hs : ∀ i, i < 4 → sz (P (o + 2 + 2 * i)) ≤ len) : ∃ P', fX6_copyFrom N r o (conc P m) = some (conc P' m) ∧ FT P' ∧ (∀ i, i < 4 → P' (r + 2 + 2 * i) = P (o + 2 + 2 * i)) ∧ (∀ x, (∀ i, i < 4 → x ≠ r + 2 + 2 * i) → P' x = P x) := by
  obtain ⟨P', g1, g2, g3, g4⟩ := rcopy_l hN ro oo hd 4 N 0 P rfl (by omega) w hs
  exact ⟨P', g1, g2, fun i h => g3 i (by omega) h, fun x h => g4 x (fun i _ h2 => h i h2)⟩
theorem lower_l {N r o len lo qa : Nat} {cI : Int32} {m : Hp} (hN : 1000 ≤ N) (ro : RO m r len) (oo : RO m o lo) (hd : r + 10 ≤ o ∨ o + 10 ≤ r) (hq : pl qa ≠ 0) (hqr : ∀ i, i < 4 → qa ≠ r + 2 + 2 * i) : ∀ (k n j : Nat) (P : Nat → Po), j + k = 4 → k < n → FT P → (∀ i, j ≤ i → i < 4 → sz (P qa) + sz (P (o + 2 + 2 * i)) - 1 ≤ len) → (sz (P qa) ≤ len) → ∃ P', lX6_lowerBy_21 N r o cI qa n (nI j) (conc P m) (fun _ h2 => some h2) = some (conc P' m) ∧ FT P' ∧ (∀ i, j ≤ i → i < 4 → P' (r + 2 + 2 * i) = pAdd (P (r + 2 + 2 * i)) (pNeg (pMul (P qa) (P (o + 2 + 2 * i))))) ∧ (∀ x, (∀ i, j ≤ i → i < 4 → x ≠ r + 2 + 2 * i) → P' x = P x)
  | k, 0, j, P, _, hn, _, _, _ => absurd hn (Nat.not_lt_zero _)
  | 0, n + 1, j, P, hk, hn, w, hs, hs2 => by
    refine ⟨P, ?_, w, fun i h1 h2 => by omega, fun _ _ => rfl⟩
    rw [lX6_lowerBy_21]
    show (if nI 4 ≤ nI j then _ else _) = _
    rw [if_pos ((le_n (by omega) (by omega)).mpr (by omega))]
  | k + 1, n + 1, j, P, hk, hn, w, hs, hs2 => by
    have hp := ro.n (j := j) (by omega)
    have pp := ro.p (j := j) (by omega)
    have c := addProduct_c hN (m := m) w hp hq (oo.n (j := j) (by omega)) (Ne.symm (hqr j (by omega))) (by omega) (32002 : Fp) (by rw [pp]; exact hs j (Nat.le_refl _) (by omega)) (by rw [pp]; exact hs2)
    have e : pAdd (P (r + 2 + 2 * j)) (pMul (pC 32002) (pMul (P qa) (P (o + 2 + 2 * j)))) = pAdd (P (r + 2 + 2 * j)) (pNeg (pMul (P qa) (P (o + 2 + 2 * j)))) := by
      have e1 : pC 32002 = pNeg (pC 1) := po_ext (fun j => by
        rw [co_neg, co_C, co_C]
        split
        · decide
        · decide)
      rw [e1]
      letI := pr
      simp only [hA, hM, hG, h1]
      grind
    rw [e] at c
    obtain ⟨P', g1, g2, g3, g4⟩ := lower_l (cI := cI) hN ro oo hd hq hqr k n (j + 1) _ (by omega) (by omega) (w.st c.2) (fun i h1 h2 => by rw [st_ne _ _ (hqr j (by omega)), st_ne _ _ (by omega)]; exact hs i (by omega) h2) (by rw [st_ne _ _ (hqr j (by omega))]; exact hs2)
    refine ⟨P', ?_, g2, fun i h1 h2 => ?_, fun x hx => ?_⟩
    · rw [lX6_lowerBy_21]
      show (if nI 4 ≤ nI j then _ else _) = _
      rw [if_neg (fun z => by have := (le_n (by omega) (by omega)).mp z; omega)]
      simp only [ro.g, oo.g, Option.bind_some, ro.a _ (show j < 4 by omega), oo.a _ (show j < 4 by omega), po_ck hp]
      show (fX4_addProduct N (r + 2 + 2 * j) (nI (32002 : Fp).val) qa (o + 2 + 2 * j) (conc P m)).bind _ = _
      rw [c.1]
      show lX6_lowerBy_21 N r o cI qa n (nI j + 1) _ _ = _
      rw [nI_1]
      exact g1
    · by_cases q : i = j
      · rw [q, g4 _ (fun i h1 h2 => by omega), st_same]
      · rw [g3 i (by omega) h2, st_ne _ _ (by omega), st_ne _ _ (hqr j (by omega)), st_ne _ _ (by omega)]
    · rw [g4 x (fun i h1 h2 => hx i (by omega) h2), st_ne _ _ (hx j (Nat.le_refl _) (by omega))]
/-- lowerBy: the other row so often taken off that the column's remainder stays -/
theorem lower_c {N : Nat} (hN : 1000 ≤ N) {P : Nat → Po} {m : Hp} (w : FT P) {r o len lo qa c : Nat} (ro : RO m r len) (oo : RO m o lo) (hd : r + 10 ≤ o ∨ o + 10 ≤ r) (hq : pl qa = len) (hqr : ∀ i, i < 4 → qa ≠ r + 2 + 2 * i) (hqo : ∀ i, i < 4 → qa ≠ o + 2 + 2 * i) (hc : c < 4) (h0 : sz (P (o + 2 + 2 * c)) ≠ 0) (hs : ∀ i, c < i → i < 4 → sz (pdv (P (r + 2 + 2 * c)) (P (o + 2 + 2 * c))) + sz (P (o + 2 + 2 * i)) - 1 ≤ len) : ∃ P', fX6_lowerBy N r o (nI c) qa (conc P m) = some (conc P' m) ∧ FT P' ∧ P' (r + 2 + 2 * c) = pmd (P (r + 2 + 2 * c)) (P (o + 2 + 2 * c)) ∧ (∀ i, c < i → i < 4 → P' (r + 2 + 2 * i) = pAdd (P (r + 2 + 2 * i)) (pNeg (pMul (pdv (P (r + 2 + 2 * c)) (P (o + 2 + 2 * c))) (P (o + 2 + 2 * i))))) ∧ (∀ x, x ≠ qa → (∀ i, c ≤ i → i < 4 → x ≠ r + 2 + 2 * i) → P' x = P x) := by
  have hlen := ro.2.2.2.2.1
  have hp := ro.n hc
  have pp := ro.p hc
  have sr := w _ hp
  have d := divideBy_c hN (m := m) w (a := r + 2 + 2 * c) (b := o + 2 + 2 * c) (q := qa) hp (oo.n hc) (by omega) (by omega) (Ne.symm (hqr c hc)) (hqo c hc) (fun _ => by omega)
  have w1 := (w.st d.2.1).st d.2.2
  have eq : st (st P qa (pdv (P (r + 2 + 2 * c)) (P (o + 2 + 2 * c)))) (r + 2 + 2 * c) (pmd (P (r + 2 + 2 * c)) (P (o + 2 + 2 * c))) qa = pdv (P (r + 2 + 2 * c)) (P (o + 2 + 2 * c)) := by
    rw [st_ne _ _ (hqr c hc), st_same]
  have eo : ∀ i, i < 4 → st (st P qa (pdv (P (r + 2 + 2 * c)) (P (o + 2 + 2 * c)))) (r + 2 + 2 * c) (pmd (P (r + 2 + 2 * c)) (P (o + 2 + 2 * c))) (o + 2 + 2 * i) = P (o + 2 + 2 * i) := fun i hi => by
    rw [st_ne _ _ (by omega), st_ne _ _ (Ne.symm (hqo i hi))]
  obtain ⟨P', g1, g2, g3, g4⟩ := lower_l (N := N) (cI := nI c) hN ro oo hd (by omega) hqr (4 - (c + 1)) N (c + 1) _ (by omega) (by omega) w1 (fun i h1 h2 => by rw [eq, eo i h2]; exact hs i (by omega) h2) (by rw [eq]; omega)
  refine ⟨P', ?_, g2, ?_, fun i h1 h2 => ?_, fun x h1 h2 => ?_⟩
  · unfold fX6_lowerBy
    simp only [ro.g, oo.g, Option.bind_some, ro.a _ hc, oo.a _ hc, po_ck hp, d.1]
    show lX6_lowerBy_21 N r o (nI c) qa N (nI c + 1) _ _ = _
    rw [nI_1]
    exact g1
  · rw [g4 _ (fun i h1 h2 => by omega), st_same]
  · rw [g3 i (by omega) h2, eq, eo i h2, st_ne _ _ (by omega), st_ne _ _ (Ne.symm (hqr i h2))]
  · rw [g4 x (fun i h3 h4 => h2 i (by omega) h4), st_ne _ _ (h2 c (Nat.le_refl _) hc), st_ne _ _ h1]
theorem monicAt_l {N r len pa : Nat} {cI : Int32} {m : Hp} {k0 : Fp} (hk0 : k0 ≠ 0) (hN : 1000 ≤ N) (ro : RO m r len) : ∀ (k n j : Nat) (P : Nat → Po), j + k = 4 → k < n → FT P → ∃ P', lX6_makeMonicAt_22 N r cI pa (nI k0.val) n (nI j) (conc P m) (fun _ h2 => some h2) = some (conc P' m) ∧ FT P' ∧ (∀ i, j ≤ i → i < 4 → P' (r + 2 + 2 * i) = pMul (pC k0) (P (r + 2 + 2 * i))) ∧ (∀ x, (∀ i, j ≤ i → i < 4 → x ≠ r + 2 + 2 * i) → P' x = P x)
  | k, 0, j, P, _, hn, _ => absurd hn (Nat.not_lt_zero _)
  | 0, n + 1, j, P, hk, hn, w => by
    refine ⟨P, ?_, w, fun i h1 h2 => by omega, fun _ _ => rfl⟩
    rw [lX6_makeMonicAt_22]
    show (if nI 4 ≤ nI j then _ else _) = _
    rw [if_pos ((le_n (by omega) (by omega)).mpr (by omega))]
  | k + 1, n + 1, j, P, hk, hn, w => by
    have hp := ro.n (j := j) (by omega)
    have c := mult_c hN (m := m) w hp hk0
    have hs : sz (pMul (pC k0) (P (r + 2 + 2 * j))) ≤ pl (r + 2 + 2 * j) := sz_le (fun i hi => by rw [co_Cmul, sz_hi (p := P (r + 2 + 2 * j)) (by have := w _ hp; omega)]; grind)
    obtain ⟨P', g1, g2, g3, g4⟩ := monicAt_l (pa := pa) (cI := cI) hk0 hN ro k n (j + 1) _ (by omega) (by omega) (w.st hs)
    refine ⟨P', ?_, g2, fun i h1 h2 => ?_, fun x hx => ?_⟩
    · rw [lX6_makeMonicAt_22]
      show (if nI 4 ≤ nI j then _ else _) = _
      rw [if_neg (fun z => by have := (le_n (by omega) (by omega)).mp z; omega)]
      simp only [ro.g, Option.bind_some, ro.a _ (show j < 4 by omega), po_ck hp, c]
      show lX6_makeMonicAt_22 N r cI pa (nI k0.val) n (nI j + 1) _ _ = _
      rw [nI_1]
      exact g1
    · by_cases q : i = j
      · rw [q, g4 _ (fun i h1 h2 => by omega), st_same]
      · rw [g3 i (by omega) h2, st_ne _ _ (by omega)]
    · rw [g4 x (fun i h1 h2 => hx i (by omega) h2), st_ne _ _ (hx j (Nat.le_refl _) (by omega))]
theorem cfp_n (p : Po) {j : Nat} (hj : j < 2 ^ 31) : cfp p (nI j) = nI (vl p j) := by
  unfold cfp
  rw [if_neg (nI_pos hj), nI_clamp hj]
/-- makeMonicAt, where the pivot isn't 0 -/
theorem monicAt_c {N : Nat} (hN : 1000 ≤ N) {P : Nat → Po} {m : Hp} (w : FT P) {r len c : Nat} (ro : RO m r len) (hc : c < 4) (h0 : sz (P (r + 2 + 2 * c)) ≠ 0) : ∃ P', fX6_makeMonicAt N r (nI c) (conc P m) = some (conc P' m) ∧ FT P' ∧ (∀ i, c ≤ i → i < 4 → P' (r + 2 + 2 * i) = pMul (pC (finv (lead (P (r + 2 + 2 * c))))) (P (r + 2 + 2 * i))) ∧ (∀ x, (∀ i, c ≤ i → i < 4 → x ≠ r + 2 + 2 * i) → P' x = P x) := by
  have hp := ro.n hc
  have sr := w _ hp
  have sl := pl_lt (r + 2 + 2 * c)
  obtain ⟨P', g1, g2, g3, g4⟩ := monicAt_l (N := N) (cI := nI c) (pa := r + 2 + 2 * c) (finv_ne (lead_ne h0)) hN ro (4 - c) N c P (by omega) (by omega) w
  refine ⟨P', ?_, g2, g3, g4⟩
  unfold fX6_makeMonicAt
  simp only [ro.g, Option.bind_some, ro.a _ hc, po_ck hp, po_dg hp, numberAt_c w hp]
  rw [show dI (sz (P (r + 2 + 2 * c))) = nI (sz (P (r + 2 + 2 * c)) - 1) by rw [show sz (P (r + 2 + 2 * c)) = (sz (P (r + 2 + 2 * c)) - 1) + 1 by omega, dI_succ]; rfl, cfp_n _ (by omega), vl_lead h0, inverseOf_s hN (Fin.isLt _), ← finv_val]
  exact g1
