section R8
variable {N : Nat} {h0 : Hp} {cd cl : Int32} {A : Nat → Nat → Int32}
theorem pw_lt : ∀ n, n < 5 → 2 ^ n - 1 < 16 ∧ bc (2 ^ n - 1) = n := by decide +kernel
theorem whole_s {R : Nat} (hR : R < 5) : fX8_whole N 645 (rfh h0 cd (nI R) cl A) = some (nI (13 * (16 * (2 ^ R - 1) + (2 ^ R - 1))), rfh h0 cd (nI R) cl A) := by
  unfold fX8_whole nm
  rw [rg_1, Option.bind_some, (ix4 R hR).1]
  show some (nI 13 * (nI 16 * nI (2 ^ R - 1) + nI (2 ^ R - 1)), _) = _
  rw [pk_mul, nI_add, pk_mul]
theorem inv22 {rw : Int32} {at' : Nat} {w : Po} (hat : at' + 13 ≤ 3328) (hw : RP (A 6) at' 13 w) : ∀ (d n k is : Nat), k + d = 13 → d < n → 1 ≤ k → is < 2 → (is = 1 ↔ co w 0 ≠ 0 ∧ ∀ t, 1 ≤ t → t < k → co w t = 0) → ∃ is', (∀ κ, lX8_makeInverse_22 N 645 (nI at') n (nI is) (nI k) (rfh h0 cd rw cl A) κ = κ (nI is') (nI 13) (rfh h0 cd rw cl A)) ∧ is' < 2 ∧ (is' = 1 ↔ co w 0 ≠ 0 ∧ ∀ t, 1 ≤ t → t < 13 → co w t = 0)
  | d, 0, k, is, _, hn, _, _, _ => absurd hn (Nat.not_lt_zero _)
  | 0, n + 1, k, is, hk, hn, hk1, hi, hz => by
    have e : k = 13 := by omega
    subst e
    refine ⟨is, fun κ => ?_, hi, hz⟩
    rw [lX8_makeInverse_22]
    show (if nI 13 ≤ nI 13 then _ else _) = _
    rw [if_pos (by decide)]
  | d + 1, n + 1, k, is, hk, hn, hk1, hi, hz => by
    have hvl := vl_lt w k
    have head : ∀ κ, lX8_makeInverse_22 N 645 (nI at') (n + 1) (nI is) (nI k) (rfh h0 cd rw cl A) κ = lX8_makeInverse_22 N 645 (nI at') n (nI (if is = 1 ∧ co w k = 0 then 1 else 0)) (nI (k + 1)) (rfh h0 cd rw cl A) κ := fun κ => by
      rw [lX8_makeInverse_22]
      show (if nI 13 ≤ nI k then _ else _) = _
      rw [if_neg (fun y => by have := (le_n (by omega) (by omega)).mp y; omega)]
      unfold jn nm
      dsimp only
      rw [nI_1]
      by_cases q : is = 1
      · rw [q, if_neg (show ¬ nI 1 = 0 by decide), rg_6, Option.bind_some, nI_add, ra_6 (by omega), Option.bind_some, hw k (by omega)]
        by_cases q2 : co w k = 0
        · rw [vl_0.mpr q2, if_pos (show nI 0 = 0 from rfl), if_pos ⟨rfl, q2⟩]
          rfl
        · have : vl w k ≠ 0 := fun z => q2 (vl_0.mp z)
          rw [if_neg (nI_ne0 (by omega) (by omega)), if_neg (fun z => q2 z.2)]
          rfl
      · rw [show is = 0 by omega, if_pos (show nI 0 = 0 from rfl), if_neg (by omega)]
        rfl
    obtain ⟨is', g1, g2, g3⟩ := inv22 hat hw d n (k + 1) (if is = 1 ∧ co w k = 0 then 1 else 0) (by omega) (by omega) (by omega) (by split <;> omega) (by
      by_cases q : is = 1 ∧ co w k = 0
      · rw [if_pos q]
        have := hz.mp q.1
        exact ⟨fun _ => ⟨this.1, fun t h1 h2 => by
          by_cases z : t = k
          · rw [z]; exact q.2
          · exact this.2 t h1 (by omega)⟩, fun _ => rfl⟩
      · rw [if_neg q]
        refine ⟨fun z => absurd z (by decide), fun h => absurd ⟨hz.mpr ⟨h.1, fun t h1 h2 => h.2 t h1 (by omega)⟩, ?_⟩ q⟩
        exact h.2 k hk1 (by omega))
    exact ⟨is', fun κ => by rw [head]; exact g1 κ, g2, g3⟩
theorem sz_1 {w : Po} (h : sz w ≤ 13) : (co w 0 ≠ 0 ∧ ∀ t, 1 ≤ t → t < 13 → co w t = 0) ↔ sz w = 1 := by
  constructor
  · intro ⟨h1, h2⟩
    refine sz_eq (fun j hj => ?_) (fun _ => h1)
    by_cases q : j < 13
    · exact h2 j hj q
    · exact sz_hi (by omega)
  · intro e
    refine ⟨?_, fun t h1 _ => sz_hi (by omega)⟩
    have := sz_top (p := w) (by omega)
    rw [e] at this
    exact this
/-- makeInverse of the reference -/
theorem inverse_r (hN : 1000 ≤ N) {E : Nat → Nat → Po} (hE : ∀ i j, sz (E i j) ≤ 4) {R : Nat} (hR : R < 5) (hM : MF E (A 6)) : (sz (mi E (2 ^ R - 1) (2 ^ R - 1)) ≠ 1 → fX8_makeInverse N 645 (rfh h0 cd (nI R) cl A) = some (0, rfh h0 cd (nI R) cl A)) ∧ (sz (mi E (2 ^ R - 1) (2 ^ R - 1)) = 1 → ∃ A', fX8_makeInverse N 645 (rfh h0 cd (nI R) cl A) = some (1, rfh h0 cd (nI R) cl A') ∧ (∀ k, k ≠ 5 → k ≠ 10 → A' k = A k) ∧ (∀ i j, i < R → j < R → FMp (A' 5) 2 i j (ivE E R i j)) ∧ (∀ y, (∀ i j, i < R → j < R → ¬ (40 * (16 * 2 + 4 * i + j) ≤ y ∧ y < 40 * (16 * 2 + 4 * i + j) + 40)) → A' 5 y = A 5 y)) := by
  have p := pw_lt R hR
  obtain ⟨w, hw⟩ : ∃ w, w = mi E (2 ^ R - 1) (2 ^ R - 1) := ⟨_, rfl⟩
  obtain ⟨at', hat⟩ : ∃ a, a = 13 * (16 * (2 ^ R - 1) + (2 ^ R - 1)) := ⟨_, rfl⟩
  have hRP : RP (A 6) at' 13 w := by rw [hat, hw]; exact hM _ _ p.1 p.1 rfl
  have hws : sz w ≤ 13 := by rw [hw]; exact mi_sz hE p.1
  have hab : at' + 13 ≤ 3328 := by
    have := p.1
    rw [hat]
    generalize 2 ^ R - 1 = u at this
    omega
  have v0 := vl_lt w 0
  have hsz := sz_1 hws
  obtain ⟨is, g1, g2, g3⟩ := inv22 (N := N) (h0 := h0) (cd := cd) (cl := cl) (rw := nI R) hab hRP 12 N 1 (if co w 0 = 0 then 0 else 1) rfl (by omega) (by omega) (by split <;> omega) (by
    by_cases q : co w 0 = 0
    · rw [if_pos q]
      exact ⟨fun z => absurd z (by decide), fun h => absurd q h.1⟩
    · rw [if_neg q]
      exact ⟨fun _ => ⟨q, fun t h1 h2 => by omega⟩, fun _ => rfl⟩)
  rw [hsz] at g3
  have ra0 : aI (rfh h0 cd (nI R) cl A) 649 (nI at') = some (nI (co w 0).val) := by
    rw [ra_6 (by omega)]
    exact congrArg some (hRP 0 (by omega))
  have head : fX8_makeInverse N 645 (rfh h0 cd (nI R) cl A) = (if nI is = 0 then some ((0 : Int32), rfh h0 cd (nI R) cl A) else lX8_makeInverse_85 N 645 (nI at') (nI is) (lN (finv (co w 0)).val) (nI (2 ^ R - 1)) N (0 : Int32) (rfh h0 cd (nI R) cl A) (fun _ h21 => some ((1 : Int32), h21))) := by
    unfold fX8_makeInverse
    rw [rf_ck, Option.bind_some, whole_s hR, Option.bind_some, ← hat]
    dsimp only
    rw [rg_6, Option.bind_some, ra0, Option.bind_some]
    have tl : lX8_makeInverse_22 N 645 (nI at') N (nI (if co w 0 = 0 then 0 else 1)) (nI 1) (rfh h0 cd (nI R) cl A) (fun y9 y10 h11 => if y9 = 0 then some ((0 : Int32), h11) else (gR h11 645 10 6).bind fun v13 => (aI h11 v13 (nI at')).bind fun v14 => (fX8_inverse N v14 h11).bind fun (v15, h16) => nm (v15.toInt64) fun x17 => (gI h16 645 10 1).bind fun v18 => nm (((1 : Int32) <<< (v18 &&& 31)) - (1 : Int32)) fun x19 => lX8_makeInverse_85 N 645 (nI at') y9 x17 x19 N (0 : Int32) h16 (fun y20 h21 => some ((1 : Int32), h21))) = (if nI is = 0 then some ((0 : Int32), rfh h0 cd (nI R) cl A) else lX8_makeInverse_85 N 645 (nI at') (nI is) (lN (finv (co w 0)).val) (nI (2 ^ R - 1)) N (0 : Int32) (rfh h0 cd (nI R) cl A) (fun _ h21 => some ((1 : Int32), h21))) := by
      rw [g1]
      congr 1
      rw [rg_6, Option.bind_some, ra0, Option.bind_some, inverse_s hN, Option.bind_some]
      unfold nm
      dsimp only
      rw [lV, rg_1, Option.bind_some, (ix4 R hR).1]
    unfold jn
    dsimp only
    by_cases q : co w 0 = 0
    · rw [if_pos q] at tl
      rw [if_pos (show nI (co w 0).val = 0 by rw [q]; rfl)]
      rw [← tl]
      rfl
    · rw [if_neg q] at tl
      have : (co w 0).val ≠ 0 := fun z => q (Fin.ext z)
      rw [if_neg (nI_ne0 (by omega) (by have := (co w 0).isLt; omega))]
      rw [← tl]
      rfl
  refine ⟨fun hne => ?_, fun he => ?_⟩
  · rw [← hw] at hne
    have : is = 0 := by
      have : is ≠ 1 := fun z => hne (g3.mp z)
      omega
    rw [head, this, if_pos (show nI 0 = 0 from rfl)]
  · rw [← hw] at he
    obtain ⟨A', k1, k2, k3, k4⟩ := inv85 (N := N) (h0 := h0) (cd := cd) (cl := cl) hN hE (b1 := nI at') (b2 := nI is) hR (b := finv (co w 0)) (by rw [hw]) R N 0 A (by omega) (by omega) hM
    refine ⟨A', ?_, k2, fun i j hi hj => k3 i j (by omega) hi hj, fun y hy => k4 y (fun i j _ h2 h3 => hy i j h2 h3)⟩
    rw [head, g3.mpr he, if_neg (show ¬ nI 1 = 0 by decide)]
    rw [g3.mpr he] at k1
    show lX8_makeInverse_85 N 645 (nI at') (nI 1) (lN (finv (co w 0)).val) (nI (2 ^ R - 1)) N (nI 0) (rfh h0 cd (nI R) cl A) _ = _
    rw [k1]
end R8
