/-! the reference: the rows of the Hermite form, five of four polynomials with room for 256 powers -/
def MD (f : Nat → Int32) (W : Nat → Nat → Po) : Prop := ∀ r j, r < 5 → j < 4 → RP f (256 * (4 * r + j)) 256 (W r j) ∧ sz (W r j) ≤ 256
section RH
variable {N : Nat} {h0 : Hp} {cd rw cl : Int32}
theorem take_s (hN : 1000 ≤ N) {A : Nat → Nat → Int32} {W : Nat → Nat → Po} (hW : MD (A 8) W) {k r j : Nat} (hk : 10 ≤ k) (hk2 : k ≤ 13) (hr : r < 5) (hj : j < 4) : ∃ f, fX8_take N 645 (643 + k) (nI r) (nI j) (rfh h0 cd rw cl A) = some (rfh h0 cd rw cl (ua A k f)) ∧ PP f (W r j) := by
  refine ⟨wr (A k) 0 256 (fun t => A 8 (256 * (4 * r + j) + t)), ?_, fun t ht => ?_, (hW r j hr hj).2⟩
  · unfold fX8_take
    show lX8_take_3 N 645 (643 + k) (nI r) (nI j) N (nI 0) (rfh h0 cd rw cl A) _ = _
    rw [take_l hk hk2 hr hj (V := fun t => A 8 (256 * (4 * r + j) + t)) 256 N 0 A rfl (by omega) (fun _ _ => rfl)]
  · rw [wr_in ⟨Nat.zero_le _, ht⟩]
    exact (hW r j hr hj).1 t ht
theorem isNone_s (hN : 1000 ≤ N) {A : Nat → Nat → Int32} {W : Nat → Nat → Po} (hW : MD (A 8) W) {r j : Nat} (hr : r < 5) (hj : j < 4) : ∃ f, fX8_isNone N 645 (nI r) (nI j) (rfh h0 cd rw cl A) = some (if sz (W r j) = 0 then 1 else 0, rfh h0 cd rw cl (ua A 11 f)) ∧ PP f (W r j) := by
  obtain ⟨f, g1, g2⟩ := take_s (N := N) (h0 := h0) (cd := cd) (rw := rw) (cl := cl) hN hW (k := 11) (by omega) (by omega) hr hj
  have hs := g2.2
  refine ⟨f, ?_, g2⟩
  unfold fX8_isNone
  rw [rg_11, Option.bind_some, rf_ck, Option.bind_some]
  show (fX8_take N 645 (643 + 11) (nI r) (nI j) (rfh h0 cd rw cl A)).bind _ = _
  rw [g1, Option.bind_some, rg_11, Option.bind_some]
  show (fX8_high N (643 + 11) (rfh h0 cd rw cl (ua A 11 f))).bind _ = _
  rw [high_s hN (k := 11) (by omega) (by omega) (p := W r j) (by rw [ua_s]; exact g2), Option.bind_some]
  unfold jn
  dsimp only
  by_cases q : sz (W r j) = 0
  · rw [q, if_neg (by decide), if_pos (Or.inr rfl), if_pos rfl]
  · rw [show dI (sz (W r j)) = nI (sz (W r j) - 1) by rw [show sz (W r j) = (sz (W r j) - 1) + 1 by omega, dI_succ]; rfl, if_pos (nI_pos' (by omega)), if_pos (Or.inl rfl), if_neg q]
theorem toff_in {r s n4 j to fr x : Nat} (hto : to + 256 ≤ 5120) (hfr : fr + 256 ≤ 5120) (hd : fr + 256 ≤ to ∨ to + 256 ≤ fr) (hx : x ≤ 256) {q R : Po} {v : Fp} (hv : v ≠ 0) : ∀ (d n k : Nat) (A : Nat → Nat → Int32), k + d + x = 256 → d < n → RP (A 8) fr 256 R → RP (A 8) to 256 (pAdd q (pNeg (pMul (mono v x) (tr R k)))) → ∃ f', (∀ κ, lX8_takeOff_63 N 645 (nI r) (nI s) (dI n4) (nI j) (nI to) (nI fr) (nI x) (lN v.val) n (nI k) (rfh h0 cd rw cl A) κ = κ (nI (256 - x)) (rfh h0 cd rw cl (ua A 8 f'))) ∧ RP f' to 256 (pAdd q (pNeg (pMul (mono v x) (tr R (256 - x))))) ∧ (∀ y, y < to ∨ to + 256 ≤ y → f' y = A 8 y)
  | d, 0, k, A, _, hn, _, _ => absurd hn (Nat.not_lt_zero _)
  | 0, n + 1, k, A, hk, hn, hR, hq => by
    have e : k = 256 - x := by omega
    subst e
    refine ⟨A 8, fun κ => ?_, hq, fun _ _ => rfl⟩
    rw [lX8_takeOff_63, ua_id, nI_add]
    show (if nI 256 ≤ nI (256 - x + x) then _ else _) = _
    rw [if_pos ((le_n (by omega) (by omega)).mpr (by omega))]
  | d + 1, n + 1, k, A, hk, hn, hR, hq => by
    have hvv := v.isLt
    have hv0 : v.val ≠ 0 := fun z => hv (Fin.ext z)
    have c1 : A 8 (to + (k + x)) = nI (co q (k + x)).val := by
      rw [hq (k + x) (by omega)]
      unfold vl
      rw [co_add, co_neg, co_monom, if_pos (by omega), co_tr, if_neg (by omega)]
      congr 2
      grind
    have c2 : A 8 (fr + k) = nI (co R k).val := hR k (by omega)
    have tstep : ∀ t, (t ≠ k + x → co (pAdd q (pNeg (pMul (mono v x) (tr R k)))) t = co (pAdd q (pNeg (pMul (mono v x) (tr R (k + 1))))) t) := fun t z => by
      rw [co_add, co_add, co_neg, co_neg, co_monom, co_monom]
      by_cases z2 : x ≤ t
      · rw [if_pos z2, if_pos z2, co_tr, co_tr]
        by_cases z3 : t - x < k
        · rw [if_pos z3, if_pos (by omega)]
        · rw [if_neg z3, if_neg (by omega)]
      · rw [if_neg z2, if_neg z2]
    have tat : co (pAdd q (pNeg (pMul (mono v x) (tr R (k + 1))))) (k + x) = co q (k + x) + - (v * co R k) := by
      rw [co_add, co_neg, co_monom, if_pos (by omega), co_tr, show k + x - x = k by omega, if_pos (by omega)]
    have pre : ∀ κ, lX8_takeOff_63 N 645 (nI r) (nI s) (dI n4) (nI j) (nI to) (nI fr) (nI x) (lN v.val) (n + 1) (nI k) (rfh h0 cd rw cl A) κ = (if nI (co R k).val = 0 then lX8_takeOff_63 N 645 (nI r) (nI s) (dI n4) (nI j) (nI to) (nI fr) (nI x) (lN v.val) n (nI (k + 1)) (rfh h0 cd rw cl A) κ else lX8_takeOff_63 N 645 (nI r) (nI s) (dI n4) (nI j) (nI to) (nI fr) (nI x) (lN v.val) n (nI (k + 1)) (rfh h0 cd rw cl (ua A 8 (upd (A 8) (to + (k + x)) (nI (co q (k + x) + - (v * co R k)).val)))) κ) := fun κ => by
      rw [lX8_takeOff_63, nI_add, nI_add, nI_add, nI_add, show to + k + x = to + (k + x) by omega]
      show (if nI 256 ≤ nI (k + x) then _ else _) = _
      rw [if_neg (fun z => by have := (le_n (by omega) (by omega)).mp z; omega), if_neg (fun z => by
        rw [lg_cmp_le] at z
        have := (pk_lLE (b := 0) (by omega) (by omega)).mp z
        omega), rg_8, Option.bind_some, ra_8 (by omega), Option.bind_some, c2]
      unfold jn nm
      dsimp only
      rw [nI_1]
      congr 1
      rw [Option.bind_some, Option.bind_some, ra_8 (by omega), Option.bind_some, Option.bind_some, ra_8 (by omega), Option.bind_some, c1, c2, msub8, Option.bind_some]
      dsimp only
      rw [rs_8 (by omega), Option.bind_some]
    by_cases q0 : co R k = 0
    · obtain ⟨f', g1, g2, g3⟩ := toff_in (r := r) (s := s) (n4 := n4) (j := j) hto hfr hd hx (q := q) (R := R) hv d n (k + 1) A (by omega) (by omega) hR (fun t ht => by
        rw [hq t ht]
        unfold vl
        by_cases z : t = k + x
        · rw [z, tat, q0, co_add, co_neg, co_monom, if_pos (by omega), co_tr, if_neg (by omega)]
        · rw [tstep t z])
      refine ⟨f', fun κ => ?_, g2, g3⟩
      rw [pre, q0, if_pos (show nI (0 : Fp).val = 0 from rfl)]
      exact g1 κ
    · obtain ⟨f', g1, g2, g3⟩ := toff_in (r := r) (s := s) (n4 := n4) (j := j) hto hfr hd hx (q := q) (R := R) hv d n (k + 1) (ua A 8 (upd (A 8) (to + (k + x)) (nI (co q (k + x) + - (v * co R k)).val))) (by omega) (by omega) (by
        rw [ua_s]
        refine hR.ext (fun t ht => ?_)
        unfold upd
        rw [if_neg (by omega)]) (by
        rw [ua_s]
        intro t ht
        unfold upd vl
        by_cases z : t = k + x
        · rw [if_pos (by omega), z, tat]
        · rw [if_neg (by omega), hq t ht]
          unfold vl
          rw [tstep t z])
      have hcv : (co R k).val ≠ 0 := fun z => q0 (Fin.ext z)
      have hcl := (co R k).isLt
      refine ⟨f', fun κ => ?_, g2, fun y hy => ?_⟩
      · rw [pre, if_neg (nI_ne0 (by omega) (by omega))]
        have := g1 κ
        rw [ua_ua] at this
        exact this
      · rw [g3 y hy, ua_s]
        unfold upd
        rw [if_neg (by omega)]
theorem toff_mid (hN : 1000 ≤ N) {r s j to fr : Nat} (hto : to + 256 ≤ 5120) (hfr : fr + 256 ≤ 5120) (hd : fr + 256 ≤ to ∨ to + 256 ≤ fr) {q R c : Po} (hc256 : sz c ≤ 256) (hfit : sz c + sz R ≤ 257) : ∀ (d n x : Nat) (A : Nat → Nat → Int32), x + d = sz c → d < n → PP (A 12) c → RP (A 8) fr 256 R → RP (A 8) to 256 (pAdd q (pNeg (pMul (tr c x) R))) → ∃ f', (∀ κ, lX8_takeOff_44 N 645 (nI r) (nI s) (dI (sz c)) (nI j) (nI to) (nI fr) n (nI x) (rfh h0 cd rw cl A) κ = κ (nI (sz c)) (rfh h0 cd rw cl (ua A 8 f'))) ∧ RP f' to 256 (pAdd q (pNeg (pMul c R))) ∧ (∀ y, y < to ∨ to + 256 ≤ y → f' y = A 8 y)
  | d, 0, x, A, _, hn, _, _, _ => absurd hn (Nat.not_lt_zero _)
  | 0, n + 1, x, A, hk, hn, hC, hR, hq => by
    have e : x = sz c := by omega
    subst e
    refine ⟨A 8, fun κ => ?_, by rw [tr_all (Nat.le_refl _)] at hq; exact hq, fun _ _ => rfl⟩
    rw [lX8_takeOff_44, ua_id, if_pos ((dI_lt_nI (by omega) (by omega)).mpr (Nat.le_refl _))]
  | d + 1, n + 1, x, A, hk, hn, hC, hR, hq => by
    obtain ⟨v, hv⟩ : ∃ v, v = co c x := ⟨_, rfl⟩
    have key : pAdd q (pNeg (pMul (tr c (x + 1)) R)) = pAdd (pAdd q (pNeg (pMul (tr c x) R))) (pNeg (pMul (mono v x) R)) := by
      rw [tr_succ, ← hv]
      letI := pr
      simp only [hA, hM, hG]
      grind
    have step : ∃ f1 z, (∀ κ, lX8_takeOff_63 N 645 (nI r) (nI s) (dI (sz c)) (nI j) (nI to) (nI fr) (nI x) (lN v.val) N (nI 0) (rfh h0 cd rw cl A) κ = κ z (rfh h0 cd rw cl (ua A 8 f1))) ∧ RP f1 to 256 (pAdd q (pNeg (pMul (tr c (x + 1)) R))) ∧ (∀ y, y < to ∨ to + 256 ≤ y → f1 y = A 8 y) := by
      rw [key]
      by_cases z : v = 0
      · refine ⟨A 8, nI 0, fun κ => ?_, ?_, fun _ _ => rfl⟩
        · rw [show N = (N - 1) + 1 by omega, lX8_takeOff_63, ua_id, nI_add]
          show (if nI 256 ≤ nI (0 + x) then _ else _) = _
          rw [if_neg (fun y => by have := (le_n (by omega) (by omega)).mp y; omega), if_pos (by
            rw [lg_cmp_le, z]
            decide)]
        · have : pMul (mono v x) R = pC 0 := by
            rw [show mono v x = pC 0 from po_ext (fun j => by rw [co_mono, co_0, z, ite_self]), pZero_mul]
          rw [this]
          have e0 : pAdd (pAdd q (pNeg (pMul (tr c x) R))) (pNeg (pC 0)) = pAdd q (pNeg (pMul (tr c x) R)) := by
            letI := pr
            simp only [hA, hM, hG, hz0]
            grind
          rw [e0]
          exact hq
      · obtain ⟨f1, u1, u2, u3⟩ := toff_in (N := N) (h0 := h0) (cd := cd) (rw := rw) (cl := cl) (r := r) (s := s) (n4 := sz c) (j := j) (x := x) hto hfr hd (by omega) (q := pAdd q (pNeg (pMul (tr c x) R))) (R := R) z (256 - x) N 0 A (by omega) (by omega) hR (by
          rw [tr_0, pMul_comm (mono v x), pZero_mul]
          have e0 : pAdd (pAdd q (pNeg (pMul (tr c x) R))) (pNeg (pC 0)) = pAdd q (pNeg (pMul (tr c x) R)) := by
            letI := pr
            simp only [hA, hM, hG, hz0]
            grind
          rw [e0]
          exact hq)
        rw [tr_all (show sz R ≤ 256 - x by omega)] at u2
        exact ⟨f1, nI (256 - x), u1, u2, u3⟩
    obtain ⟨f1, z, u1, u2, u3⟩ := step
    obtain ⟨f', g1, g2, g3⟩ := toff_mid hN (r := r) (s := s) (j := j) hto hfr hd (q := q) (R := R) hc256 hfit d n (x + 1) (ua A 8 f1) (by omega) (by omega) (by rw [ua_n _ _ (by decide)]; exact hC) (by
      rw [ua_s]
      exact hR.ext (fun t ht => u3 _ (by omega))) (by rw [ua_s]; exact u2)
    refine ⟨f', fun κ => ?_, g2, fun y hy => by rw [g3 y hy, ua_s]; exact u3 y hy⟩
    rw [lX8_takeOff_44, if_neg (fun y => by have := (dI_lt_nI (by omega) (by omega)).mp y; omega), rg_12, Option.bind_some, ra_12 (by omega), Option.bind_some, hC.1 x (by omega), show vl c x = (co c x).val from rfl, ← hv, lV]
    unfold nm
    show lX8_takeOff_63 N 645 (nI r) (nI s) (dI (sz c)) (nI j) (nI to) (nI fr) (nI x) (lN v.val) N (nI 0) (rfh h0 cd rw cl A) _ = _
    rw [u1, nI_1]
    have w := g1 κ
    rw [ua_ua] at w
    exact w
theorem toff_out (hN : 1000 ≤ N) {r s : Nat} (hr : r < 5) (hs : s < 5) (hrs : r ≠ s) {c : Po} (hc256 : sz c ≤ 256) {W : Nat → Nat → Po} (hfit : ∀ j, j < 4 → sz c + sz (W s j) ≤ 257) : ∀ (d n j : Nat) (A : Nat → Nat → Int32), j + d = 4 → d < n → PP (A 12) c → (∀ j, j < 4 → RP (A 8) (256 * (4 * s + j)) 256 (W s j)) → (∀ j', j ≤ j' → j' < 4 → RP (A 8) (256 * (4 * r + j')) 256 (W r j')) → ∃ f', (∀ κ, lX8_takeOff_11 N 645 (nI r) (nI s) (dI (sz c)) n (nI j) (rfh h0 cd rw cl A) κ = κ (nI 4) (rfh h0 cd rw cl (ua A 8 f'))) ∧ (∀ j', j ≤ j' → j' < 4 → RP f' (256 * (4 * r + j')) 256 (pAdd (W r j') (pNeg (pMul c (W s j'))))) ∧ (∀ y, y < 256 * (4 * r + j) ∨ 1024 * r + 1024 ≤ y → f' y = A 8 y)
  | d, 0, j, A, _, hn, _, _, _ => absurd hn (Nat.not_lt_zero _)
  | 0, n + 1, j, A, hj, hn, hC, hS, hRr => by
    have e : j = 4 := by omega
    subst e
    refine ⟨A 8, fun κ => ?_, fun j' h1 h2 => by omega, fun _ _ => rfl⟩
    rw [lX8_takeOff_11, ua_id]
    show (if nI 4 ≤ nI 4 then _ else _) = _
    rw [if_pos (by decide)]
  | d + 1, n + 1, j, A, hj, hn, hC, hS, hRr => by
    obtain ⟨f1, u1, u2, u3⟩ := toff_mid (N := N) (h0 := h0) (cd := cd) (rw := rw) (cl := cl) hN (r := r) (s := s) (j := j) (to := 256 * (4 * r + j)) (fr := 256 * (4 * s + j)) (by omega) (by omega) (by omega) (q := W r j) (R := W s j) (c := c) hc256 (hfit j (by omega)) (sz c) N 0 A (by omega) (by omega) hC (hS j (by omega)) (by
      rw [tr_0, pZero_mul]
      have e0 : pAdd (W r j) (pNeg (pC 0)) = W r j := by
        letI := pr
        simp only [hA, hM, hG, hz0]
        grind
      rw [e0]
      exact hRr j (Nat.le_refl _) (by omega))
    obtain ⟨f', g1, g2, g3⟩ := toff_out hN hr hs hrs hc256 hfit d n (j + 1) (ua A 8 f1) (by omega) (by omega) (by rw [ua_n _ _ (by decide)]; exact hC) (fun j' hj' => by
      rw [ua_s]
      exact (hS j' hj').ext (fun t ht => u3 _ (by omega))) (fun j' h1 h2 => by
      rw [ua_s]
      exact (hRr j' (by omega) h2).ext (fun t ht => u3 _ (by omega)))
    rw [ua_s] at g3
    refine ⟨f', fun κ => ?_, fun j' h1 h2 => ?_, fun y hy => ?_⟩
    · rw [lX8_takeOff_11]
      show (if nI 4 ≤ nI j then _ else _) = _
      rw [if_neg (fun y => by have := (le_n (by omega) (by omega)).mp y; omega)]
      unfold nm
      show lX8_takeOff_44 N 645 (nI r) (nI s) (dI (sz c)) (nI j) (nI 256 * (nI 4 * nI r + nI j)) (nI 256 * (nI 4 * nI s + nI j)) N (nI 0) (rfh h0 cd rw cl A) _ = _
      rw [pk_mul, nI_add, pk_mul, pk_mul, nI_add, pk_mul, u1, nI_1]
      have w := g1 κ
      rw [ua_ua] at w
      exact w
    · by_cases z : j' = j
      · rw [z]
        exact u2.ext (fun t ht => g3 _ (by omega))
      · exact g2 j' (by omega) h2
    · rw [g3 y (by omega)]
      exact u3 y (by omega)
/-- takeOff: so often, as c tells, row s is taken off row r -/
theorem takeOff_s (hN : 1000 ≤ N) {A : Nat → Nat → Int32} {W : Nat → Nat → Po} (hW : MD (A 8) W) {r s : Nat} (hr : r < 5) (hs : s < 5) (hrs : r ≠ s) {c : Po} (hC : PP (A 12) c) (hfit : ∀ j, j < 4 → sz c + sz (W s j) ≤ 257) : ∃ f', fX8_takeOff N 645 (nI r) (nI s) (rfh h0 cd rw cl A) = some (rfh h0 cd rw cl (ua A 8 f')) ∧ MD f' (fun a j => if a = r then pAdd (W r j) (pNeg (pMul c (W s j))) else W a j) := by
  obtain ⟨f', g1, g2, g3⟩ := toff_out (N := N) (h0 := h0) (cd := cd) (rw := rw) (cl := cl) hN hr hs hrs hC.2 hfit 4 N 0 A rfl (by omega) hC (fun j hj => (hW s j hs hj).1) (fun j _ hj => (hW r j hr hj).1)
  refine ⟨f', ?_, fun a j ha hj => ?_⟩
  · unfold fX8_takeOff
    rw [rg_12, Option.bind_some]
    show (fX8_high N (643 + 12) (rfh h0 cd rw cl A)).bind _ = _
    rw [high_s hN (k := 12) (by omega) (by omega) hC, Option.bind_some]
    show lX8_takeOff_11 N 645 (nI r) (nI s) (dI (sz c)) N (nI 0) _ _ = _
    rw [g1]
  · by_cases q : a = r
    · subst q
      show RP f' (256 * (4 * a + j)) 256 (if a = a then _ else _) ∧ sz (if a = a then _ else _) ≤ 256
      rw [if_pos rfl]
      refine ⟨g2 j (by omega) hj, sz_add (hW a j ha hj).2 ?_⟩
      rw [sz_neg]
      have k1 := sz_mul_le c (W s j)
      have k2 := hfit j hj
      omega
    · show RP f' (256 * (4 * a + j)) 256 (if a = r then _ else _) ∧ sz (if a = r then _ else _) ≤ 256
      rw [if_neg q]
      exact ⟨(hW a j ha hj).1.ext (fun t ht => g3 _ (by omega)), (hW a j ha hj).2⟩
theorem xch_l {r s : Nat} (hr : r < 5) (hs : s < 5) (hrs : r ≠ s) {V W : Nat → Int32} : ∀ (d n z : Nat) (A : Nat → Nat → Int32), z + d = 1024 → d < n → (∀ t, z ≤ t → t < 1024 → A 8 (1024 * r + t) = V t ∧ A 8 (1024 * s + t) = W t) → ∃ f, (∀ κ, lX8_exchange_2 N 645 (nI r) (nI s) n (nI z) (rfh h0 cd rw cl A) κ = κ (nI 1024) (rfh h0 cd rw cl (ua A 8 f))) ∧ (∀ t, z ≤ t → t < 1024 → f (1024 * r + t) = W t ∧ f (1024 * s + t) = V t) ∧ (∀ y, ¬ (1024 * r + z ≤ y ∧ y < 1024 * r + 1024) → ¬ (1024 * s + z ≤ y ∧ y < 1024 * s + 1024) → f y = A 8 y)
  | d, 0, z, A, _, hn, _ => absurd hn (Nat.not_lt_zero _)
  | 0, n + 1, z, A, hz, hn, hV => by
    have e : z = 1024 := by omega
    subst e
    refine ⟨A 8, fun κ => ?_, fun t h1 h2 => by omega, fun _ _ _ => rfl⟩
    rw [lX8_exchange_2, ua_id]
    show (if nI 1024 ≤ nI 1024 then _ else _) = _
    rw [if_pos (by decide)]
  | d + 1, n + 1, z, A, hz, hn, hV => by
    have hVz := hV z (by omega) (by omega)
    obtain ⟨f, g1, g2, g3⟩ := xch_l hr hs hrs (V := V) (W := W) d n (z + 1) (ua (ua A 8 (upd (A 8) (1024 * r + z) (W z))) 8 (upd (upd (A 8) (1024 * r + z) (W z)) (1024 * s + z) (V z))) (by omega) (by omega) (fun t h1 h2 => by
      rw [ua_s]
      unfold upd
      rw [if_neg (by omega), if_neg (by omega), if_neg (by omega), if_neg (by omega)]
      exact hV t (by omega) h2)
    refine ⟨f, fun κ => ?_, fun t h1 h2 => ?_, fun y h1 h2 => ?_⟩
    · rw [lX8_exchange_2]
      show (if nI 1024 ≤ nI z then _ else _) = _
      rw [if_neg (fun y => by have := (le_n (by omega) (by omega)).mp y; omega), rg_8, Option.bind_some]
      show (aI (rfh h0 cd rw cl A) 651 (nI 1024 * nI r + nI z)).bind _ = _
      rw [pk_mul, nI_add, ra_8 (by omega), Option.bind_some, hVz.1, Option.bind_some, Option.bind_some]
      show (aI (rfh h0 cd rw cl A) 651 (nI 1024 * nI s + nI z)).bind _ = _
      rw [pk_mul, nI_add, ra_8 (by omega), Option.bind_some, hVz.2]
      show (aIs (rfh h0 cd rw cl A) 651 (nI 1024 * nI r + nI z) (W z)).bind _ = _
      rw [pk_mul, nI_add, rs_8 (by omega), Option.bind_some, rg_8, Option.bind_some]
      show (aIs (rfh h0 cd rw cl (ua A 8 (upd (A 8) (1024 * r + z) (W z)))) 651 (nI 1024 * nI s + nI z) (V z)).bind _ = _
      rw [pk_mul, nI_add, rs_8 (by omega), Option.bind_some, ua_s]
      unfold nm
      rw [nI_1]
      have w := g1 κ
      rw [ua_ua] at w ⊢
      rw [ua_ua] at w
      exact w
    · by_cases q : t = z
      · rw [q, g3 _ (by omega) (by omega), g3 _ (by omega) (by omega), ua_s]
        unfold upd
        rw [if_neg (by omega), if_pos rfl, if_pos rfl]
        exact ⟨rfl, rfl⟩
      · exact g2 t (by omega) h2
    · rw [g3 y (by omega) (by omega), ua_s]
      unfold upd
      rw [if_neg (by omega), if_neg (by omega)]
/-- exchange: two rows change places -/
theorem xch_s (hN : 33000 ≤ N) {A : Nat → Nat → Int32} {W : Nat → Nat → Po} (hW : MD (A 8) W) {r s : Nat} (hr : r < 5) (hs : s < 5) (hrs : r ≠ s) : ∃ f', fX8_exchange N 645 (nI r) (nI s) (rfh h0 cd rw cl A) = some (rfh h0 cd rw cl (ua A 8 f')) ∧ MD f' (fun a j => if a = r then W s j else if a = s then W r j else W a j) := by
  obtain ⟨f', g1, g2, g3⟩ := xch_l (N := N) (h0 := h0) (cd := cd) (rw := rw) (cl := cl) hr hs hrs (V := fun t => A 8 (1024 * r + t)) (W := fun t => A 8 (1024 * s + t)) 1024 N 0 A rfl (by omega) (fun _ _ _ => ⟨rfl, rfl⟩)
  refine ⟨f', ?_, fun a j ha hj => ?_⟩
  · unfold fX8_exchange
    show lX8_exchange_2 N 645 (nI r) (nI s) N (nI 0) _ _ = _
    rw [g1]
  · show RP f' (256 * (4 * a + j)) 256 (if a = r then W s j else if a = s then W r j else W a j) ∧ sz (if a = r then W s j else if a = s then W r j else W a j) ≤ 256
    by_cases q : a = r
    · rw [if_pos q]
      refine ⟨fun t ht => ?_, (hW s j hs hj).2⟩
      rw [q, show 256 * (4 * r + j) + t = 1024 * r + (256 * j + t) by omega, (g2 (256 * j + t) (by omega) (by omega)).1, ← (hW s j hs hj).1 t ht]
      congr 1
      omega
    · rw [if_neg q]
      by_cases q2 : a = s
      · rw [if_pos q2]
        refine ⟨fun t ht => ?_, (hW r j hr hj).2⟩
        rw [q2, show 256 * (4 * s + j) + t = 1024 * s + (256 * j + t) by omega, (g2 (256 * j + t) (by omega) (by omega)).2, ← (hW r j hr hj).1 t ht]
        congr 1
        omega
      · rw [if_neg q2]
        exact ⟨(hW a j ha hj).1.ext (fun t ht => g3 _ (by omega) (by omega)), (hW a j ha hj).2⟩
end RH
