/-! the reference: minors -/
/-- a stretch of an array that holds a polynomial's coefficients -/
def RP (f : Nat → Int32) (base len : Nat) (p : Po) : Prop := ∀ t, t < len → f (base + t) = nI (vl p t)
theorem RP.ext {f g : Nat → Int32} {base len : Nat} {p : Po} (w : RP f base len p) (h : ∀ t, t < len → g (base + t) = f (base + t)) : RP g base len p := fun t ht => (h t ht).trans (w t ht)
theorem lV (v : Fp) : (nI v.val).toInt64 = lN v.val := nI_l (by have := v.isLt; omega)
theorem mad8 {N : Nat} (a v b : Fp) (h : Hp) : fX8_modulo N ((nI a.val).toInt64 + lN v.val * (nI b.val).toInt64) h = some (nI (a + v * b).val, h) := by
  have h1 := a.isLt
  have h2 := Nat.mul_lt_mul'' v.isLt b.isLt
  rw [lV, lV, lN_mul, lN_add, mod_s, pk_lT (by omega)]
  congr 3
  rw [Int.natCast_add, Int.natCast_mul, fZ_add, fZ_mul, fZ_val, fZ_val, fZ_val]
theorem minor_in {N r s i rest to fr x : Nat} {lI jI : Int32} {h0 : Hp} {cd rw cl : Int32} (hto : to + 13 ≤ 3328) (hfr : fr + 13 ≤ 3328) (hd : fr + 13 ≤ to ∨ to + 13 ≤ fr) (hx : x ≤ 13) {q R : Po} {v : Fp} (hv : v ≠ 0) : ∀ (d n k : Nat) (A : Nat → Nat → Int32), k + d + x = 13 → d < n → RP (A 6) fr 13 R → RP (A 6) to 13 (pAdd q (pMul (mono v x) (tr R k))) → ∃ f', (∀ κ, lX8_findMinor_124 N 645 (nI r) (nI s) (nI i) (nI rest) (nI to) lI jI (nI fr) (nI x) (lN v.val) n (nI k) (rfh h0 cd rw cl A) κ = κ (nI (13 - x)) (rfh h0 cd rw cl (ua A 6 f'))) ∧ RP f' to 13 (pAdd q (pMul (mono v x) (tr R (13 - x)))) ∧ (∀ y, y < to ∨ to + 13 ≤ y → f' y = A 6 y)
  | d, 0, k, A, _, hn, _, _ => absurd hn (Nat.not_lt_zero _)
  | 0, n + 1, k, A, hk, hn, hR, hq => by
    have e : k = 13 - x := by omega
    subst e
    refine ⟨A 6, fun κ => ?_, hq, fun _ _ => rfl⟩
    rw [lX8_findMinor_124, ua_id, nI_add]
    show (if nI 13 ≤ nI (13 - x + x) then _ else _) = _
    rw [if_pos ((le_n (by omega) (by omega)).mpr (by omega))]
  | d + 1, n + 1, k, A, hk, hn, hR, hq => by
    have hvv := v.isLt
    have hv0 : v.val ≠ 0 := fun z => hv (Fin.ext z)
    have c1 : A 6 (to + (k + x)) = nI (co q (k + x)).val := by
      rw [hq (k + x) (by omega)]
      unfold vl
      rw [co_add, co_monom, if_pos (by omega), co_tr, if_neg (by omega)]
      congr 2
      grind
    have c2 : A 6 (fr + k) = nI (co R k).val := hR k (by omega)
    have ih := minor_in (N := N) (r := r) (s := s) (i := i) (rest := rest) (lI := lI) (jI := jI) (h0 := h0) (cd := cd) (rw := rw) (cl := cl) hto hfr hd hx (q := q) (R := R) hv d n (k + 1) (ua A 6 (upd (A 6) (to + (k + x)) (nI (co q (k + x) + v * co R k).val))) (by omega) (by omega) (by
      rw [ua_s]
      refine hR.ext (fun t ht => ?_)
      unfold upd
      rw [if_neg (by omega)]) (by
      rw [ua_s]
      intro t ht
      unfold upd vl
      by_cases z : t = k + x
      · rw [if_pos (by omega), z, co_add, co_monom, if_pos (by omega), co_tr, show k + x - x = k by omega, if_pos (by omega)]
      · rw [if_neg (by omega), hq t ht]
        unfold vl
        rw [co_add, co_add, co_monom, co_monom]
        by_cases z2 : x ≤ t
        · rw [if_pos z2, if_pos z2, co_tr, co_tr]
          by_cases z3 : t - x < k
          · rw [if_pos z3, if_pos (by omega)]
          · rw [if_neg z3, if_neg (by omega)]
        · rw [if_neg z2, if_neg z2])
    obtain ⟨f', g1, g2, g3⟩ := ih
    refine ⟨f', fun κ => ?_, g2, fun y hy => ?_⟩
    · rw [lX8_findMinor_124, nI_add, nI_add, nI_add, nI_add, show to + k + x = to + (k + x) by omega]
      show (if nI 13 ≤ nI (k + x) then _ else _) = _
      rw [if_neg (fun z => by have := (le_n (by omega) (by omega)).mp z; omega), if_neg (fun z => by
        rw [lg_cmp_le] at z
        have := (pk_lLE (b := 0) (by omega) (by omega)).mp z
        omega), rg_6, Option.bind_some, Option.bind_some, ra_6 (by omega), Option.bind_some, Option.bind_some, ra_6 (by omega), Option.bind_some, c1, c2, mad8, Option.bind_some]
      dsimp only
      rw [rs_6 (by omega), Option.bind_some]
      unfold nm
      rw [nI_1]
      have := g1 κ
      rw [ua_ua] at this
      exact this
    · rw [g3 y hy, ua_s]
      unfold upd
      rw [if_neg (by omega)]
theorem sg_cases {sg : Fp} {less : Nat} (h : (less = 0 ∧ sg = 1) ∨ (less = 1 ∧ sg = -1)) (a : Fp) : (if less = 0 then a else -a) = sg * a := by
  rcases h with ⟨h1, h2⟩ | ⟨h1, h2⟩
  · rw [if_pos h1, h2]; grind
  · rw [if_neg (by omega), h2]; grind
theorem lneg (v : Fp) : lrm ((32003 : Int64) - lN v.val) (32003 : Int64) = lN (- v).val := by
  have h := v.isLt
  rw [show (32003 : Int64) - lN v.val = lN (32003 - v.val) from lN_sub (a := 32003) (by omega), lrm_n (by omega)]
  congr 1
theorem minor_mid {N r s i rest to fr j less : Nat} {h0 : Hp} {cd rw cl : Int32} (hN : 1000 ≤ N) (hto : to + 13 ≤ 3328) (hfr : fr + 13 ≤ 3328) (hd : fr + 13 ≤ to ∨ to + 13 ≤ fr) (hi : i < 4) (hj : j < 4) {q R a : Po} {sg : Fp} (hsg : (less = 0 ∧ sg = 1) ∨ (less = 1 ∧ sg = -1)) (hR10 : sz R ≤ 10) : ∀ (d n x : Nat) (A : Nat → Nat → Int32), x + d = 4 → d < n → RP (A 6) fr 13 R → RP (A 7) (16 * i + 4 * j) 4 a → RP (A 6) to 13 (pAdd q (pMul (pC sg) (pMul (tr a x) R))) → ∃ f', (∀ κ, lX8_findMinor_78 N 645 (nI r) (nI s) (nI i) (nI rest) (nI to) (nI less) (nI j) (nI fr) n (nI x) (rfh h0 cd rw cl A) κ = κ (nI 4) (rfh h0 cd rw cl (ua A 6 f'))) ∧ RP f' to 13 (pAdd q (pMul (pC sg) (pMul (tr a 4) R))) ∧ (∀ y, y < to ∨ to + 13 ≤ y → f' y = A 6 y)
  | d, 0, x, A, _, hn, _, _, _ => absurd hn (Nat.not_lt_zero _)
  | 0, n + 1, x, A, hk, hn, hR, ha, hq => by
    have e : x = 4 := by omega
    subst e
    refine ⟨A 6, fun κ => ?_, hq, fun _ _ => rfl⟩
    rw [lX8_findMinor_78, ua_id]
    show (if nI 4 ≤ nI 4 then _ else _) = _
    rw [if_pos (by decide)]
  | d + 1, n + 1, x, A, hk, hn, hR, ha, hq => by
    have hl : less < 2 := by omega
    obtain ⟨v, hv⟩ : ∃ v, v = sg * co a x := ⟨_, rfl⟩
    have key : pAdd q (pMul (pC sg) (pMul (tr a (x + 1)) R)) = pAdd (pAdd q (pMul (pC sg) (pMul (tr a x) R))) (pMul (mono v x) R) := by
      have e2 : mono v x = pMul (pC sg) (mono (co a x) x) := po_ext (fun j => by
        rw [co_Cmul, co_mono, co_mono, hv]
        split
        · rfl
        · grind)
      rw [e2, tr_succ]
      letI := pr
      simp only [hA, hM]
      grind
    -- one step of the middle loop
    have step : ∃ f1, (∀ κ, lX8_findMinor_124 N 645 (nI r) (nI s) (nI i) (nI rest) (nI to) (nI less) (nI j) (nI fr) (nI x) (lN v.val) N (nI 0) (rfh h0 cd rw cl A) κ = κ (if v = 0 then nI 0 else nI (13 - x)) (rfh h0 cd rw cl (ua A 6 f1))) ∧ RP f1 to 13 (pAdd q (pMul (pC sg) (pMul (tr a (x + 1)) R))) ∧ (∀ y, y < to ∨ to + 13 ≤ y → f1 y = A 6 y) := by
      rw [key]
      by_cases z : v = 0
      · refine ⟨A 6, fun κ => ?_, ?_, fun _ _ => rfl⟩
        · rw [show N = (N - 1) + 1 by omega, lX8_findMinor_124, ua_id, nI_add]
          show (if nI 13 ≤ nI (0 + x) then _ else _) = _
          rw [if_neg (fun y => by have := (le_n (by omega) (by omega)).mp y; omega), if_pos (by
            rw [lg_cmp_le, z]
            decide), if_pos z]
        · have : pMul (mono v x) R = pC 0 := by
            rw [show mono v x = pC 0 from po_ext (fun j => by rw [co_mono, co_0, z, ite_self]), pZero_mul]
          rw [this, pAdd_zero]
          exact hq
      · obtain ⟨f1, u1, u2, u3⟩ := minor_in (N := N) (r := r) (s := s) (i := i) (rest := rest) (lI := nI less) (jI := nI j) (h0 := h0) (cd := cd) (rw := rw) (cl := cl) (x := x) hto hfr hd (by omega) (q := pAdd q (pMul (pC sg) (pMul (tr a x) R))) (R := R) z (13 - x) N 0 A (by omega) (by omega) hR (by
          rw [tr_0, pMul_comm (mono v x), pZero_mul, pAdd_zero]
          exact hq)
        rw [tr_all (show sz R ≤ 13 - x by omega)] at u2
        refine ⟨f1, fun κ => ?_, u2, u3⟩
        rw [if_neg z]
        exact u1 κ
    obtain ⟨f1, u1, u2, u3⟩ := step
    obtain ⟨f', g1, g2, g3⟩ := minor_mid (r := r) (s := s) (rest := rest) (h0 := h0) (cd := cd) (rw := rw) (cl := cl) hN hto hfr hd hi hj (q := q) (R := R) (a := a) hsg hR10 d n (x + 1) (ua A 6 f1) (by omega) (by omega) (by
      rw [ua_s]
      exact hR.ext (fun t ht => u3 _ (by omega))) (by
      rw [ua_n _ _ (by decide)]
      exact ha) (by rw [ua_s]; exact u2)
    refine ⟨f', fun κ => ?_, g2, fun y hy => by rw [g3 y hy, ua_s]; exact u3 y hy⟩
    rw [lX8_findMinor_78]
    show (if nI 4 ≤ nI x then _ else _) = _
    rw [if_neg (fun y => by have := (le_n (by omega) (by omega)).mp y; omega), rg_7, Option.bind_some]
    show (aI (rfh h0 cd rw cl A) 650 (((nI 16 * nI i) + (nI 4 * nI j)) + nI x)).bind _ = _
    rw [pk_mul, pk_mul, nI_add, nI_add, ra_7 (by omega), Option.bind_some, ha x (by omega), show vl a x = (co a x).val from rfl, lV]
    unfold jn nm
    dsimp only
    have w1 := g1 κ
    rw [ua_ua] at w1
    show (if nI less = nI 0 then _ else _) = _
    have sc := sg_cases hsg (co a x)
    by_cases z : less = 0
    · rw [if_pos z] at sc
      rw [if_pos (by rw [z]), sc, ← hv]
      show lX8_findMinor_124 N 645 (nI r) (nI s) (nI i) (nI rest) (nI to) (nI less) (nI j) (nI fr) (nI x) (lN v.val) N (nI 0) (rfh h0 cd rw cl A) _ = _
      rw [u1, nI_1]
      exact w1
    · rw [if_neg z] at sc
      rw [if_neg (fun y => z ((eq_n (by omega) (by omega)).mp y)), lneg, sc, ← hv]
      show lX8_findMinor_124 N 645 (nI r) (nI s) (nI i) (nI rest) (nI to) (nI less) (nI j) (nI fr) (nI x) (lN v.val) N (nI 0) (rfh h0 cd rw cl A) _ = _
      rw [u1, nI_1]
      exact w1
theorem sh1 : ∀ c, c < 4 → (1 : Int32) <<< (nI c &&& 31) = nI (2 ^ c) := by decide +kernel
theorem bit_le : ∀ s, s < 16 → ∀ c, c < 4 → s / 2 ^ c % 2 = 1 → 2 ^ c ≤ s := by decide +kernel
/-- the columns' loop -/
theorem minor_out {N r s i : Nat} {h0 : Hp} {cd rw cl : Int32} (hN : 1000 ≤ N) (hr : r < 16) (hs : s < 16) (hi : i < 4) (hri : r / 2 ^ i % 2 = 1) {E R : Nat → Po} (hE : ∀ c, c < 4 → sz (E c) ≤ 4) (hR10 : ∀ c, c < 4 → sz (R c) ≤ 10) : ∀ (d n j less : Nat) (sg : Fp) (q : Po) (A : Nat → Nat → Int32), j + d = 4 → d < n → ((less = 0 ∧ sg = 1) ∨ (less = 1 ∧ sg = -1)) → (∀ c, c < 4 → RP (A 7) (16 * i + 4 * c) 4 (E c)) → (∀ c, c < 4 → s / 2 ^ c % 2 = 1 → RP (A 6) (13 * (16 * (r - 2 ^ i) + (s - 2 ^ c))) 13 (R c)) → RP (A 6) (13 * (16 * r + s)) 13 q → ∃ f' zl, (∀ κ, lX8_findMinor_40 N 645 (nI r) (nI s) (nI i) (nI (r - 2 ^ i)) (nI (13 * (16 * r + s))) n (nI less) (nI j) (rfh h0 cd rw cl A) κ = κ zl (nI 4) (rfh h0 cd rw cl (ua A 6 f'))) ∧ RP f' (13 * (16 * r + s)) 13 (exq (fun c => pMul (E c) (R c)) s d j sg q) ∧ (∀ y, y < 13 * (16 * r + s) ∨ 13 * (16 * r + s) + 13 ≤ y → f' y = A 6 y)
  | d, 0, j, less, sg, q, A, _, hn, _, _, _, _ => absurd hn (Nat.not_lt_zero _)
  | 0, n + 1, j, less, sg, q, A, hk, hn, hsg, hW, hM, hq => by
    have e : j = 4 := by omega
    subst e
    refine ⟨A 6, nI less, fun κ => ?_, hq, fun _ _ => rfl⟩
    rw [lX8_findMinor_40, ua_id]
    show (if nI 4 ≤ nI 4 then _ else _) = _
    rw [if_pos (by decide)]
  | d + 1, n + 1, j, less, sg, q, A, hk, hn, hsg, hW, hM, hq => by
    have hb := ix2 r hr i hi hri
    have hl : less < 2 := by omega
    rw [exq]
    by_cases z : s / 2 ^ j % 2 = 1
    · rw [if_pos z]
      have hb2 := ix2 s hs j (by omega) z
      have hle := bit_le s hs j (by omega) z
      obtain ⟨f1, u1, u2, u3⟩ := minor_mid (N := N) (r := r) (s := s) (rest := r - 2 ^ i) (to := 13 * (16 * r + s)) (fr := 13 * (16 * (r - 2 ^ i) + (s - 2 ^ j))) (j := j) (less := less) (h0 := h0) (cd := cd) (rw := rw) (cl := cl) hN (by omega) (by omega) (by omega) hi (by omega) (q := q) (R := R j) (a := E j) hsg (hR10 j (by omega)) 4 N 0 A rfl (by omega) (hM j (by omega) z) (hW j (by omega)) (by
        rw [tr_0, pZero_mul, pMul_comm, pZero_mul, pAdd_zero]
        exact hq)
      rw [tr_all (hE j (by omega))] at u2
      obtain ⟨f', zl, g1, g2, g3⟩ := minor_out (h0 := h0) (cd := cd) (rw := rw) (cl := cl) hN hr hs hi hri hE hR10 d n (j + 1) (1 - less) (- sg) _ (ua A 6 f1) (by omega) (by omega) (by
        rcases hsg with ⟨h1, h2⟩ | ⟨h1, h2⟩
        · right; rw [h1, h2]; exact ⟨rfl, rfl⟩
        · left; rw [h1, h2]; exact ⟨rfl, by decide⟩) (fun c hc => by rw [ua_n _ _ (by decide)]; exact hW c hc) (fun c hc hz => by
        rw [ua_s]
        have := ix2 s hs c hc hz
        exact (hM c hc hz).ext (fun t ht => u3 _ (by omega))) (by rw [ua_s]; exact u2)
      refine ⟨f', zl, fun κ => ?_, g2, fun y hy => by rw [g3 y hy, ua_s]; exact u3 y hy⟩
      rw [lX8_findMinor_40]
      show (if nI 4 ≤ nI j then _ else _) = _
      rw [if_neg (fun y => by have := (le_n (by omega) (by omega)).mp y; omega)]
      unfold jn nm
      dsimp only
      rw [ix1 s hs j (by omega), z, if_neg (by decide), sh1 j (by omega)]
      show lX8_findMinor_78 N 645 (nI r) (nI s) (nI i) (nI (r - 2 ^ i)) (nI (13 * (16 * r + s))) (nI less) (nI j) (nI 13 * (nI 16 * nI (r - 2 ^ i) + nI s - nI (2 ^ j))) N (nI 0) (rfh h0 cd rw cl A) _ = _
      rw [pk_mul, nI_add, pk_sub (by omega), pk_mul, show 13 * (16 * (r - 2 ^ i) + s - 2 ^ j) = 13 * (16 * (r - 2 ^ i) + (s - 2 ^ j)) by omega, u1]
      have w1 := g1 κ
      rw [ua_ua] at w1
      show (if nI less = nI 0 then _ else _) = _
      by_cases z2 : less = 0
      · rw [if_pos (by rw [z2]), nI_1]
        rw [z2] at w1
        exact w1
      · rw [if_neg (fun y => z2 ((eq_n (by omega) (by omega)).mp y)), nI_1]
        rw [show less = 1 by omega] at w1
        exact w1
    · rw [if_neg z]
      obtain ⟨f', zl, g1, g2, g3⟩ := minor_out (h0 := h0) (cd := cd) (rw := rw) (cl := cl) hN hr hs hi hri hE hR10 d n (j + 1) less sg q A (by omega) (by omega) hsg hW hM hq
      refine ⟨f', zl, fun κ => ?_, g2, g3⟩
      rw [lX8_findMinor_40]
      show (if nI 4 ≤ nI j then _ else _) = _
      rw [if_neg (fun y => by have := (le_n (by omega) (by omega)).mp y; omega)]
      unfold jn nm
      dsimp only
      rw [ix1 s hs j (by omega), show s / 2 ^ j % 2 = 0 by omega, if_pos (by decide), nI_1]
      exact g1 κ
theorem lowr_l {N r : Nat} {sI : Int32} {h : Hp} (hr : r < 16) : ∀ (k n c : Nat), c + k = 3 → k < n → (r / 2 ^ (lowf r k c) % 2 = 1) → ∀ κ, lX8_findMinor_2 N 645 (nI r) sI n (nI c) h κ = κ (nI (lowf r k c)) h
  | k, 0, c, _, hn, _, κ => absurd hn (Nat.not_lt_zero _)
  | 0, n + 1, c, hk, hn, hz, κ => by
    rw [lowf] at hz ⊢
    rw [lX8_findMinor_2, ix1 r hr c (by omega), hz, if_neg (by decide)]
  | k + 1, n + 1, c, hk, hn, hz, κ => by
    rw [lowf] at hz ⊢
    rw [lX8_findMinor_2, ix1 r hr c (by omega)]
    by_cases q : r / 2 ^ c % 2 = 0
    · rw [if_pos q] at hz ⊢
      rw [q, if_pos (by decide)]
      unfold nm
      rw [nI_1]
      exact lowr_l hr k n (c + 1) (by omega) (by omega) hz κ
    · rw [if_neg q]
      rw [show r / 2 ^ c % 2 = 1 by omega, if_neg (by decide)]
/-- findMinor -/
theorem minor_s {N r s : Nat} {h0 : Hp} {cd rw cl : Int32} (hN : 1000 ≤ N) (hr : r < 16) (hs : s < 16) (hb : bc r = bc s) (h0r : bc r ≠ 0) {E : Nat → Nat → Po} (hE : ∀ i j, sz (E i j) ≤ 4) {A : Nat → Nat → Int32} (hW : ∀ i j, i < 4 → j < 4 → RP (A 7) (16 * i + 4 * j) 4 (E i j)) (hM : ∀ r' s', r' < r → s' < s → bc r' = bc s' → RP (A 6) (13 * (16 * r' + s')) 13 (mi E r' s')) (hq : RP (A 6) (13 * (16 * r + s)) 13 (pC 0)) : ∃ f', fX8_findMinor N 645 (nI r) (nI s) (rfh h0 cd rw cl A) = some (rfh h0 cd rw cl (ua A 6 f')) ∧ RP f' (13 * (16 * r + s)) 13 (mi E r s) ∧ (∀ y, y < 13 * (16 * r + s) ∨ 13 * (16 * r + s) + 13 ≤ y → f' y = A 6 y) := by
  have l := ix3 r hr h0r
  have x1 := ix2 r hr (low r) l.1 l.2
  have bl := bc_lt r hr
  have hle := bit_le r hr (low r) l.1 l.2
  obtain ⟨f', zl, g1, g2, g3⟩ := minor_out (N := N) (h0 := h0) (cd := cd) (rw := rw) (cl := cl) hN hr hs l.1 l.2 (E := fun c => E (low r) c) (R := fun c => mi E (r - 2 ^ low r) (s - 2 ^ c)) (fun c _ => hE _ _) (fun c _ => by
    have := mnr_sz hE (bc (r - 2 ^ low r)) (r - 2 ^ low r) (s - 2 ^ c)
    show sz (mnr E (bc (r - 2 ^ low r)) (r - 2 ^ low r) (s - 2 ^ c)) ≤ 10
    omega) 4 N 0 0 1 (pC 0) A rfl (by omega) (Or.inl ⟨rfl, rfl⟩) (fun c hc => hW _ _ l.1 hc) (fun c hc hz => by
    have y := ix2 s hs c hc hz
    exact hM _ _ (by omega) (by omega) (by omega)) hq
  refine ⟨f', ?_, ?_, g3⟩
  · unfold fX8_findMinor
    show lX8_findMinor_2 N 645 (nI r) (nI s) N (nI 0) (rfh h0 cd rw cl A) _ = _
    rw [lowr_l hr 3 N 0 rfl (by omega) l.2]
    unfold nm
    show lX8_findMinor_40 N 645 (nI r) (nI s) (nI (low r)) (nI r - ((1 : Int32) <<< (nI (low r) &&& 31))) (nI 13 * (nI 16 * nI r + nI s)) N (nI 0) (nI 0) (rfh h0 cd rw cl A) _ = _
    rw [sh1 _ l.1, pk_sub (by omega), pk_mul, nI_add, pk_mul, g1]
  · have em : mi E r s = exq (fun c => pMul (E (low r) c) (mi E (r - 2 ^ low r) (s - 2 ^ c))) s 4 0 1 (pC 0) := by
      unfold mi
      rw [show bc r = bc (r - 2 ^ low r) + 1 by omega, mnr]
    rw [em]
    exact g2
