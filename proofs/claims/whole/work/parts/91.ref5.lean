/-! the reference: polynomials in arrays of 256 -/
def PP (f : Nat → Int32) (p : Po) : Prop := (∀ t, t < 256 → f t = nI (vl p t)) ∧ sz p ≤ 256
theorem lnk {k : Nat} (h1 : 10 ≤ k) (h2 : k ≤ 13) : ln k = 256 := (by decide : ∀ k, k < 14 → 10 ≤ k → ln k = 256) k (by omega) h1
theorem hz0 : pC 0 = (letI := pr; (0 : Po)) := rfl
section R5
variable {N : Nat} {h0 : Hp} {cd rw cl : Int32} {A : Nat → Nat → Int32}
theorem rak {k j : Nat} (h1 : 10 ≤ k) (h2 : k ≤ 13) (hj : j < 256) : aI (rfh h0 cd rw cl A) (643 + k) (nI j) = some (A k j) := ra (by omega) (by omega) (by omega) (by rw [lnk h1 h2]; exact hj)
theorem rsk {k j : Nat} (h1 : 10 ≤ k) (h2 : k ≤ 13) (hj : j < 256) (x : Int32) : aIs (rfh h0 cd rw cl A) (643 + k) (nI j) x = some (rfh h0 cd rw cl (ua A k (upd (A k) j x))) := rs (by omega) (by omega) (by omega) (by rw [lnk h1 h2]; exact hj) x
theorem high_l {k : Nat} (h1 : 10 ≤ k) (h2 : k ≤ 13) {p : Po} (hp : PP (A k) p) : ∀ (t n : Nat), t ≤ 256 → t < n → sz p ≤ t → ∀ κ, lX8_high_4 N (643 + k) n (dI t) (rfh h0 cd rw cl A) κ = κ (dI (sz p)) (rfh h0 cd rw cl A)
  | t, 0, _, hn, _, κ => absurd hn (Nat.not_lt_zero _)
  | 0, n + 1, ht, hn, hs, κ => by
    rw [lX8_high_4, if_pos (by decide), show sz p = 0 by omega]
  | t + 1, n + 1, ht, hn, hs, κ => by
    have hvl := vl_lt p t
    rw [lX8_high_4, if_neg (fun z => by have := (dI_lt_0 (by omega)).mp z; omega), dI_succ, rak h1 h2 (by omega), Option.bind_some, hp.1 t (by omega)]
    by_cases q : vl p t = 0
    · have hs2 : sz p ≤ t := by
        by_cases z : sz p = t + 1
        · have := sz_top (p := p) (by omega)
          rw [z, Nat.add_sub_cancel] at this
          exact absurd (vl_0.mp q) this
        · omega
      rw [q, if_pos (show nI 0 = 0 from rfl)]
      unfold nm
      rw [show nI t + -1 = dI t from (Int32.sub_eq_add_neg (a := nI t) (b := 1)).symm]
      exact high_l h1 h2 hp t n (by omega) (by omega) hs2 κ
    · rw [if_neg (nI_ne0 (by omega) (by omega))]
      have : t < sz p := sz_lt (fun z => q (vl_0.mpr z))
      rw [show sz p = t + 1 by omega, dI_succ]
theorem high_s (hN : 1000 ≤ N) {k : Nat} (h1 : 10 ≤ k) (h2 : k ≤ 13) {p : Po} (hp : PP (A k) p) : fX8_high N (643 + k) (rfh h0 cd rw cl A) = some (dI (sz p), rfh h0 cd rw cl A) := by
  unfold fX8_high
  show lX8_high_4 N (643 + k) N (dI 256) (rfh h0 cd rw cl A) _ = _
  rw [high_l h1 h2 hp 256 N (by omega) (by omega) hp.2]
theorem PP_0 {f : Nat → Int32} (h : ∀ t, t < 256 → f t = 0) : PP f (pC 0) := ⟨fun t ht => by rw [h t ht, vl_C0]; rfl, by rw [sz_z]; omega⟩
theorem empty_s (hN : 1000 ≤ N) {k : Nat} (h1 : 10 ≤ k) (h2 : k ≤ 13) : ∃ f, fX8_empty N (643 + k) (rfh h0 cd rw cl A) = some (rfh h0 cd rw cl (ua A k f)) ∧ PP f (pC 0) := by
  refine ⟨wr (A k) 0 256 (fun _ => 0), ?_, PP_0 (fun t ht => wr_in ⟨Nat.zero_le _, ht⟩)⟩
  unfold fX8_empty
  show lX8_empty_2 N (643 + k) N (nI 0) (rfh h0 cd rw cl A) _ = _
  rw [empty_l h1 h2 (V := fun _ => 0) 256 N 0 A rfl (by omega) (fun _ _ => rfl)]
theorem monic_l {k : Nat} (h1 : 10 ≤ k) (h2 : k ≤ 13) {p : Po} {b : Fp} : ∀ (d n z : Nat) (A : Nat → Nat → Int32), z + d = sz p → d < n → sz p ≤ 256 → (∀ t, t < 256 → A k t = if t < z then nI (b * co p t).val else nI (co p t).val) → ∃ f, (∀ κ, lX8_makeMonic_24 N (643 + k) (dI (sz p)) (lN b.val) n (nI z) (rfh h0 cd rw cl A) κ = κ (nI (sz p)) (rfh h0 cd rw cl (ua A k f))) ∧ PP f (pMul (pC b) p)
  | d, 0, z, A, _, hn, _, _ => absurd hn (Nat.not_lt_zero _)
  | 0, n + 1, z, A, hz, hn, hs, hf => by
    have e : z = sz p := by omega
    subst e
    refine ⟨A k, fun κ => ?_, fun t ht => ?_, Nat.le_trans (sz_Cmul _ _) hs⟩
    · rw [lX8_makeMonic_24, ua_id, if_pos ((dI_lt_nI (by omega) (by omega)).mpr (Nat.le_refl _))]
    · rw [hf t ht]
      unfold vl
      rw [co_Cmul]
      by_cases q : t < sz p
      · rw [if_pos q]
      · rw [if_neg q, sz_hi (p := p) (by omega)]
        rw [show b * 0 = (0 : Fp) by grind]
  | d + 1, n + 1, z, A, hz, hn, hs, hf => by
    obtain ⟨f, g1, g2⟩ := monic_l h1 h2 (p := p) (b := b) d n (z + 1) (ua A k (upd (A k) z (nI (b * co p z).val))) (by omega) (by omega) hs (fun t ht => by
      rw [ua_s]
      unfold upd
      by_cases q : t = z
      · rw [if_pos q, if_pos (by omega), q]
      · rw [if_neg q, hf t ht]
        by_cases q2 : t < z
        · rw [if_pos q2, if_pos (by omega)]
        · rw [if_neg q2, if_neg (by omega)])
    refine ⟨f, fun κ => ?_, g2⟩
    have e1 : (lrm ((nI (co p z).val).toInt64 * lN b.val) (32003 : Int64)).toInt32 = nI (b * co p z).val := by
      rw [lV, lmul_mod (Fin.isLt _) (Fin.isLt _), lN_i, fv_mul, Nat.mul_comm]
    rw [lX8_makeMonic_24, if_neg (fun y => by have := (dI_lt_nI (by omega) (by omega)).mp y; omega), rak h1 h2 (by omega), Option.bind_some, hf z (by omega), if_neg (by omega), e1, rsk h1 h2 (by omega), Option.bind_some]
    unfold nm
    rw [nI_1]
    have := g1 κ
    rw [ua_ua] at this
    exact this
theorem makeMonic_r (hN : 1000 ≤ N) {k : Nat} (h1 : 10 ≤ k) (h2 : k ≤ 13) {p : Po} (hp : PP (A k) p) : ∃ f, fX8_makeMonic N (643 + k) (rfh h0 cd rw cl A) = some (rfh h0 cd rw cl (ua A k f)) ∧ PP f (pMon p) := by
  have hs := hp.2
  unfold fX8_makeMonic
  rw [high_s hN h1 h2 hp, Option.bind_some]
  unfold jn
  dsimp only
  by_cases q : sz p = 0
  · obtain ⟨f, g1, g2⟩ := monic_l (N := N) (h0 := h0) (cd := cd) (rw := rw) (cl := cl) h1 h2 (p := p) (b := 1) 0 N 0 A (by omega) (by omega) hs (fun t ht => by rw [if_neg (by omega)]; exact hp.1 t ht)
    refine ⟨f, ?_, ?_⟩
    · rw [if_neg (by rw [q]; decide)]
      show lX8_makeMonic_24 N (643 + k) (dI (sz p)) (lN (1 : Fp).val) N (nI 0) (rfh h0 cd rw cl A) _ = _
      rw [g1]
    · rw [pOne_mul] at g2
      rw [show pMon p = p by rw [sz_0 q]; exact pMon_0]
      exact g2
  · obtain ⟨f, g1, g2⟩ := monic_l (N := N) (h0 := h0) (cd := cd) (rw := rw) (cl := cl) h1 h2 (p := p) (b := finv (lead p)) (sz p) N 0 A (by omega) (by omega) hs (fun t ht => by rw [if_neg (by omega)]; exact hp.1 t ht)
    refine ⟨f, ?_, g2⟩
    have e : dI (sz p) = nI (sz p - 1) := by rw [show sz p = (sz p - 1) + 1 by omega, dI_succ]; rfl
    rw [if_pos (by rw [e]; exact nI_pos' (by omega))]
    rw [e, rak h1 h2 (by omega), Option.bind_some, hp.1 _ (by omega), vl_lead q, inverse_s hN, Option.bind_some]
    dsimp only
    rw [lV, ← e]
    show lX8_makeMonic_24 N (643 + k) (dI (sz p)) (lN (finv (lead p)).val) N (nI 0) (rfh h0 cd rw cl A) _ = _
    rw [g1]
theorem msub8 {N : Nat} (a v b : Fp) (h : Hp) : fX8_modulo N ((nI a.val).toInt64 - (lN v.val * (nI b.val).toInt64)) h = some (nI (a + - (v * b)).val, h) := by
  have h1 := a.isLt
  have h2 := Nat.mul_lt_mul'' v.isLt b.isLt
  have e : (lN a.val - lN (v.val * b.val)).toInt = (a.val : Int) - (v.val * b.val : Nat) := by
    rw [Int64.toInt_sub, pk_lT (by omega), pk_lT (by omega)]
    apply Int.bmod_eq_of_le <;> omega
  rw [lV, lV, lN_mul, mod_s, e]
  congr 3
  rw [show (a.val : Int) - (v.val * b.val : Nat) = (a.val : Int) + - ((v.val * b.val : Nat) : Int) by omega, fZ_add, fZ_neg, Int.natCast_mul, fZ_mul, fZ_val, fZ_val, fZ_val]
/-- divide's inner loop -/
theorem divr_in {kx ky s j : Nat} {bI : Int64} {zI : Int32} (hx1 : 10 ≤ kx) (hx2 : kx ≤ 13) (hy1 : 10 ≤ ky) (hy2 : ky ≤ 13) (hxy : kx ≠ ky) {d : Po} {v : Fp} (hs : sz d = s + 1) (hj : j + s < 256) (hzI : zI = nI (j + s)) : ∀ (e n i : Nat) (A : Nat → Nat → Int32) (c : Nat → Fp), i + e = s + 1 → e < n → PP (A ky) d → (∀ t, t < 256 → A kx t = nI (c t).val) → ∃ (f : Nat → Int32) (c' : Nat → Fp), (∀ κ, lX8_divide_71 N 645 (643 + kx) (643 + ky) (nI s) bI zI (lN v.val) n (nI i) (rfh h0 cd rw cl A) κ = κ (nI (s + 1)) (rfh h0 cd rw cl (ua A kx f))) ∧ (∀ t, t < 256 → f t = nI (c' t).val) ∧ (∀ t, c' t = if j + i ≤ t ∧ t < j + (s + 1) then c t + - (v * co d (t - j)) else c t)
  | e, 0, i, A, c, _, hn, _, _ => absurd hn (Nat.not_lt_zero _)
  | 0, n + 1, i, A, c, hi, hn, hd, hc => by
    have e : i = s + 1 := by omega
    subst e
    refine ⟨A kx, c, fun κ => ?_, hc, fun t => by rw [if_neg (by omega)]⟩
    rw [lX8_divide_71, ua_id, if_pos ((lt_n (by omega) (by omega)).mpr (by omega))]
  | e + 1, n + 1, i, A, c, hi, hn, hd, hc => by
    obtain ⟨f, c', g1, g2, g3⟩ := divr_in (bI := bI) hx1 hx2 hy1 hy2 hxy (v := v) hs hj hzI e n (i + 1) (ua A kx (upd (A kx) (j + i) (nI (c (j + i) + - (v * co d i)).val))) (fun t => if t = j + i then c (j + i) + - (v * co d i) else c t) (by omega) (by omega) (by rw [ua_n _ _ (Ne.symm hxy)]; exact hd) (fun t ht => by
      rw [ua_s]
      unfold upd
      by_cases q : t = j + i
      · rw [if_pos q, if_pos q]
      · rw [if_neg q, if_neg q]; exact hc t ht)
    refine ⟨f, c', fun κ => ?_, g2, fun t => ?_⟩
    · rw [lX8_divide_71, if_neg (fun y => by have := (lt_n (by omega) (by omega)).mp y; omega), hzI, pk_sub (by omega), show j + s - s = j by omega, nI_add, rak hx1 hx2 (by omega), Option.bind_some, rak hy1 hy2 (by omega), Option.bind_some, hc _ (by omega), hd.1 i (by omega), show vl d i = (co d i).val from rfl, msub8, Option.bind_some]
      dsimp only
      rw [rsk hx1 hx2 (by omega), Option.bind_some]
      unfold nm
      rw [nI_1]
      have := g1 κ
      rw [ua_ua, hzI] at this
      exact this
    · rw [g3 t]
      by_cases q : t = j + i
      · rw [if_neg (by omega), if_pos q, if_pos (by omega), q, Nat.add_sub_cancel_left]
      · rw [if_neg q]
        by_cases q2 : j + (i + 1) ≤ t ∧ t < j + (s + 1)
        · rw [if_pos q2, if_pos (by omega)]
        · rw [if_neg q2, if_neg (by omega)]
theorem divr_out (hN : 1000 ≤ N) {kx ky s : Nat} (hx1 : 10 ≤ kx) (hx2 : kx ≤ 13) (hy1 : 10 ≤ ky) (hy2 : ky ≤ 13) (hxy : kx ≠ ky) (hx12 : kx ≠ 12) (hy12 : ky ≠ 12) {d a0 : Po} (hs : sz d = s + 1) : ∀ (m n : Nat) (A : Nat → Nat → Int32) (r Q : Po), m + s ≤ 256 → m < n → PP (A ky) d → PP (A kx) r → PP (A 12) Q → sz r ≤ m + s → (∀ i, i < m → co Q i = 0) → pAdd (pMul Q d) r = a0 → ∃ fx fc r' Q', (∀ κ, lX8_divide_26 N 645 (643 + kx) (643 + ky) (nI s) (lN (finv (lead d)).val) n (dI (m + s)) (rfh h0 cd rw cl A) κ = κ (dI s) (rfh h0 cd rw cl (ua (ua A 12 fc) kx fx))) ∧ PP fx r' ∧ PP fc Q' ∧ sz r' ≤ s ∧ pAdd (pMul Q' d) r' = a0
  | m, 0, A, r, Q, _, hn, _, _, _, _, _, _ => absurd hn (Nat.not_lt_zero _)
  | 0, n + 1, A, r, Q, hm, hn, hd, hr, hQ, hsr, hz, he => by
    rw [Nat.zero_add] at hsr ⊢
    refine ⟨A kx, A 12, r, Q, fun κ => ?_, hr, hQ, hsr, he⟩
    rw [lX8_divide_26, ua_id, ua_id, if_pos ((dI_lt_nI (by omega) (by omega)).mpr (Nat.le_refl _))]
  | m + 1, n + 1, A, r, Q, hm, hn, hd, hr, hQ, hsr, hz, he => by
    have head : ∀ κ, lX8_divide_26 N 645 (643 + kx) (643 + ky) (nI s) (lN (finv (lead d)).val) (n + 1) (dI (m + 1 + s)) (rfh h0 cd rw cl A) κ = (if nI (vl r (m + s)) = 0 then lX8_divide_26 N 645 (643 + kx) (643 + ky) (nI s) (lN (finv (lead d)).val) n (dI (m + s)) (rfh h0 cd rw cl A) κ else (aIs (rfh h0 cd rw cl A) 655 (nI m) ((lrm ((nI (vl r (m + s))).toInt64 * lN (finv (lead d)).val) (32003 : Int64)).toInt32)).bind fun h23 => lX8_divide_71 N 645 (643 + kx) (643 + ky) (nI s) (lN (finv (lead d)).val) (nI (m + s)) (lrm ((nI (vl r (m + s))).toInt64 * lN (finv (lead d)).val) (32003 : Int64)) N (0 : Int32) h23 (fun _ h25 => lX8_divide_26 N 645 (643 + kx) (643 + ky) (nI s) (lN (finv (lead d)).val) n (dI (m + s)) h25 κ)) := fun κ => by
      rw [lX8_divide_26, show m + 1 + s = m + s + 1 by omega, dI_succ, if_neg (fun y => by have := (lt_n (by omega) (by omega)).mp y; omega), rak hx1 hx2 (by omega), Option.bind_some, hr.1 _ (by omega)]
      unfold jn nm
      rw [rg_12, pk_sub (by omega), show m + s - s = m by omega, show nI (m + s) + -1 = dI (m + s) from (Int32.sub_eq_add_neg (a := nI (m + s)) (b := 1)).symm]
      rfl
    by_cases q : vl r (m + s) = 0
    · have hsr2 : sz r ≤ m + s := sz_le (fun j hj => by
        by_cases z : j = m + s
        · rw [z]; exact vl_0.mp q
        · exact sz_hi (by omega))
      obtain ⟨fx, fc, r', Q', g1, g2, g3, g4, g5⟩ := divr_out hN hx1 hx2 hy1 hy2 hxy hx12 hy12 hs m n A r Q (by omega) (by omega) hd hr hQ hsr2 (fun i hi => hz i (by omega)) he
      refine ⟨fx, fc, r', Q', fun κ => ?_, g2, g3, g4, g5⟩
      rw [head, q, if_pos (show nI 0 = 0 from rfl)]
      exact g1 κ
    · obtain ⟨fc, hfc⟩ : ∃ fc : Fp, fc = co r (m + s) * finv (lead d) := ⟨_, rfl⟩
      have hl : lrm ((nI (vl r (m + s))).toInt64 * lN (finv (lead d)).val) (32003 : Int64) = lN fc.val := by
        rw [show vl r (m + s) = (co r (m + s)).val from rfl, lV, lmul_mod (Fin.isLt _) (Fin.isLt _), hfc, fv_mul]
      obtain ⟨f1, c1, u1, u2, u3⟩ := divr_in (N := N) (h0 := h0) (cd := cd) (rw := rw) (cl := cl) (bI := lN (finv (lead d)).val) (j := m) (zI := nI (m + s)) hx1 hx2 hy1 hy2 hxy (v := fc) hs (by omega) rfl (s + 1) N 0 (ua A 12 (upd (A 12) m (nI fc.val))) (fun t => co r t) (by omega) (by omega) (by rw [ua_n _ _ hy12]; exact hd) (fun t ht => by rw [ua_n _ _ hx12]; exact hr.1 t ht)
      have ec : ∀ t, c1 t = co (pAdd r (pNeg (pMul (mono fc m) d))) t := fun t => by
        rw [u3 t, co_add, co_neg, co_monom]
        by_cases z : m + 0 ≤ t ∧ t < m + (s + 1)
        · rw [if_pos z, if_pos (by omega)]
        · rw [if_neg z]
          by_cases z2 : m ≤ t
          · rw [if_pos z2, sz_hi (p := d) (by omega)]
            grind
          · rw [if_neg z2]
            grind
      have hs' : sz (pAdd r (pNeg (pMul (mono fc m) d))) ≤ m + s := sz_le (fun j hj => by
        rw [co_add, co_neg, co_monom, if_pos (by omega)]
        by_cases z : j = m + s
        · rw [z, show m + s - m = sz d - 1 by omega]
          show co r (m + s) + - (fc * lead d) = 0
          rw [hfc]
          exact f_cut (finv_mul (lead_ne (by omega)))
        · rw [sz_hi (p := r) (by omega), sz_hi (p := d) (by omega)]
          exact f_zz _)
      obtain ⟨fx, fc', r', Q', g1, g2, g3, g4, g5⟩ := divr_out hN hx1 hx2 hy1 hy2 hxy hx12 hy12 hs m n (ua (ua A 12 (upd (A 12) m (nI fc.val))) kx f1) (pAdd r (pNeg (pMul (mono fc m) d))) (pAdd Q (mono fc m)) (by omega) (by omega) (by rw [ua_n _ _ (Ne.symm hxy), ua_n _ _ hy12]; exact hd) (by
        rw [ua_s]
        exact ⟨fun t ht => by rw [u2 t ht, ec t]; rfl, by omega⟩) (by
        rw [ua_n _ _ (Ne.symm hx12), ua_s]
        refine ⟨fun t ht => ?_, sz_add hQ.2 (sz_le (fun j hj => by rw [co_mono, if_neg (by omega)]))⟩
        unfold upd vl
        rw [co_add, co_mono]
        by_cases z : t = m
        · rw [if_pos z, if_pos z, z, hz m (by omega)]
          congr 2
          grind
        · rw [if_neg z, if_neg z, hQ.1 t ht]
          unfold vl
          congr 2
          grind) hs' (fun i hi => by
        rw [co_add, co_mono, if_neg (by omega), hz i (by omega)]
        exact f_0z _) (div_step he)
      refine ⟨fx, fc', r', Q', fun κ => ?_, g2, g3, g4, g5⟩
      have hvl := vl_lt r (m + s)
      rw [head, if_neg (nI_ne0 (by omega) (by omega)), hl, lN_i, rs_12 (by omega), Option.bind_some]
      show lX8_divide_71 N 645 (643 + kx) (643 + ky) (nI s) (lN (finv (lead d)).val) (nI (m + s)) (lN fc.val) N (nI 0) _ _ = _
      rw [u1]
      have w := g1 κ
      have e : ua (ua (ua (ua A 12 (upd (A 12) m (nI fc.val))) kx f1) 12 fc') kx fx = ua (ua A 12 fc') kx fx := by
        funext i
        unfold ua
        by_cases z1 : i = kx
        · simp only [if_pos z1]
        · by_cases z2 : i = 12
          · simp only [if_neg z1, if_pos z2]
          · simp only [if_neg z1, if_neg z2]
      rw [e] at w
      exact w
/-- divide -/
theorem divide_r (hN : 1000 ≤ N) {kx ky : Nat} (hx1 : 10 ≤ kx) (hx2 : kx ≤ 13) (hy1 : 10 ≤ ky) (hy2 : ky ≤ 13) (hxy : kx ≠ ky) (hx12 : kx ≠ 12) (hy12 : ky ≠ 12) {a d : Po} (hd : PP (A ky) d) (ha : PP (A kx) a) (h0d : sz d ≠ 0) : ∃ fx fc, fX8_divide N 645 (643 + kx) (643 + ky) (rfh h0 cd rw cl A) = some (rfh h0 cd rw cl (ua (ua A 12 fc) kx fx)) ∧ PP fx (pmd a d) ∧ PP fc (pdv a d) := by
  have e : dI (sz d) = nI (sz d - 1) := by rw [show sz d = (sz d - 1) + 1 by omega, dI_succ]; rfl
  have hs := hd.2
  have has := ha.2
  obtain ⟨f0, k1, k2⟩ := empty_s (N := N) (h0 := h0) (cd := cd) (rw := rw) (cl := cl) (A := A) hN (k := 12) (by omega) (by omega)
  obtain ⟨fx, fc, r, Q, g1, g2, g3, g4, g5⟩ := divr_out (N := N) (h0 := h0) (cd := cd) (rw := rw) (cl := cl) hN hx1 hx2 hy1 hy2 hxy hx12 hy12 (d := d) (a0 := a) (s := sz d - 1) (by omega) (256 - (sz d - 1)) N (ua A 12 f0) a (pC 0) (by omega) (by omega) (by rw [ua_n _ _ hy12]; exact hd) (by rw [ua_n _ _ hx12]; exact ha) (by rw [ua_s]; exact k2) (by omega) (fun i _ => co_0 i) (by
    letI := pr
    simp only [hA, hM, hz0]
    grind)
  have z := pdm_of g5 (by omega)
  refine ⟨fx, fc, ?_, by rw [z.2]; exact g2, by rw [z.1]; exact g3⟩
  unfold fX8_divide
  rw [high_s hN hy1 hy2 hd, Option.bind_some]
  dsimp only
  rw [e, rak hy1 hy2 (by omega), Option.bind_some, hd.1 _ (by omega), vl_lead h0d, inverse_s hN, Option.bind_some]
  dsimp only
  rw [lV]
  unfold nm
  show (gR (rfh h0 cd rw cl A) 645 10 12).bind _ = _
  rw [rg_12, Option.bind_some]
  show (fX8_empty N (643 + 12) (rfh h0 cd rw cl A)).bind _ = _
  rw [k1, Option.bind_some]
  show lX8_divide_26 N 645 (643 + kx) (643 + ky) (nI (sz d - 1)) (lN (finv (lead d)).val) N (dI 256) _ _ = _
  rw [show 256 = 256 - (sz d - 1) + (sz d - 1) by omega, g1, ua_ua]
end R5
