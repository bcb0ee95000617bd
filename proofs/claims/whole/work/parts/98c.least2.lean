/-! the reference: findLeast -/
def JJ (a : Nat → Nat → Fp) (R : Nat) (p : Nat → Nat) (n : Nat) : Prop := ∀ h : Po, sz h ≤ n → (∀ r, r < n → Phi a R h (p r) = 0) → h = pC 0
/-- while the least relation is sought: n rows are there -/
def FLI (E : Nat → Nat → Po) (R : Nat) (A : Nat → Nat → Int32) (n : Nat) (F : Nat → Po) (p : Nat → Nat) : Prop := EN E (A 3) ∧ (∀ m, m < n → ∀ k, k < 16 → A 14 (16 * m + k) = nI (pwv (nuA E) R m k).val) ∧ (∀ r, r < n → ∀ k, k < 16 → A 18 (16 * r + k) = nI (Phi (nuA E) R (F r) k).val) ∧ (∀ r, r < n → ∀ k, k < 5 → A 15 (5 * r + k) = nI (co (F r) k).val) ∧ (∀ r, r < n → sz (F r) = r + 1 ∧ p r < 16 ∧ Phi (nuA E) R (F r) (p r) = 1 ∧ (∀ k, k < p r → Phi (nuA E) R (F r) k = 0) ∧ ∀ r', r' < r → Phi (nuA E) R (F r) (p r') = 0) ∧ JJ (nuA E) R p n
theorem JJ_succ {a : Nat → Nat → Fp} {R n : Nat} {p : Nat → Nat} {f : Po} (h : JJ a R p n) (hs : sz f = n + 1) (h1 : Phi a R f (p n) ≠ 0) (h2 : ∀ r, r < n → Phi a R f (p r) = 0) : JJ a R p (n + 1) := by
  intro g hg hz
  have hf : co f n ≠ 0 := by have := sz_top (p := f) (by omega); rw [hs] at this; exact this
  obtain ⟨t, ht⟩ : ∃ t : Fp, t = co g n * finv (co f n) := ⟨_, rfl⟩
  have e := h (pAdd g (pNeg (pMul (pC t) f))) (sz_le (fun j hj => by
    rw [co_add, co_neg, co_Cmul]
    by_cases q : j = n
    · rw [q, ht]
      exact f_cut (finv_mul hf)
    · rw [sz_hi (p := g) (by omega), sz_hi (p := f) (by omega)]
      exact f_zz _)) (fun r hr => by
    rw [Phi_add, Phi_neg, Phi_C, hz r (by omega), h2 r hr]
    exact f_zz _)
  have eg : g = pMul (pC t) f := by
    letI := pr
    simp only [hA, hM, hG, h0] at e ⊢
    grind
  have z := hz n (by omega)
  rw [eg, Phi_C] at z
  have t0 : t = 0 := by
    by_cases q : t = 0
    · exact q
    · exact absurd z (f_mul_ne q h1)
  rw [eg, t0, pZero_mul]
theorem fl128 {N : Nat} {h0 : Hp} {cd rw cl : Int32} (hN : 1000 ≤ N) {E : Nat → Nat → Po} {R n : Nat} (hn5 : n < 5) {F : Nat → Po} {p : Nat → Nat} : ∀ (d m r : Nat) (A : Nat → Nat → Int32) (g : Po), r + d = n → d < m → FLI E R A n F p → sz g = n + 1 → co g n = 1 → (∀ k, k < 16 → A 16 k = nI (Phi (nuA E) R g k).val) → (∀ k, k < 5 → A 17 k = nI (co g k).val) → (∀ r', r' < r → Phi (nuA E) R g (p r') = 0) → ∃ f16 f17 g', (∀ κ, lX8_findLeast_128 N 645 (nI n) m (nI r) (rfh h0 cd rw cl A) κ = κ (nI n) (rfh h0 cd rw cl (ua (ua A 16 f16) 17 f17))) ∧ sz g' = n + 1 ∧ co g' n = 1 ∧ (∀ k, k < 16 → f16 k = nI (Phi (nuA E) R g' k).val) ∧ (∀ k, k < 5 → f17 k = nI (co g' k).val) ∧ (∀ r', r' < n → Phi (nuA E) R g' (p r') = 0)
  | d, 0, r, A, g, _, hm, _, _, _, _, _, _ => absurd hm (Nat.not_lt_zero _)
  | 0, m + 1, r, A, g, hr, hm, hI, hs, h1, h16, h17, hz => by
    have e : r = n := by omega
    subst e
    refine ⟨A 16, A 17, g, fun κ => ?_, hs, h1, h16, h17, hz⟩
    rw [lX8_findLeast_128, if_pos ((le_n (by omega) (by omega)).mpr (Nat.le_refl _)), ua_id]
    have e : ua A 17 (A 17) = A := ua_id A 17
    rw [e]
  | d + 1, m + 1, r, A, g, hr, hm, hI, hs, h1, h16, h17, hz => by
    obtain ⟨i0, i1, i2, i3, i4, i5⟩ := id hI
    obtain ⟨s1, s2, s3, s4, s5⟩ := i4 r (by omega)
    obtain ⟨f16, f17, u1, u2, u3⟩ := clearBy_s (N := N) (h0 := h0) (cd := cd) (rw := rw) (cl := cl) hN (r := r) (p := p r) (by omega) (A := A) (F := F r) (g := g) (i2 r (by omega)) (i3 r (by omega)) s2 s3 s4 h16 h17
    obtain ⟨v, hv⟩ : ∃ v, v = Phi (nuA E) R g (p r) := ⟨_, rfl⟩
    rw [← hv] at u2 u3
    have hsz : sz (pAdd g (pNeg (pMul (pC v) (F r)))) = n + 1 := by
      have l1 := sz_Cmul v (F r)
      rw [sz_add_lt (by rw [sz_neg]; omega), hs]
    obtain ⟨a16, a17, g', k1, k2, k3, k4, k5, k6⟩ := fl128 hN hn5 (F := F) (p := p) d m (r + 1) (ua (ua A 16 f16) 17 f17) (pAdd g (pNeg (pMul (pC v) (F r)))) (by omega) (by omega) (by
      refine ⟨?_, ?_, ?_, ?_, i4, i5⟩
      · rw [ua_n _ _ (by decide), ua_n _ _ (by decide)]; exact i0
      · rw [ua_n _ _ (by decide), ua_n _ _ (by decide)]; exact i1
      · rw [ua_n _ _ (by decide), ua_n _ _ (by decide)]; exact i2
      · rw [ua_n _ _ (by decide), ua_n _ _ (by decide)]; exact i3) hsz (by
      rw [co_add, co_neg, co_Cmul, sz_hi (p := F r) (by omega), h1]
      grind) (by rw [ua_n _ _ (by decide), ua_s]; exact u2) (by rw [ua_s]; exact u3) (fun r' hr' => by
      rw [Phi_add, Phi_neg, Phi_C]
      by_cases q : r' = r
      · rw [q, s3, ← hv]; grind
      · rw [hz r' (by omega), s5 r' (by omega)]
        exact f_zz _)
    refine ⟨a16, a17, g', fun κ => ?_, k2, k3, k4, k5, k6⟩
    rw [lX8_findLeast_128, if_neg (fun y => by have := (le_n (by omega) (by omega)).mp y; omega), rf_ck, Option.bind_some, u1, Option.bind_some]
    unfold nm
    rw [nI_1]
    have w := k1 κ
    have e : ua (ua (ua (ua A 16 f16) 17 f17) 16 a16) 17 a17 = ua (ua A 16 a16) 17 a17 := by
      funext i
      unfold ua
      by_cases z1 : i = 17
      · simp only [if_pos z1]
      · by_cases z2 : i = 16
        · simp only [if_neg z1, if_pos z2]
        · simp only [if_neg z1, if_neg z2]
    rw [e] at w
    exact w
theorem fl146 {N : Nat} {h0 : Hp} {cd rw cl : Int32} {A : Nat → Nat → Int32} {nI' : Int32} {c : Nat → Fp} (hc : ∀ k, k < 16 → A 16 k = nI (c k).val) : ∀ (d n z : Nat), z + d = 16 → d < n → (∀ k, k < z → c k = 0) → ∃ q, (∀ κ, lX8_findLeast_146 N 645 nI' n (nI z) (rfh h0 cd rw cl A) κ = κ (nI q) (rfh h0 cd rw cl A)) ∧ q ≤ 16 ∧ (∀ k, k < q → c k = 0) ∧ (q < 16 → c q ≠ 0)
  | d, 0, z, _, hn, _ => absurd hn (Nat.not_lt_zero _)
  | 0, n + 1, z, hz, hn, h => by
    have e : z = 16 := by omega
    subst e
    refine ⟨16, fun κ => ?_, by omega, h, fun y => by omega⟩
    rw [lX8_findLeast_146]
    show (if nI 16 ≤ nI 16 then _ else _) = _
    rw [if_pos (by decide)]
  | d + 1, n + 1, z, hz, hn, h => by
    have hv := (c z).isLt
    by_cases q : c z = 0
    · obtain ⟨q', g1, g2, g3, g4⟩ := fl146 (N := N) (h0 := h0) (cd := cd) (rw := rw) (cl := cl) (nI' := nI') hc d n (z + 1) (by omega) (by omega) (fun k hk => by
        by_cases y : k = z
        · rw [y]; exact q
        · exact h k (by omega))
      refine ⟨q', fun κ => ?_, g2, g3, g4⟩
      rw [lX8_findLeast_146]
      show (if nI 16 ≤ nI z then _ else _) = _
      rw [if_neg (fun y => by have := (le_n (by omega) (by omega)).mp y; omega), rg_16, Option.bind_some, ra_16 (by omega), Option.bind_some, hc z (by omega), q, if_pos (show nI (0 : Fp).val = 0 from rfl)]
      unfold nm
      rw [nI_1]
      exact g1 κ
    · have hv0 : (c z).val ≠ 0 := fun y => q (Fin.ext y)
      refine ⟨z, fun κ => ?_, by omega, h, fun _ => q⟩
      rw [lX8_findLeast_146]
      show (if nI 16 ≤ nI z then _ else _) = _
      rw [if_neg (fun y => by have := (le_n (by omega) (by omega)).mp y; omega), rg_16, Option.bind_some, ra_16 (by omega), Option.bind_some, hc z (by omega), if_neg (nI_ne0 (by omega) (by omega))]
theorem lmulb (x b : Fp) : (lrm ((nI x.val).toInt64 * lN b.val) (32003 : Int64)).toInt32 = nI (b * x).val := by
  rw [lV, lmul_mod (Fin.isLt _) (Fin.isLt _), lN_i, fv_mul, Nat.mul_comm]
theorem fl189 {N m : Nat} {h0 : Hp} {cd rw cl : Int32} (hm : m < 5) {a2 : Int32} {b : Fp} {x : Nat → Fp} : ∀ (d n z : Nat) (A : Nat → Nat → Int32), z + d = 16 → d < n → (∀ k, k < 16 → A 16 k = nI (x k).val) → (∀ k, k < z → A 18 (16 * m + k) = nI (b * x k).val) → ∃ f, (∀ κ, lX8_findLeast_189 N 645 (nI m) a2 (lN b.val) n (nI z) (rfh h0 cd rw cl A) κ = κ (nI 16) (rfh h0 cd rw cl (ua A 18 f))) ∧ (∀ k, k < 16 → f (16 * m + k) = nI (b * x k).val) ∧ (∀ y, y < 16 * m → f y = A 18 y)
  | d, 0, z, A, _, hn, _, _ => absurd hn (Nat.not_lt_zero _)
  | 0, n + 1, z, A, hz, hn, hx, hf => by
    have e : z = 16 := by omega
    subst e
    refine ⟨A 18, fun κ => ?_, hf, fun _ _ => rfl⟩
    rw [lX8_findLeast_189, ua_id]
    show (if nI 16 ≤ nI 16 then _ else _) = _
    rw [if_pos (by decide)]
  | d + 1, n + 1, z, A, hz, hn, hx, hf => by
    obtain ⟨f, g1, g2, g3⟩ := fl189 (N := N) (h0 := h0) (cd := cd) (rw := rw) (cl := cl) hm (a2 := a2) (b := b) (x := x) d n (z + 1) (ua A 18 (upd (A 18) (16 * m + z) (nI (b * x z).val))) (by omega) (by omega) (by rw [ua_n _ _ (by decide)]; exact hx) (fun k hk => by
      rw [ua_s]
      unfold upd
      by_cases q : k = z
      · rw [if_pos (by omega), q]
      · rw [if_neg (by omega)]; exact hf k (by omega))
    refine ⟨f, fun κ => ?_, g2, fun y hy => by rw [g3 y hy, ua_s]; unfold upd; rw [if_neg (by omega)]⟩
    rw [lX8_findLeast_189]
    show (if nI 16 ≤ nI z then _ else _) = _
    rw [if_neg (fun y => by have := (le_n (by omega) (by omega)).mp y; omega), rg_18, Option.bind_some, rg_16, Option.bind_some, ra_16 (by omega), Option.bind_some, hx z (by omega), lmulb]
    show (aIs (rfh h0 cd rw cl A) 661 (nI 16 * nI m + nI z) _).bind _ = _
    rw [pk_mul, nI_add, rs_18 (by omega), Option.bind_some]
    unfold nm
    rw [nI_1]
    have := g1 κ
    rw [ua_ua] at this
    exact this
theorem fl232 {N m : Nat} {h0 : Hp} {cd rw cl : Int32} (hm : m < 5) {a2 : Int32} {b : Fp} {x : Nat → Fp} : ∀ (d n z : Nat) (A : Nat → Nat → Int32), z + d = 5 → d < n → (∀ k, k < 5 → A 17 k = nI (x k).val) → (∀ k, k < z → A 15 (5 * m + k) = nI (b * x k).val) → ∃ f, (∀ κ, lX8_findLeast_232 N 645 (nI m) a2 (lN b.val) n (nI z) (rfh h0 cd rw cl A) κ = κ (nI 5) (rfh h0 cd rw cl (ua A 15 f))) ∧ (∀ k, k < 5 → f (5 * m + k) = nI (b * x k).val) ∧ (∀ y, y < 5 * m → f y = A 15 y)
  | d, 0, z, A, _, hn, _, _ => absurd hn (Nat.not_lt_zero _)
  | 0, n + 1, z, A, hz, hn, hx, hf => by
    have e : z = 5 := by omega
    subst e
    refine ⟨A 15, fun κ => ?_, hf, fun _ _ => rfl⟩
    rw [lX8_findLeast_232, ua_id]
    show (if nI 5 ≤ nI 5 then _ else _) = _
    rw [if_pos (by decide)]
  | d + 1, n + 1, z, A, hz, hn, hx, hf => by
    obtain ⟨f, g1, g2, g3⟩ := fl232 (N := N) (h0 := h0) (cd := cd) (rw := rw) (cl := cl) hm (a2 := a2) (b := b) (x := x) d n (z + 1) (ua A 15 (upd (A 15) (5 * m + z) (nI (b * x z).val))) (by omega) (by omega) (by rw [ua_n _ _ (by decide)]; exact hx) (fun k hk => by
      rw [ua_s]
      unfold upd
      by_cases q : k = z
      · rw [if_pos (by omega), q]
      · rw [if_neg (by omega)]; exact hf k (by omega))
    refine ⟨f, fun κ => ?_, g2, fun y hy => by rw [g3 y hy, ua_s]; unfold upd; rw [if_neg (by omega)]⟩
    rw [lX8_findLeast_232]
    show (if nI 5 ≤ nI z then _ else _) = _
    rw [if_neg (fun y => by have := (le_n (by omega) (by omega)).mp y; omega), rg_15, Option.bind_some, rg_17, Option.bind_some, ra_17 (by omega), Option.bind_some, hx z (by omega), lmulb]
    show (aIs (rfh h0 cd rw cl A) 658 (nI 5 * nI m + nI z) _).bind _ = _
    rw [pk_mul, nI_add, rs_15 (by omega), Option.bind_some]
    unfold nm
    rw [nI_1]
    have := g1 κ
    rw [ua_ua] at this
    exact this
/-- f is the least relation: monic, of degree n -/
def LEA (a : Nat → Nat → Fp) (R n : Nat) (f : Po) : Prop := n < 5 ∧ sz f = n + 1 ∧ co f n = 1 ∧ (∀ k, k < 16 → Phi a R f k = 0) ∧ ∀ h : Po, sz h ≤ n → (∀ k, k < 16 → Phi a R h k = 0) → h = pC 0
theorem fl2 {N : Nat} {h0 : Hp} {cd cl : Int32} (hN : 1000 ≤ N) {E : Nat → Nat → Po} {R : Nat} (hR : R < 5) {q : Po} (hq : sz q ≠ 0 ∧ sz q ≤ 5) (hq0 : ∀ k, k < 16 → Phi (nuA E) R q k = 0) : ∀ (d m n : Nat) (A : Nat → Nat → Int32) (F : Nat → Po) (p : Nat → Nat), n + d = 5 → d < m → FLI E R A n F p → ∃ n' A' f, (∀ κ, lX8_findLeast_2 N 645 m (nI n) (rfh h0 cd (nI R) cl A) κ = some (nI n', rfh h0 cd (nI R) cl A')) ∧ LEA (nuA E) R n' f ∧ (∀ k, k < 5 → A' 17 k = nI (co f k).val) ∧ (∀ k, k ≠ 14 → k ≠ 15 → k ≠ 16 → k ≠ 17 → k ≠ 18 → A' k = A k)
  | d, 0, n, A, F, p, _, hm, _ => absurd hm (Nat.not_lt_zero _)
  | 0, m + 1, n, A, F, p, hn, hm, hI => by
    exfalso
    have e : n = 5 := by omega
    subst e
    have := hI.2.2.2.2.2 q hq.2 (fun r hr => hq0 _ (hI.2.2.2.2.1 r hr).2.1)
    rw [this, sz_z] at hq
    exact hq.1 rfl
  | d + 1, m + 1, n, A, F, p, hn, hm, hI => by
    obtain ⟨i0, i1, i2, i3, i4, i5⟩ := id hI
    have hn5 : n < 5 := by omega
    obtain ⟨f16, u1, u2⟩ := fl4 (N := N) (h0 := h0) (cd := cd) (cl := cl) hN hR hn5 16 N 0 A rfl (by omega) i0 (fun h0n k hk => i1 (n - 1) (by omega) k hk) (fun y hy => by omega)
    have l68 := fl68_l (N := N) (h0 := h0) (cd := cd) (rw := nI R) (cl := cl) (m := n) hn5 (V := f16) 16 N 0 (ua A 16 f16) rfl (by omega) (fun t _ => by rw [ua_s])
    rw [ua_n _ _ (by decide : (14 : Nat) ≠ 16)] at l68
    obtain ⟨f14, hf14⟩ : ∃ f, f = wr (A 14) (16 * n + 0) (16 * n + 16) (fun y => f16 (y - 16 * n)) := ⟨_, rfl⟩
    rw [← hf14] at l68
    obtain ⟨f17, v1, v2⟩ := fl99 (N := N) (h0 := h0) (cd := cd) (rw := nI R) (cl := cl) hn5 5 N 0 (ua (ua A 16 f16) 14 f14) rfl (by omega) (fun y hy => by omega)
    have I3 : FLI E R (ua (ua (ua A 16 f16) 14 f14) 17 f17) n F p := by
      refine ⟨?_, fun m' hm' k hk => ?_, ?_, ?_, i4, i5⟩
      · rw [ua_n _ _ (by decide), ua_n _ _ (by decide), ua_n _ _ (by decide)]; exact i0
      · rw [ua_n _ _ (by decide), ua_s, hf14, wr_out (by omega)]; exact i1 m' hm' k hk
      · rw [ua_n _ _ (by decide), ua_n _ _ (by decide), ua_n _ _ (by decide)]; exact i2
      · rw [ua_n _ _ (by decide), ua_n _ _ (by decide), ua_n _ _ (by decide)]; exact i3
    obtain ⟨a16, a17, g, k1, k2, k3, k4, k5, k6⟩ := fl128 (N := N) (h0 := h0) (cd := cd) (rw := nI R) (cl := cl) hN hn5 (F := F) (p := p) n N 0 (ua (ua (ua A 16 f16) 14 f14) 17 f17) (mono 1 n) (by omega) (by omega) I3 (sz_eq (fun j hj => by rw [co_mono, if_neg (by omega)]) (fun _ => by rw [Nat.add_sub_cancel, co_mono, if_pos rfl]; decide)) (by rw [co_mono, if_pos rfl]) (fun k hk => by rw [ua_n _ _ (by decide), ua_n _ _ (by decide), ua_s, u2 k hk, Phi_mono _ _ hn5]) (fun k hk => by rw [ua_s]; exact v2 k hk) (fun r' hr' => by omega)
    -- the arrays when all rows before are taken off
    obtain ⟨B, hB⟩ : ∃ B, B = ua (ua (ua (ua (ua A 16 f16) 14 f14) 17 f17) 16 a16) 17 a17 := ⟨_, rfl⟩
    have B16 : B 16 = a16 := by rw [hB, ua_n _ _ (by decide), ua_s]
    have B17 : B 17 = a17 := by rw [hB, ua_s]
    have B14 : B 14 = f14 := by rw [hB, ua_n _ _ (by decide), ua_n _ _ (by decide), ua_n _ _ (by decide), ua_s]
    have Bo : ∀ k, k ≠ 14 → k ≠ 16 → k ≠ 17 → B k = A k := fun k h1 h2 h3 => by rw [hB, ua_n _ _ h3, ua_n _ _ h2, ua_n _ _ h3, ua_n _ _ h1, ua_n _ _ h2]
    obtain ⟨pv, w1, w2, w3, w4⟩ := fl146 (N := N) (h0 := h0) (cd := cd) (rw := nI R) (cl := cl) (A := B) (nI' := nI n) (c := Phi (nuA E) R g) (by rw [B16]; exact k4) 16 N 0 rfl (by omega) (fun k hk => by omega)
    have head : ∀ κ, lX8_findLeast_2 N 645 (m + 1) (nI n) (rfh h0 cd (nI R) cl A) κ = (if nI pv = (16 : Int32) then some (nI n, rfh h0 cd (nI R) cl B) else (aI (rfh h0 cd (nI R) cl B) 659 (nI pv)).bind fun v17 => (fX8_inverse N v17 (rfh h0 cd (nI R) cl B)).bind fun (v18, h19) => nm (v18.toInt64) fun x20 => lX8_findLeast_189 N 645 (nI n) (nI pv) x20 N (0 : Int32) h19 (fun y21 h22 => lX8_findLeast_232 N 645 (nI n) (nI pv) x20 N (0 : Int32) h22 (fun y23 h24 => nm (nI n + (1 : Int32)) fun x25 => lX8_findLeast_2 N 645 m x25 h24 κ))) := fun κ => by
      rw [lX8_findLeast_2]
      show lX8_findLeast_4 N 645 (nI n) N (nI 0) _ _ = _
      rw [u1]
      show lX8_findLeast_68 N 645 (nI n) N (nI 0) _ _ = _
      rw [l68]
      show lX8_findLeast_99 N 645 (nI n) N (nI 0) _ _ = _
      rw [v1]
      show lX8_findLeast_128 N 645 (nI n) N (nI 0) _ _ = _
      rw [k1, ← hB]
      show lX8_findLeast_146 N 645 (nI n) N (nI 0) _ _ = _
      rw [w1, rg_16, Option.bind_some]
    by_cases z : pv = 16
    · refine ⟨n, B, g, fun κ => ?_, ⟨hn5, k2, k3, fun k hk => w3 k (by omega), fun h hh hz => i5 h hh (fun r hr => hz _ (i4 r hr).2.1)⟩, by rw [B17]; exact k5, fun k h1 h2 h3 h4 h5 => Bo k h1 h3 h4⟩
      rw [head, z, if_pos (by decide)]
    · have hp16 : pv < 16 := by omega
      have hnz := w4 hp16
      obtain ⟨b, hb⟩ : ∃ b, b = finv (Phi (nuA E) R g pv) := ⟨_, rfl⟩
      obtain ⟨f18, x1, x2, x3⟩ := fl189 (N := N) (h0 := h0) (cd := cd) (rw := nI R) (cl := cl) hn5 (a2 := nI pv) (b := b) (x := Phi (nuA E) R g) 16 N 0 B rfl (by omega) (by rw [B16]; exact k4) (fun k hk => by omega)
      obtain ⟨f15, y1, y2, y3⟩ := fl232 (N := N) (h0 := h0) (cd := cd) (rw := nI R) (cl := cl) hn5 (a2 := nI pv) (b := b) (x := co g) 5 N 0 (ua B 18 f18) rfl (by omega) (by rw [ua_n _ _ (by decide), B17]; exact k5) (fun k hk => by omega)
      rw [ua_n _ _ (by decide : (15 : Nat) ≠ 18), Bo 15 (by decide) (by decide) (by decide)] at y3
      rw [Bo 18 (by decide) (by decide) (by decide)] at x3
      have hb0 : b ≠ 0 := by rw [hb]; exact finv_ne hnz
      have sF : sz (pMul (pC b) g) = n + 1 := by
        have hc : sz (pC b) = 1 := sz_eq (fun j hj => by rw [co_C, if_neg (by omega)]) (fun _ => by rw [co_C, if_pos rfl]; exact hb0)
        rw [sz_mul (by omega) (by omega), hc, k2]
        omega
      have pF : Phi (nuA E) R (pMul (pC b) g) pv = 1 := by rw [Phi_C, hb]; exact finv_mul hnz
      have lowF : ∀ k, Phi (nuA E) R g k = 0 → Phi (nuA E) R (pMul (pC b) g) k = 0 := fun k hk => by rw [Phi_C, hk]; grind
      have I5 : FLI E R (ua (ua B 18 f18) 15 f15) (n + 1) (st F n (pMul (pC b) g)) (fun r => if r = n then pv else p r) := by
        refine ⟨?_, fun m' hm' k hk => ?_, fun r hr k hk => ?_, fun r hr k hk => ?_, fun r hr => ?_, ?_⟩
        · rw [ua_n _ _ (by decide), ua_n _ _ (by decide), Bo 3 (by decide) (by decide) (by decide)]; exact i0
        · rw [ua_n _ _ (by decide), ua_n _ _ (by decide), B14, hf14]
          by_cases y : m' = n
          · rw [y, wr_in (by omega), Nat.add_sub_cancel_left, u2 k hk]
          · rw [wr_out (by omega)]; exact i1 m' (by omega) k hk
        · rw [ua_n _ _ (by decide), ua_s]
          by_cases y : r = n
          · rw [y, x2 k hk, st_same, Phi_C]
          · rw [x3 _ (by omega), st_ne _ _ y]; exact i2 r (by omega) k hk
        · rw [ua_s]
          by_cases y : r = n
          · rw [y, y2 k hk, st_same, co_Cmul]
          · rw [y3 _ (by omega), st_ne _ _ y]; exact i3 r (by omega) k hk
        · by_cases y : r = n
          · rw [y, st_same]
            dsimp only
            rw [if_pos rfl]
            refine ⟨sF, hp16, pF, fun k hk => lowF k (w3 k hk), fun r' hr' => ?_⟩
            rw [if_neg (by omega)]
            exact lowF _ (k6 r' hr')
          · rw [st_ne _ _ y]
            dsimp only
            rw [if_neg y]
            obtain ⟨t1, t2, t3, t4, t5⟩ := i4 r (by omega)
            refine ⟨t1, t2, t3, t4, fun r' hr' => ?_⟩
            rw [if_neg (by omega)]
            exact t5 r' hr'
        · refine JJ_succ (f := pMul (pC b) g) (fun h hh hz => i5 h hh (fun r hr => ?_)) sF ?_ (fun r hr => ?_)
          · have := hz r hr
            rw [if_neg (by omega)] at this
            exact this
          · show Phi (nuA E) R (pMul (pC b) g) (if n = n then pv else p n) ≠ 0
            rw [if_pos rfl, pF]; decide
          · show Phi (nuA E) R (pMul (pC b) g) (if r = n then pv else p r) = 0
            rw [if_neg (by omega)]
            exact lowF _ (k6 r hr)
      obtain ⟨n', A', f, g1, g2, g3, g4⟩ := fl2 (h0 := h0) (cd := cd) (cl := cl) hN hR hq hq0 d m (n + 1) _ _ _ (by omega) (by omega) I5
      refine ⟨n', A', f, fun κ => ?_, g2, g3, fun k h1 h2 h3 h4 h5 => by rw [g4 k h1 h2 h3 h4 h5, ua_n _ _ h2, ua_n _ _ h5, Bo k h1 h3 h4]⟩
      rw [head]
      show (if nI pv = nI 16 then _ else _) = _
      rw [if_neg (fun y => z ((eq_n (by omega) (by omega)).mp y)), ra_16 hp16, Option.bind_some, B16, k4 pv hp16, inverse_s hN, Option.bind_some]
      dsimp only
      rw [lV]
      unfold nm
      rw [← hb]
      show lX8_findLeast_189 N 645 (nI n) (nI pv) (lN b.val) N (nI 0) _ _ = _
      rw [x1]
      show lX8_findLeast_232 N 645 (nI n) (nI pv) (lN b.val) N (nI 0) _ _ = _
      rw [y1, nI_1]
      exact g1 κ
/-- findLeast -/
theorem least_s {N : Nat} {h0 : Hp} {cd cl : Int32} (hN : 1000 ≤ N) {E : Nat → Nat → Po} {R : Nat} (hR : R < 5) {q : Po} (hq : sz q ≠ 0 ∧ sz q ≤ 5) (hq0 : ∀ k, k < 16 → Phi (nuA E) R q k = 0) {A : Nat → Nat → Int32} (hE : EN E (A 3)) : ∃ n A' f, fX8_findLeast N 645 (rfh h0 cd (nI R) cl A) = some (nI n, rfh h0 cd (nI R) cl A') ∧ LEA (nuA E) R n f ∧ (∀ k, k < 5 → A' 17 k = nI (co f k).val) ∧ (∀ k, k ≠ 14 → k ≠ 15 → k ≠ 16 → k ≠ 17 → k ≠ 18 → A' k = A k) := by
  obtain ⟨n, A', f, g1, g2, g3, g4⟩ := fl2 (N := N) (h0 := h0) (cd := cd) (cl := cl) hN hR hq hq0 5 N 0 A (fun _ => pC 0) (fun _ => 0) rfl (by omega) ⟨hE, fun m hm => by omega, fun r hr => by omega, fun r hr => by omega, fun r hr => by omega, fun h hh _ => sz_0 (by omega)⟩
  exact ⟨n, A', f, g1 _, g2, g3, g4⟩
