/-! the reference: roots -/
noncomputable def rcount (w : Po) : Nat → Nat
  | 0 => 0
  | x + 1 => rcount w x + (if ev w (fN x) = 0 then 1 else 0)
theorem rcount_le (w : Po) : ∀ x, rcount w x ≤ x
  | 0 => Nat.le_refl _
  | x + 1 => by
    have := rcount_le w x
    rw [rcount]
    split <;> omega
/-- Horner's rule: the five lowest coefficients -/
theorem horner {N : Nat} {h0 : Hp} {cd rw cl : Int32} {A : Nat → Nat → Int32} {w : Po} {at' : Nat} (hat : at' + 13 ≤ 3328) (hw : RP (A 6) at' 13 w) {a1 nI' : Int32} {x : Fp} : ∀ (k n : Nat) (s : Fp), k ≤ 5 → k < n → ∃ z, ∀ κ, lX8_findRoot_32 N 645 a1 (nI at') nI' (nI x.val) n (lN s.val) (dI k) (rfh h0 cd rw cl A) κ = κ (lN (s * fw x k + sm (fun i => co w i * fw x i) k).val) z (rfh h0 cd rw cl A)
  | k, 0, s, _, hn => absurd hn (Nat.not_lt_zero _)
  | 0, n + 1, s, hk, hn => by
    refine ⟨dI 0, fun κ => ?_⟩
    rw [lX8_findRoot_32, if_pos (by decide), fw, sm]
    congr 2
    rw [show s * 1 + 0 = s by grind]
  | k + 1, n + 1, s, hk, hn => by
    obtain ⟨z, hz⟩ := horner (N := N) (h0 := h0) (cd := cd) (rw := rw) (cl := cl) hat hw (a1 := a1) (nI' := nI') (x := x) k n (s * x + co w k) (by omega) (by omega)
    refine ⟨z, fun κ => ?_⟩
    have h1 := Nat.mul_lt_mul'' s.isLt x.isLt
    have h2 := (co w k).isLt
    have e : lrm (lN s.val * (nI x.val).toInt64 + (nI (co w k).val).toInt64) (32003 : Int64) = lN (s * x + co w k).val := by
      rw [lV, lV, lN_mul, lN_add, lrm_n (by omega), fv_add, fv_mul, Nat.mod_add_mod]
    rw [lX8_findRoot_32, if_neg (fun y => by have := (dI_lt_0 (by omega)).mp y; omega), rg_6, Option.bind_some, dI_succ, nI_add, ra_6 (by omega), Option.bind_some, hw k (by omega), show vl w k = (co w k).val from rfl]
    unfold nm
    dsimp only
    rw [e, show nI k + -1 = dI k from (Int32.sub_eq_add_neg (a := nI k) (b := 1)).symm, hz]
    congr 2
    rw [fw, sm]
    congr 1
    generalize fw x k = u
    generalize sm (fun i => co w i * fw x i) k = v
    grind
theorem horner_s {N : Nat} {h0 : Hp} {cd rw cl : Int32} {A : Nat → Nat → Int32} {w : Po} {at' : Nat} (hN : 1000 ≤ N) (hat : at' + 13 ≤ 3328) (hw : RP (A 6) at' 13 w) (h5 : sz w ≤ 5) {a1 nI' : Int32} (x : Fp) : ∃ z, ∀ κ, lX8_findRoot_32 N 645 a1 (nI at') nI' (nI x.val) N (0 : Int64) (4 : Int32) (rfh h0 cd rw cl A) κ = κ (lN (ev w x).val) z (rfh h0 cd rw cl A) := by
  obtain ⟨z, hz⟩ := horner (N := N) (h0 := h0) (cd := cd) (rw := rw) (cl := cl) hat hw (a1 := a1) (nI' := nI') (x := x) 5 N 0 (by omega) (by omega)
  refine ⟨z, fun κ => ?_⟩
  rw [ev_ge h5]
  have := hz κ
  rw [show (0 : Fp) * fw x 5 + sm (fun i => co w i * fw x i) 5 = sm (fun i => co w i * fw x i) 5 by generalize fw x 5 = u; grind] at this
  exact this
/-- what findRoot answers -/
def FRt (w : Po) (k r : Int32) : Prop := (∃ x, x < 32003 ∧ ev w (fN x) = 0 ∧ k = nI (rcount w x) ∧ r = nI x) ∨ ((∀ x, x < 32003 → ev w (fN x) = 0 → k ≠ nI (rcount w x)) ∧ r = -1)
theorem fr14 {N : Nat} {h0 : Hp} {cd rw cl : Int32} {A : Nat → Nat → Int32} {w : Po} {at' : Nat} (hN : 33000 ≤ N) (hat : at' + 13 ≤ 3328) (hw : RP (A 6) at' 13 w) (h5 : sz w ≤ 5) {k : Int32} : ∀ (d n x : Nat), x + d = 32003 → d < n → (∀ y, y < x → ev w (fN y) = 0 → k ≠ nI (rcount w y)) → ∃ r, lX8_findRoot_14 N 645 k (nI at') n (nI (rcount w x)) (nI x) (rfh h0 cd rw cl A) (fun _ _ h9 => some ((-1 : Int32), h9)) = some (r, rfh h0 cd rw cl A) ∧ FRt w k r
  | d, 0, x, _, hn, _ => absurd hn (Nat.not_lt_zero _)
  | 0, n + 1, x, hx, hn, hp => by
    refine ⟨-1, ?_, Or.inr ⟨fun y hy => hp y (by omega), rfl⟩⟩
    rw [lX8_findRoot_14]
    show (if nI 32003 ≤ nI x then _ else _) = _
    rw [if_pos ((le_n (by omega) (by omega)).mpr (by omega))]
  | d + 1, n + 1, x, hx, hn, hp => by
    have rl := rcount_le w x
    by_cases hk : k < 0
    · refine ⟨-1, ?_, Or.inr ⟨fun y hy _ e => ?_, rfl⟩⟩
      · rw [lX8_findRoot_14]
        show (if nI 32003 ≤ nI x then _ else _) = _
        rw [if_neg (fun y => by have := (le_n (by omega) (by omega)).mp y; omega), if_pos hk]
      · have := rcount_le w y
        rw [e] at hk
        exact nI_pos (by omega) hk
    · obtain ⟨z, hz⟩ := horner_s (N := N) (h0 := h0) (cd := cd) (rw := rw) (cl := cl) (by omega) hat hw h5 (a1 := k) (nI' := nI (rcount w x)) (fN x)
      rw [fN_val (by omega)] at hz
      have hv := (ev w (fN x)).isLt
      have cmp0 : (lg_cmp (lN (ev w (fN x)).val) (0 : Int64)) = 0 ↔ ev w (fN x) = 0 := by
        unfold lg_cmp
        constructor
        · intro h
          by_cases g1 : lN (ev w (fN x)).val > 0
          · rw [if_pos g1] at h; exact absurd h (by decide)
          · rw [if_neg g1] at h
            by_cases g2 : lN (ev w (fN x)).val = 0
            · exact Fin.ext ((lN_eq (b := 0) (by omega) (by omega)).mp g2)
            · rw [if_neg g2] at h; exact absurd h (by decide)
        · intro h
          rw [h]
          decide
      rw [lX8_findRoot_14]
      show ∃ r, (if nI 32003 ≤ nI x then _ else _) = _ ∧ _
      rw [if_neg (fun y => by have := (le_n (by omega) (by omega)).mp y; omega), if_neg hk, hz]
      unfold jn nm
      dsimp only
      by_cases q : ev w (fN x) = 0
      · rw [if_pos (cmp0.mpr q)]
        by_cases q2 : nI (rcount w x) = k
        · rw [if_pos q2]
          exact ⟨nI x, rfl, Or.inl ⟨x, by omega, q, q2.symm, rfl⟩⟩
        · rw [if_neg q2, nI_1, nI_1]
          obtain ⟨r, g1, g2⟩ := fr14 (h0 := h0) (cd := cd) (rw := rw) (cl := cl) hN hat hw h5 (k := k) d n (x + 1) (by omega) (by omega) (fun y hy hy2 => by
            by_cases u : y = x
            · rw [u]; exact fun e => q2 e.symm
            · exact hp y (by omega) hy2)
          rw [rcount, if_pos q] at g1
          exact ⟨r, g1, g2⟩
      · rw [if_neg (fun y => q (cmp0.mp y)), nI_1]
        obtain ⟨r, g1, g2⟩ := fr14 (h0 := h0) (cd := cd) (rw := rw) (cl := cl) hN hat hw h5 (k := k) d n (x + 1) (by omega) (by omega) (fun y hy hy2 => by
          by_cases u : y = x
          · rw [u] at hy2; exact absurd hy2 q
          · exact hp y (by omega) hy2)
        rw [rcount, if_neg q, Nat.add_zero] at g1
        exact ⟨r, g1, g2⟩
/-- the characteristic polynomial -/
noncomputable def chp (E : Nat → Nat → Po) (R : Nat) : Po := mi (xE E R) (2 ^ R - 1) (2 ^ R - 1)
theorem findRoot_s {N : Nat} {h0 : Hp} {cd cl : Int32} (hN : 33000 ≤ N) {E : Nat → Nat → Po} {R : Nat} (hR : R < 5) {A : Nat → Nat → Int32} (hE : EN E (A 3)) (h5 : sz (chp E R) ≤ 5) (k : Int32) : ∃ r f6 f7, fX8_findRoot N 645 k (rfh h0 cd (nI R) cl A) = some (r, rfh h0 cd (nI R) cl (ua (ua A 7 f7) 6 f6)) ∧ FRt (chp E R) k r := by
  have p := pw_lt R hR
  obtain ⟨f6, f7, g1, g2⟩ := loadN_s (N := N) (h0 := h0) (cd := cd) (cl := cl) hN hR hE
  have hw : RP (ua (ua A 7 f7) 6 f6 6) (13 * (16 * (2 ^ R - 1) + (2 ^ R - 1))) 13 (chp E R) := by rw [ua_s]; exact g2 _ _ p.1 p.1 rfl
  obtain ⟨r, k1, k2⟩ := fr14 (N := N) (h0 := h0) (cd := cd) (rw := nI R) (cl := cl) hN (by have := p.1; generalize 2 ^ R - 1 = u at this ⊢; omega) hw h5 (k := k) 32003 N 0 rfl (by omega) (fun y hy => by omega)
  refine ⟨r, f6, f7, ?_, k2⟩
  unfold fX8_findRoot
  rw [rf_ck, Option.bind_some, g1, Option.bind_some, rf_ck, Option.bind_some, whole_s hR, Option.bind_some]
  exact k1
theorem rc_const {w : Po} {a : Nat} : ∀ d, (∀ y, a ≤ y → y < a + d → ev w (fN y) ≠ 0) → rcount w (a + d) = rcount w a
  | 0, _ => rfl
  | d + 1, h => by
    rw [← Nat.add_assoc, rcount, if_neg (h (a + d) (by omega) (by omega)), Nat.add_zero]
    exact rc_const d (fun y h1 h2 => h y h1 (by omega))
/-- the roots in their order are counted in their order -/
theorem rc_asc {w : Po} {g : Nat → Fp} {n : Nat} (ha : asc g n) (hm : ∀ x, (∃ j, j < n ∧ g j = x) ↔ ev w x = 0) : ∀ j, j < n → rcount w (g j).val = j
  | 0, h => by
    have e := rc_const (w := w) (a := 0) (g 0).val (fun y _ hy z => by
      obtain ⟨i, hi, e⟩ := (hm _).mpr z
      have hl := (g 0).isLt
      have e2 : (g i).val = y := by rw [e, fN_val (by omega)]
      by_cases q : i = 0
      · rw [q] at e2; omega
      · have := ha 0 i (by omega) hi; omega)
    rw [Nat.zero_add] at e
    exact e
  | j + 1, h => by
    have ih := rc_asc ha hm j (by omega)
    have hlt := ha j (j + 1) (by omega) h
    have hl := (g (j + 1)).isLt
    have e1 : rcount w ((g j).val + 1) = j + 1 := by
      rw [rcount, ih, show fN (g j).val = g j from Fin.ext (fN_val (g j).isLt), if_pos ((hm _).mp ⟨j, by omega, rfl⟩)]
    have e := rc_const (w := w) (a := (g j).val + 1) ((g (j + 1)).val - ((g j).val + 1)) (fun y h1 h2 z => by
      obtain ⟨i, hi, e⟩ := (hm _).mpr z
      have e2 : (g i).val = y := by rw [e, fN_val (by omega)]
      by_cases q : i ≤ j
      · by_cases q2 : i = j
        · rw [q2] at e2; omega
        · have := ha i j (by omega) (by omega); omega
      · by_cases q2 : i = j + 1
        · rw [q2] at e2; omega
        · have := ha (j + 1) i (by omega) hi; omega)
    rw [show (g j).val + 1 + ((g (j + 1)).val - ((g j).val + 1)) = (g (j + 1)).val by omega] at e
    rw [e, e1]
/-- class and reference name the same root -/
theorem root_tie {w : Po} {g : Nat → Fp} {n : Nat} (ha : asc g n) (hm : ∀ x, (∃ j, j < n ∧ g j = x) ↔ ev w x = 0) (hn : n ≤ 4) {k r : Int32} (h : FRt w k r) : (∃ j, j < n ∧ k = nI j ∧ r = nI (g j).val) ∨ ((∀ j, j < n → k ≠ nI j) ∧ r = -1) := by
  rcases h with ⟨x, hx, h1, h2, h3⟩ | ⟨h1, h2⟩
  · left
    obtain ⟨j, hj, e⟩ := (hm _).mpr h1
    have e2 : (g j).val = x := by rw [e, fN_val hx]
    have := rc_asc ha hm j hj
    rw [e2] at this
    exact ⟨j, hj, by rw [h2, this], by rw [h3, e2]⟩
  · right
    refine ⟨fun j hj e => ?_, h2⟩
    have hl := (g j).isLt
    refine h1 (g j).val hl ?_ (by rw [rc_asc ha hm j hj]; exact e)
    rw [show fN (g j).val = g j from Fin.ext (fN_val hl)]
    exact (hm _).mp ⟨j, hj, rfl⟩
