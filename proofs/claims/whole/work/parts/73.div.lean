/-! division of polynomials -/
theorem sz_add_lt {p q : Po} (h : sz q < sz p) : sz (pAdd p q) = sz p := by
  refine sz_eq (fun j hj => by rw [co_add, sz_hi hj, sz_hi (p := q) (by omega)]; grind) (fun h0 z => ?_)
  rw [co_add, sz_hi (p := q) (j := sz p - 1) (by omega)] at z
  have := sz_top h0
  grind
theorem div_sz {a d q r : Po} (e : pAdd (pMul q d) r = a) (hr : sz r < sz d) (hd : sz d ≤ sz a) : sz q = sz a + 1 - sz d := by
  by_cases hq : sz q = 0
  · rw [sz_0 hq] at e
    have e2 : pAdd (pMul (pC 0) d) r = r := by
      letI := pr
      simp only [hA, hM, h0]
      grind
    rw [e2] at e
    rw [e] at hr
    omega
  · have h1 := sz_mul hq (q := d) (by omega)
    have h2 := sz_add_lt (p := pMul q d) (q := r) (by omega)
    rw [e] at h2
    omega
theorem div_ex (d : Po) (hd : sz d ≠ 0) : ∀ (n : Nat) (a : Po), sz a ≤ n → ∃ q r, pAdd (pMul q d) r = a ∧ sz r < sz d
  | 0, a, h => ⟨pC 0, a, by
      letI := pr
      simp only [hA, hM, h0]
      grind, by omega⟩
  | n + 1, a, h => by
    by_cases q : sz a < sz d
    · exact ⟨pC 0, a, by
        letI := pr
        simp only [hA, hM, h0]
        grind, q⟩
    · have hs : sz (pAdd a (pNeg (pMul (mono (lead a * finv (lead d)) (sz a - sz d)) d))) ≤ n := sz_le (fun j hj => by
        rw [co_add, co_neg, co_monom, if_pos (by omega)]
        by_cases z : j = sz a - 1
        · rw [z, show sz a - 1 - (sz a - sz d) = sz d - 1 by omega]
          show lead a + - (lead a * finv (lead d) * lead d) = 0
          have := finv_mul (lead_ne hd)
          grind
        · rw [sz_hi (p := a) (by omega), sz_hi (p := d) (by omega)]
          grind)
      obtain ⟨q1, r1, e1, hr1⟩ := div_ex d hd n _ hs
      refine ⟨pAdd q1 (mono (lead a * finv (lead d)) (sz a - sz d)), r1, ?_, hr1⟩
      revert e1
      generalize mono (lead a * finv (lead d)) (sz a - sz d) = t
      intro e1
      letI := pr
      simp only [hA, hM, hG] at e1 ⊢
      grind
theorem div_un {d q r q' r' : Po} (e : pAdd (pMul q d) r = pAdd (pMul q' d) r') (h : sz r < sz d) (h' : sz r' < sz d) : q = q' ∧ r = r' := by
  have e1 : pMul (pAdd q (pNeg q')) d = pAdd r' (pNeg r) := by
    letI := pr
    simp only [hA, hM, hG] at e ⊢
    grind
  have hq : pAdd q (pNeg q') = pC 0 := by
    apply sz_0
    by_cases z : sz (pAdd q (pNeg q')) = 0
    · exact z
    · have h1 := sz_mul z (q := d) (by omega)
      rw [e1] at h1
      have h2 := sz_add (p := r') (q := pNeg r) (n := sz d - 1) (by omega) (by rw [sz_neg]; omega)
      omega
  have e2 : q = q' := by
    letI := pr
    simp only [hA, hG, h0] at hq
    grind
  refine ⟨e2, ?_⟩
  rw [e2] at e
  letI := pr
  simp only [hA] at e
  grind
noncomputable def pdv (a d : Po) : Po := if h : sz d = 0 then pC 0 else Classical.choose (div_ex d h (sz a) a (Nat.le_refl _))
noncomputable def pmd (a d : Po) : Po := if h : sz d = 0 then a else Classical.choose (Classical.choose_spec (div_ex d h (sz a) a (Nat.le_refl _)))
theorem pdm {d : Po} (a : Po) (h : sz d ≠ 0) : pAdd (pMul (pdv a d) d) (pmd a d) = a ∧ sz (pmd a d) < sz d := by
  unfold pdv pmd
  rw [dif_neg h, dif_neg h]
  exact Classical.choose_spec (Classical.choose_spec (div_ex d h (sz a) a (Nat.le_refl _)))
theorem pdm_of {a d q r : Po} (e : pAdd (pMul q d) r = a) (h : sz r < sz d) : pdv a d = q ∧ pmd a d = r := by
  have z := pdm a (d := d) (by omega)
  exact div_un (z.1.trans e.symm) z.2 h
theorem pdm_lo {a d : Po} (h : sz a < sz d) : pdv a d = pC 0 ∧ pmd a d = a := pdm_of (by
  letI := pr
  simp only [hA, hM, h0]
  grind) h
theorem pdm_0 (a : Po) : pdv a (pC 0) = pC 0 ∧ pmd a (pC 0) = a := by
  unfold pdv pmd
  rw [dif_pos sz_z, dif_pos sz_z]
  exact ⟨rfl, rfl⟩
theorem fN_neg (x : Fp) : fN (32003 - x.val) = - x := by
  apply Fin.ext
  show (32003 - x.val) % 32003 = (- x).val
  rw [Fin.val_neg]
  by_cases z : x = 0
  · rw [if_pos z, z]; rfl
  · rw [if_neg z, Nat.mod_eq_of_lt]
    have : x.val ≠ 0 := fun q => z (Fin.ext q)
    omega
theorem sub_fp (a f b : Fp) : (a.val + (32003 - f.val) * b.val) % 32003 = (a + - (f * b)).val := by
  rw [show a + - (f * b) = a + fN (32003 - f.val) * b by rw [fN_neg]; grind, fv_add, fv_mul]
  show _ = (a.val + (32003 - f.val) % 32003 * b.val % 32003) % 32003
  rw [Nat.mod_mul_mod, Nat.add_mod_mod]
theorem div_step {Q d r t a0 : Po} (he : pAdd (pMul Q d) r = a0) : pAdd (pMul (pAdd Q t) d) (pAdd r (pNeg (pMul t d))) = a0 := by
  letI := pr
  simp only [hA, hM, hG] at he ⊢
  grind
theorem f_cut {x l i : Fp} (h : i * l = 1) : x + - (x * i * l) = 0 := by grind
theorem f_zz (x : Fp) : (0 : Fp) + - (x * 0) = 0 := by grind
theorem f_z0 (x : Fp) : (0 : Fp) + x = x := by grind
theorem f_0z (x : Fp) : x + 0 = x := by grind
/-- divideBy's inner loop -/
theorem div_in {N a b q la lb s j t less : Nat} {iv fc : Int32} {cd : Nat → Nat} (hab : a ≠ b) (hl : less ≤ 32003) (hit : j + t ≤ la) (htd : t ≤ lb) : ∀ (n i : Nat) (h : Hp) (f : Nat → Int32) (c : Nat → Nat), RW h a la s f → PA h b lb cd → (∀ x, f x = nI (c x)) → (∀ x, c x < 32003) → i ≤ t → t - i < n → ∃ (h' : Hp) (f' : Nat → Int32) (c' : Nat → Nat), (∀ κ, lX4_divideBy_108 N a b q (dI t) iv (nI j) fc (nI less) n (nI i) h κ = κ (nI t) h') ∧ RW h' a la s f' ∧ (∀ x, f' x = nI (c' x)) ∧ fr2 h h' a ∧ ∀ x, c' x = if j + i ≤ x ∧ x < j + t then (c x + less * cd (x - j)) % 32003 else c x
  | 0, i, h, f, c, _, _, _, _, _, hn => absurd hn (Nat.not_lt_zero _)
  | n + 1, i, h, f, c, w, wd, hf, hc, hj, hn => by
    have hla := w.2.2.1
    have hld := wd.lt
    by_cases he : i = t
    · subst he
      refine ⟨h, f, c, fun κ => ?_, w, hf, fr2.rf, fun x => by rw [if_neg (by omega)]⟩
      rw [lX4_divideBy_108, if_pos ((dI_lt_nI (by omega) (by omega)).mpr (Nat.le_refl _))]
    · obtain ⟨h1, e1, w1, r1⟩ := w.put (j := j + i) (by omega) (nI ((c (j + i) + less * cd i) % 32003))
      have wd1 := wd.off w hab r1
      obtain ⟨h', f', c', g1, g2, g3, g4, g5⟩ := div_in hab hl hit htd n (i + 1) h1 _ (updN c (j + i) ((c (j + i) + less * cd i) % 32003)) w1 wd1 (fun x => by
        unfold upd updN
        by_cases q : x = j + i
        · rw [if_pos q, if_pos q]
        · rw [if_neg q, if_neg q]; exact hf x) (fun x => by
        unfold updN
        split
        · exact Nat.mod_lt _ (by decide)
        · exact hc x) (by omega) (by omega)
      refine ⟨h', f', c', fun κ => ?_, g2, g3, r1.tr g4, fun x => ?_⟩
      · rw [lX4_divideBy_108, if_neg (fun q => by have := (dI_lt_nI (by omega) (by omega)).mp q; omega), w.row]
        show (aI h (a + 1) (nI j + nI i)).bind _ = _
        rw [nI_add, w.at (by omega), hf _]
        show (gR h b 6 0).bind _ = _
        rw [wd.row]
        show (aI h (b + 1) (nI i)).bind _ = _
        rw [wd.at (by omega)]
        show (aIs h (a + 1) (nI (j + i)) (irm (nI (c (j + i)) + nI less * nI (cd i)) (32003 : Int32))).bind _ = _
        rw [mad_mod_nI (hc _) (by omega) (wd.bd i), e1]
        show lX4_divideBy_108 N a b q (dI t) iv (nI j) fc (nI less) n (nI i + 1) h1 κ = _
        rw [nI_1]
        exact g1 κ
      · rw [g5 x]
        unfold updN
        by_cases q : x = j + i
        · subst q
          rw [if_neg (by omega), if_pos rfl, if_pos (by omega), Nat.add_sub_cancel_left]
        · rw [if_neg q]
          by_cases q2 : j + (i + 1) ≤ x ∧ x < j + t
          · rw [if_pos q2, if_pos (by omega)]
          · rw [if_neg q2, if_neg (by omega)]
def fr4 (h h' : Hp) (a b : Nat) : Prop := ∀ x, x ≠ a → x ≠ a + 1 → x ≠ b → x ≠ b + 1 → h' x = h x
theorem RW.off {h h' : Hp} {a b la lb s t : Nat} {f g : Nat → Int32} (wb : RW h b lb t g) (w : RW h a la s f) (hab : a ≠ b) (r : fr2 h h' a) : RW h' b lb t g := by
  have h1 : a ≠ b + 1 := fun q => by have := w.1; rw [q, wb.2.1] at this; cases this
  have h2 : a + 1 ≠ b := fun q => by have := w.2.1; rw [q, wb.1] at this; cases this
  exact ⟨by rw [r b (Ne.symm hab) (Ne.symm h2)]; exact wb.1, by rw [r (b + 1) (Ne.symm h1) (by omega)]; exact wb.2.1, wb.2.2⟩
theorem RW.fn {h : Hp} {a la s : Nat} {f g : Nat → Int32} (w : RW h a la s f) (e : ∀ x, f x = g x) : RW h a la s g := by
  rw [← show f = g from funext e]; exact w
theorem div_out {N a b q la lb lq sa sq : Nat} {d a0 : Po} (hN : 1000 ≤ N) (hab : a ≠ b) (haq : a ≠ q) (hqb : q ≠ b) (hd : sz d ≠ 0) (hdl : sz d ≤ lb) : ∀ (k n : Nat) (h : Hp) (r Q : Po), RW h a la sa (fun x => nI (vl r x)) → PA h b lb (vl d) → RW h q lq sq (fun x => nI (vl Q x)) → k + sz d - 1 ≤ la → k ≤ lq → k < n → sz r ≤ k + (sz d - 1) → (∀ i, i < k → co Q i = 0) → pAdd (pMul Q d) r = a0 → ∃ (h' : Hp) (r' Q' : Po), (∀ κ, lX4_divideBy_65 N a b q (dI (sz d)) (nI (finv (lead d)).val) n (dI k) h κ = κ (dI 0) h') ∧ RW h' a la sa (fun x => nI (vl r' x)) ∧ RW h' q lq sq (fun x => nI (vl Q' x)) ∧ fr4 h h' a q ∧ sz r' ≤ sz d - 1 ∧ pAdd (pMul Q' d) r' = a0
  | k, 0, h, r, Q, _, _, _, _, _, hn, _, _, _ => absurd hn (Nat.not_lt_zero _)
  | 0, n + 1, h, r, Q, wa, wb, wq, _, _, _, hr, _, he => by
    refine ⟨h, r, Q, fun κ => ?_, wa, wq, fun _ _ _ _ _ => rfl, by omega, he⟩
    rw [lX4_divideBy_65, if_pos (by decide)]
  | k + 1, n + 1, h, r, Q, wa, wb, wq, hla, hlq, hn, hr, hQ, he => by
    have l1 := wa.2.2.1
    have l2 := wb.lt
    have l3 := wq.2.2.1
    obtain ⟨fc, hfc⟩ : ∃ fc : Fp, fc = co r (k + (sz d - 1)) * finv (lead d) := ⟨_, rfl⟩
    obtain ⟨h1, e1, w1, r1⟩ := wq.put (j := k) (by omega) (nI fc.val)
    have wa1 := wa.off wq (Ne.symm haq) r1
    have wb1 := wb.off wq hqb r1
    obtain ⟨h2, f2, c2, g1, g2, g3, g4, g5⟩ := div_in (N := N) (q := q) (iv := nI (finv (lead d)).val) (fc := nI fc.val) (j := k) (t := sz d) (less := 32003 - fc.val) hab (by omega) (by omega) hdl N 0 h1 _ (vl r) wa1 wb1 (fun _ => rfl) (vl_lt r) (Nat.zero_le _) (by omega)
    have ec : c2 = vl (pAdd r (pNeg (pMul (mono fc k) d))) := by
      funext x
      rw [g5 x]
      unfold vl
      rw [co_add, co_neg, co_monom]
      by_cases z : k + 0 ≤ x ∧ x < k + sz d
      · rw [if_pos z, if_pos (by omega)]
        rw [sub_fp]
      · rw [if_neg z]
        by_cases z2 : k ≤ x
        · rw [if_pos z2, sz_hi (p := d) (by omega)]
          congr 1
          grind
        · rw [if_neg z2]
          congr 1
          grind
    have w2 : RW h2 a la sa (fun x => nI (vl (pAdd r (pNeg (pMul (mono fc k) d))) x)) := g2.fn (fun x => by rw [g3 x, ec])
    have wq2 := (w1.off wa1 haq g4).fn (g := fun x => nI (vl (pAdd Q (mono fc k)) x)) (fun x => by
      unfold upd vl
      rw [co_add, co_mono]
      by_cases z : x = k
      · rw [if_pos z, if_pos z, z, hQ k (by omega)]
        congr 2
        grind
      · rw [if_neg z, if_neg z]
        congr 2
        grind)
    have hs : sz (pAdd r (pNeg (pMul (mono fc k) d))) ≤ k + (sz d - 1) := sz_le (fun j hj => by
      rw [co_add, co_neg, co_monom, if_pos (by omega)]
      by_cases z : j = k + (sz d - 1)
      · rw [z, show k + (sz d - 1) - k = sz d - 1 by omega]
        show co r (k + (sz d - 1)) + - (fc * lead d) = 0
        rw [hfc]
        exact f_cut (finv_mul (lead_ne hd))
      · rw [sz_hi (p := r) (by omega), sz_hi (p := d) (by omega)]
        exact f_zz _)
    obtain ⟨h', r', Q', k1, k2, k3, k4, k5, k6⟩ := div_out hN hab haq hqb hd hdl k n h2 _ _ w2 (wb1.off wa1 hab g4) wq2 (by omega) (by omega) (by omega) hs (fun i hi => by
      rw [co_add, co_mono, if_neg (by omega), hQ i (by omega)]
      exact f_0z _) (div_step he)
    refine ⟨h', r', Q', fun κ => ?_, k2, k3, fun x u1 u2 u3 u4 => ?_, k5, k6⟩
    · rw [lX4_divideBy_65, if_neg (fun z => by have := (dI_lt_0 (by omega)).mp z; omega), wa.row, dI_succ]
      show (aI h (a + 1) (nI k + dI (sz d))).bind _ = _
      rw [show dI (sz d) = nI (sz d - 1) by rw [show sz d = (sz d - 1) + 1 by omega, dI_succ]; rfl, nI_add, wa.at (by omega)]
      unfold nm
      show (gR h q 6 0).bind _ = _
      rw [wq.row]
      show (aIs h (q + 1) (nI k) (irm (nI (co r (k + (sz d - 1))).val * nI (finv (lead d)).val) (32003 : Int32))).bind _ = _
      rw [mul_mod_nI (Fin.isLt _) (Fin.isLt _), ← fv_mul, ← hfc, e1]
      rw [show nI (sz d - 1) = dI (sz d) by rw [show sz d = (sz d - 1) + 1 by omega, dI_succ]; rfl]
      show lX4_divideBy_108 N a b q (dI (sz d)) (nI (finv (lead d)).val) (nI k) (irm (nI (co r (k + (sz d - 1))).val * nI (finv (lead d)).val) (32003 : Int32)) ((32003 : Int32) - irm (nI (co r (k + (sz d - 1))).val * nI (finv (lead d)).val) (32003 : Int32)) N (nI 0) h1 _ = _
      rw [mul_mod_nI (Fin.isLt _) (Fin.isLt _), ← fv_mul, ← hfc]
      rw [show (32003 : Int32) - nI fc.val = nI (32003 - fc.val) from pk_sub (a := 32003) (by omega), g1]
      show lX4_divideBy_65 N a b q (dI (sz d)) (nI (finv (lead d)).val) n (nI k + -1) h2 κ = _
      rw [show nI k + -1 = dI k from (Int32.sub_eq_add_neg (a := nI k) (b := 1)).symm]
      exact k1 κ
    · rw [k4 x u1 u2 u3 u4, g4 x u1 u2, r1 x u3 u4]
theorem dI_sub {s t : Nat} (hs : s < 2 ^ 20) (ht : t ≤ s) : dI s - dI t = nI (s - t) := by
  apply Int32.toInt_inj.mp
  rw [Int32.toInt_sub, dI_toInt (by omega), dI_toInt (by omega), nI_toInt (by omega)]
  rw [show ((s : Int) - 1 - ((t : Int) - 1)) = ((s - t : Nat) : Int) by omega]
  exact Int.bmod_eq_of_le (by omega) (by omega)
theorem dI_lt_dI {s t : Nat} (hs : s < 2 ^ 20) (ht : t < 2 ^ 20) : dI s < dI t ↔ s < t := by
  rw [Int32.lt_iff_toInt_lt, dI_toInt (by omega), dI_toInt (by omega)]; omega
theorem conc_of2 {P : Nat → Po} {m h' : Hp} {a b la lb s t : Nat} {p q : Po} (hab : a ≠ b) (ha : pl a ≠ 0) (hb : pl b ≠ 0) (w : RW h' a la s (fun x => nI (vl p x))) (w2 : RW h' b lb t (fun x => nI (vl q x))) (e1 : la = pl a) (e2 : lb = pl b) (e3 : s = sz p) (e4 : t = sz q) (r : fr4 (conc P m) h' a b) : h' = conc (st (st P b q) a p) m := by
  subst e1 e2 e3 e4
  have n1 : a ≠ b + 1 := fun z => ha (by rw [z]; exact pl_next hb)
  have n2 : b ≠ a + 1 := fun z => hb (by rw [z]; exact pl_next ha)
  funext x
  by_cases q1 : x = a
  · rw [q1, conc_a ha, st_same]; exact w.1
  · by_cases q2 : x = a + 1
    · rw [q2, conc_b ha, st_same]; exact w.2.1
    · by_cases q3 : x = b
      · rw [q3, conc_a hb, st_ne _ _ (Ne.symm hab), st_same]; exact w2.1
      · by_cases q4 : x = b + 1
        · rw [q4, conc_b hb, st_ne _ _ (Ne.symm hab), st_same]; exact w2.2.1
        · rw [r x q1 q2 q3 q4]
          unfold conc
          rw [st_ne _ _ q1, st_ne _ _ q3]
          by_cases z : pl x ≠ 0
          · rw [if_pos z, if_pos z]
          · rw [if_neg z, if_neg z]
            by_cases z2 : x ≠ 0 ∧ pl (x - 1) ≠ 0
            · rw [if_pos z2, if_pos z2, st_ne _ _ (by omega), st_ne _ _ (by omega)]
            · rw [if_neg z2, if_neg z2]
theorem vl_lead {p : Po} (h : sz p ≠ 0) : vl p (sz p - 1) = (lead p).val := rfl
/-- divideBy: the remainder stays, the quotient is written; by 0 nothing is taken off -/
theorem divideBy_c {N : Nat} (hN : 1000 ≤ N) {P : Nat → Po} {m : Hp} (w : FT P) {a b q : Nat} (ha : pl a ≠ 0) (hb : pl b ≠ 0) (hq : pl q ≠ 0) (hab : a ≠ b) (haq : a ≠ q) (hqb : q ≠ b) (hs : sz (P b) ≠ 0 → sz (P a) + 1 - sz (P b) ≤ pl q) : fX4_divideBy N a b q (conc P m) = some (conc (st (st P q (pdv (P a) (P b))) a (pmd (P a) (P b))) m) ∧ sz (pdv (P a) (P b)) ≤ pl q ∧ sz (pmd (P a) (P b)) ≤ pl a := by
  have la := pl_lt a
  have lb := pl_lt b
  have lq := pl_lt q
  have sa := w a ha
  have sb := w b hb
  have w1 : FT (st P q (pC 0)) := w.st (by rw [sz_z]; omega)
  have ea : st P q (pC 0) a = P a := st_ne _ _ haq
  have eb : st P q (pC 0) b = P b := st_ne _ _ (Ne.symm hqb)
  have wa : PA (conc (st P q (pC 0)) m) a (pl a) (vl (P a)) := by have := w1.pa (m := m) ha; rw [ea] at this; exact this
  have wb : PA (conc (st P q (pC 0)) m) b (pl b) (vl (P b)) := by have := w1.pa (m := m) hb; rw [eb] at this; exact this
  have wq : PA (conc (st P q (pC 0)) m) q (pl q) (vl (pC 0)) := by have := w1.pa (m := m) hq; rw [st_same] at this; exact this
  have ga := wa.deg
  have gb := wb.deg
  rw [dgs_sz sa] at ga
  rw [dgs_sz sb] at gb
  unfold fX4_divideBy
  rw [(w.pa (m := m) hq).ck]
  show (fX4_clear N q (conc P m)).bind _ = _ ∧ _
  rw [clear_c hN w hq]
  show (gI (conc (st P q (pC 0)) m) b 6 1).bind _ = _ ∧ _
  rw [gb]
  unfold jn
  show (if dI (sz (P b)) < 0 then _ else _) = _ ∧ _
  have same : ∀ {d : Po}, pdv (P a) d = pC 0 → pmd (P a) d = P a → st (st P q (pdv (P a) d)) a (pmd (P a) d) = st P q (pC 0) := fun h1 h2 => by
    rw [h1, h2]
    have := st_id (st P q (pC 0)) a
    rw [ea] at this
    exact this
  by_cases c1 : sz (P b) = 0
  · rw [if_pos ((dI_lt_0 (by omega)).mpr c1)]
    have z : pdv (P a) (P b) = pC 0 ∧ pmd (P a) (P b) = P a := by rw [sz_0 c1]; exact pdm_0 (P a)
    rw [same z.1 z.2, z.1, z.2, sz_z]
    exact ⟨rfl, by omega, sa⟩
  · rw [if_neg (fun z => c1 ((dI_lt_0 (by omega)).mp z)), ga]
    show (if dI (sz (P a)) < dI (sz (P b)) then _ else _) = _ ∧ _
    by_cases c2 : sz (P a) < sz (P b)
    · rw [if_pos ((dI_lt_dI (by omega) (by omega)).mpr c2)]
      have z := pdm_lo c2
      rw [same z.1 z.2, z.1, z.2, sz_z]
      exact ⟨rfl, by omega, sa⟩
    · rw [if_neg (fun z => c2 ((dI_lt_dI (by omega) (by omega)).mp z)), Option.bind_some, wq.row]
      show (aLen (conc (st P q (pC 0)) m) (q + 1) 0).bind _ = _ ∧ _
      rw [wq.alen]
      show (if dI (sz (P a)) - dI (sz (P b)) < nI (pl q) then _ else _) = _ ∧ _
      rw [dI_sub (by omega) (by omega), if_pos (nI_lt (by have := hs c1; omega) (by omega)), wb.row]
      show (aI (conc (st P q (pC 0)) m) (b + 1) (dI (sz (P b)))).bind _ = _ ∧ _
      rw [show dI (sz (P b)) = nI (sz (P b) - 1) by rw [show sz (P b) = (sz (P b) - 1) + 1 by omega, dI_succ]; rfl, wb.at (by omega), vl_lead c1]
      show (fX7_inverseOf N (nI (lead (P b)).val) (conc (st P q (pC 0)) m)).bind _ = _ ∧ _
      rw [inverseOf_s hN (Fin.isLt _), ← finv_val]
      show (gI (conc (st P q (pC 0)) m) a 6 1).bind _ = _ ∧ _
      rw [ga]
      show (pV (conc (st P q (pC 0)) m) q 6 1 (.int (dI (sz (P a)) - nI (sz (P b) - 1)))).bind _ = _ ∧ _
      rw [show nI (sz (P b) - 1) = dI (sz (P b)) by rw [show sz (P b) = (sz (P b) - 1) + 1 by omega, dI_succ]; rfl, dI_sub (by omega) (by omega), ← dI_succ]
      obtain ⟨fa, ra, ha2⟩ := wa.raw
      rw [dgs_sz sa] at ra
      obtain ⟨fq, rq, hq2⟩ := wq.raw
      obtain ⟨h1, e1, rq1, r1⟩ := rq.setd (t := sz (P a) - sz (P b) + 1) (by have := hs c1; omega)
      rw [e1]
      have ra1 := (ra.off rq (Ne.symm haq) r1).fn (g := fun x => nI (vl (P a) x)) ha2
      have wb1 := wb.off rq hqb r1
      have rq2 := rq1.fn (g := fun x => nI (vl (pC 0) x)) hq2
      obtain ⟨h2, r, Q, k1, k2, k3, k4, k5, k6⟩ := div_out (N := N) (a0 := P a) hN hab haq hqb c1 sb (sz (P a) - sz (P b) + 1) N h1 (P a) (pC 0) ra1 wb1 rq2 (by omega) (by have := hs c1; omega) (by omega) (by omega) (fun i _ => co_0 i) (by
        letI := pr
        simp only [hA, hM, h0]
        grind)
      have z := pdm_of k6 (by omega)
      have zs := div_sz k6 (by omega) (by omega)
      obtain ⟨h3, e3, w3, r3⟩ := findD_s hN (t := sz (P b) - 1) (c := vl r) k2 (by omega) (fun _ => rfl) (vl_lt r) (fun j hj => vl_0.mpr (sz_hi (by omega)))
      show (gI h1 a 6 1).bind _ = _ ∧ _
      rw [ra1.deg]
      show lX4_divideBy_65 N a b q (dI (sz (P b))) (nI (finv (lead (P b))).val) N (dI (sz (P a)) - dI (sz (P b))) h1 _ = _ ∧ _
      rw [dI_sub (by omega) (by omega), ← dI_succ (sz (P a) - sz (P b)), k1]
      show (cK h2 a 6).bind _ = _ ∧ _
      rw [k2.ck]
      show (fX4_findDegree N a (dI (sz (P b)) - 1) h2).bind _ = _ ∧ _
      rw [show dI (sz (P b)) - 1 = dI (sz (P b) - 1) by rw [show sz (P b) = (sz (P b) - 1) + 1 by omega, dI_pred]; rfl, e3, z.1, z.2]
      have sr : sz r ≤ pl a := by omega
      obtain ⟨f3, rr3, hf3⟩ := w3.raw
      rw [dgs_sz sr] at rr3
      have rq3 := k3.off k2 haq r3
      have fin := conc_of2 (P := st P q (pC 0)) (m := m) haq ha hq (rr3.fn hf3) rq3 rfl rfl rfl (by omega) (fun x u1 u2 u3 u4 => by rw [r3 x u1 u2, k4 x u1 u2 u3 u4, r1 x u3 u4])
      rw [st_st] at fin
      refine ⟨by rw [fin]; rfl, by have := hs c1; omega, sr⟩
