/-! Roots -/
def cg (w a b : Po) : Prop := ∃ t, pAdd (pMul t w) b = a
theorem cg_refl (w a : Po) : cg w a a := ⟨pC 0, by
  letI := pr
  simp only [hA, hM, h0]
  grind⟩
theorem cg_mod {w : Po} (a : Po) (h : sz w ≠ 0) : cg w a (pmd a w) := ⟨_, (pdm a h).1⟩
theorem cg_trans {w a b c : Po} (h1 : cg w a b) (h2 : cg w b c) : cg w a c := by
  obtain ⟨t, ht⟩ := h1
  obtain ⟨u, hu⟩ := h2
  refine ⟨pAdd t u, ?_⟩
  rw [← ht, ← hu]
  letI := pr
  simp only [hA, hM]
  grind
theorem cg_mul {w a b c d : Po} (h1 : cg w a b) (h2 : cg w c d) : cg w (pMul a c) (pMul b d) := by
  obtain ⟨t, ht⟩ := h1
  obtain ⟨u, hu⟩ := h2
  refine ⟨pAdd (pMul t c) (pMul b u), ?_⟩
  rw [← ht, ← hu]
  letI := pr
  simp only [hA, hM]
  grind
theorem pPow_add (b : Po) (m : Nat) : ∀ n, pPow b (m + n) = pMul (pPow b m) (pPow b n)
  | 0 => by
    show pPow b m = pMul (pPow b m) (pC 1)
    rw [pMul_comm, pOne_mul]
  | n + 1 => by
    rw [← Nat.add_assoc, pPow, pPow_add b m n, pPow, pMul_assoc]
def xs (s : Fp) : Po := pAdd (mono 1 1) (pC s)
theorem pSet_xs {p : Po} (h : sz p ≤ 2) (s : Fp) : pSet (pSet p 0 s) 1 1 = xs s := po_ext (fun j => by
  unfold xs
  rw [co_set, co_set, co_add, co_mono, co_C]
  by_cases q : j = 1
  · subst q; rw [if_pos rfl, if_pos rfl, if_neg (by omega)]; grind
  · rw [if_neg q, if_neg q]
    by_cases q2 : j = 0
    · rw [if_pos q2, if_pos q2]; grind
    · rw [if_neg q2, if_neg q2, sz_hi (by omega)]; grind)
theorem xs_sz (s : Fp) : sz (xs s) = 2 := sz_eq (fun j hj => by
  unfold xs
  rw [co_add, co_mono, co_C, if_neg (by omega), if_neg (by omega)]; grind) (fun _ => by
  unfold xs
  rw [co_add, co_mono, co_C, if_pos rfl, if_neg (by decide)]
  decide)
def rtO (f c : Int32) : hE := .inr (7, [.ref 428, .int f, .ref 429, .int c, .ref 438, .ref 440, .ref 442, .ref 444, .ref 446])
def RT (m : Hp) (f c : Int32) (v : Nat → Int32) : Prop := m 427 = some (rtO f c) ∧ m 428 = some (.inl (0, 4, .inl v)) ∧ (∃ g, m 429 = some (.inl (4, 4, .inr (.inr (.inr (.inr g))))) ∧ ∀ j, j < 4 → g j = some (430 + 2 * j)) ∧ DV m 446
theorem np_427 : np 427 := by unfold np; decide
theorem np_428 : np 428 := by unfold np; decide
theorem np_429 : np 429 := by unfold np; decide
theorem pl_rt : pl 438 = 7 ∧ pl 440 = 7 ∧ pl 442 = 7 ∧ pl 444 = 7 ∧ (∀ j, j < 4 → pl (430 + 2 * j) = 7) := by decide
theorem RT.ck {m : Hp} {f c : Int32} {v : Nat → Int32} (w : RT m f c v) (P : Nat → Po) : cK (conc P m) 427 7 = some () := cm_cK np_427 w.1
theorem RT.g0 {m : Hp} {f c : Int32} {v : Nat → Int32} (w : RT m f c v) (P : Nat → Po) : gR (conc P m) 427 7 0 = some 428 := cm_gR np_427 w.1 rfl
theorem RT.g1 {m : Hp} {f c : Int32} {v : Nat → Int32} (w : RT m f c v) (P : Nat → Po) : gI (conc P m) 427 7 1 = some f := cm_gI np_427 w.1 rfl
theorem RT.g2 {m : Hp} {f c : Int32} {v : Nat → Int32} (w : RT m f c v) (P : Nat → Po) : gR (conc P m) 427 7 2 = some 429 := cm_gR np_427 w.1 rfl
theorem RT.g3 {m : Hp} {f c : Int32} {v : Nat → Int32} (w : RT m f c v) (P : Nat → Po) : gI (conc P m) 427 7 3 = some c := cm_gI np_427 w.1 rfl
theorem RT.g4 {m : Hp} {f c : Int32} {v : Nat → Int32} (w : RT m f c v) (P : Nat → Po) : gR (conc P m) 427 7 4 = some 438 := cm_gR np_427 w.1 rfl
theorem RT.g5 {m : Hp} {f c : Int32} {v : Nat → Int32} (w : RT m f c v) (P : Nat → Po) : gR (conc P m) 427 7 5 = some 440 := cm_gR np_427 w.1 rfl
theorem RT.g6 {m : Hp} {f c : Int32} {v : Nat → Int32} (w : RT m f c v) (P : Nat → Po) : gR (conc P m) 427 7 6 = some 442 := cm_gR np_427 w.1 rfl
theorem RT.g7 {m : Hp} {f c : Int32} {v : Nat → Int32} (w : RT m f c v) (P : Nat → Po) : gR (conc P m) 427 7 7 = some 444 := cm_gR np_427 w.1 rfl
theorem RT.g8 {m : Hp} {f c : Int32} {v : Nat → Int32} (w : RT m f c v) (P : Nat → Po) : gR (conc P m) 427 7 8 = some 446 := cm_gR np_427 w.1 rfl
theorem RT.a {m : Hp} {f c : Int32} {v : Nat → Int32} (w : RT m f c v) (P : Nat → Po) {j : Nat} (hj : j < 4) : aR (conc P m) 429 4 (nI j) = some (430 + 2 * j) := by
  obtain ⟨g, h1, h2⟩ := w.2.2.1
  exact cm_aR np_429 h1 hj (by decide) (h2 j hj)
theorem add_z (p : Po) : pAdd (pC 0) (pMul (pC 1) p) = p := by
  letI := pr
  simp only [hA, hM, h0, h1]
  grind
theorem raise_l {N md e : Nat} {sI : Int32} {b : Po} {m : Hp} {f c : Int32} {v : Nat → Int32} (hN : 1000 ≤ N) (rt : RT m f c v) (hm : pl md ≠ 0) (nmd : md ≠ 438 ∧ md ≠ 440 ∧ md ≠ 442 ∧ md ≠ 444) (hbit : ∀ j, j < 15 → (nI e >>> (nI j &&& 31)) &&& (1 : Int32) = nI (e / 2 ^ j % 2)) (hb2 : sz b ≤ 2) {w : Po} (hw : 2 ≤ sz w ∧ sz w ≤ 5) : ∀ (k n : Nat) (P : Nat → Po), k ≤ 15 → k < n → FT P → P md = w → P 438 = b → cg w (pPow b (e / 2 ^ k)) (P 440) → sz (P 440) < sz w → ∃ P', lX5_raise_38 N 427 sI (nI e) md n (dI k) (conc P m) (fun _ h => some h) = some (conc P' m) ∧ FT P' ∧ cg w (pPow b e) (P' 440) ∧ sz (P' 440) < sz w ∧ (∀ x, x ≠ 440 → x ≠ 442 → x ≠ 444 → P' x = P x)
  | k, 0, P, _, hn, _, _, _, _, _ => absurd hn (Nat.not_lt_zero _)
  | 0, n + 1, P, hk, hn, wf, hP, hb, hc, hs => by
    refine ⟨P, ?_, wf, ?_, hs, fun _ _ _ _ => rfl⟩
    · rw [lX5_raise_38, if_pos (by decide)]
    · rw [Nat.pow_zero, Nat.div_one] at hc; exact hc
  | k + 1, n + 1, P, hk, hn, wf, hP, hb, hc, hs => by
    obtain ⟨p1, p2, p3, p4, p5⟩ := pl_rt
    have c1 := clear_c hN (m := m) wf (a := 442) (by omega)
    have w1 : FT (st P 442 (pC 0)) := wf.st (by rw [sz_z]; omega)
    have x0 : st P 442 (pC 0) 440 = P 440 := st_ne _ _ (by omega)
    have c2 := addProduct_c hN (m := m) w1 (a := 442) (b := 440) (d := 440) (by omega) (by omega) (by omega) (by omega) (by omega) 1 (by rw [x0]; omega) (by rw [x0]; omega)
    rw [x0, st_same, st_st, add_z] at c2
    have w2 : FT (st P 442 (pMul (P 440) (P 440))) := wf.st c2.2
    have xm : st P 442 (pMul (P 440) (P 440)) md = w := by rw [st_ne _ _ nmd.2.2.1]; exact hP
    have c3 := divideBy_c hN (m := m) w2 (a := 442) (b := md) (q := 444) (by omega) hm (by omega) (by omega) (by omega) (by omega) (fun _ => by have := c2.2; rw [st_same, xm]; omega)
    rw [st_same, xm] at c3
    have w3 := (w2.st c3.2.1).st c3.2.2
    have hr := (pdm (pMul (P 440) (P 440)) (d := w) (by omega)).2
    have c4 := clear_c hN (m := m) w3 (a := 440) (by omega)
    have w4 := w3.st (a := 440) (p := pC 0) (by rw [sz_z]; omega)
    -- the remainder of the square
    obtain ⟨Q, hQ⟩ : ∃ Q, Q = st (st (st P 442 (pMul (P 440) (P 440))) 444 (pdv (pMul (P 440) (P 440)) w)) 442 (pmd (pMul (P 440) (P 440)) w) := ⟨_, rfl⟩
    rw [← hQ] at c3 w3 c4 w4
    have q442 : Q 442 = pmd (pMul (P 440) (P 440)) w := by rw [hQ, st_same]
    have qo : ∀ x, x ≠ 442 → x ≠ 444 → Q x = P x := fun x h1 h2 => by rw [hQ, st_ne _ _ h1, st_ne _ _ h2, st_ne _ _ h1]
    have hsq : cg w (pPow b (e / 2 ^ (k + 1) + e / 2 ^ (k + 1))) (pmd (pMul (P 440) (P 440)) w) := by
      rw [pPow_add]
      exact cg_trans (cg_mul hc hc) (cg_mod _ (by omega))
    have he : e / 2 ^ k = e / 2 ^ (k + 1) + e / 2 ^ (k + 1) + e / 2 ^ k % 2 := by
      have : e / 2 ^ (k + 1) = e / 2 ^ k / 2 := by rw [Nat.pow_succ, Nat.div_div_eq_div_mul]
      omega
    rw [lX5_raise_38, if_neg (fun z => by have := (dI_lt_0 (by omega)).mp z; omega)]
    simp only [rt.g6, rt.g5, rt.g7, Option.bind_some, po_ck (show pl 442 ≠ 0 by omega), po_ck (show pl 440 ≠ 0 by omega), c1]
    show ∃ P', (fX4_addProduct N 442 (nI (1 : Fp).val) 440 440 (conc (st P 442 (pC 0)) m)).bind _ = _ ∧ _
    rw [c2.1]
    simp only [rt.g6, rt.g5, rt.g7, Option.bind_some, po_ck (show pl 442 ≠ 0 by omega), po_ck (show pl 440 ≠ 0 by omega), c3.1, c4]
    unfold jn
    dsimp only
    rw [dI_succ, hbit k (by omega)]
    show ∃ P', (if nI (e / 2 ^ k % 2) = nI 1 then _ else _) = _ ∧ _
    by_cases q : e / 2 ^ k % 2 = 1
    · have y1 : st Q 440 (pC 0) 442 = pmd (pMul (P 440) (P 440)) w := by rw [st_ne _ _ (by omega)]; exact q442
      have y2 : st Q 440 (pC 0) 438 = b := by rw [st_ne _ _ (by omega), qo 438 (by omega) (by omega)]; exact hb
      have c5 := addProduct_c hN (m := m) w4 (a := 440) (b := 442) (d := 438) (by omega) (by omega) (by omega) (by omega) (by omega) 1 (by rw [y1, y2]; omega) (by rw [y1]; omega)
      rw [y1, y2, st_same, st_st, add_z] at c5
      have w5 := w3.st c5.2
      have ym : st Q 440 (pMul (pmd (pMul (P 440) (P 440)) w) b) md = w := by rw [st_ne _ _ nmd.2.1, qo md nmd.2.2.1 nmd.2.2.2]; exact hP
      have c6 := divideBy_c hN (m := m) w5 (a := 440) (b := md) (q := 444) (by omega) hm (by omega) (by omega) (by omega) (by omega) (fun _ => by have := c5.2; rw [st_same, ym]; omega)
      rw [st_same, ym] at c6
      have w6 := (w5.st c6.2.1).st c6.2.2
      have hr2 := (pdm (pMul (pmd (pMul (P 440) (P 440)) w) b) (d := w) (by omega)).2
      obtain ⟨P', g1, g2, g3, g4, g5⟩ := raise_l (sI := sI) hN rt hm nmd hbit hb2 hw k n _ (by omega) (by omega) w6 (by
        rw [st_ne _ _ nmd.2.1, st_ne _ _ nmd.2.2.2, ym]) (by
        rw [st_ne _ _ (by omega), st_ne _ _ (by omega), st_ne _ _ (by omega), qo 438 (by omega) (by omega)]; exact hb) (by
        rw [st_same, he, q, pPow_add]
        refine cg_trans (cg_mul hsq (?_ : cg w (pPow b 1) b)) (cg_mod _ (by omega))
        rw [show pPow b 1 = b from pOne_mul b]
        exact cg_refl _ _) (by rw [st_same]; exact hr2)
      refine ⟨P', ?_, g2, g3, g4, fun x h1 h2 h3 => by rw [g5 x h1 h2 h3, st_ne _ _ h1, st_ne _ _ h3, st_ne _ _ h1, qo x h2 h3]⟩
      rw [if_pos (by rw [q])]
      simp only [rt.g6, rt.g5, rt.g7, rt.g4, Option.bind_some, po_ck (show pl 440 ≠ 0 by omega)]
      show (fX4_addProduct N 440 (nI (1 : Fp).val) 442 438 (conc (st Q 440 (pC 0)) m)).bind _ = _
      rw [c5.1]
      simp only [rt.g5, rt.g7, Option.bind_some, po_ck (show pl 440 ≠ 0 by omega), c6.1]
      unfold nm
      rw [show nI k + -1 = dI k from (Int32.sub_eq_add_neg (a := nI k) (b := 1)).symm]
      exact g1
    · have q0 : e / 2 ^ k % 2 = 0 := by omega
      have y1 : st Q 440 (pC 0) 442 = pmd (pMul (P 440) (P 440)) w := by rw [st_ne _ _ (by omega)]; exact q442
      have c5 := copyFrom_c hN (m := m) w4 (a := 440) (b := 442) (by omega) (by omega) (by omega) (by rw [y1]; omega)
      rw [y1, st_st] at c5
      have w5 := w3.st (a := 440) (p := pmd (pMul (P 440) (P 440)) w) (by omega)
      obtain ⟨P', g1, g2, g3, g4, g5⟩ := raise_l (sI := sI) hN rt hm nmd hbit hb2 hw k n _ (by omega) (by omega) w5 (by
        rw [st_ne _ _ nmd.2.1, qo md nmd.2.2.1 nmd.2.2.2]; exact hP) (by
        rw [st_ne _ _ (by omega), qo 438 (by omega) (by omega)]; exact hb) (by
        rw [st_same, he, q0, Nat.add_zero]
        exact hsq) (by rw [st_same]; exact hr)
      refine ⟨P', ?_, g2, g3, g4, fun x h1 h2 h3 => by rw [g5 x h1 h2 h3, st_ne _ _ h1, qo x h2 h3]⟩
      rw [if_neg (fun z => q ((eq_n (by omega) (by omega)).mp z))]
      simp only [rt.g6, rt.g5, Option.bind_some, po_ck (show pl 440 ≠ 0 by omega), c5]
      unfold nm
      rw [show nI k + -1 = dI k from (Int32.sub_eq_add_neg (a := nI k) (b := 1)).symm]
      exact g1
/-- raise -/
theorem raise_c {N md e : Nat} {s : Fp} {m : Hp} {f c : Int32} {v : Nat → Int32} {P : Nat → Po} (hN : 1000 ≤ N) (wf : FT P) (rt : RT m f c v) (hm : pl md ≠ 0) (nmd : md ≠ 438 ∧ md ≠ 440 ∧ md ≠ 442 ∧ md ≠ 444) (he : e < 2 ^ 15) (hbit : ∀ j, j < 15 → (nI e >>> (nI j &&& 31)) &&& (1 : Int32) = nI (e / 2 ^ j % 2)) (hb2 : sz (P 438) ≤ 2) (hw : 2 ≤ sz (P md) ∧ sz (P md) ≤ 5) : ∃ P', fX5_raise N 427 (nI s.val) (nI e) md (conc P m) = some (conc P' m) ∧ FT P' ∧ cg (P md) (pPow (xs s) e) (P' 440) ∧ sz (P' 440) < sz (P md) ∧ sz (P' 438) ≤ 2 ∧ (∀ x, x ≠ 438 → x ≠ 440 → x ≠ 442 → x ≠ 444 → P' x = P x) := by
  obtain ⟨p1, p2, p3, p4, p5⟩ := pl_rt
  have c1 := setNumber_c hN (m := m) wf (a := 438) (by omega) (j := 0) (by omega) s
  have w1 := wf.st c1.2
  have c2 := setNumber_c hN (m := m) w1 (a := 438) (by omega) (j := 1) (by omega) 1
  rw [st_same, st_st, pSet_xs hb2] at c2
  have w2 : FT (st P 438 (xs s)) := wf.st c2.2
  have c3 := clear_c hN (m := m) w2 (a := 440) (by omega)
  have w3 := w2.st (a := 440) (p := pC 0) (by rw [sz_z]; omega)
  have c4 := setNumber_c hN (m := m) w3 (a := 440) (by omega) (j := 0) (by omega) 1
  rw [st_same, st_st, pSet_1 (by rw [sz_z]; omega)] at c4
  have w4 := w2.st c4.2
  have s1 : sz (pC (1 : Fp)) ≤ 1 := sz_C 1
  obtain ⟨P', g1, g2, g3, g4, g5⟩ := raise_l (sI := nI s.val) hN rt hm nmd hbit (b := xs s) (by rw [xs_sz]; omega) (w := P md) hw 15 N _ (by omega) (by omega) w4 (by rw [st_ne _ _ nmd.2.1, st_ne _ _ nmd.1]) (by rw [st_ne _ _ (by omega), st_same]) (by
    rw [st_same, Nat.div_eq_of_lt he]
    exact cg_refl _ _) (by rw [st_same]; omega)
  refine ⟨P', ?_, g2, g3, g4, ?_, fun x h1 h2 h3 h4 => by rw [g5 x h2 h3 h4, st_ne _ _ h2, st_ne _ _ h1]⟩
  · unfold fX5_raise
    simp only [rt.g4, Option.bind_some, po_ck (show pl 438 ≠ 0 by omega)]
    show (fX4_setNumber N 438 (nI 0) (nI s.val) (conc P m)).bind _ = _
    rw [c1.1]
    simp only [rt.g4, Option.bind_some, po_ck (show pl 438 ≠ 0 by omega)]
    show (fX4_setNumber N 438 (nI 1) (nI (1 : Fp).val) (conc _ m)).bind _ = _
    rw [c2.1]
    simp only [rt.g5, Option.bind_some, po_ck (show pl 440 ≠ 0 by omega), c3]
    show (fX4_setNumber N 440 (nI 0) (nI (1 : Fp).val) (conc _ m)).bind _ = _
    rw [c4.1]
    exact g1
  · rw [g5 438 (by omega) (by omega) (by omega), st_ne _ _ (by omega), st_same, xs_sz]
    omega
