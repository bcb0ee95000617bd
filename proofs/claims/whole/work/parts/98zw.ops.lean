/-! the calls, one by one -/
section OPT
variable {N : Nat}
theorem ua_76 (A : Nat → Nat → Int32) (f6 f7 : Nat → Int32) : ua (ua A 7 f7) 6 f6 3 = A 3 ∧ ua (ua A 7 f7) 6 f6 4 = A 4 ∧ ua (ua A 7 f7) 6 f6 5 = A 5 := ⟨by rw [ua_n _ _ (by decide), ua_n _ _ (by decide)], by rw [ua_n _ _ (by decide), ua_n _ _ (by decide)], by rw [ua_n _ _ (by decide), ua_n _ _ (by decide)]⟩
theorem op_det (hN : 33000 ≤ N) {h : Hp} (k : LK h) (a1 : Int32) : RES N (fL_determinant N 0 a1 664 h) (fun h1 => fX8_determinant N 645 a1 h1) := by
  obtain ⟨P, I, B, inc, sl, cd, R, C, A, g, E, ft, gE, rfl, li⟩ := k
  obtain ⟨⟨w1, w2, w3, w4, w5, w6⟩, ⟨b1, b2, b3, b4⟩, ⟨c1, c2, c3, c4⟩, ⟨d1, d2, d3⟩, e1, e2, e3, e4⟩ := id li
  have ec := det_c (N := N) (P := P) (I := I) (B := B) (inc := inc) (sl := sl) (h0 := rfh (og g) cd (nI R) (nI C) A) (by omega) w1 (by omega) (by omega) w5 w6 b1 b2 c1 d1 a1
  by_cases q : R = C
  · obtain ⟨P', I', t1, t2, t3, t4, t5, t6, t7⟩ := ec.2 q
    obtain ⟨f6, f7, r1⟩ := (det_r (N := N) (h0 := HH P' I' B inc sl (og (vp_updL g 0 (cfp (mi E (2 ^ R - 1) (2 ^ R - 1)) a1).toInt64))) (cd := cd) (A := A) hN (by omega) (by omega) b2 b3 a1).2 q
    refine res_of (k := 0) (g := g) (w := cfp (mi E (2 ^ R - 1) (2 ^ R - 1)) a1) (cd := cd) (P := P') (I := I') (B := B) (inc := inc) (sl := sl) (A := A) (g1 := vp_updL g 0 (cfp (mi E (2 ^ R - 1) (2 ^ R - 1)) a1).toInt64) ?_ r1 (fun _ => rfl) (li_A (li_M li t2 t3 t4 t5 t6 t7) (ua_76 A f6 f7).1 (ua_76 A f6 f7).2.1 (ua_76 A f6 f7).2.2)
    unfold fL_determinant
    rw [lh_ck0, Option.bind_some, lh_c, t1, Option.bind_some]
    unfold hnd
    dsimp only
    rw [← lh_c, lh_js, Option.bind_some]
  · refine res_of (k := 1) (g := g) (w := 0) (cd := cd) (P := P) (I := I) (B := B) (inc := inc) (sl := sl) (A := A) (g1 := g) ?_ ((det_r hN (by omega) (by omega) b2 b3 a1).1 q) (fun z => absurd z (by decide)) li
    unfold fL_determinant
    rw [lh_ck0, Option.bind_some, lh_c, ec.1 q, Option.bind_some]
    unfold hnd
    dsimp only
    rw [if_pos rfl]
theorem op_chr (hN : 33000 ≤ N) {h : Hp} (k : LK h) (a1 : Int32) : RES N (fL_characteristic N 0 a1 664 h) (fun h1 => fX8_characteristic N 645 a1 h1) := by
  obtain ⟨P, I, B, inc, sl, cd, R, C, A, g, E, ft, gE, rfl, li⟩ := k
  obtain ⟨⟨w1, w2, w3, w4, w5, w6⟩, ⟨b1, b2, b3, b4⟩, ⟨c1, c2, c3, c4⟩, ⟨d1, d2, d3⟩, e1, e2, e3, e4⟩ := id li
  have ec := chr_c (N := N) (P := P) (I := I) (B := B) (inc := inc) (sl := sl) (h0 := rfh (og g) cd (nI R) (nI C) A) (by omega) w1 (by omega) (by omega) w5 w6 b1 c2 d2 a1
  by_cases q : R = C
  · obtain ⟨P', I', t1, t2, t3, t4, t5, t6⟩ := ec.2 q
    obtain ⟨f6, f7, r1⟩ := (chr_r (N := N) (h0 := HH P' I' B inc sl (og (vp_updL g 0 (cfp (chp E R) a1).toInt64))) (cd := cd) (A := A) hN (by omega) (by omega) b3 a1).2 q
    refine res_of (k := 0) (g := g) (w := cfp (chp E R) a1) (cd := cd) (P := P') (I := I') (B := B) (inc := inc) (sl := sl) (A := A) (g1 := vp_updL g 0 (cfp (chp E R) a1).toInt64) ?_ r1 (fun _ => rfl) (li_A (li_N li t2 t3 t4 (fun q => by
      rw [t5 4 (by decide) (by decide)]
      rcases d3 q with z | z
      · exact Or.inl z
      · obtain ⟨n, gg, y⟩ := z.2
        refine Or.inr ⟨z.1, n, gg, ?_⟩
        rw [t5 7 (by decide) (by decide)]
        exact y) (fun k k1 k2 k3 k4 k5 => t5 k k1 k3) rfl (fun x hx x1 x2 x3 => t6 x (by omega)) (by rw [t6 438 (by omega)]; exact c3) (by rw [t6 643 (by omega)]; exact c4)) (ua_76 A f6 f7).1 (ua_76 A f6 f7).2.1 (ua_76 A f6 f7).2.2)
    unfold fL_characteristic
    rw [lh_ck0, Option.bind_some, lh_c, t1, Option.bind_some]
    unfold hnd
    dsimp only
    rw [← lh_c, lh_js, Option.bind_some]
  · refine res_of (k := 1) (g := g) (w := 0) (cd := cd) (P := P) (I := I) (B := B) (inc := inc) (sl := sl) (A := A) (g1 := g) ?_ ((chr_r hN (by omega) (by omega) b3 a1).1 q) (fun z => absurd z (by decide)) li
    unfold fL_characteristic
    rw [lh_ck0, Option.bind_some, lh_c, ec.1 q, Option.bind_some]
    unfold hnd
    dsimp only
    rw [if_pos rfl]
theorem op_min (hN : 33000 ≤ N) {h : Hp} (k : LK h) (a1 : Int32) : RES N (fL_minimal N 0 a1 664 h) (fun h1 => fX8_minimal N 645 a1 h1) := by
  obtain ⟨P, I, B, inc, sl, cd, R, C, A, g, E, ft, gE, rfl, li⟩ := k
  obtain ⟨⟨w1, w2, w3, w4, w5, w6⟩, ⟨b1, b2, b3, b4⟩, ⟨c1, c2, c3, c4⟩, ⟨d1, d2, d3⟩, e1, e2, e3, e4⟩ := id li
  have ec := min_c (N := N) (P := P) (I := I) (B := B) (inc := inc) (sl := sl) (h0 := rfh (og g) cd (nI R) (nI C) A) (by omega) w1 (by omega) (by omega) w5 w6 b1 c2 d2 a1
  by_cases q : R = C
  · obtain ⟨P', I', t1, t2, t3, t4, t5, t6⟩ := ec.2 q
    obtain ⟨A', r1, r2⟩ := (min_r (N := N) (h0 := HH P' I' B inc sl (og (vp_updL g 0 (if R = 0 then (if a1 = 0 then 1 else 0) else cfp (ivf (gd (xE E R)) (R - 1)) a1).toInt64))) (cd := cd) (A := A) (by omega) (by omega) (by omega) b3 a1).2 q
    refine res_of (k := 0) (g := g) (w := if R = 0 then (if a1 = 0 then 1 else 0) else cfp (ivf (gd (xE E R)) (R - 1)) a1) (cd := cd) (P := P') (I := I') (B := B) (inc := inc) (sl := sl) (A := A) (g1 := vp_updL g 0 (if R = 0 then (if a1 = 0 then 1 else 0) else cfp (ivf (gd (xE E R)) (R - 1)) a1).toInt64) ?_ r1 (fun _ => rfl) (li_A (li_N li t2 t3 t4 (fun q => by
      rw [t5 4 (by decide) (by decide)]
      rcases d3 q with z | z
      · exact Or.inl z
      · obtain ⟨n, gg, y⟩ := z.2
        refine Or.inr ⟨z.1, n, gg, ?_⟩
        rw [t5 7 (by decide) (by decide)]
        exact y) (fun k k1 k2 k3 k4 k5 => t5 k k1 k3) rfl (fun x hx x1 x2 x3 => t6 x (by omega)) (by rw [t6 438 (by omega)]; exact c3) (by rw [t6 643 (by omega)]; exact c4)) (r2 3 (by decide) (by decide) (by decide) (by decide) (by decide)) (r2 4 (by decide) (by decide) (by decide) (by decide) (by decide)) (r2 5 (by decide) (by decide) (by decide) (by decide) (by decide)))
    unfold fL_minimal
    rw [lh_ck0, Option.bind_some, lh_c, t1, Option.bind_some]
    unfold hnd
    dsimp only
    rw [← lh_c, lh_js, Option.bind_some]
  · refine res_of (k := 1) (g := g) (w := 0) (cd := cd) (P := P) (I := I) (B := B) (inc := inc) (sl := sl) (A := A) (g1 := g) ?_ ((min_r (by omega) (by omega) (by omega) b3 a1).1 q) (fun z => absurd z (by decide)) li
    unfold fL_minimal
    rw [lh_ck0, Option.bind_some, lh_c, ec.1 q, Option.bind_some]
    unfold hnd
    dsimp only
    rw [if_pos rfl]
theorem rt_eq {w : Po} {g : Nat → Fp} {n : Nat} (hn : n ≤ 4) {k r r' : Int32} (h : (∃ j, j < n ∧ k = nI j ∧ r = nI (g j).val) ∨ ((∀ j, j < n → k ≠ nI j) ∧ r = -1)) (h' : (∃ j, j < n ∧ k = nI j ∧ r' = nI (g j).val) ∨ ((∀ j, j < n → k ≠ nI j) ∧ r' = -1)) : r = r' := by
  rcases h with ⟨j, a1, a2, a3⟩ | ⟨a1, a2⟩
  · rcases h' with ⟨i, b1, b2, b3⟩ | ⟨b1, b2⟩
    · have : j = i := (eq_n (by omega) (by omega)).mp (a2.symm.trans b2)
      rw [a3, b3, this]
    · exact absurd a2 (b1 j a1)
  · rcases h' with ⟨i, b1, b2, b3⟩ | ⟨b1, b2⟩
    · exact absurd b2 (a1 i b1)
    · rw [a2, b2]
theorem op_root (hN : 33000 ≤ N) {h : Hp} (k : LK h) (a1 : Int32) : RES N (fL_root N 0 a1 664 h) (fun h1 => fX8_root N 645 a1 h1) := by
  obtain ⟨P, I, B, inc, sl, cd, R, C, A, g, E, ft, gE, rfl, li⟩ := k
  obtain ⟨⟨w1, w2, w3, w4, w5, w6⟩, ⟨b1, b2, b3, b4⟩, ⟨c1, c2, c3, c4⟩, ⟨d1, d2, d3⟩, e1, e2, e3, e4⟩ := id li
  have ec := root_c (N := N) (P := P) (I := I) (B := B) (inc := inc) (sl := sl) (h0 := rfh (og g) cd (nI R) (nI C) A) hN w1 (by omega) (by omega) w5 w6 b1 c2 d2 c3 d3 a1
  by_cases q : R = C
  · obtain ⟨r, P', I', B', n, gg, t1, t2, t3, t4, t5, t6, t7, t8, t9, t10, t11, t12⟩ := ec.2 q
    obtain ⟨r', f6, f7, r1, r2⟩ := (root_r (N := N) (h0 := HH P' I' B' inc sl (og (vp_updL g 0 r.toInt64))) (cd := cd) (A := A) hN (by omega) (by omega) b3 a1).2 q
    have e : r = r' := rt_eq (w := chp E R) t2.1 t3 (root_tie t2.2.1 t2.2.2 t2.1 r2)
    rw [← e] at r1
    refine res_of (k := 0) (g := g) (w := r) (cd := cd) (P := P') (I := I') (B := B') (inc := inc) (sl := sl) (A := A) (g1 := vp_updL g 0 r.toInt64) ?_ r1 (fun _ => rfl) (li_A (li_N li t4 t5 t6 (fun _ => Or.inr ⟨t7, t8⟩) t10 (t11 2 (by decide)) (fun x hx _ _ _ => t12 x hx) t9 (by rw [t12 643 (by omega)]; exact c4)) (ua_76 A f6 f7).1 (ua_76 A f6 f7).2.1 (ua_76 A f6 f7).2.2)
    unfold fL_root
    rw [lh_ck0, Option.bind_some, lh_c, t1, Option.bind_some]
    unfold hnd
    dsimp only
    rw [← lh_c, lh_js, Option.bind_some]
  · refine res_of (k := 1) (g := g) (w := 0) (cd := cd) (P := P) (I := I) (B := B) (inc := inc) (sl := sl) (A := A) (g1 := g) ?_ ((root_r hN (by omega) (by omega) b3 a1).1 q) (fun z => absurd z (by decide)) li
    unfold fL_root
    rw [lh_ck0, Option.bind_some, lh_c, ec.1 q, Option.bind_some]
    unfold hnd
    dsimp only
    rw [if_pos rfl]
theorem one_5 {a : Int32} (h1 : 1 ≤ a) (h5 : a ≤ 5) : ∃ m, 1 ≤ m ∧ m ≤ 5 ∧ a = nI m := by
  rw [Int32.le_iff_toInt_le] at h1 h5
  have : inx a 6 := (inx_int (by omega)).mpr ⟨by have : (1 : Int32).toInt = 1 := rfl; omega, by have : (5 : Int32).toInt = 5 := rfl; omega⟩
  obtain ⟨m, hm, e⟩ := this
  refine ⟨m, ?_, by omega, e⟩
  refine Classical.byContradiction (fun z => ?_)
  rw [e, show m = 0 by omega] at h1
  exact absurd h1 (by decide)
theorem op_blocks (hN : 33000 ≤ N) {h : Hp} (k : LK h) (a1 a2 : Int32) : RES N (fL_blocks N 0 a1 a2 664 h) (fun h1 => fX8_blocks N 645 a1 a2 h1) := by
  obtain ⟨P, I, B, inc, sl, cd, R, C, A, g, E, ft, gE, rfl, li⟩ := k
  obtain ⟨⟨w1, w2, w3, w4, w5, w6⟩, ⟨b1, b2, b3, b4⟩, ⟨c1, c2, c3, c4⟩, ⟨d1, d2, d3⟩, e1, e2, e3, e4⟩ := id li
  have ec := blocks_c (N := N) (P := P) (I := I) (B := B) (inc := inc) (sl := sl) (h0 := rfh (og g) cd (nI R) (nI C) A) hN w1 (by omega) (by omega) w5 w6 b1 c2 d2 c3 d3 c4 a1 a2
  by_cases q : R = C
  · obtain ⟨y, P', I', B', n, gg, t1, t2, t3, t3', t4, t5, t6, t7, t8, t9, t9', t10, t11, t12⟩ := ec.2 q
    have fl : ∀ v : Int32, y = .inr v → fL_blocks N 0 a1 a2 664 (LH P I B inc sl cd (nI R) (nI C) A g) = some (0, LH P' I' B' inc sl cd (nI R) (nI C) A (vp_updL g 0 v.toInt64)) := fun v hv => by
      unfold fL_blocks
      rw [lh_ck0, Option.bind_some, lh_c, t1, Option.bind_some, hv]
      unfold hnd
      dsimp only
      rw [← lh_c, lh_js, Option.bind_some]
    have liN : LI P' I' B' inc sl R C A E ft gE := li_N li t4 t5 t6 (fun _ => Or.inr ⟨t7, t8⟩) t10 (t11 2 (by decide)) (fun x hx x1 x2 x3 => t12 x hx x1 x2 x3) t9 t9'
    have rr := fun g1 => (blocks_r (N := N) (h0 := HH P' I' B' inc sl (og g1)) (cd := cd) (A := A) hN (by omega) (by omega) b3 a1 a2).2 q
    by_cases z : inx a1 n ∧ 1 ≤ a2
    · obtain ⟨⟨j, hj, ej⟩, h1⟩ := z
      have hy := t3' j hj ej h1
      obtain ⟨r', r0, r1, r2, r3⟩ := rr (vp_updL g 0 (nI (bcnt (ivf (gd (xE E R))) (xs (- gg j)) a2 R)).toInt64)
      have er : nI (gg j).val = r' := rt_eq (w := chp E R) t2.1 (Or.inl ⟨j, hj, ej, rfl⟩) (root_tie t2.2.1 t2.2.2 t2.1 r0)
      have rn : r' ≠ -1 := fun y => by
        have := (gg j).isLt
        rw [← er] at y
        have z : (nI (gg j).val).toInt = (-1 : Int32).toInt := by rw [y]
        rw [nI_toInt (by omega)] at z
        have : (-1 : Int32).toInt = -1 := by decide
        omega
      by_cases h5 : a2 ≤ 5
      · obtain ⟨m, m1, m5, em⟩ := one_5 h1 h5
        obtain ⟨A', x0, x1, x2, s1, s2, s3, s4, s5⟩ := r3 (gg j) m er.symm m1 m5 em
        have bt := blk_tie E w3 (gg j) m1 m5 s2 s3 s4
        rw [← bt, ← em] at s1
        exact res_of (k := 0) (g := g) (w := nI (bcnt (ivf (gd (xE E R))) (xs (- gg j)) a2 R)) (cd := cd) (P := P') (I := I') (B := B') (inc := inc) (sl := sl) (A := A) (A' := A') (fl _ hy) s1 (fun _ => rfl) (li_A liN (s5 3 (by decide) (by decide) (by decide) (by decide)) (s5 4 (by decide) (by decide) (by decide) (by decide)) (s5 5 (by decide) (by decide) (by decide) (by decide)))
      · obtain ⟨A', s1, s5⟩ := r2 rn h1 h5
        have b0 := blk_0 E w3 (gg j) h5
        have s1' : fX8_blocks N 645 a1 a2 (LH P' I' B' inc sl cd (nI R) (nI C) A (vp_updL g 0 (nI (bcnt (ivf (gd (xE E R))) (xs (- gg j)) a2 R)).toInt64)) = some (nI (bcnt (ivf (gd (xE E R))) (xs (- gg j)) a2 R), LH P' I' B' inc sl 0 (nI R) (nI C) A' (vp_updL g 0 (nI (bcnt (ivf (gd (xE E R))) (xs (- gg j)) a2 R)).toInt64)) := by
          have e : nI (bcnt (ivf (gd (xE E R))) (xs (- gg j)) a2 R) = 0 := by rw [b0]; rfl
          refine Eq.trans s1 ?_
          rw [e]
          rfl
        exact res_of (k := 0) (g := g) (w := nI (bcnt (ivf (gd (xE E R))) (xs (- gg j)) a2 R)) (cd := cd) (P := P') (I := I') (B := B') (inc := inc) (sl := sl) (A := A) (A' := A') (fl _ hy) s1' (fun _ => rfl) (li_A liN (s5 3 (by decide) (by decide) (by decide) (by decide)) (s5 4 (by decide) (by decide) (by decide) (by decide)) (s5 5 (by decide) (by decide) (by decide) (by decide)))
    · have hy := t3 z
      obtain ⟨r', r0, r1, r2, r3⟩ := rr g
      have cond : r' = -1 ∨ ¬ 1 ≤ a2 := by
        by_cases h1 : 1 ≤ a2
        · refine Or.inl ?_
          rcases root_tie t2.2.1 t2.2.2 t2.1 r0 with ⟨j, hj, ej, _⟩ | ⟨_, y⟩
          · exact absurd ⟨⟨j, hj, ej⟩, h1⟩ z
          · exact y
        · exact Or.inr h1
      obtain ⟨A', s1, s5⟩ := r1 cond
      refine res_of (k := 2) (g := g) (w := 0) (cd := cd) (P := P') (I := I') (B := B') (inc := inc) (sl := sl) (A := A) (A' := A') (g1 := g) ?_ s1 (fun z => absurd z (by decide)) (li_A liN (s5 3 (by decide) (by decide) (by decide) (by decide)) (s5 4 (by decide) (by decide) (by decide) (by decide)) (s5 5 (by decide) (by decide) (by decide) (by decide)))
      unfold fL_blocks
      rw [lh_ck0, Option.bind_some, lh_c, t1, Option.bind_some, hy]
      unfold hnd
      dsimp only
      rw [if_neg (by decide), if_pos rfl, lh_c]
  · refine res_of (k := 1) (g := g) (w := 0) (cd := cd) (P := P) (I := I) (B := B) (inc := inc) (sl := sl) (A := A) (g1 := g) ?_ ((blocks_r hN (by omega) (by omega) b3 a1 a2).1 q) (fun z => absurd z (by decide)) li
    unfold fL_blocks
    rw [lh_ck0, Option.bind_some, lh_c, ec.1 q, Option.bind_some]
    unfold hnd
    dsimp only
    rw [if_pos rfl]
theorem p_fit {P : Nat → Po} (w : FT P) {f i j : Nat} (hf : f < 3) (hi : i < 4) (hj : j < 4) : sz (P (ce (509 + 42 * f) i j)) ≤ 40 := by
  have m := mx_f (I := fun _ => 0) (B := fun _ _ => 0) (inc := 0) (sl := fun _ => none) (h0 := fun _ => none) hf
  have p := (m.r hi).p hj
  have := w (ce (509 + 42 * f) i j) (by
    show pl (509 + 42 * f + 2 + 10 * i + 2 + 2 * j) ≠ 0
    rw [p]
    decide)
  have e : pl (ce (509 + 42 * f) i j) = 13 := p
  omega
theorem op_deg (hN : 33000 ≤ N) {h : Hp} (k : LK h) (a1 a2 a3 : Int32) : RES N (fL_degree N 0 a1 a2 a3 664 h) (fun h1 => fX8_degree N 645 a1 a2 a3 h1) := by
  obtain ⟨P, I, B, inc, sl, cd, R, C, A, g, E, ft, gE, rfl, li⟩ := k
  obtain ⟨⟨w1, w2, w3, w4, w5, w6⟩, ⟨b1, b2, b3, b4⟩, ⟨c1, c2, c3, c4⟩, ⟨d1, d2, d3⟩, e1, e2, e3, e4⟩ := id li
  have ec := degree_c (N := N) (P := P) (I := I) (B := B) (inc := inc) (sl := sl) (h0 := rfh (og g) cd (nI R) (nI C) A) (by omega) (by omega) w5 w6 e1 a1 a2 a3
  have it := fun g1 => isThere_s (N := N) (h0 := HH P I B inc sl (og g1)) (cd := cd) (R := R) (C := C) (A := A) (by omega) (by omega) e2 a1 a2 a3
  have no : ∀ k : Int32, fX8_isThere N 645 a1 a2 a3 (rfh (HH P I B inc sl (og g)) cd (nI R) (nI C) A) = some (0, rfh (HH P I B inc sl (og g)) k (nI R) (nI C) A) → fX8_degree N 645 a1 a2 a3 (LH P I B inc sl cd (nI R) (nI C) A g) = some (0, LH P I B inc sl k (nI R) (nI C) A g) := fun k hk => by
    unfold fX8_degree LH
    rw [rf_ck, Option.bind_some, hk, Option.bind_some]
    dsimp only
    rw [if_pos rfl]
  have fl : ∀ (c : Nat) (k : Int32), (c = 1 ∧ k = 1 ∨ c = 2 ∧ k = 2 ∨ c = 3 ∧ k = 3) → fX7_degree N 0 a1 a2 a3 (HH P I B inc sl (rfh (og g) cd (nI R) (nI C) A)) = some (.inl c, HH P I B inc sl (rfh (og g) cd (nI R) (nI C) A)) → fL_degree N 0 a1 a2 a3 664 (LH P I B inc sl cd (nI R) (nI C) A g) = some (k, LH P I B inc sl cd (nI R) (nI C) A g) := fun c k hc hk => by
    unfold fL_degree
    rw [lh_ck0, Option.bind_some, lh_c, hk, Option.bind_some]
    unfold hnd
    dsimp only
    rcases hc with ⟨y, z⟩ | ⟨y, z⟩ | ⟨y, z⟩ <;> subst y <;> subst z
    · rw [if_pos rfl]
    · rw [if_neg (by decide), if_pos rfl]
    · rw [if_neg (by decide), if_neg (by decide), if_pos rfl]
  by_cases q1 : inx a1 3
  · obtain ⟨f, hf, ef⟩ := q1
    have e := ec.2 f hf ef
    have i := fun g1 => (it g1).2 f hf ef
    rcases (show ft f = 0 ∨ ft f = 1 by have := (e1 f hf).2; omega) with z | z
    · exact res_of (k := 2) (g := g) (w := 0) (cd := cd) (P := P) (I := I) (B := B) (inc := inc) (sl := sl) (A := A) (g1 := g) (fl 2 2 (by decide) (e.1 z)) (no 2 ((i g).1 z)) (fun z => absurd z (by decide)) li
    · by_cases q2 : inx a2 R ∧ inx a3 C
      · obtain ⟨⟨x, hx, ex⟩, ⟨y, hy, ey⟩⟩ := q2
        refine res_of (k := 0) (g := g) (w := dI (sz (P (ce (509 + 42 * f) x y)))) (cd := cd) (P := P) (I := I) (B := B) (inc := inc) (sl := sl) (A := A) (g1 := vp_updL g 0 (dI (sz (P (ce (509 + 42 * f) x y)))).toInt64) ?_ ?_ (fun _ => rfl) li
        · unfold fL_degree
          rw [lh_ck0, Option.bind_some, lh_c, e.2.2 z x y hx hy ex ey, Option.bind_some]
          unfold hnd
          dsimp only
          rw [← lh_c, lh_js, Option.bind_some]
        · show fX8_degree N 645 a1 a2 a3 _ = _
          rw [ef, ex, ey]
          exact degree_r (by omega) (by omega) (by omega) e2 hf z hx hy (e4 f x y hf z hx hy) (p_fit w1 hf (by omega) (by omega))
      · exact res_of (k := 3) (g := g) (w := 0) (cd := cd) (P := P) (I := I) (B := B) (inc := inc) (sl := sl) (A := A) (g1 := g) (fl 3 3 (by decide) (e.2.1 z q2)) (no 3 ((i g).2.1 z q2)) (fun z => absurd z (by decide)) li
  · exact res_of (k := 1) (g := g) (w := 0) (cd := cd) (P := P) (I := I) (B := B) (inc := inc) (sl := sl) (A := A) (g1 := g) (fl 1 1 (by decide) (ec.1 q1)) (no 1 ((it g).1 q1)) (fun z => absurd z (by decide)) li
theorem op_at (hN : 33000 ≤ N) {h : Hp} (k : LK h) (a1 a2 a3 a4 : Int32) : RES N (fL_at N 0 a1 a2 a3 a4 664 h) (fun h1 => fX8_at N 645 a1 a2 a3 a4 h1) := by
  obtain ⟨P, I, B, inc, sl, cd, R, C, A, g, E, ft, gE, rfl, li⟩ := k
  obtain ⟨⟨w1, w2, w3, w4, w5, w6⟩, ⟨b1, b2, b3, b4⟩, ⟨c1, c2, c3, c4⟩, ⟨d1, d2, d3⟩, e1, e2, e3, e4⟩ := id li
  have ec := at_c (N := N) (P := P) (I := I) (B := B) (inc := inc) (sl := sl) (h0 := rfh (og g) cd (nI R) (nI C) A) w1 (by omega) (by omega) w5 w6 e1 a1 a2 a3 a4
  have it := fun g1 => isThere_s (N := N) (h0 := HH P I B inc sl (og g1)) (cd := cd) (R := R) (C := C) (A := A) (by omega) (by omega) e2 a1 a2 a3
  have no : ∀ k : Int32, fX8_isThere N 645 a1 a2 a3 (rfh (HH P I B inc sl (og g)) cd (nI R) (nI C) A) = some (0, rfh (HH P I B inc sl (og g)) k (nI R) (nI C) A) → fX8_at N 645 a1 a2 a3 a4 (LH P I B inc sl cd (nI R) (nI C) A g) = some (0, LH P I B inc sl k (nI R) (nI C) A g) := fun k hk => by
    unfold fX8_at LH
    rw [rf_ck, Option.bind_some, hk, Option.bind_some]
    dsimp only
    rw [if_pos rfl]
  have fl : ∀ (c : Nat) (k : Int32), (c = 1 ∧ k = 1 ∨ c = 2 ∧ k = 2 ∨ c = 3 ∧ k = 3) → fX7_at N 0 a1 a2 a3 a4 (HH P I B inc sl (rfh (og g) cd (nI R) (nI C) A)) = some (.inl c, HH P I B inc sl (rfh (og g) cd (nI R) (nI C) A)) → fL_at N 0 a1 a2 a3 a4 664 (LH P I B inc sl cd (nI R) (nI C) A g) = some (k, LH P I B inc sl cd (nI R) (nI C) A g) := fun c k hc hk => by
    unfold fL_at
    rw [lh_ck0, Option.bind_some, lh_c, hk, Option.bind_some]
    unfold hnd
    dsimp only
    rcases hc with ⟨y, z⟩ | ⟨y, z⟩ | ⟨y, z⟩ <;> subst y <;> subst z
    · rw [if_pos rfl]
    · rw [if_neg (by decide), if_pos rfl]
    · rw [if_neg (by decide), if_neg (by decide), if_pos rfl]
  by_cases q1 : inx a1 3
  · obtain ⟨f, hf, ef⟩ := q1
    have e := ec.2 f hf ef
    have i := fun g1 => (it g1).2 f hf ef
    rcases (show ft f = 0 ∨ ft f = 1 by have := (e1 f hf).2; omega) with z | z
    · exact res_of (k := 2) (g := g) (w := 0) (cd := cd) (P := P) (I := I) (B := B) (inc := inc) (sl := sl) (A := A) (g1 := g) (fl 2 2 (by decide) (e.1 z)) (no 2 ((i g).1 z)) (fun z => absurd z (by decide)) li
    · by_cases q2 : inx a2 R ∧ inx a3 C
      · obtain ⟨⟨x, hx, ex⟩, ⟨y, hy, ey⟩⟩ := q2
        refine res_of (k := 0) (g := g) (w := cfp (P (ce (509 + 42 * f) x y)) a4) (cd := cd) (P := P) (I := I) (B := B) (inc := inc) (sl := sl) (A := A) (g1 := vp_updL g 0 (cfp (P (ce (509 + 42 * f) x y)) a4).toInt64) ?_ ?_ (fun _ => rfl) li
        · unfold fL_at
          rw [lh_ck0, Option.bind_some, lh_c, e.2.2 z x y hx hy ex ey, Option.bind_some]
          unfold hnd
          dsimp only
          rw [← lh_c, lh_js, Option.bind_some]
        · show fX8_at N 645 a1 a2 a3 a4 _ = _
          rw [ef, ex, ey]
          exact at_r (by omega) (by omega) e2 hf z hx hy (e4 f x y hf z hx hy) (p_fit w1 hf (by omega) (by omega)) a4
      · exact res_of (k := 3) (g := g) (w := 0) (cd := cd) (P := P) (I := I) (B := B) (inc := inc) (sl := sl) (A := A) (g1 := g) (fl 3 3 (by decide) (e.2.1 z q2)) (no 3 ((i g).2.1 z q2)) (fun z => absurd z (by decide)) li
  · exact res_of (k := 1) (g := g) (w := 0) (cd := cd) (P := P) (I := I) (B := B) (inc := inc) (sl := sl) (A := A) (g1 := g) (fl 1 1 (by decide) (ec.1 q1)) (no 1 ((it g).1 q1)) (fun z => absurd z (by decide)) li
theorem op_rank (hN : 33000 ≤ N) {h : Hp} (k : LK h) : ∃ v h1 h2, cK h 0 9 = some () ∧ fX7_rank N 0 h = some (v, h1) ∧ cK h1 645 10 = some () ∧ fX8_rank N 645 h1 = some (v, h2) ∧ LK h2 := by
  obtain ⟨P, I, B, inc, sl, cd, R, C, A, g, E, ft, gE, rfl, li⟩ := k
  obtain ⟨⟨w1, w2, w3, w4, w5, w6⟩, ⟨b1, b2, b3, b4⟩, ⟨c1, c2, c3, c4⟩, ⟨d1, d2, d3⟩, e1, e2, e3, e4⟩ := id li
  obtain ⟨P', I', t1, t2, t3, t4, t5, t6, t7⟩ := rank_c (N := N) (P := P) (I := I) (B := B) (inc := inc) (sl := sl) (h0 := rfh (og g) cd (nI R) (nI C) A) (by omega) w1 b1 b2 c1 d1
  obtain ⟨f6, f7, r1, _⟩ := rank_r (N := N) (h0 := HH P' I' B inc sl (og g)) (cd := cd) (rw := nI R) (cl := nI C) (A := A) hN b2 b3
  refine ⟨nI (ord E), LH P' I' B inc sl cd (nI R) (nI C) A g, LH P' I' B inc sl 0 (nI R) (nI C) (ua (ua A 7 f7) 6 f6) g, lh_ck0, ?_, lh_ck, r1, _, _, _, _, _, _, _, _, _, _, _, _, _, rfl, li_A (li_M li t2 t3 t4 t5 t6 t7) (ua_76 A f6 f7).1 (ua_76 A f6 f7).2.1 (ua_76 A f6 f7).2.2⟩
  rw [lh_c, t1, lh_c]
theorem op_count (hN : 33000 ≤ N) {h : Hp} (k : LK h) (a1 : Int32) : ∃ v h1 h2, cK h 0 9 = some () ∧ fX7_count N 0 a1 h = some (v, h1) ∧ cK h1 645 10 = some () ∧ fX8_count N 645 a1 h1 = some (v, h2) ∧ LK h2 := by
  obtain ⟨P, I, B, inc, sl, cd, R, C, A, g, E, ft, gE, rfl, li⟩ := k
  obtain ⟨⟨w1, w2, w3, w4, w5, w6⟩, ⟨b1, b2, b3, b4⟩, ⟨c1, c2, c3, c4⟩, ⟨d1, d2, d3⟩, e1, e2, e3, e4⟩ := id li
  have t1 := count_c (N := N) (P := P) (I := I) (B := B) (inc := inc) (sl := sl) (h0 := rfh (og g) cd (nI R) (nI C) A) (by omega) e1 a1
  have r1 := count_r (N := N) (h0 := HH P I B inc sl (og g)) (cd := cd) (rw := nI R) (cl := nI C) (A := A) (by omega) e2 a1
  rw [w5, w6] at t1
  refine ⟨_, LH P I B inc sl cd (nI R) (nI C) A g, LH P I B inc sl 0 (nI R) (nI C) A g, lh_ck0, ?_, lh_ck, r1, _, _, _, _, _, _, _, _, _, _, _, _, _, rfl, li⟩
  rw [lh_c, t1]
end OPT
