/-! NormalForms: what it knows and forgets -/
section NM
variable {N : Nat} {P : Nat → Po} {I : Nat → Int32} {B : Nat → Nat → Int32} {inc : Nat} {sl : Nat → Option Nat} {h0 : Hp}
theorem fge_l : ∀ (d n z : Nat) (B : Nat → Nat → Int32), z + d = 3 → d < n → (∀ f, f < z → B 2 f = 0) → ∃ w, lX7_forgetEntries_7 N 0 n (nI z) (HH P I B inc sl h0) (fun _ h => some h) = some (HH P I (ua B 2 w) inc sl h0) ∧ ∀ f, f < 3 → w f = 0
  | d, 0, z, B, _, hn, _ => absurd hn (Nat.not_lt_zero _)
  | 0, n + 1, z, B, hz, hn, hb => by
    refine ⟨B 2, ?_, fun f hf => hb f (by omega)⟩
    rw [lX7_forgetEntries_7, ua_id]
    show (if nI 3 ≤ nI z then _ else _) = _
    rw [if_pos ((le_n (by omega) (by omega)).mpr (by omega))]
  | d + 1, n + 1, z, B, hz, hn, hb => by
    obtain ⟨w, g1, g2⟩ := fge_l d n (z + 1) (ua B 2 (upd (B 2) z 0)) (by omega) (by omega) (fun f hf => by
      rw [ua_s]
      unfold upd
      by_cases q : f = z
      · rw [if_pos q]
      · rw [if_neg q]; exact hb f (by omega))
    refine ⟨w, ?_, g2⟩
    rw [lX7_forgetEntries_7]
    show (if nI 3 ≤ nI z then _ else _) = _
    rw [if_neg (fun y => by have := (le_n (by omega) (by omega)).mp y; omega), nf_12, Option.bind_some, th_s (by omega), Option.bind_some, nar0]
    unfold nm
    rw [nI_1]
    rw [ua_ua] at g1
    exact g1
theorem forgetE_c (hN : 1000 ≤ N) : ∃ w, fX7_forgetEntries N 0 (HH P I B inc sl h0) = some (HH P (ui I 2 0) (ua B 2 w) inc sl h0) ∧ ∀ f, f < 3 → w f = 0 := by
  obtain ⟨w, g1, g2⟩ := fge_l (N := N) (P := P) (I := ui I 2 0) (inc := inc) (sl := sl) (h0 := h0) 3 N 0 B rfl (by omega) (fun f hf => by omega)
  refine ⟨w, ?_, g2⟩
  unfold fX7_forgetEntries
  rw [np_f4, Option.bind_some]
  exact g1
theorem forgetN_c : fX7_forgetNumbers N 0 (HH P I B inc sl h0) = some (HH P (ui (ui I 3 0) 4 0) B inc sl h0) := by
  unfold fX7_forgetNumbers
  rw [np_f7, Option.bind_some, np_f9]
  rfl
/-- knowMinors -/
theorem knowM_c (hN : 1000 ≤ N) (wf : FT P) {E : Nat → Nat → Po} (hA : ∀ i j, i < 4 → j < 4 → P (ce 1 i j) = E i j) (hE : ∀ i j, sz (E i j) ≤ 4) (h1 : sz (P 47) ≤ 1) (hk : I 2 = 0 ∨ I 2 = 1 ∧ MR E 43 P ∧ I 5 = nI (ord E)) : ∃ P' I', fX7_knowMinors N 0 (HH P I B inc sl h0) = some (HH P' I' B inc sl h0) ∧ FT P' ∧ MR E 43 P' ∧ I' 2 = 1 ∧ I' 5 = nI (ord E) ∧ (∀ k, k ≠ 2 → k ≠ 5 → I' k = I k) ∧ (∀ x, x < 43 ∨ 214 ≤ x → P' x = P x) := by
  by_cases q : I 2 = 0
  · obtain ⟨P', g1, g2, g3, g4⟩ := reckon_c (N := N) (B := 43) (M := 1) (m := cls (muf I B inc sl) h0) hN wf (mn_43 (o := I 5) rfl) mx_1 (by omega) hA hE h1
    rw [HH_m43] at g1
    refine ⟨P', ui (ui I 5 (nI (ord E))) 2 1, ?_, g2, g3, ui_s _ _ _, by rw [ui_n _ _ (by decide), ui_s], fun k k1 k2 => by rw [ui_n _ _ k1, ui_n _ _ k2], fun x hx => g4 x (by omega)⟩
    unfold fX7_knowMinors jn
    rw [nf_4, Option.bind_some]
    dsimp only
    rw [if_pos q, nf_3, Option.bind_some, nf_2, Option.bind_some, ck_43, Option.bind_some]
    show (fX3_reckon N 43 1 (conc P (cls (muf I B inc sl) h0))).bind _ = _
    rw [g1, Option.bind_some, np_f4]
    rfl
  · have k := (Or.resolve_left hk q)
    refine ⟨P, I, ?_, wf, k.2.1, k.1, k.2.2, fun _ _ _ => rfl, fun _ _ => rfl⟩
    unfold fX7_knowMinors jn
    rw [nf_4, Option.bind_some]
    dsimp only
    rw [if_neg q]
theorem negv (v : Fp) : (32003 - v.val) % 32003 = (- v).val := congrArg Fin.val (fN_neg v)
/-- x less the numbers is written: one row -/
theorem knn27 (hN : 1000 ≤ N) {E : Nat → Nat → Po} {R i : Nat} (hR : R < 5) (hi : i < R) (hI : I 1 = nI R) : ∀ (d n j : Nat) (P : Nat → Po), j + d = R → d < n → FT P → (∀ i j, i < 4 → j < 4 → P (ce 1 i j) = E i j) → ∃ P', (∀ κ, lX7_knowNumbersMinors_27 N 0 (nI i) n (nI j) (HH P I B inc sl h0) κ = κ (nI R) (HH P' I B inc sl h0)) ∧ FT P' ∧ (∀ j', j ≤ j' → j' < R → P' (ce 214 i j') = pSet (P (ce 214 i j')) 0 (- co (E i j') 0)) ∧ (∀ x, (∀ j', j ≤ j' → j' < R → x ≠ ce 214 i j') → P' x = P x)
  | d, 0, j, P, _, hn, _, _ => absurd hn (Nat.not_lt_zero _)
  | 0, n + 1, j, P, hj, hn, wf, hA => by
    have e : j = R := by omega
    subst e
    refine ⟨P, fun κ => ?_, wf, fun j' h1 h2 => by omega, fun _ _ => rfl⟩
    rw [lX7_knowNumbersMinors_27, nf_1, Option.bind_some, hI, if_pos ((le_n (by omega) (by omega)).mpr (Nat.le_refl _))]
  | d + 1, n + 1, j, P, hj, hn, wf, hA => by
    have m2 : MX (cls (muf I B inc sl) h0) 214 2 := mx_214
    have m1 : MX (cls (muf I B inc sl) h0) 1 4 := mx_1
    have p2 := (m2.r (i := i) (by omega)).p (j := j) (by omega)
    have p1 := (m1.r (i := i) (by omega)).n (j := j) (by omega)
    have s := setNumber_c hN (m := cls (muf I B inc sl) h0) wf (a := ce 214 i j) (by show pl (214 + 2 + 10 * i + 2 + 2 * j) ≠ 0; omega) (j := 0) (by show 0 < pl (214 + 2 + 10 * i + 2 + 2 * j); omega) (- co (E i j) 0)
    have nA := numberAt_c (N := N) (m := cls (muf I B inc sl) h0) wf (a := ce 1 i j) p1 (nI 0)
    rw [cfp_n _ (by decide), hA i j (by omega) (by omega)] at nA
    obtain ⟨P', g1, g2, g3, g4⟩ := knn27 (E := E) hN hR hi hI d n (j + 1) (st P (ce 214 i j) (pSet (P (ce 214 i j)) 0 (- co (E i j) 0))) (by omega) (by omega) (wf.st s.2) (fun a b ha hb => by rw [st_ne _ _ (by show 1 + 2 + 10 * a + 2 + 2 * b ≠ 214 + 2 + 10 * i + 2 + 2 * j; omega)]; exact hA a b ha hb)
    refine ⟨P', fun κ => ?_, g2, fun j' h1 h2 => ?_, fun x hx => ?_⟩
    · rw [lX7_knowNumbersMinors_27, nf_1, Option.bind_some, hI, if_neg (fun y => by have := (le_n (by omega) (by omega)).mp y; omega), nf_5, Option.bind_some]
      unfold HH
      rw [m2.ck, Option.bind_some, cell_c m2 (by omega) (by omega), Option.bind_some]
      dsimp only
      have f2 : gR (conc P (cls (muf I B inc sl) h0)) 0 9 2 = some 1 := nf_2
      rw [f2, Option.bind_some, m1.ck, Option.bind_some, cell_c m1 (by omega) (by omega), Option.bind_some]
      dsimp only
      rw [po_ck p1, Option.bind_some]
      show (fX4_numberAt N (ce 1 i j) (nI 0) (conc P (cls (muf I B inc sl) h0))).bind _ = _
      rw [nA, Option.bind_some]
      dsimp only
      rw [negative_s (vl_lt _ _), show vl (E i j) 0 = (co (E i j) 0).val from rfl, negv, Option.bind_some]
      dsimp only
      rw [po_ck (by show pl (214 + 2 + 10 * i + 2 + 2 * j) ≠ 0; omega), Option.bind_some]
      show (fX4_setNumber N (ce 214 i j) (nI 0) (nI (- co (E i j) 0).val) (conc P (cls (muf I B inc sl) h0))).bind _ = _
      rw [s.1, Option.bind_some]
      unfold nm
      rw [nI_1]
      exact g1 κ
    · by_cases z : j' = j
      · rw [z, g4 _ (fun j'' h3 h4 => by show 214 + 2 + 10 * i + 2 + 2 * j ≠ 214 + 2 + 10 * i + 2 + 2 * j''; omega), st_same]
      · rw [g3 j' (by omega) h2, st_ne _ _ (by show 214 + 2 + 10 * i + 2 + 2 * j' ≠ 214 + 2 + 10 * i + 2 + 2 * j; omega)]
    · rw [g4 x (fun j' h1 h2 => hx j' (by omega) h2), st_ne _ _ (hx j (Nat.le_refl _) (by omega))]
theorem pSet_n0 (c : Fp) : pSet (pC 0) 0 c = pC c := po_ext (fun t => by
  rw [co_set, co_0, co_C])
theorem xE_on {E : Nat → Nat → Po} {R i : Nat} (hi : i < R) : pSet (pC (- co (E i i) 0)) 1 1 = xE E R i i := po_ext (fun t => by
  rw [co_set, co_C, xE_co, if_pos (show i < R ∧ i < R from ⟨hi, hi⟩)]
  by_cases q : t = 1
  · rw [if_pos q, if_neg (by omega), if_pos ⟨q, rfl⟩]
  · rw [if_neg q]
    by_cases z : t = 0
    · rw [if_pos z, if_pos z]
    · rw [if_neg z, if_neg z, if_neg (fun y => q y.1)])
theorem xE_of {E : Nat → Nat → Po} {R i j : Nat} (hi : i < R) (hj : j < R) (h : i ≠ j) : pC (- co (E i j) 0) = xE E R i j := po_ext (fun t => by
  rw [xE_co, if_pos ⟨hi, hj⟩, co_C]
  by_cases z : t = 0
  · rw [if_pos z, if_pos z]
  · rw [if_neg z, if_neg z, if_neg (fun y => h y.2)])
theorem knn17 (hN : 1000 ≤ N) {E : Nat → Nat → Po} {R : Nat} (hR : R < 5) (hI0 : I 0 = nI R) (hI : I 1 = nI R) : ∀ (d n i : Nat) (P : Nat → Po), i + d = R → d < n → FT P → (∀ i j, i < 4 → j < 4 → P (ce 1 i j) = E i j) → (∀ a b, i ≤ a → a < 4 → b < 4 → P (ce 214 a b) = pC 0) → ∃ P', (∀ κ, lX7_knowNumbersMinors_17 N 0 n (nI i) (HH P I B inc sl h0) κ = κ (nI R) (HH P' I B inc sl h0)) ∧ FT P' ∧ (∀ a b, i ≤ a → a < 4 → b < 4 → P' (ce 214 a b) = xE E R a b) ∧ (∀ x, (∀ a b, i ≤ a → a < 4 → b < 4 → x ≠ ce 214 a b) → P' x = P x)
  | d, 0, i, P, _, hn, _, _, _ => absurd hn (Nat.not_lt_zero _)
  | 0, n + 1, i, P, hi, hn, wf, hA, hz => by
    have e : i = R := by omega
    subst e
    refine ⟨P, fun κ => ?_, wf, fun a b h1 h2 h3 => by rw [hz a b h1 h2 h3, xE_out (by omega)], fun _ _ => rfl⟩
    rw [lX7_knowNumbersMinors_17, nf_0, Option.bind_some, hI0, if_pos ((le_n (by omega) (by omega)).mpr (Nat.le_refl _))]
  | d + 1, n + 1, i, P, hi, hn, wf, hA, hz => by
    have m2 : MX (cls (muf I B inc sl) h0) 214 2 := mx_214
    obtain ⟨P1, u1, u2, u3, u4⟩ := knn27 (N := N) (B := B) (inc := inc) (sl := sl) (h0 := h0) (E := E) hN hR (i := i) (by omega) hI R N 0 P (by omega) (by omega) wf hA
    have p2 := (m2.r (i := i) (by omega)).p (j := i) (by omega)
    have e1 : ∀ b, b < R → P1 (ce 214 i b) = pC (- co (E i b) 0) := fun b hb => by rw [u3 b (by omega) hb, hz i b (Nat.le_refl _) (by omega) (by omega), pSet_n0]
    have s := setNumber_c hN (m := cls (muf I B inc sl) h0) u2 (a := ce 214 i i) (by show pl (214 + 2 + 10 * i + 2 + 2 * i) ≠ 0; omega) (j := 1) (by show 1 < pl (214 + 2 + 10 * i + 2 + 2 * i); omega) 1
    rw [e1 i (by omega), xE_on (R := R) (by omega)] at s
    have ne : ∀ a b c e, a < 4 → b < 4 → c < 4 → e < 4 → (a ≠ c ∨ b ≠ e) → ce 214 a b ≠ ce 214 c e := fun a b c e h1 h2 h3 h4 h5 => by show 214 + 2 + 10 * a + 2 + 2 * b ≠ 214 + 2 + 10 * c + 2 + 2 * e; omega
    obtain ⟨P', g1, g2, g3, g4⟩ := knn17 (E := E) hN hR hI0 hI d n (i + 1) (st P1 (ce 214 i i) (xE E R i i)) (by omega) (by omega) (u2.st s.2) (fun a b ha hb => by
      rw [st_ne _ _ (by show 1 + 2 + 10 * a + 2 + 2 * b ≠ 214 + 2 + 10 * i + 2 + 2 * i; omega), u4 _ (fun j' _ _ => by show 1 + 2 + 10 * a + 2 + 2 * b ≠ 214 + 2 + 10 * i + 2 + 2 * j'; omega)]
      exact hA a b ha hb) (fun a b h1 h2 h3 => by
      rw [st_ne _ _ (ne a b i i h2 h3 (by omega) (by omega) (by omega)), u4 _ (fun j' _ hj' => ne a b i j' h2 h3 (by omega) (by omega) (by omega))]
      exact hz a b (by omega) h2 h3)
    refine ⟨P', fun κ => ?_, g2, fun a b h1 h2 h3 => ?_, fun x hx => ?_⟩
    · rw [lX7_knowNumbersMinors_17, nf_0, Option.bind_some, hI0, if_neg (fun y => by have := (le_n (by omega) (by omega)).mp y; omega)]
      show lX7_knowNumbersMinors_27 N 0 (nI i) N (nI 0) (HH P I B inc sl h0) _ = _
      rw [u1, nf_5, Option.bind_some]
      unfold HH
      rw [m2.ck, Option.bind_some, cell_c m2 (by omega) (by omega), Option.bind_some]
      dsimp only
      rw [po_ck (by show pl (214 + 2 + 10 * i + 2 + 2 * i) ≠ 0; omega), Option.bind_some]
      show (fX4_setNumber N (ce 214 i i) (nI 1) (nI (1 : Fp).val) (conc P1 (cls (muf I B inc sl) h0))).bind _ = _
      rw [s.1, Option.bind_some]
      unfold nm
      rw [nI_1]
      exact g1 κ
    · by_cases z : a = i
      · rw [z, g4 _ (fun c e h4 h5 h6 => ne i b c e (by omega) h3 h5 h6 (by omega))]
        by_cases y : b = i
        · rw [y, st_same]
        · rw [st_ne _ _ (ne i b i i (by omega) h3 (by omega) (by omega) (by omega))]
          by_cases w : b < R
          · rw [e1 b w, xE_of (by omega) w (Ne.symm y)]
          · rw [u4 _ (fun j' _ hj' => ne i b i j' (by omega) h3 (by omega) (by omega) (by omega)), hz i b (Nat.le_refl _) (by omega) h3, xE_out (by omega)]
      · exact g3 a b (by omega) h2 h3
    · rw [g4 x (fun a b h1 h2 h3 => hx a b (by omega) h2 h3), st_ne _ _ (hx i i (Nat.le_refl _) (by omega) (by omega)), u4 x (fun j' _ hj' => hx i j' (Nat.le_refl _) (by omega) (by omega))]
/-- knowNumbersMinors -/
theorem knowN_c (hN : 1000 ≤ N) (wf : FT P) {E : Nat → Nat → Po} {R : Nat} (hR : R < 5) (hI0 : I 0 = nI R) (hI1 : I 1 = nI R) (hA : ∀ i j, i < 4 → j < 4 → P (ce 1 i j) = E i j) (h1 : sz (P 260) ≤ 1) (hk : I 3 = 0 ∨ I 3 = 1 ∧ MR (xE E R) 256 P) : ∃ P' I', fX7_knowNumbersMinors N 0 (HH P I B inc sl h0) = some (HH P' I' B inc sl h0) ∧ FT P' ∧ MR (xE E R) 256 P' ∧ I' 3 = 1 ∧ (∀ k, k ≠ 3 → k ≠ 6 → I' k = I k) ∧ (∀ x, x < 214 ∨ 427 ≤ x → P' x = P x) := by
  by_cases q : I 3 = 0
  · have m2 : MX (cls (muf I B inc sl) h0) 214 2 := mx_214
    obtain ⟨P1, c1, c2, c3, c4⟩ := mclear_c hN wf m2
    have cx : ∀ a b, a < 4 → b < 4 → 214 < ce 214 a b ∧ ce 214 a b < 256 := fun a b ha hb => by show 214 < 214 + 2 + 10 * a + 2 + 2 * b ∧ 214 + 2 + 10 * a + 2 + 2 * b < 256; omega
    obtain ⟨P2, u1, u2, u3, u4⟩ := knn17 (N := N) (I := I) (B := B) (inc := inc) (sl := sl) (h0 := h0) hN (E := E) hR hI0 hI1 R N 0 P1 (by omega) (by omega) c2 (fun a b ha hb => by
      rw [c4 _ (fun c e hc he => by have := cx c e hc he; show 1 + 2 + 10 * a + 2 + 2 * b ≠ ce 214 c e; omega)]
      exact hA a b ha hb) (fun a b _ h2 h3 => c3 a b h2 h3)
    have fr : ∀ x, x < 214 ∨ 256 ≤ x → P2 x = P x := fun x hx => by
      rw [u4 x (fun a b _ h2 h3 => by have := cx a b h2 h3; omega), c4 x (fun a b h2 h3 => by have := cx a b h2 h3; omega)]
    obtain ⟨P', g1, g2, g3, g4⟩ := reckon_c (N := N) (B := 256) (M := 214) (m := cls (muf I B inc sl) h0) hN u2 (mn_256 (o := I 6) rfl) mx_214 (by omega) (A := xE E R) (fun i j hi hj => u3 i j (by omega) hi hj) (fun i j => by have := xE_sz E R i j; omega) (by rw [fr 260 (by omega)]; exact h1)
    rw [HH_m256] at g1
    refine ⟨P', ui (ui I 6 (nI (ord (xE E R)))) 3 1, ?_, g2, g3, ui_s _ _ _, fun k k1 k2 => by rw [ui_n _ _ k1, ui_n _ _ k2], fun x hx => by rw [g4 x (by omega), fr x (by omega)]⟩
    unfold fX7_knowNumbersMinors
    rw [nf_7, Option.bind_some, if_pos q, nf_5, Option.bind_some]
    show (cK (conc P (cls (muf I B inc sl) h0)) 214 4).bind _ = _
    rw [m2.ck, Option.bind_some]
    show (fX2_clear N 214 (conc P (cls (muf I B inc sl) h0))).bind _ = _
    rw [c1, Option.bind_some]
    show lX7_knowNumbersMinors_17 N 0 N (nI 0) (HH P1 I B inc sl h0) _ = _
    rw [u1, nf_6, Option.bind_some, nf_5, Option.bind_some, ck_256, Option.bind_some]
    show (fX3_reckon N 256 214 (conc P2 (cls (muf I B inc sl) h0))).bind _ = _
    rw [g1, Option.bind_some, np_f7]
    rfl
  · have k := (Or.resolve_left hk q)
    refine ⟨P, I, ?_, wf, k.2, k.1, fun _ _ _ => rfl, fun _ _ => rfl⟩
    unfold fX7_knowNumbersMinors
    rw [nf_7, Option.bind_some, if_neg q]
end NM
