/-! NormalForms: roots, Smith form, inverse -/
section NM2
variable {N : Nat} {P : Nat → Po} {I : Nat → Int32} {B : Nat → Nat → Int32} {inc : Nat} {sl : Nat → Option Nat} {h0 : Hp}
/-- the roots stand in the array, in their order -/
def RS (E : Nat → Nat → Po) (R : Nat) (I : Nat → Int32) (B : Nat → Nat → Int32) : Prop := ∃ (n : Nat) (g : Nat → Fp), I 7 = nI n ∧ n ≤ 4 ∧ (∀ j, j < n → B 0 j = nI (g j).val) ∧ asc g n ∧ ∀ x, (∃ j, j < n ∧ g j = x) ↔ ev (chp E R) x = 0
theorem mo_lead : ∀ R, R < 5 → mo (17 * (2 ^ R - 1)) < 144 ∧ 3 < mo (17 * (2 ^ R - 1)) ∧ sq (17 * (2 ^ R - 1)) = true ∧ 17 * (2 ^ R - 1) < 256 ∧ 17 * (2 ^ R - 1) = 16 * (2 ^ R - 1) + (2 ^ R - 1) := by decide +kernel
theorem MR.lead {E : Nat → Nat → Po} {b R : Nat} {P : Nat → Po} (w : MR E b P) (hR : R < 5) : P (b + mo (17 * (2 ^ R - 1))) = mi E (2 ^ R - 1) (2 ^ R - 1) := by
  have p := pw_lt R hR
  rw [(mo_lead R hR).2.2.2.2]
  exact w.1 _ _ p.1 p.1 rfl
/-- knowRoots -/
theorem knowR_c (hN : 33000 ≤ N) (wf : FT P) {E : Nat → Nat → Po} {R : Nat} (hR : R < 5) (hI0 : I 0 = nI R) (hI1 : I 1 = nI R) (hA : ∀ i j, i < 4 → j < 4 → P (ce 1 i j) = E i j) (h1 : sz (P 260) ≤ 1) (hk : I 3 = 0 ∨ I 3 = 1 ∧ MR (xE E R) 256 P) (h2 : sz (P 438) ≤ 2) (hr : I 4 = 0 ∨ I 4 = 1 ∧ RS E R I B) : ∃ P' I' B', fX7_knowRoots N 0 (HH P I B inc sl h0) = some (HH P' I' B' inc sl h0) ∧ FT P' ∧ MR (xE E R) 256 P' ∧ I' 3 = 1 ∧ I' 4 = 1 ∧ RS E R I' B' ∧ sz (P' 438) ≤ 2 ∧ (∀ k, k ≠ 3 → k ≠ 4 → k ≠ 6 → k ≠ 7 → k ≠ 8 → I' k = I k) ∧ (∀ k, k ≠ 0 → B' k = B k) ∧ (∀ x, x < 214 ∨ 453 ≤ x → P' x = P x) := by
  obtain ⟨P1, I1, a1, a2, a3, a4, a5, a6⟩ := knowN_c (N := N) (B := B) (inc := inc) (sl := sl) (h0 := h0) (by omega) wf hR hI0 hI1 hA h1 hk
  have ml := mo_lead R hR
  have mn : MN (cls (muf I1 B inc sl) h0) 256 := mn_256 (o := I1 6) rfl
  have i4 : I1 4 = I 4 := a5 4 (by decide) (by decide)
  have i7 : I1 7 = I 7 := a5 7 (by decide) (by decide)
  have i0 : I1 0 = nI R := by rw [a5 0 (by decide) (by decide)]; exact hI0
  by_cases q : I 4 = 0
  · have wa : pl (256 + mo (17 * (2 ^ R - 1))) = 13 := mn.pm ml.2.2.2.1 ml.2.2.1
    have hw := a3.lead hR
    have cm := chp_mn E hR
    have hw2 : P1 (256 + mo (17 * (2 ^ R - 1))) = chp E R := hw
    obtain ⟨P2, n, c', v', g, b1, b2, b3, b4, b5, b6, b7, b8⟩ := rootsR_c (N := N) hN (m := cls (muf I1 B inc sl) h0) rb_c a2 (f := I1 7) (c := I1 8) (v := B 0) (wa := 256 + mo (17 * (2 ^ R - 1))) (by omega) (by omega) (by rw [hw2]; omega) (by rw [a6 438 (by omega)]; exact h2)
    rw [hw2] at b7
    rw [← HH_rt0, HH_rt] at b1
    refine ⟨P2, ui (ui (ui I1 7 (nI n)) 8 c') 4 1, ua B 0 v', ?_, b2, ⟨fun r s hr hs hb => ?_, fun k hk => ?_⟩, ?_, ui_s _ _ _, ⟨n, g, ?_, b4, ?_, b6, b7⟩, b3, fun k k1 k2 k3 k4 k5 => ?_, fun k hk => ua_n _ _ hk, fun x hx => ?_⟩
    · unfold fX7_knowRoots
      rw [nf_ck, Option.bind_some, a1, Option.bind_some, nf_9, Option.bind_some, i4]
      unfold jn
      dsimp only
      rw [if_pos q, nf_8, Option.bind_some, nf_6, Option.bind_some, nf_0, Option.bind_some, i0, ck_256, Option.bind_some]
      show (fX3_leading N 256 (nI R) (conc P1 (cls (muf I1 B inc sl) h0))).bind _ = _
      rw [leading_c mn hR, Option.bind_some]
      dsimp only
      have rt : RT (cls (muf I1 B inc sl) h0) (I1 7) (I1 8) (B 0) := ⟨rfl, rfl, rb_c.1, rb_c.2⟩
      rw [rt.ck, Option.bind_some]
      show (fX5_reckon N 427 (256 + mo (17 * (2 ^ R - 1))) (HH P1 I1 B inc sl h0)).bind _ = _
      rw [b1, Option.bind_some, np_f9]
      rfl
    · obtain ⟨y, hy, ey⟩ := mo_sq (i := 16 * r + s) (by omega) (sq_of hs hb)
      rw [b8 _ (by omega)]
      exact a3.1 r s hr hs hb
    · rw [b8 _ (by omega)]
      exact a3.2 k hk
    · rw [ui_n _ _ (by decide), ui_n _ _ (by decide), ui_n _ _ (by decide)]; exact a4
    · rw [ui_n _ _ (by decide), ui_n _ _ (by decide), ui_s]
    · rw [ua_s]; exact b5
    · rw [ui_n _ _ k2, ui_n _ _ k5, ui_n _ _ k4, a5 k k1 k3]
    · rw [b8 x (by omega), a6 x (by omega)]
  · have k := Or.resolve_left hr q
    refine ⟨P1, I1, B, ?_, a2, a3, a4, by rw [i4]; exact k.1, ?_, by rw [a6 438 (by omega)]; exact h2, fun k k1 k2 k3 k4 k5 => a5 k k1 k3, fun _ _ => rfl, fun x hx => a6 x (by omega)⟩
    · unfold fX7_knowRoots
      rw [nf_ck, Option.bind_some, a1, Option.bind_some, nf_9, Option.bind_some, i4]
      unfold jn
      dsimp only
      rw [if_neg q]
    · obtain ⟨n, g, k1, k2⟩ := k.2
      exact ⟨n, g, by rw [i7]; exact k1, k2⟩
theorem ivf_sz {E : Nat → Nat → Po} (hE : ∀ i j, sz (E i j) ≤ 4) (k : Nat) : sz (ivf (gd E) k) ≤ 13 := by
  unfold ivf
  split
  · rw [sz_z]; omega
  · have h1 := pdv_sz (gd E (k + 1)) (gd E k)
    have h2 := gd_sz hE (k + 1)
    omega
/-- makeSmith's loop -/
theorem msm_l (hN : 1000 ≤ N) {E : Nat → Nat → Po} (hE : ∀ i j, sz (E i j) ≤ 4) (h5 : I 5 = nI (ord E)) : ∀ (d n i : Nat) (P : Nat → Po), i + d = ord E → d < n → FT P → (∀ k, k < 4 → P (43 + 156 + 2 * k) = ivf (gd E) k) → ∃ P', lX7_makeSmith_13 N 0 551 n (nI i) (HH P I B inc sl h0) (fun _ h => some h) = some (HH P' I B inc sl h0) ∧ FT P' ∧ (∀ k, i ≤ k → k < ord E → P' (ce 551 k k) = ivf (gd E) k) ∧ (∀ x, (∀ k, i ≤ k → k < ord E → x ≠ ce 551 k k) → P' x = P x)
  | d, 0, i, P, _, hn, _, _ => absurd hn (Nat.not_lt_zero _)
  | 0, n + 1, i, P, hi, hn, wf, hv => by
    have ho := (ord_rk E).1
    refine ⟨P, ?_, wf, fun k h1 h2 => by omega, fun _ _ => rfl⟩
    rw [lX7_makeSmith_13, nf_3, Option.bind_some, or_43, Option.bind_some, h5, if_pos ((le_n (by omega) (by omega)).mpr (by omega))]
  | d + 1, n + 1, i, P, hi, hn, wf, hv => by
    have ho := (ord_rk E).1
    have m5 : MX (cls (muf I B inc sl) h0) 551 13 := mx_551
    have mn : MN (cls (muf I B inc sl) h0) 43 := mn_43 (o := I 5) rfl
    have p1 := (m5.r (i := i) (by omega)).p (j := i) (by omega)
    have p2 := mn.pi (k := i) (by omega)
    have e : P (43 + 156 + 2 * i) = ivf (gd E) i := hv i (by omega)
    have hs := ivf_sz hE i
    have c := copyFrom_c hN (m := cls (muf I B inc sl) h0) wf (a := ce 551 i i) (b := 43 + 156 + 2 * i) (by show pl (551 + 2 + 10 * i + 2 + 2 * i) ≠ 0; omega) (by omega) (by show 551 + 2 + 10 * i + 2 + 2 * i ≠ 43 + 156 + 2 * i; omega) (by rw [e]; show sz (ivf (gd E) i) ≤ pl (551 + 2 + 10 * i + 2 + 2 * i); omega)
    rw [e] at c
    obtain ⟨P', g1, g2, g3, g4⟩ := msm_l hN hE h5 d n (i + 1) (st P (ce 551 i i) (ivf (gd E) i)) (by omega) (by omega) (wf.st (by show sz (ivf (gd E) i) ≤ pl (551 + 2 + 10 * i + 2 + 2 * i); omega)) (fun k hk => by rw [st_ne _ _ (by show 43 + 156 + 2 * k ≠ 551 + 2 + 10 * i + 2 + 2 * i; omega)]; exact hv k hk)
    refine ⟨P', ?_, g2, fun k h1 h2 => ?_, fun x hx => ?_⟩
    · rw [lX7_makeSmith_13, nf_3, Option.bind_some, or_43, Option.bind_some, h5, if_neg (fun y => by have := (le_n (by omega) (by omega)).mp y; omega)]
      unfold HH
      rw [m5.ck, Option.bind_some, cell_c m5 (by omega) (by omega), Option.bind_some]
      dsimp only
      have f3 : gR (conc P (cls (muf I B inc sl) h0)) 0 9 3 = some 43 := nf_3
      rw [f3, Option.bind_some, mn.g2, Option.bind_some, mn.a2 _ (by omega), Option.bind_some, po_ck (by show pl (551 + 2 + 10 * i + 2 + 2 * i) ≠ 0; omega), Option.bind_some, c, Option.bind_some]
      unfold nm
      rw [nI_1]
      exact g1
    · by_cases z : k = i
      · rw [z, g4 _ (fun k' h3 h4 => by show 551 + 2 + 10 * i + 2 + 2 * i ≠ 551 + 2 + 10 * k' + 2 + 2 * k'; omega), st_same]
      · exact g3 k (by omega) h2
    · rw [g4 x (fun k h1 h2 => hx k (by omega) h2), st_ne _ _ (hx i (Nat.le_refl _) (by omega))]
/-- makeSmith -/
theorem makeS_c (hN : 1000 ≤ N) (wf : FT P) {E : Nat → Nat → Po} (hE : ∀ i j, sz (E i j) ≤ 4) (h5 : I 5 = nI (ord E)) (hm : MR E 43 P) : ∃ P', fX7_makeSmith N 0 (HH P I B inc sl h0) = some (HH P' I B inc sl h0) ∧ FT P' ∧ (∀ i j, i < 4 → j < 4 → P' (ce 551 i j) = if i = j ∧ i < ord E then ivf (gd E) i else pC 0) ∧ (∀ x, x < 551 ∨ 593 ≤ x → P' x = P x) := by
  have ho := (ord_rk E).1
  have m5 : MX (cls (muf I B inc sl) h0) 551 13 := mx_551
  have cx : ∀ a b, a < 4 → b < 4 → 551 < ce 551 a b ∧ ce 551 a b < 593 := fun a b ha hb => by show 551 < 551 + 2 + 10 * a + 2 + 2 * b ∧ 551 + 2 + 10 * a + 2 + 2 * b < 593; omega
  obtain ⟨P1, c1, c2, c3, c4⟩ := mclear_c hN wf m5
  obtain ⟨P', g1, g2, g3, g4⟩ := msm_l (N := N) (B := B) (inc := inc) (sl := sl) (h0 := h0) hN hE h5 (ord E) N 0 P1 (by omega) (by omega) c2 (fun k hk => by
    rw [c4 _ (fun a b ha hb => by have := cx a b ha hb; omega)]
    exact hm.2 k hk)
  refine ⟨P', ?_, g2, fun i j hi hj => ?_, fun x hx => ?_⟩
  · unfold fX7_makeSmith
    rw [nf_11, Option.bind_some]
    show (aR (HH P I B inc sl h0) 508 3 (nI 1)).bind _ = _
    rw [fo_a (by omega), Option.bind_some]
    show (cK (conc P (cls (muf I B inc sl) h0)) 551 4).bind _ = _
    rw [m5.ck, Option.bind_some]
    show (fX2_clear N 551 (conc P (cls (muf I B inc sl) h0))).bind _ = _
    rw [c1, Option.bind_some]
    exact g1
  · by_cases q : i = j ∧ i < ord E
    · rw [if_pos q, ← q.1]
      exact g3 i (by omega) q.2
    · rw [if_neg q, g4 _ (fun k _ hk => by
        show 551 + 2 + 10 * i + 2 + 2 * j ≠ 551 + 2 + 10 * k + 2 + 2 * k
        omega)]
      exact c3 i j hi hj
  · rw [g4 x (fun k _ hk => by have := cx k k (by omega) (by omega); omega), c4 x (fun a b ha hb => by have := cx a b ha hb; omega)]
theorem bitR : ∀ R, R < 5 → ∀ j, j < R → (2 ^ R - 1) / 2 ^ j % 2 = 1 := by decide +kernel
theorem sgn_ne (i j : Nat) : sgn i j ≠ 0 := by
  unfold sgn
  split <;> decide
theorem ivE_sz {E : Nat → Nat → Po} (hE : ∀ i j, sz (E i j) ≤ 4) {R i j : Nat} (hR : R < 5) (hj : j < R) : sz (ivE E R i j) ≤ 13 := by
  have h1 : sz (ivE E R i j) ≤ sz (mi E (2 ^ R - 1 - 2 ^ j) (2 ^ R - 1 - 2 ^ i)) := sz_Cmul _ _
  have h2 := mi_sz hE (r := 2 ^ R - 1 - 2 ^ j) (s := 2 ^ R - 1 - 2 ^ i) (ixn R hR j hj).2.2
  omega
theorem mkI78 (hN : 1000 ≤ N) {E : Nat → Nat → Po} (hE : ∀ i j, sz (E i j) ≤ 4) {R i w : Nat} (hR : R < 5) (hi : i < R) (hI1 : I 1 = nI R) {b : Fp} (hb : b = finv (co (mi E (2 ^ R - 1) (2 ^ R - 1)) 0)) (hb0 : b ≠ 0) : ∀ (d n j : Nat) (P : Nat → Po), j + d = R → d < n → FT P → MR E 43 P → ∃ P', (∀ κ, lX7_makeInverse_73 N 0 w (nI b.val) (nI (2 ^ R - 1)) 593 (nI i) n (nI j) (HH P I B inc sl h0) κ = κ (nI R) (HH P' I B inc sl h0)) ∧ FT P' ∧ (∀ j', j ≤ j' → j' < R → P' (ce 593 i j') = ivE E R i j') ∧ (∀ x, (∀ j', j ≤ j' → j' < R → x ≠ ce 593 i j') → P' x = P x)
  | d, 0, j, P, _, hn, _, _ => absurd hn (Nat.not_lt_zero _)
  | 0, n + 1, j, P, hj, hn, wf, hm => by
    have e : j = R := by omega
    subst e
    refine ⟨P, fun κ => ?_, wf, fun j' h1 h2 => by omega, fun _ _ => rfl⟩
    rw [lX7_makeInverse_73, nf_1, Option.bind_some, hI1, if_pos ((le_n (by omega) (by omega)).mpr (Nat.le_refl _))]
  | d + 1, n + 1, j, P, hj, hn, wf, hm => by
    have m5 : MX (cls (muf I B inc sl) h0) 593 13 := mx_593
    have mn : MN (cls (muf I B inc sl) h0) 43 := mn_43 (o := I 5) rfl
    have p := pw_lt R hR
    have x1 := ixn R hR j (by omega)
    have x2 := ixn R hR i hi
    have y1 := ix2 (2 ^ R - 1) p.1 j (by omega) (bitR R hR j (by omega))
    have y2 := ix2 (2 ^ R - 1) p.1 i (by omega) (bitR R hR i hi)
    obtain ⟨u, hu⟩ : ∃ u, u = 2 ^ R - 1 - 2 ^ j := ⟨_, rfl⟩
    obtain ⟨v, hv⟩ : ∃ v, v = 2 ^ R - 1 - 2 ^ i := ⟨_, rfl⟩
    rw [← hu] at x1 y1
    rw [← hv] at x2 y2
    have qq : sq (16 * u + v) = true := sq_of x2.2.2 (by omega)
    obtain ⟨z, hz, ez⟩ := mo_sq (i := 16 * u + v) (by omega) qq
    have pm : pl (43 + mo (16 * u + v)) = 13 := mn.pm (by omega) qq
    have em : P (43 + mo (16 * u + v)) = mi E u v := hm.1 u v x1.2.2 x2.2.2 (by omega)
    have p1 : pl (ce 593 i j) = 13 := (m5.r (i := i) (by omega)).p (j := j) (by omega)
    have sm := mi_sz hE (r := u) (s := v) x1.2.2
    have ne : ce 593 i j ≠ 43 + mo (16 * u + v) := by show 593 + 2 + 10 * i + 2 + 2 * j ≠ _; omega
    have c1 := copyFrom_c hN (m := cls (muf I B inc sl) h0) wf (a := ce 593 i j) (b := 43 + mo (16 * u + v)) (by omega) (by omega) ne (by rw [em]; omega)
    rw [em] at c1
    have w1 : FT (st P (ce 593 i j) (mi E u v)) := wf.st (by omega)
    have k0 : sgn i j * b ≠ 0 := f_mul_ne (sgn_ne i j) hb0
    have c2 := mult_c hN (m := cls (muf I B inc sl) h0) w1 (a := ce 593 i j) (by omega) k0
    have ei : pMul (pC (sgn i j * b)) (mi E u v) = ivE E R i j := by unfold ivE; rw [hb, hu, hv]
    rw [st_same, st_st, ei] at c2
    have si := ivE_sz hE (i := i) hR (show j < R by omega)
    obtain ⟨P', g1, g2, g3, g4⟩ := mkI78 hN hE (w := w) hR hi hI1 hb hb0 d n (j + 1) (st P (ce 593 i j) (ivE E R i j)) (by omega) (by omega) (wf.st (by omega)) ⟨fun r s hr hs hbb => by
      obtain ⟨y, hy, ey⟩ := mo_sq (i := 16 * r + s) (by omega) (sq_of hs hbb)
      rw [st_ne _ _ (by show _ ≠ 593 + 2 + 10 * i + 2 + 2 * j; omega)]
      exact hm.1 r s hr hs hbb, fun k hk => by
      rw [st_ne _ _ (by show _ ≠ 593 + 2 + 10 * i + 2 + 2 * j; omega)]
      exact hm.2 k hk⟩
    refine ⟨P', fun κ => ?_, g2, fun j' h1 h2 => ?_, fun x hx => ?_⟩
    · have hbl := b.isLt
      have e1 : irm (nI (i + j)) (2 : Int32) = nI ((i + j) % 2) := pk_rem (by omega) (by decide) (by decide)
      rw [lX7_makeInverse_73, nf_1, Option.bind_some, hI1, if_neg (fun y => by have := (le_n (by omega) (by omega)).mp y; omega)]
      unfold HH
      rw [m5.ck, Option.bind_some, cell_c m5 (by omega) (by omega), Option.bind_some]
      dsimp only
      have f3 : gR (conc P (cls (muf I B inc sl) h0)) 0 9 3 = some 43 := nf_3
      rw [f3, Option.bind_some, mn.ck, Option.bind_some, y1.1, y2.1, of_c mn x1.2.2 x2.2.2, Option.bind_some]
      dsimp only
      rw [po_ck (by omega), Option.bind_some, c1, Option.bind_some, nI_add, e1]
      unfold jn nm
      dsimp only
      rw [po_ck (by omega), Option.bind_some, nI_1]
      by_cases q : (i + j) % 2 = 0
      · rw [show sgn i j * b = b by unfold sgn; rw [if_pos q]; grind] at c2
        rw [q, if_pos (show nI 0 = 0 from rfl), c2, Option.bind_some]
        exact g1 κ
      · rw [show sgn i j * b = - b by unfold sgn; rw [if_neg q]; grind] at c2
        rw [if_neg (nI_ne0 (by omega) (by omega)), negative_s hbl, negv, Option.bind_some]
        dsimp only
        rw [po_ck (by omega), Option.bind_some, c2, Option.bind_some]
        exact g1 κ
    · by_cases y : j' = j
      · rw [y, g4 _ (fun j'' h3 h4 => by show 593 + 2 + 10 * i + 2 + 2 * j ≠ 593 + 2 + 10 * i + 2 + 2 * j''; omega), st_same]
      · exact g3 j' (by omega) h2
    · rw [g4 x (fun j' h1 h2 => hx j' (by omega) h2), st_ne _ _ (hx j (Nat.le_refl _) (by omega))]
end NM2
