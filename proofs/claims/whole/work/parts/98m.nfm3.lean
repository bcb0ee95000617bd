section NM3
variable {N : Nat} {P : Nat → Po} {I : Nat → Int32} {B : Nat → Nat → Int32} {inc : Nat} {sl : Nat → Option Nat} {h0 : Hp}
theorem mkI66 (hN : 1000 ≤ N) {E : Nat → Nat → Po} (hE : ∀ i j, sz (E i j) ≤ 4) {R w : Nat} (hR : R < 5) (hI0 : I 0 = nI R) (hI1 : I 1 = nI R) {b : Fp} (hb : b = finv (co (mi E (2 ^ R - 1) (2 ^ R - 1)) 0)) (hb0 : b ≠ 0) : ∀ (d n i : Nat) (P : Nat → Po), i + d = R → d < n → FT P → MR E 43 P → ∃ P', (∀ κ, lX7_makeInverse_61 N 0 w (nI b.val) (nI (2 ^ R - 1)) 593 n (nI i) (HH P I B inc sl h0) κ = κ (nI R) (HH P' I B inc sl h0)) ∧ FT P' ∧ (∀ i' j', i ≤ i' → i' < R → j' < R → P' (ce 593 i' j') = ivE E R i' j') ∧ (∀ x, (∀ i' j', i ≤ i' → i' < R → j' < R → x ≠ ce 593 i' j') → P' x = P x)
  | d, 0, i, P, _, hn, _, _ => absurd hn (Nat.not_lt_zero _)
  | 0, n + 1, i, P, hi, hn, wf, hm => by
    have e : i = R := by omega
    subst e
    refine ⟨P, fun κ => ?_, wf, fun i' j' h1 h2 => by omega, fun _ _ => rfl⟩
    rw [lX7_makeInverse_61, nf_0, Option.bind_some, hI0, if_pos ((le_n (by omega) (by omega)).mpr (Nat.le_refl _))]
  | d + 1, n + 1, i, P, hi, hn, wf, hm => by
    obtain ⟨P1, u1, u2, u3, u4⟩ := mkI78 (N := N) (B := B) (inc := inc) (sl := sl) (h0 := h0) hN hE (w := w) hR (i := i) (by omega) hI1 hb hb0 R N 0 P (by omega) (by omega) wf hm
    have lo : ∀ x, x < 593 → P1 x = P x := fun x hx => u4 x (fun j' _ hj' => by show x ≠ 593 + 2 + 10 * i + 2 + 2 * j'; omega)
    obtain ⟨P', g1, g2, g3, g4⟩ := mkI66 hN hE (w := w) hR hI0 hI1 hb hb0 d n (i + 1) P1 (by omega) (by omega) u2 ⟨fun r s hr hs hbb => by
      obtain ⟨y, hy, ey⟩ := mo_sq (i := 16 * r + s) (by omega) (sq_of hs hbb)
      rw [lo _ (by omega)]
      exact hm.1 r s hr hs hbb, fun k hk => by rw [lo _ (by omega)]; exact hm.2 k hk⟩
    refine ⟨P', fun κ => ?_, g2, fun i' j' h1 h2 h3 => ?_, fun x hx => ?_⟩
    · rw [lX7_makeInverse_61, nf_0, Option.bind_some, hI0, if_neg (fun y => by have := (le_n (by omega) (by omega)).mp y; omega)]
      show lX7_makeInverse_73 N 0 w (nI b.val) (nI (2 ^ R - 1)) 593 (nI i) N (nI 0) _ _ = _
      rw [u1]
      unfold nm
      rw [nI_1]
      exact g1 κ
    · by_cases z : i' = i
      · rw [z, g4 _ (fun a c h4 h5 h6 => by show 593 + 2 + 10 * i + 2 + 2 * j' ≠ 593 + 2 + 10 * a + 2 + 2 * c; omega)]
        exact u3 j' (by omega) h3
      · exact g3 i' j' (by omega) h2 h3
    · rw [g4 x (fun i' j' h1 h2 h3 => hx i' j' (by omega) h2 h3), u4 x (fun j' _ h2 => hx i j' (Nat.le_refl _) (by omega) h2)]
/-- makeInverse -/
theorem makeI_c (hN : 1000 ≤ N) (wf : FT P) {E : Nat → Nat → Po} (hE : ∀ i j, sz (E i j) ≤ 4) {R C : Nat} (hR : R < 5) (hC : C < 5) (hI0 : I 0 = nI R) (hI1 : I 1 = nI C) (hm : MR E 43 P) : (¬ (R = C ∧ sz (mi E (2 ^ R - 1) (2 ^ R - 1)) = 1) → fX7_makeInverse N 0 (HH P I B inc sl h0) = some (-1, HH P I B inc sl h0)) ∧ (R = C ∧ sz (mi E (2 ^ R - 1) (2 ^ R - 1)) = 1 → ∃ P', fX7_makeInverse N 0 (HH P I B inc sl h0) = some (nI R, HH P' I (ua B 2 (upd (B 2) 2 1)) inc sl h0) ∧ FT P' ∧ (∀ i j, i < R → j < R → P' (ce 593 i j) = ivE E R i j) ∧ (∀ x, x < 593 ∨ 635 ≤ x → P' x = P x)) := by
  have ml := mo_lead R hR
  have mn : MN (cls (muf I B inc sl) h0) 43 := mn_43 (o := I 5) rfl
  have wa : pl (43 + mo (17 * (2 ^ R - 1))) = 13 := mn.pm ml.2.2.2.1 ml.2.2.1
  have hw := hm.lead hR
  obtain ⟨a, ha⟩ : ∃ a, a = 43 + mo (17 * (2 ^ R - 1)) := ⟨_, rfl⟩
  rw [← ha] at wa hw
  obtain ⟨W, hW⟩ : ∃ W, W = mi E (2 ^ R - 1) (2 ^ R - 1) := ⟨_, rfl⟩
  rw [← hW] at hw
  have sW : sz W ≤ 13 := by rw [hW]; exact mi_sz hE (pw_lt R hR).1
  have head : fX7_makeInverse N 0 (HH P I B inc sl h0) = (if nI R = nI C then (if dI (sz W) = 0 then (cK (HH P I B inc sl h0) a 6).bind fun _ => (fX4_numberAt N a (0 : Int32) (HH P I B inc sl h0)).bind fun (v13, h14) => (fX7_inverseOf N v13 h14).bind fun (v16, h17) => (gI h17 0 9 0).bind fun v18 => nm (((1 : Int32) <<< (v18 &&& 31)) - (1 : Int32)) fun x19 => (gR h17 0 9 11).bind fun v20 => (aR h17 v20 3 (2 : Int32)).bind fun v21 => lX7_makeInverse_61 N 0 a v16 x19 v21 N (0 : Int32) h17 (fun y25 h26 => (gR h26 0 9 12).bind fun v27 => (aZs h26 v27 (2 : Int32) (1 : Int32)).bind fun h28 => (gI h28 0 9 0).bind fun v29 => some (v29, h28)) else some (-1, HH P I B inc sl h0)) else some (-1, HH P I B inc sl h0)) := by
    unfold fX7_makeInverse
    rw [nf_3, Option.bind_some, nf_0, Option.bind_some, hI0, ck_43, Option.bind_some]
    show (fX3_leading N 43 (nI R) (conc P (cls (muf I B inc sl) h0))).bind _ = _
    rw [leading_c mn hR, Option.bind_some, ← ha]
    show (gI (HH P I B inc sl h0) 0 9 0).bind _ = _
    rw [nf_0, Option.bind_some]
    show (gI (HH P I B inc sl h0) 0 9 1).bind _ = _
    rw [nf_1, Option.bind_some, hI0, hI1]
    unfold jn
    dsimp only
    congr 1
    show (gI (conc P (cls (muf I B inc sl) h0)) a 6 1).bind _ = _
    rw [po_dg (by omega), Option.bind_some, hw]
    rfl
  have d0 : dI (sz W) = 0 ↔ sz W = 1 := by
    constructor
    · intro h
      have : (dI (sz W)).toInt = 0 := by rw [h]; rfl
      rw [dI_toInt (by omega)] at this
      omega
    · intro h; rw [h]; decide
  rw [← hW]
  refine ⟨fun hne => ?_, fun ⟨hRC, hs⟩ => ?_⟩
  · rw [head]
    by_cases q : R = C
    · rw [if_pos (by rw [q]), if_neg (fun z => hne ⟨q, d0.mp z⟩)]
    · rw [if_neg (fun z => q ((eq_n (by omega) (by omega)).mp z))]
  · subst hRC
    have b0 : co W 0 ≠ 0 := by have := sz_top (p := W) (by omega); rw [hs] at this; exact this
    have nA := numberAt_c (N := N) (m := cls (muf I B inc sl) h0) wf (a := a) (by omega) (nI 0)
    rw [cfp_n _ (by decide), hw] at nA
    have cx : ∀ i j, i < 4 → j < 4 → 593 < ce 593 i j ∧ ce 593 i j < 635 := fun i j hi hj => by show 593 < 593 + 2 + 10 * i + 2 + 2 * j ∧ 593 + 2 + 10 * i + 2 + 2 * j < 635; omega
    obtain ⟨P', g1, g2, g3, g4⟩ := mkI66 (N := N) (B := B) (inc := inc) (sl := sl) (h0 := h0) hN hE (w := a) hR hI0 hI1 (b := finv (co W 0)) (by rw [hW]) (finv_ne b0) R N 0 P (by omega) (by omega) wf hm
    refine ⟨P', ?_, g2, fun i j hi hj => ?_, fun x hx => ?_⟩
    · rw [head, if_pos rfl, if_pos (d0.mpr hs)]
      show (cK (conc P (cls (muf I B inc sl) h0)) a 6).bind _ = _
      rw [po_ck (by omega), Option.bind_some]
      show (fX4_numberAt N a (nI 0) (conc P (cls (muf I B inc sl) h0))).bind _ = _
      rw [nA, Option.bind_some]
      dsimp only
      rw [show vl W 0 = (co W 0).val from rfl, inverseOf_s hN (Fin.isLt _), ← finv_val, Option.bind_some]
      dsimp only
      show (gI (HH P I B inc sl h0) 0 9 0).bind _ = _
      rw [nf_0, Option.bind_some, hI0, (ix4 R hR).1]
      unfold nm
      show (gR (HH P I B inc sl h0) 0 9 11).bind _ = _
      rw [nf_11, Option.bind_some]
      show (aR (HH P I B inc sl h0) 508 3 (nI 2)).bind _ = _
      rw [fo_a (by omega), Option.bind_some]
      show lX7_makeInverse_61 N 0 a (nI (finv (co W 0)).val) (nI (2 ^ R - 1)) 593 N (nI 0) (HH P I B inc sl h0) _ = _
      rw [g1, nf_12, Option.bind_some]
      show (aZs (HH P' I B inc sl h0) 635 (nI 2) 1).bind _ = _
      rw [th_s (by omega), Option.bind_some, nar1, nf_0, Option.bind_some, hI0]
    · exact g3 i j (by omega) hi hj
    · rw [g4 x (fun i j _ h2 h3 => by have := cx i j (by omega) (by omega); omega)]
/-- rank -/
theorem rank_c (hN : 1000 ≤ N) (wf : FT P) {E : Nat → Nat → Po} (hA : ∀ i j, i < 4 → j < 4 → P (ce 1 i j) = E i j) (hE : ∀ i j, sz (E i j) ≤ 4) (h1 : sz (P 47) ≤ 1) (hk : I 2 = 0 ∨ I 2 = 1 ∧ MR E 43 P ∧ I 5 = nI (ord E)) : ∃ P' I', fX7_rank N 0 (HH P I B inc sl h0) = some (nI (ord E), HH P' I' B inc sl h0) ∧ FT P' ∧ MR E 43 P' ∧ I' 2 = 1 ∧ I' 5 = nI (ord E) ∧ (∀ k, k ≠ 2 → k ≠ 5 → I' k = I k) ∧ (∀ x, x < 43 ∨ 214 ≤ x → P' x = P x) := by
  obtain ⟨P', I', g1, g2, g3, g4, g5, g6, g7⟩ := knowM_c (N := N) (B := B) (inc := inc) (sl := sl) (h0 := h0) hN wf hA hE h1 hk
  refine ⟨P', I', ?_, g2, g3, g4, g5, g6, g7⟩
  unfold fX7_rank
  rw [nf_ck, Option.bind_some, g1, Option.bind_some, nf_3, Option.bind_some, or_43, Option.bind_some, g5]
theorem count_l {a1 : Int32} {ft : Nat → Nat} (hf : ∀ f, f < 3 → B 2 f = nI (ft f) ∧ ft f < 2) : ∀ (d n z s : Nat), z + d = 3 → d < n → s ≤ z → ∃ s', lX7_count_30 N 0 a1 n (nI s) (nI z) (HH P I B inc sl h0) (fun y _ h => some (y, h)) = some (nI s', HH P I B inc sl h0) ∧ s' = s + (if z ≤ 0 then ft 0 else 0) + (if z ≤ 1 then ft 1 else 0) + (if z ≤ 2 then ft 2 else 0)
  | d, 0, z, s, _, hn, _ => absurd hn (Nat.not_lt_zero _)
  | 0, n + 1, z, s, hz, hn, hs => by
    refine ⟨s, ?_, by rw [if_neg (by omega), if_neg (by omega), if_neg (by omega)]; rfl⟩
    rw [lX7_count_30]
    show (if nI 3 ≤ nI z then _ else _) = _
    rw [if_pos ((le_n (by omega) (by omega)).mpr (by omega))]
  | d + 1, n + 1, z, s, hz, hn, hs => by
    have h := hf z (by omega)
    obtain ⟨s', g1, g2⟩ := count_l (a1 := a1) hf d n (z + 1) (s + ft z) (by omega) (by omega) (by omega)
    refine ⟨s', ?_, ?_⟩
    · rw [lX7_count_30]
      show (if nI 3 ≤ nI z then _ else _) = _
      rw [if_neg (fun y => by have := (le_n (by omega) (by omega)).mp y; omega), nf_12, Option.bind_some, th_g (by omega), Option.bind_some, h.1]
      unfold jn nm
      dsimp only
      rw [nI_1, nI_1]
      by_cases q : ft z = 0
      · rw [q, if_pos (show nI 0 = 0 from rfl)]
        rw [q, Nat.add_zero] at g1
        exact g1
      · rw [if_neg (nI_ne0 (by omega) (by omega))]
        rw [show ft z = 1 by omega] at g1
        exact g1
    · rw [g2]
      rcases (show z = 0 ∨ z = 1 ∨ z = 2 by omega) with y | y | y <;> subst y <;> simp <;> omega
/-- count -/
theorem count_c (hN : 1000 ≤ N) {ft : Nat → Nat} (hf : ∀ f, f < 3 → B 2 f = nI (ft f) ∧ ft f < 2) (a1 : Int32) : fX7_count N 0 a1 (HH P I B inc sl h0) = some (if a1 = 0 then I 0 else if a1 = 1 then I 1 else if a1 = 2 then nI (ft 0 + ft 1 + ft 2) else -1, HH P I B inc sl h0) := by
  unfold fX7_count
  by_cases q0 : a1 = 0
  · rw [if_pos q0, if_pos q0, nf_0]; rfl
  · rw [if_neg q0, if_neg q0]
    by_cases q1 : a1 = 1
    · rw [if_pos q1, if_pos q1, nf_1]; rfl
    · rw [if_neg q1, if_neg q1]
      by_cases q2 : a1 = 2
      · rw [if_pos q2, if_pos q2]
        obtain ⟨s, g1, g2⟩ := count_l (N := N) (P := P) (I := I) (B := B) (inc := inc) (sl := sl) (h0 := h0) (a1 := a1) hf 3 N 0 0 rfl (by omega) (by omega)
        rw [show s = ft 0 + ft 1 + ft 2 by rw [g2]; simp] at g1
        exact g1
      · rw [if_neg q2, if_neg q2]
end NM3
