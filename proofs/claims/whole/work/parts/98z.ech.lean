/-! the class's Echelon: its rows by slots, whatever objects they are -/
def EH (g : Nat → Nat) (inc : Nat) (sl : Nat → Option Nat) : Prop := g 4 = inc ∧ (∀ a, a < 4 → sl a = some (g a)) ∧ (∀ a, a < 5 → g a = 455 ∨ g a = 465 ∨ g a = 475 ∨ g a = 485 ∨ g a = 498) ∧ ∀ a b, a < 5 → b < 5 → g a = g b → a = b
def WE (P : Nat → Po) (g : Nat → Nat) (a j : Nat) : Po := P (g a + 2 + 2 * j)
def gx (g : Nat → Nat) (c : Nat) : Nat → Nat := fun a => if a = c then g 4 else if a = 4 then g c else g a
section EC1
variable {N : Nat} {P : Nat → Po} {I : Nat → Int32} {B : Nat → Nat → Int32} {inc : Nat} {sl : Nat → Option Nat} {h0 : Hp} {g : Nat → Nat}
theorem eh_ck : cK (HH P I B inc sl h0) 453 3 = some () := cm_cK np_453 (fs := [.ref 454, .ref 495, .ref 496, .ref inc]) rfl
theorem eh_0 : gR (HH P I B inc sl h0) 453 3 0 = some 454 := cm_gR np_453 (fs := [.ref 454, .ref 495, .ref 496, .ref inc]) rfl rfl
theorem eh_1 : gR (HH P I B inc sl h0) 453 3 1 = some 495 := cm_gR np_453 (fs := [.ref 454, .ref 495, .ref 496, .ref inc]) rfl rfl
theorem eh_2 : gR (HH P I B inc sl h0) 453 3 2 = some 496 := cm_gR np_453 (fs := [.ref 454, .ref 495, .ref 496, .ref inc]) rfl rfl
theorem eh_3 : gR (HH P I B inc sl h0) 453 3 3 = some inc := cm_gR np_453 (fs := [.ref 454, .ref 495, .ref 496, .ref inc]) rfl rfl
theorem sf_g {f : Nat} (hf : f < 4) : aZ (HH P I B inc sl h0) 495 (nI f) = some (B 1 f) := aZ_of (n := 4) (f := B 1) (by unfold HH; rw [cm_at np_495]; rfl) hf (by decide)
theorem sf_s {f : Nat} (hf : f < 4) (x : Int32) : aZs (HH P I B inc sl h0) 495 (nI f) x = some (HH P I (ua B 1 (upd (B 1) f (vp_nar .boolean x))) inc sl h0) := by
  unfold HH
  rw [aZs_of (n := 4) (f := B 1) (by rw [cm_at np_495]; rfl) hf (by decide), conc_hset np_495, cls_hset _ rfl, mu_495]
theorem sl_g (w : EH g inc sl) {c : Nat} (hc : c < 4) : aR (HH P I B inc sl h0) 454 5 (nI c) = some (g c) := cm_aR np_454 (n := 4) (f := sl) rfl hc (by decide) (w.2.1 c hc)
theorem er (w : EH g inc sl) {a : Nat} (ha : a < 5) {mu : Hp} : RO (cls mu h0) (g a) 67 := by
  rcases w.2.2.1 a ha with e | e | e | e | e <;> rw [e]
  · exact ro_455
  · exact ro_465
  · exact ro_475
  · exact ro_485
  · exact ro_498
theorem er_d (w : EH g inc sl) {a b : Nat} (ha : a < 5) (hb : b < 5) (h : a ≠ b) : g a + 10 ≤ g b ∨ g b + 10 ≤ g a := by
  have h1 := w.2.2.1 a ha
  have h2 := w.2.2.1 b hb
  have h3 : g a ≠ g b := fun e => h (w.2.2.2 a b ha hb e)
  omega
theorem er_q (w : EH g inc sl) {a : Nat} (ha : a < 5) (i : Nat) (hi : i < 4) : 496 ≠ g a + 2 + 2 * i := by
  have h1 := w.2.2.1 a ha
  omega
theorem pl_496 : pl 496 = 67 := by decide
theorem gx_eh (w : EH g inc sl) {c : Nat} (hc : c < 4) {v : Nat} (hv : v = g c) {sl' : Nat → Option Nat} (h : ∀ a, a < 4 → sl' a = if a = c then some inc else sl a) : EH (gx g c) v sl' := by
  refine ⟨?_, fun a ha => ?_, fun a ha => ?_, fun a b ha hb e => ?_⟩
  · unfold gx
    rw [if_neg (by omega), if_pos rfl, hv]
  · rw [h a ha]
    unfold gx
    by_cases q : a = c
    · rw [if_pos q, if_pos q, w.1]
    · rw [if_neg q, if_neg q, if_neg (by omega), w.2.1 a ha]
  · unfold gx
    by_cases q : a = c
    · rw [if_pos q]; exact w.2.2.1 4 (by omega)
    · rw [if_neg q]
      by_cases q2 : a = 4
      · rw [if_pos q2]; exact w.2.2.1 c (by omega)
      · rw [if_neg q2]; exact w.2.2.1 a ha
  · unfold gx at e
    have key : ∀ x y, x < 5 → y < 5 → g x = g y → x = y := w.2.2.2
    by_cases qa : a = c <;> by_cases qb : b = c
    · omega
    · rw [if_pos qa, if_neg qb] at e
      by_cases q2 : b = 4
      · rw [if_pos q2] at e
        have := key _ _ (by omega) (by omega) e
        omega
      · rw [if_neg q2] at e
        have := key _ _ (by omega) (by omega) e
        omega
    · rw [if_neg qa, if_pos qb] at e
      by_cases q2 : a = 4
      · rw [if_pos q2] at e
        have := key _ _ (by omega) (by omega) e
        omega
      · rw [if_neg q2] at e
        have := key _ _ (by omega) (by omega) e
        omega
    · rw [if_neg qa, if_neg qb] at e
      by_cases q2 : a = 4 <;> by_cases q3 : b = 4
      · omega
      · rw [if_pos q2, if_neg q3] at e
        have := key _ _ (by omega) (by omega) e
        omega
      · rw [if_neg q2, if_pos q3] at e
        have := key _ _ (by omega) (by omega) e
        omega
      · rw [if_neg q2, if_neg q3] at e
        exact key _ _ (by omega) (by omega) e
theorem aRs_of {h : Hp} {a t n j v ci : Nat} {f : Nat → Option Nat} {fs : List Value} (e : h a = some (.inl (t, n, .inr (.inr (.inr (.inr f)))))) (e2 : h v = some (.inr (ci, fs))) (hj : j < n) (hn : n < 2 ^ 31) : aRs h a t ci (nI j) v = some (hset h a (.inl (t, n, .inr (.inr (.inr (.inr (va_up f j (some v)))))))) := by
  unfold aRs
  rw [e, e2]
  dsimp only
  rw [if_pos ⟨⟨rfl, rfl⟩, ix_ok hj hn⟩, nI_clamp (by omega)]
theorem exch_c (w : EH g inc sl) {c : Nat} (hc : c < 4) : ∃ inc' sl', fX1_exchange N 453 (nI c) (HH P I B inc sl h0) = some (HH P I B inc' sl' h0) ∧ EH (gx g c) inc' sl' := by
  refine ⟨g c, va_up sl c (some inc), ?_, gx_eh w hc rfl (fun a ha => ?_)⟩
  · unfold fX1_exchange
    rw [eh_0, Option.bind_some, sl_g w hc, Option.bind_some, Option.bind_some, eh_3, Option.bind_some]
    have r4 : RO (cls (muf I B inc sl) h0) inc 67 := by
      have := er (mu := muf I B inc sl) (h0 := h0) w (a := 4) (by omega)
      rw [w.1] at this
      exact this
    have s1 : aRs (HH P I B inc sl h0) 454 5 8 (nI c) inc = some (HH P I B inc (va_up sl c (some inc)) h0) := by
      unfold HH
      rw [aRs_of (n := 4) (f := sl) (by rw [cm_at np_454]; rfl) (by rw [cm_at r4.2.2.1]; exact r4.1) hc (by decide), conc_hset np_454, cls_hset _ rfl, mu_454]
    have s2 : pV (HH P I B inc (va_up sl c (some inc)) h0) 453 3 3 (.ref (g c)) = some (HH P I B (g c) (va_up sl c (some inc)) h0) := by
      unfold HH
      rw [cm_pV (fs := [.ref 454, .ref 495, .ref 496, .ref inc]) np_453 rfl (by simp), cls_hset _ rfl, ← mu_453 (inc := inc) (g c)]
      rfl
    rw [s1, Option.bind_some, s2, Option.bind_some]
  · unfold va_up
    rfl
end EC1
section EC2
variable {N : Nat} {I : Nat → Int32} {B : Nat → Nat → Int32} {h0 : Hp}
theorem we_gx {P : Nat → Po} {g : Nat → Nat} {c : Nat} (a j : Nat) : WE P (gx g c) a j = if a = c then WE P g 4 j else if a = 4 then WE P g c j else WE P g a j := by
  unfold WE gx
  by_cases q : a = c
  · rw [if_pos q, if_pos q]
  · rw [if_neg q, if_neg q]
    by_cases q2 : a = 4
    · rw [if_pos q2, if_pos q2]
    · rw [if_neg q2, if_neg q2]
/-- lowerBy between two rows of the Echelon -/
theorem elow_c (hN : 1000 ≤ N) {P : Nat → Po} {inc : Nat} {sl : Nat → Option Nat} {g : Nat → Nat} (w : FT P) (eh : EH g inc sl) {r o c : Nat} (hr : r < 5) (ho : o < 5) (hro : r ≠ o) (hc : c < 4) (hz : ∀ j, j < c → WE P g o j = pC 0) (hn : sz (WE P g o c) ≠ 0) (hs : ∀ i, i < 4 → sz (pdv (WE P g r c) (WE P g o c)) + sz (WE P g o i) ≤ 68) : ∃ P', fX6_lowerBy N (g r) (g o) (nI c) 496 (HH P I B inc sl h0) = some (HH P' I B inc sl h0) ∧ FT P' ∧ (∀ a j, a < 5 → j < 4 → WE P' g a j = if a = r then pAdd (WE P g r j) (pNeg (pMul (pdv (WE P g r c) (WE P g o c)) (WE P g o j))) else WE P g a j) ∧ (∀ x, x < 457 ∨ 508 ≤ x → P' x = P x) := by
  obtain ⟨P', g1, g2, g3, g4, g5⟩ := lower_c hN (P := P) (m := cls (muf I B inc sl) h0) w (qa := 496) (c := c) (er eh hr) (er eh ho) (er_d eh hr ho hro) pl_496 (er_q eh hr) (er_q eh ho) hc hn (fun i h1 h2 => by
    have := hs i h2
    unfold WE at this
    omega)
  refine ⟨P', g1, g2, fun a j ha hj => ?_, fun x hx => g5 x (by omega) (fun i h1 h2 => by
    have := eh.2.2.1 r hr
    omega)⟩
  by_cases q : a = r
  · rw [if_pos q, q]
    by_cases q1 : j < c
    · rw [hz j q1, pMul_comm, pZero_mul, pn0, pAdd_zero]
      refine g5 _ (fun e => er_q eh hr j hj e.symm) (fun i h1 h2 => by omega)
    · by_cases q2 : j = c
      · rw [q2]
        rw [pmd_off hn]
        exact g3
      · exact g4 j (by omega) hj
  · rw [if_neg q]
    refine g5 _ (fun e => er_q eh ha j hj e.symm) (fun i h1 h2 => ?_)
    have := er_d eh ha hr q
    omega
theorem ei_l (hN : 1000 ≤ N) {c : Nat} (hc : c < 4) {S0 I0 : Nat → Po} {d X : Nat} (hS : ∀ j, j < 4 → sz (S0 j) ≤ d + 1) (hI : ∀ j, j < 4 → sz (I0 j) ≤ X + 1) (hdX : X + d + 1 ≤ 66) (hl : ∀ j, j < c → S0 j = pC 0 ∧ I0 j = pC 0) {F : Nat → Bool} (hF : F c = true) : ∀ (m n z : Nat) (P : Nat → Po) (inc : Nat) (sl : Nat → Option Nat) (g : Nat → Nat), FT P → EH g inc sl → sz (WE P g 4 c) ≤ m → z + m ≤ 67 → m < n → EU S0 I0 c (WE P g c) (WE P g 4) → ∃ P' inc' sl' g' z', (∀ κ, lX1_insert_46 N 453 (nI c) n (nI z) (HH P I B inc sl h0) κ = κ z' (HH P' I B inc' sl' h0)) ∧ FT P' ∧ EH g' inc' sl' ∧ EU S0 I0 c (WE P' g' c) (WE P' g' 4) ∧ WE P' g' 4 c = pC 0 ∧ (∀ v, La F (WE P' g') v ↔ La F (WE P g) v) ∧ (∀ a j, a < 4 → j < 4 → a ≠ c → WE P' g' a j = WE P g a j) ∧ (∀ x, x < 457 ∨ 508 ≤ x → P' x = P x)
  | m, 0, z, P, inc, sl, g, _, _, _, _, hn, _ => absurd hn (Nat.not_lt_zero _)
  | m, n + 1, z, P, inc, sl, g, w, eh, hm, hz, hn, hu => by
    by_cases q : sz (WE P g 4 c) = 0
    · refine ⟨P, inc, sl, g, nI z, fun κ => ?_, w, eh, hu, sz_0 q, fun _ => Iff.rfl, fun _ _ _ _ _ => rfl, fun _ _ => rfl⟩
      rw [lX1_insert_46]
      show (if nI 67 ≤ nI z then _ else _) = _
      by_cases z67 : nI 67 ≤ nI z
      · rw [if_pos z67]
      · rw [if_neg z67, eh_3, Option.bind_some, ← eh.1]
        unfold HH
        rw [(er eh (a := 4) (by omega)).g, Option.bind_some, (er eh (a := 4) (by omega)).a P hc, Option.bind_some, po_dg ((er (h0 := h0) (mu := muf I B (g 4) sl) eh (a := 4) (by omega)).n hc), Option.bind_some, if_pos]
        show dI (sz (WE P g 4 c)) < 0
        rw [q]
        decide
    · have hzl : ∀ j, j < c → WE P g 4 j = pC 0 := fun j hj => by
        obtain ⟨a, b, a', b', k1, _⟩ := hu
        rw [(k1 j (by omega)).2, (hl j hj).1, (hl j hj).2]
        letI := pr
        simp only [hA, hM, hz0]
        grind
      have bd := eu_bd hc hu hS hI
      obtain ⟨P1, g1, g2, g3, g4⟩ := elow_c (N := N) (I := I) (B := B) (h0 := h0) hN w eh (r := c) (o := 4) (c := c) (by omega) (by omega) (by omega) hc hzl q (fun i hi => by
        have := (bd i hi).2.2 q
        omega)
      obtain ⟨inc1, sl1, x1, x2⟩ := exch_c (N := N) (P := P1) (I := I) (B := B) (h0 := h0) eh hc
      have e4 : ∀ j, j < 4 → WE P1 (gx g c) 4 j = pAdd (WE P g c j) (pNeg (pMul (pdv (WE P g c c) (WE P g 4 c)) (WE P g 4 j))) := fun j hj => by
        rw [we_gx, if_neg (by omega), if_pos rfl, g3 c j (by omega) hj, if_pos rfl]
      have ec : ∀ j, j < 4 → WE P1 (gx g c) c j = WE P g 4 j := fun j hj => by
        rw [we_gx, if_pos rfl, g3 4 j (by omega) hj, if_neg (by omega)]
      have ea : ∀ a j, a < 4 → j < 4 → a ≠ c → WE P1 (gx g c) a j = WE P g a j := fun a j ha hj hac => by
        rw [we_gx, if_neg hac, if_neg (by omega), g3 a j (by omega) hj, if_neg hac]
      obtain ⟨s1, s2, s3⟩ := eu_step hc hu q e4
      have s1 : EU S0 I0 c (WE P1 (gx g c) c) (WE P1 (gx g c) 4) := by
        obtain ⟨a, b, a', b', k1, k2, k3, k4, k5, k6⟩ := s1
        refine ⟨a, b, a', b', fun j hj => ⟨?_, (k1 j hj).2⟩, ?_, ?_, k4, k5, ?_⟩
        · rw [ec j hj]; exact (k1 j hj).1
        · rw [ec c hc]; exact k2
        · rw [ec c hc]; exact k3
        · rw [ec c hc]; exact k6
      obtain ⟨P', inc', sl', g', z', t1, t2, t3, t4, t5, t6, t7, t8⟩ := ei_l hN hc hS hI hdX hl hF (m - 1) n (z + 1) P1 inc1 sl1 (gx g c) g2 x2 (by omega) (by omega) (by omega) s1
      refine ⟨P', inc', sl', g', z', fun κ => ?_, t2, t3, t4, t5, fun v => (t6 v).trans (es_la hc hF (fun a j ha hj => ?_) v), fun a j ha hj hac => ?_, fun x hx => ?_⟩
      · rw [lX1_insert_46]
        show (if nI 67 ≤ nI z then _ else _) = _
        rw [if_neg (fun y => by have := (le_n (by omega) (by omega)).mp y; omega), eh_3, Option.bind_some, ← eh.1]
        have r1 := (er (h0 := h0) (mu := muf I B (g 4) sl) eh (a := 4) (by omega))
        have d1 : gI (HH P I B (g 4) sl h0) (g 4 + 2 + 2 * c) 6 1 = some (dI (sz (WE P g 4 c))) := po_dg (r1.n hc)
        rw [show gR (HH P I B (g 4) sl h0) (g 4) 8 0 = some (g 4 + 1) from r1.g P, Option.bind_some, show aR (HH P I B (g 4) sl h0) (g 4 + 1) 4 (nI c) = some (g 4 + 2 + 2 * c) from r1.a P hc, Option.bind_some, d1, Option.bind_some, if_neg (fun y => by
          rw [show sz (WE P g 4 c) = (sz (WE P g 4 c) - 1) + 1 by omega, dI_succ] at y
          exact absurd y (nI_pos (by omega))), eh_0, Option.bind_some]
        have eh4 : EH g (g 4) sl := by
          have := eh
          rw [← eh.1] at this
          exact this
        rw [sl_g eh4 hc, Option.bind_some, Option.bind_some, eh_2, Option.bind_some, show cK (HH P I B (g 4) sl h0) (g c) 8 = some () from (er (h0 := h0) (mu := muf I B (g 4) sl) eh (a := c) (by omega)).ck P, Option.bind_some]
        rw [← eh.1] at g1 x1
        rw [g1, Option.bind_some, eh_ck, Option.bind_some, x1, Option.bind_some]
        unfold nm
        rw [nI_1]
        exact t1 κ
      · unfold eS
        by_cases q1 : a = c
        · rw [if_pos q1, q1]; exact ec j hj
        · rw [if_neg q1]
          by_cases q2 : a = 4
          · rw [if_pos q2, q2]; exact e4 j hj
          · rw [if_neg q2]; exact ea a j (by omega) hj q1
      · rw [t7 a j ha hj hac]; exact ea a j ha hj hac
      · rw [t8 x hx]; exact g4 x hx
end EC2
