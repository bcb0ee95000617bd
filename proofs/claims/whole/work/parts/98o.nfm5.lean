section NM5
variable {N : Nat} {P : Nat → Po} {I : Nat → Int32} {B : Nat → Nat → Int32} {inc : Nat} {sl : Nat → Option Nat} {h0 : Hp}
theorem vl_fm (p : Po) (x : Nat) (v : Int32) : nI (vl p x) = nI (fmI v).val ↔ co p x = fmI v := by
  have h1 := vl_lt p x
  have h2 := (fmI v).isLt
  rw [eq_n (by omega) (by omega)]
  exact ⟨fun h => Fin.ext h, fun h => by unfold vl; rw [h]⟩
/-- put -/
theorem put_c (hN : 1000 ≤ N) (wf : FT P) {R C : Nat} (hR : R < 5) (hC : C < 5) (hI0 : I 0 = nI R) (hI1 : I 1 = nI C) {E : Nat → Nat → Po} (hA : ∀ i j, i < 4 → j < 4 → P (ce 1 i j) = E i j) (a1 a2 a3 v : Int32) : (¬ ((inx a1 R ∧ inx a2 C) ∧ inx a3 4) → fX7_put N 0 a1 a2 a3 v (HH P I B inc sl h0) = some (.inl 3, HH P I B inc sl h0)) ∧ (∀ i j x, i < R → j < C → x < 4 → a1 = nI i → a2 = nI j → a3 = nI x → (co (E i j) x = fmI v → fX7_put N 0 a1 a2 a3 v (HH P I B inc sl h0) = some (.inr 0, HH P I B inc sl h0)) ∧ (co (E i j) x ≠ fmI v → ∃ w I', fX7_put N 0 a1 a2 a3 v (HH P I B inc sl h0) = some (.inr 1, HH (st P (ce 1 i j) (pSet (E i j) x (fmI v))) I' (ua B 2 w) inc sl h0) ∧ FT (st P (ce 1 i j) (pSet (E i j) x (fmI v))) ∧ sz (pSet (E i j) x (fmI v)) ≤ 4 ∧ (∀ f, f < 3 → w f = 0) ∧ I' 2 = 0 ∧ (x = 0 → I' 3 = 0 ∧ I' 4 = 0) ∧ (x ≠ 0 → I' 3 = I 3 ∧ I' 4 = I 4) ∧ (∀ k, k ≠ 2 → k ≠ 3 → k ≠ 4 → I' k = I k))) := by
  have ne := needEntry_s (N := N) (P := P) (I := I) (B := B) (inc := inc) (sl := sl) (h0 := h0) hR hC hI0 hI1 a1 a2 a3
  refine ⟨fun h => ?_, fun i j x hi hj hx e1 e2 e3 => ?_⟩
  · unfold fX7_put
    rw [nf_ck, Option.bind_some, ne.2 h, Option.bind_some]
    rfl
  · have m1 : MX (cls (muf I B inc sl) h0) 1 4 := mx_1
    have p1 : pl (ce 1 i j) = 4 := (m1.r (i := i) (by omega)).p (j := j) (by omega)
    have nA := numberAt_c (N := N) (m := cls (muf I B inc sl) h0) wf (a := ce 1 i j) (by omega) (nI x)
    rw [cfp_n _ (by omega), hA i j (by omega) (by omega)] at nA
    have head : fX7_put N 0 a1 a2 a3 v (HH P I B inc sl h0) = (if nI (vl (E i j) x) = nI (fmI v).val then some (.inr 0, HH P I B inc sl h0) else (fX4_setNumber N (ce 1 i j) (nI x) (nI (fmI v).val) (HH P I B inc sl h0)).bind fun h17 => (cK h17 0 9).bind fun _ => (fX7_forgetEntries N 0 h17).bind fun h20 => (if nI x = 0 then (cK h20 0 9).bind fun _ => (fX7_forgetNumbers N 0 h20).bind fun h26 => some (Sum.inr (1 : Int32), h26) else some (Sum.inr (1 : Int32), h20))) := by
      unfold fX7_put
      rw [nf_ck, Option.bind_some, ne.1 ⟨⟨⟨i, hi, e1⟩, ⟨j, hj, e2⟩⟩, ⟨x, hx, e3⟩⟩, Option.bind_some]
      unfold thr
      dsimp only
      rw [nf_2, Option.bind_some, e1, e2, e3]
      unfold HH
      rw [m1.ck, Option.bind_some, cell_c m1 (by omega) (by omega), Option.bind_some]
      dsimp only
      rw [floorMod_s, Option.bind_some]
      dsimp only
      rw [po_ck (by omega), Option.bind_some, nA, Option.bind_some]
      unfold jn
      dsimp only
      rw [po_ck (by omega), Option.bind_some]
    refine ⟨fun h => ?_, fun h => ?_⟩
    · rw [head, if_pos ((vl_fm _ _ _).mpr h)]
    · have s := setNumber_c hN (m := cls (muf I B inc sl) h0) wf (a := ce 1 i j) (by omega) (j := x) (by omega) (fmI v)
      rw [hA i j (by omega) (by omega)] at s
      obtain ⟨w, d1, d2⟩ := forgetE_c (N := N) (P := st P (ce 1 i j) (pSet (E i j) x (fmI v))) (I := I) (B := B) (inc := inc) (sl := sl) (h0 := h0) hN
      have tail : fX7_put N 0 a1 a2 a3 v (HH P I B inc sl h0) = (if nI x = 0 then (fX7_forgetNumbers N 0 (HH (st P (ce 1 i j) (pSet (E i j) x (fmI v))) (ui I 2 0) (ua B 2 w) inc sl h0)).bind fun h26 => some (Sum.inr (1 : Int32), h26) else some (Sum.inr (1 : Int32), HH (st P (ce 1 i j) (pSet (E i j) x (fmI v))) (ui I 2 0) (ua B 2 w) inc sl h0)) := by
        rw [head, if_neg (fun z => h ((vl_fm _ _ _).mp z))]
        show (fX4_setNumber N (ce 1 i j) (nI x) (nI (fmI v).val) (conc P (cls (muf I B inc sl) h0))).bind _ = _
        rw [s.1, Option.bind_some]
        show (cK (HH (st P (ce 1 i j) (pSet (E i j) x (fmI v))) I B inc sl h0) 0 9).bind _ = _
        rw [nf_ck, Option.bind_some]
        show (fX7_forgetEntries N 0 (HH (st P (ce 1 i j) (pSet (E i j) x (fmI v))) I B inc sl h0)).bind _ = _
        rw [d1, Option.bind_some, nf_ck, Option.bind_some]
      by_cases q : x = 0
      · refine ⟨w, ui (ui (ui I 2 0) 3 0) 4 0, ?_, wf.st s.2, by have := s.2; omega, d2, ?_, fun _ => ⟨?_, ui_s _ _ _⟩, fun z => absurd q z, fun k k1 k2 k3 => by rw [ui_n _ _ k3, ui_n _ _ k2, ui_n _ _ k1]⟩
        · rw [tail, if_pos (by rw [q]; rfl), forgetN_c]
          rfl
        · rw [ui_n _ _ (by decide), ui_n _ _ (by decide), ui_s]
        · rw [ui_n _ _ (by decide), ui_s]
      · refine ⟨w, ui I 2 0, ?_, wf.st s.2, by have := s.2; omega, d2, ui_s _ _ _, fun z => absurd z q, fun _ => ⟨ui_n _ _ (by decide), ui_n _ _ (by decide)⟩, fun k k1 k2 k3 => ui_n _ _ k1⟩
        rw [tail, if_neg (nI_ne0 (by omega) (by omega))]
/-- entry -/
theorem entry_c (wf : FT P) {R C : Nat} (hR : R < 5) (hC : C < 5) (hI0 : I 0 = nI R) (hI1 : I 1 = nI C) {E : Nat → Nat → Po} (hA : ∀ i j, i < 4 → j < 4 → P (ce 1 i j) = E i j) (a1 a2 a3 : Int32) : (¬ ((inx a1 R ∧ inx a2 C) ∧ inx a3 4) → fX7_entry N 0 a1 a2 a3 (HH P I B inc sl h0) = some (.inl 3, HH P I B inc sl h0)) ∧ (∀ i j x, i < R → j < C → x < 4 → a1 = nI i → a2 = nI j → a3 = nI x → fX7_entry N 0 a1 a2 a3 (HH P I B inc sl h0) = some (.inr (nI (vl (E i j) x)), HH P I B inc sl h0)) := by
  have ne := needEntry_s (N := N) (P := P) (I := I) (B := B) (inc := inc) (sl := sl) (h0 := h0) hR hC hI0 hI1 a1 a2 a3
  refine ⟨fun h => ?_, fun i j x hi hj hx e1 e2 e3 => ?_⟩
  · unfold fX7_entry
    rw [nf_ck, Option.bind_some, ne.2 h, Option.bind_some]
    rfl
  · have m1 : MX (cls (muf I B inc sl) h0) 1 4 := mx_1
    have p1 : pl (ce 1 i j) = 4 := (m1.r (i := i) (by omega)).p (j := j) (by omega)
    have nA := numberAt_c (N := N) (m := cls (muf I B inc sl) h0) wf (a := ce 1 i j) (by omega) (nI x)
    rw [cfp_n _ (by omega), hA i j (by omega) (by omega)] at nA
    unfold fX7_entry
    rw [nf_ck, Option.bind_some, ne.1 ⟨⟨⟨i, hi, e1⟩, ⟨j, hj, e2⟩⟩, ⟨x, hx, e3⟩⟩, Option.bind_some]
    unfold thr
    dsimp only
    rw [nf_2, Option.bind_some, e1, e2, e3]
    unfold HH
    rw [m1.ck, Option.bind_some, cell_c m1 (by omega) (by omega), Option.bind_some]
    dsimp only
    rw [po_ck (by omega), Option.bind_some, nA, Option.bind_some]
/-- degree and at, where the form is there -/
theorem degree_c {R C : Nat} (hR : R < 5) (hC : C < 5) (hI0 : I 0 = nI R) (hI1 : I 1 = nI C) {ft : Nat → Nat} (hf : ∀ f, f < 3 → B 2 f = nI (ft f) ∧ ft f < 2) (a1 a2 a3 : Int32) : (¬ inx a1 3 → fX7_degree N 0 a1 a2 a3 (HH P I B inc sl h0) = some (.inl 1, HH P I B inc sl h0)) ∧ (∀ f, f < 3 → a1 = nI f → (ft f = 0 → fX7_degree N 0 a1 a2 a3 (HH P I B inc sl h0) = some (.inl 2, HH P I B inc sl h0)) ∧ (ft f = 1 → ¬ (inx a2 R ∧ inx a3 C) → fX7_degree N 0 a1 a2 a3 (HH P I B inc sl h0) = some (.inl 3, HH P I B inc sl h0)) ∧ (ft f = 1 → ∀ i j, i < R → j < C → a2 = nI i → a3 = nI j → fX7_degree N 0 a1 a2 a3 (HH P I B inc sl h0) = some (.inr (dI (sz (P (ce (509 + 42 * f) i j)))), HH P I B inc sl h0))) := by
  have fc := formCell_s (N := N) (P := P) (I := I) (B := B) (inc := inc) (sl := sl) (h0 := h0) hR hC hI0 hI1 hf a1 a2 a3
  unfold fX7_degree
  rw [nf_ck, Option.bind_some]
  refine ⟨fun h => by rw [fc.1 h, Option.bind_some]; rfl, fun f hf3 ha => ⟨fun h => by rw [(fc.2 f hf3 ha).1 h, Option.bind_some]; rfl, fun h hn => by rw [(fc.2 f hf3 ha).2.1 h hn, Option.bind_some]; rfl, fun h i j hi hj e2 e3 => ?_⟩⟩
  rw [(fc.2 f hf3 ha).2.2 h i j hi hj e2 e3, Option.bind_some]
  unfold thr
  dsimp only
  have m := mx_f (I := I) (B := B) (inc := inc) (sl := sl) (h0 := h0) hf3
  show (gI (conc P (cls (muf I B inc sl) h0)) (ce (509 + 42 * f) i j) 6 1).bind _ = _
  rw [po_dg ((m.r (i := i) (by omega)).n (by omega)), Option.bind_some]
theorem at_c (wf : FT P) {R C : Nat} (hR : R < 5) (hC : C < 5) (hI0 : I 0 = nI R) (hI1 : I 1 = nI C) {ft : Nat → Nat} (hf : ∀ f, f < 3 → B 2 f = nI (ft f) ∧ ft f < 2) (a1 a2 a3 a4 : Int32) : (¬ inx a1 3 → fX7_at N 0 a1 a2 a3 a4 (HH P I B inc sl h0) = some (.inl 1, HH P I B inc sl h0)) ∧ (∀ f, f < 3 → a1 = nI f → (ft f = 0 → fX7_at N 0 a1 a2 a3 a4 (HH P I B inc sl h0) = some (.inl 2, HH P I B inc sl h0)) ∧ (ft f = 1 → ¬ (inx a2 R ∧ inx a3 C) → fX7_at N 0 a1 a2 a3 a4 (HH P I B inc sl h0) = some (.inl 3, HH P I B inc sl h0)) ∧ (ft f = 1 → ∀ i j, i < R → j < C → a2 = nI i → a3 = nI j → fX7_at N 0 a1 a2 a3 a4 (HH P I B inc sl h0) = some (.inr (cfp (P (ce (509 + 42 * f) i j)) a4), HH P I B inc sl h0))) := by
  have fc := formCell_s (N := N) (P := P) (I := I) (B := B) (inc := inc) (sl := sl) (h0 := h0) hR hC hI0 hI1 hf a1 a2 a3
  unfold fX7_at
  rw [nf_ck, Option.bind_some]
  refine ⟨fun h => by rw [fc.1 h, Option.bind_some]; rfl, fun f hf3 ha => ⟨fun h => by rw [(fc.2 f hf3 ha).1 h, Option.bind_some]; rfl, fun h hn => by rw [(fc.2 f hf3 ha).2.1 h hn, Option.bind_some]; rfl, fun h i j hi hj e2 e3 => ?_⟩⟩
  rw [(fc.2 f hf3 ha).2.2 h i j hi hj e2 e3, Option.bind_some]
  unfold thr
  dsimp only
  have m := mx_f (I := I) (B := B) (inc := inc) (sl := sl) (h0 := h0) hf3
  have p := (m.r (i := i) (by omega)).n (j := j) (by omega)
  unfold HH
  rw [po_ck p, Option.bind_some, numberAt_c wf p, Option.bind_some]
/-- determinant -/
theorem det_c (hN : 1000 ≤ N) (wf : FT P) {R C : Nat} (hR : R < 5) (hC : C < 5) (hI0 : I 0 = nI R) (hI1 : I 1 = nI C) {E : Nat → Nat → Po} (hA : ∀ i j, i < 4 → j < 4 → P (ce 1 i j) = E i j) (hE : ∀ i j, sz (E i j) ≤ 4) (h1 : sz (P 47) ≤ 1) (hk : I 2 = 0 ∨ I 2 = 1 ∧ MR E 43 P ∧ I 5 = nI (ord E)) (a1 : Int32) : (R ≠ C → fX7_determinant N 0 a1 (HH P I B inc sl h0) = some (.inl 2, HH P I B inc sl h0)) ∧ (R = C → ∃ P' I', fX7_determinant N 0 a1 (HH P I B inc sl h0) = some (.inr (cfp (mi E (2 ^ R - 1) (2 ^ R - 1)) a1), HH P' I' B inc sl h0) ∧ FT P' ∧ MR E 43 P' ∧ I' 2 = 1 ∧ I' 5 = nI (ord E) ∧ (∀ k, k ≠ 2 → k ≠ 5 → I' k = I k) ∧ (∀ x, x < 43 ∨ 214 ≤ x → P' x = P x)) := by
  have ns := needSquare_s (N := N) (P := P) (I := I) (B := B) (inc := inc) (sl := sl) (h0 := h0) hR hC hI0 hI1
  refine ⟨fun h => ?_, fun h => ?_⟩
  · unfold fX7_determinant
    rw [nf_ck, Option.bind_some, ns.2 h, Option.bind_some]
    rfl
  · obtain ⟨P', I', g1, g2, g3, g4, g5, g6, g7⟩ := knowM_c (N := N) (B := B) (inc := inc) (sl := sl) (h0 := h0) hN wf hA hE h1 hk
    refine ⟨P', I', ?_, g2, g3, g4, g5, g6, g7⟩
    have mn : MN (cls (muf I' B inc sl) h0) 43 := mn_43 (o := I' 5) rfl
    have ml := mo_lead R hR
    have wa : pl (43 + mo (17 * (2 ^ R - 1))) ≠ 0 := by rw [mn.pm ml.2.2.2.1 ml.2.2.1]; decide
    unfold fX7_determinant
    rw [nf_ck, Option.bind_some, ns.1 h, Option.bind_some]
    unfold thr
    dsimp only
    rw [nf_ck, Option.bind_some, g1, Option.bind_some, nf_3, Option.bind_some, nf_0, Option.bind_some, g6 0 (by decide) (by decide), hI0, ck_43, Option.bind_some]
    unfold HH
    rw [leading_c mn hR, Option.bind_some]
    dsimp only
    rw [po_ck wa, Option.bind_some, numberAt_c g2 wa, Option.bind_some, g3.lead hR]
/-- characteristic -/
theorem chr_c (hN : 1000 ≤ N) (wf : FT P) {R C : Nat} (hR : R < 5) (hC : C < 5) (hI0 : I 0 = nI R) (hI1 : I 1 = nI C) {E : Nat → Nat → Po} (hA : ∀ i j, i < 4 → j < 4 → P (ce 1 i j) = E i j) (h1 : sz (P 260) ≤ 1) (hk : R = C → I 3 = 0 ∨ I 3 = 1 ∧ MR (xE E R) 256 P) (a1 : Int32) : (R ≠ C → fX7_characteristic N 0 a1 (HH P I B inc sl h0) = some (.inl 2, HH P I B inc sl h0)) ∧ (R = C → ∃ P' I', fX7_characteristic N 0 a1 (HH P I B inc sl h0) = some (.inr (cfp (chp E R) a1), HH P' I' B inc sl h0) ∧ FT P' ∧ MR (xE E R) 256 P' ∧ I' 3 = 1 ∧ (∀ k, k ≠ 3 → k ≠ 6 → I' k = I k) ∧ (∀ x, x < 214 ∨ 427 ≤ x → P' x = P x)) := by
  have ns := needSquare_s (N := N) (P := P) (I := I) (B := B) (inc := inc) (sl := sl) (h0 := h0) hR hC hI0 hI1
  refine ⟨fun h => ?_, fun h => ?_⟩
  · unfold fX7_characteristic
    rw [nf_ck, Option.bind_some, ns.2 h, Option.bind_some]
    rfl
  · obtain ⟨P', I', g1, g2, g3, g4, g5, g6⟩ := knowN_c (N := N) (B := B) (inc := inc) (sl := sl) (h0 := h0) hN wf hR hI0 (by rw [hI1, h]) hA h1 (hk h)
    refine ⟨P', I', ?_, g2, g3, g4, g5, g6⟩
    have mn : MN (cls (muf I' B inc sl) h0) 256 := mn_256 (o := I' 6) rfl
    have ml := mo_lead R hR
    have wa : pl (256 + mo (17 * (2 ^ R - 1))) ≠ 0 := by rw [mn.pm ml.2.2.2.1 ml.2.2.1]; decide
    unfold fX7_characteristic
    rw [nf_ck, Option.bind_some, ns.1 h, Option.bind_some]
    unfold thr
    dsimp only
    rw [nf_ck, Option.bind_some, g1, Option.bind_some, nf_6, Option.bind_some, nf_0, Option.bind_some, g5 0 (by decide) (by decide), hI0, ck_256, Option.bind_some]
    unfold HH
    rw [leading_c mn hR, Option.bind_some]
    dsimp only
    rw [po_ck wa, Option.bind_some, numberAt_c g2 wa, Option.bind_some, g3.lead hR]
    rfl
/-- minimal -/
theorem min_c (hN : 1000 ≤ N) (wf : FT P) {R C : Nat} (hR : R < 5) (hC : C < 5) (hI0 : I 0 = nI R) (hI1 : I 1 = nI C) {E : Nat → Nat → Po} (hA : ∀ i j, i < 4 → j < 4 → P (ce 1 i j) = E i j) (h1 : sz (P 260) ≤ 1) (hk : R = C → I 3 = 0 ∨ I 3 = 1 ∧ MR (xE E R) 256 P) (a1 : Int32) : (R ≠ C → fX7_minimal N 0 a1 (HH P I B inc sl h0) = some (.inl 2, HH P I B inc sl h0)) ∧ (R = C → ∃ P' I', fX7_minimal N 0 a1 (HH P I B inc sl h0) = some (.inr (if R = 0 then (if a1 = 0 then 1 else 0) else cfp (ivf (gd (xE E R)) (R - 1)) a1), HH P' I' B inc sl h0) ∧ FT P' ∧ MR (xE E R) 256 P' ∧ I' 3 = 1 ∧ (∀ k, k ≠ 3 → k ≠ 6 → I' k = I k) ∧ (∀ x, x < 214 ∨ 427 ≤ x → P' x = P x)) := by
  have ns := needSquare_s (N := N) (P := P) (I := I) (B := B) (inc := inc) (sl := sl) (h0 := h0) hR hC hI0 hI1
  refine ⟨fun h => ?_, fun h => ?_⟩
  · unfold fX7_minimal
    rw [nf_ck, Option.bind_some, ns.2 h, Option.bind_some]
    rfl
  · obtain ⟨P', I', g1, g2, g3, g4, g5, g6⟩ := knowN_c (N := N) (B := B) (inc := inc) (sl := sl) (h0 := h0) hN wf hR hI0 (by rw [hI1, h]) hA h1 (hk h)
    refine ⟨P', I', ?_, g2, g3, g4, g5, g6⟩
    have mn : MN (cls (muf I' B inc sl) h0) 256 := mn_256 (o := I' 6) rfl
    have i0 : I' 0 = nI R := by rw [g5 0 (by decide) (by decide)]; exact hI0
    unfold fX7_minimal
    rw [nf_ck, Option.bind_some, ns.1 h, Option.bind_some]
    unfold thr
    dsimp only
    rw [nf_ck, Option.bind_some, g1, Option.bind_some, nf_0, Option.bind_some, i0]
    by_cases q : R = 0
    · rw [if_pos q, if_pos (by rw [q]; rfl)]
      unfold jn
      dsimp only
      by_cases z : a1 = 0
      · rw [if_pos z, if_pos z]
      · rw [if_neg z, if_neg z]
    · rw [if_neg q, if_neg (nI_ne0 (by omega) (by omega)), nf_6, Option.bind_some]
      have wa : pl (256 + 156 + 2 * (R - 1)) ≠ 0 := by rw [mn.pi (by omega)]; decide
      unfold HH
      rw [mn.g2, Option.bind_some]
      rw [Option.bind_some, show nI R - 1 = nI (R - 1) from pk_sub (b := 1) (by omega)]
      show (aR (conc P' (cls (muf I' B inc sl) h0)) (256 + 155) 4 (nI (R - 1))).bind _ = _
      rw [mn.a2 _ (by omega), Option.bind_some]
      show (cK (conc P' (cls (muf I' B inc sl) h0)) (256 + 156 + 2 * (R - 1)) 6).bind _ = _
      rw [po_ck wa, Option.bind_some]
      show (fX4_numberAt N (256 + 156 + 2 * (R - 1)) a1 (conc P' (cls (muf I' B inc sl) h0))).bind _ = _
      rw [numberAt_c g2 wa, Option.bind_some, g3.2 (R - 1) (by omega)]
end NM5
