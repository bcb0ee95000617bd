/-! the Divider -/
theorem lt_n {a b : Nat} (ha : a < 2 ^ 31) (hb : b < 2 ^ 31) : nI a < nI b ↔ a < b := by
  rw [Int32.lt_iff_toInt_lt, nI_toInt ha, nI_toInt hb]; omega
theorem le_n {a b : Nat} (ha : a < 2 ^ 31) (hb : b < 2 ^ 31) : nI a ≤ nI b ↔ a ≤ b := by
  rw [Int32.le_iff_toInt_le, nI_toInt ha, nI_toInt hb]; omega
theorem eq_n {a b : Nat} (ha : a < 2 ^ 31) (hb : b < 2 ^ 31) : nI a = nI b ↔ a = b := by
  rw [← Int32.toInt_inj, nI_toInt ha, nI_toInt hb]; omega
def np (x : Nat) : Prop := pl x = 0 ∧ (x = 0 ∨ pl (x - 1) = 0)
theorem cm_at {P : Nat → Po} {m : Hp} {a : Nat} (h : np a) : conc P m a = m a := conc_m h.1 h.2
theorem cm_gR {P : Nat → Po} {m : Hp} {a ci k v : Nat} {fs : List Value} (h : np a) (e : m a = some (.inr (ci, fs))) (q : fs[k]? = some (.ref v)) : gR (conc P m) a ci k = some v := gR_of (by rw [cm_at h]; exact e) q
theorem cm_gI {P : Nat → Po} {m : Hp} {a ci k : Nat} {v : Int32} {fs : List Value} (h : np a) (e : m a = some (.inr (ci, fs))) (q : fs[k]? = some (.int v)) : gI (conc P m) a ci k = some v := gI_of (by rw [cm_at h]; exact e) q
theorem cm_cK {P : Nat → Po} {m : Hp} {a ci : Nat} {fs : List Value} (h : np a) (e : m a = some (.inr (ci, fs))) : cK (conc P m) a ci = some () := cK_of (by rw [cm_at h]; exact e)
theorem cm_aR {P : Nat → Po} {m : Hp} {a t n j r : Nat} {f : Nat → Option Nat} (h : np a) (e : m a = some (.inl (t, n, .inr (.inr (.inr (.inr f)))))) (hj : j < n) (hn : n < 2 ^ 31) (hr : f j = some r) : aR (conc P m) a t (nI j) = some r := aR_of (by rw [cm_at h]; exact e) hj hn hr
theorem po_ck {P : Nat → Po} {m : Hp} {a : Nat} (h : pl a ≠ 0) : cK (conc P m) a 6 = some () := cK_of (conc_a h)
theorem po_dg {P : Nat → Po} {m : Hp} {a : Nat} (h : pl a ≠ 0) : gI (conc P m) a 6 1 = some (dI (sz (P a))) := gI_of (conc_a h) rfl
/-- a Divider at D -/
def DV (m : Hp) (D : Nat) : Prop := m D = some (.inr (2, [.ref (D + 1), .ref (D + 3), .ref (D + 5)])) ∧ np D ∧ pl (D + 1) = 13 ∧ pl (D + 3) = 13 ∧ pl (D + 5) = 13
noncomputable def eu : Nat → Po → Po → Po
  | 0, a, _ => a
  | n + 1, a, b => if sz b = 0 then a else eu n b (pmd a b)
theorem eu_more : ∀ (n k : Nat) (a b : Po), sz b ≤ n → eu (n + k) a b = eu n a b
  | 0, 0, a, b, h => rfl
  | 0, k + 1, a, b, h => by
    rw [Nat.zero_add]
    show (if sz b = 0 then a else _) = a
    rw [if_pos (by omega)]
  | n + 1, k, a, b, h => by
    rw [show n + 1 + k = (n + k) + 1 by omega, eu, eu]
    by_cases q : sz b = 0
    · rw [if_pos q, if_pos q]
    · rw [if_neg q, if_neg q]
      exact eu_more n k _ _ (by have := (pdm a q).2; omega)
theorem eu_sz : ∀ (n : Nat) (a b : Po), sz (eu n a b) ≤ max (sz a) (sz b)
  | 0, a, b => by rw [eu]; omega
  | n + 1, a, b => by
    rw [eu]
    by_cases q : sz b = 0
    · rw [if_pos q]; omega
    · rw [if_neg q]
      have h1 := eu_sz n b (pmd a b)
      have h2 := (pdm a q).2
      omega
noncomputable def pgcd (a b : Po) : Po := pMon (eu (sz b) a b)
theorem pMon_sz (p : Po) : sz (pMon p) = sz p := by
  by_cases h : sz p = 0
  · rw [sz_0 h]
    have : pMon (pC 0) = pC 0 := by
      unfold pMon
      letI := pr
      simp only [hM, h0]
      grind
    rw [this]
  · have hc : sz (pC (finv (lead p))) = 1 := sz_eq (fun j hj => by rw [co_C, if_neg (by omega)]) (fun _ => finv_ne (lead_ne h))
    unfold pMon
    rw [sz_mul (by omega) h, hc]
    omega
theorem shrink_l {N D one other : Nat} {m : Hp} (hN : 1000 ≤ N) (dv : DV m D) : ∀ (k n s hi lo : Nat) (P : Nat → Po), s + k = 14 → k < n → FT P → (hi = D + 1 ∧ lo = D + 3 ∨ hi = D + 3 ∧ lo = D + 1) → ∃ (hi' lo' : Nat) (z : Int32) (P' : Nat → Po), (∀ κ, lX0_shrinkToCommon_30 N D one other n hi lo (nI s) (conc P m) κ = κ hi' lo' z (conc P' m)) ∧ P' hi' = eu k (P hi) (P lo) ∧ FT P' ∧ (hi' = D + 1 ∨ hi' = D + 3) ∧ (∀ x, x ≠ D + 1 → x ≠ D + 3 → x ≠ D + 5 → P' x = P x)
  | k, 0, s, hi, lo, P, _, hn, _, _ => absurd hn (Nat.not_lt_zero _)
  | 0, n + 1, s, hi, lo, P, hs, hn, w, hl => by
    refine ⟨hi, lo, nI s, P, fun κ => ?_, rfl, w, by omega, fun _ _ _ _ => rfl⟩
    rw [lX0_shrinkToCommon_30]
    show (if nI 13 < nI s then _ else _) = _
    rw [if_pos ((lt_n (by omega) (by omega)).mpr (by omega))]
  | k + 1, n + 1, s, hi, lo, P, hs, hn, w, hl => by
    obtain ⟨d1, d2, d3, d4, d5⟩ := dv
    have phi : pl hi = 13 := by rcases hl with ⟨h1, h2⟩ | ⟨h1, h2⟩ <;> rw [h1] <;> assumption
    have plo : pl lo = 13 := by rcases hl with ⟨h1, h2⟩ | ⟨h1, h2⟩ <;> rw [h2] <;> assumption
    have slo := w lo (by omega)
    by_cases q : sz (P lo) = 0
    · refine ⟨hi, lo, nI s, P, fun κ => ?_, by rw [eu, if_pos q], w, by omega, fun _ _ _ _ => rfl⟩
      rw [lX0_shrinkToCommon_30]
      show (if nI 13 < nI s then _ else _) = _
      rw [if_neg (fun z => by have := (lt_n (by omega) (by omega)).mp z; omega), po_dg (by omega)]
      show (if dI (sz (P lo)) < 0 then _ else _) = _
      rw [if_pos ((dI_lt_0 (by omega)).mpr q)]
    · have shi := w hi (by omega)
      have dd := divideBy_c hN (m := m) w (a := hi) (b := lo) (q := D + 5) (by omega) (by omega) (by omega) (by omega) (by omega) (by omega) (fun _ => by omega)
      obtain ⟨hi', lo', z, P', g1, g2, g3, g4, g5⟩ := shrink_l (one := one) (other := other) hN ⟨d1, d2, d3, d4, d5⟩ k n (s + 1) lo hi _ (by omega) (by omega) ((w.st dd.2.1).st dd.2.2) (by omega)
      refine ⟨hi', lo', z, P', fun κ => ?_, ?_, g3, g4, fun x u1 u2 u3 => ?_⟩
      · rw [lX0_shrinkToCommon_30]
        show (if nI 13 < nI s then _ else _) = _
        rw [if_neg (fun z => by have := (lt_n (by omega) (by omega)).mp z; omega), po_dg (by omega)]
        show (if dI (sz (P lo)) < 0 then _ else _) = _
        rw [if_neg (fun z => q ((dI_lt_0 (by omega)).mp z)), cm_gR d2 d1 rfl]
        show (cK (conc P m) hi 6).bind _ = _
        rw [po_ck (by omega)]
        show (fX4_divideBy N hi lo (D + 5) (conc P m)).bind _ = _
        rw [dd.1]
        show lX0_shrinkToCommon_30 N D one other n lo hi (nI s + 1) _ κ = _
        rw [nI_1]
        exact g1 κ
      · rw [g2, eu, if_neg q, st_same, st_ne _ _ (by omega), st_ne _ _ (by omega)]
      · rw [g5 x u1 u2 u3, st_ne _ _ (by omega), st_ne _ _ (by omega)]
/-- shrinkToCommon: one becomes the common divisor -/
theorem shrink_c {N : Nat} (hN : 1000 ≤ N) {P : Nat → Po} {m : Hp} (w : FT P) {D one other : Nat} (dv : DV m D) (h1 : pl one ≠ 0) (h2 : pl other ≠ 0) (n1 : one ≠ D + 1 ∧ one ≠ D + 3) (n2 : other ≠ D + 1 ∧ other ≠ D + 3) (n3 : one ≠ D + 5 ∧ other ≠ D + 5) (s1 : sz (P one) ≤ 13) (s2 : sz (P other) ≤ 13) (s3 : sz (P other) ≤ pl one) : ∃ P', fX0_shrinkToCommon N D one other (conc P m) = some (conc P' m) ∧ FT P' ∧ P' one = pgcd (P one) (P other) ∧ (∀ x, x ≠ one → x ≠ D + 1 → x ≠ D + 3 → x ≠ D + 5 → P' x = P x) := by
  obtain ⟨d1, d2, d3, d4, d5⟩ := dv
  have c1 := copyFrom_c hN (m := m) w (a := D + 1) (b := one) (by omega) h1 (by omega) (by omega)
  have w1 : FT (st P (D + 1) (P one)) := w.st (by omega)
  have c2 := copyFrom_c hN (m := m) w1 (a := D + 3) (b := other) (by omega) h2 (by omega) (by rw [st_ne _ _ (by omega)]; omega)
  rw [st_ne _ _ n2.1] at c2
  have w2 : FT (st (st P (D + 1) (P one)) (D + 3) (P other)) := w1.st (by omega)
  obtain ⟨hi, lo, z, P', g1, g2, g3, g4, g5⟩ := shrink_l (N := N) (one := one) (other := other) hN ⟨d1, d2, d3, d4, d5⟩ 14 N 0 (D + 1) (D + 3) _ rfl (by omega) w2 (by omega)
  rw [st_same, st_ne _ _ (by omega), st_same] at g2
  rw [show 14 = sz (P other) + (14 - sz (P other)) by omega, eu_more _ _ _ _ (Nat.le_refl _)] at g2
  have hs : sz (P' hi) ≤ pl one := by
    have := eu_sz (sz (P other)) (P one) (P other)
    have := w one h1
    rw [g2]; omega
  have phi : pl hi ≠ 0 := by rcases g4 with h | h <;> rw [h] <;> omega
  have c3 := copyFrom_c hN (m := m) g3 (a := one) (b := hi) h1 phi (by omega) hs
  have w3 : FT (st P' one (P' hi)) := g3.st hs
  have c4 := makeMonic_c hN (m := m) w3 (a := one) h1
  rw [st_same, st_st] at c4
  refine ⟨st P' one (pMon (P' hi)), ?_, g3.st (by rw [pMon_sz]; exact hs), ?_, fun x u1 u2 u3 u4 => ?_⟩
  · unfold fX0_shrinkToCommon
    rw [cm_gR d2 d1 rfl]
    show (cK (conc P m) (D + 1) 6).bind _ = _
    rw [po_ck (by omega)]
    show (fX4_copyFrom N (D + 1) one (conc P m)).bind _ = _
    rw [c1]
    show (gR (conc _ m) D 2 1).bind _ = _
    rw [cm_gR d2 d1 rfl]
    show (cK (conc _ m) (D + 3) 6).bind _ = _
    rw [po_ck (by omega)]
    show (fX4_copyFrom N (D + 3) other (conc _ m)).bind _ = _
    rw [c2]
    show (gR (conc _ m) D 2 0).bind _ = _
    rw [cm_gR d2 d1 rfl]
    show (gR (conc _ m) D 2 1).bind _ = _
    rw [cm_gR d2 d1 rfl]
    show lX0_shrinkToCommon_30 N D one other N (D + 1) (D + 3) (nI 0) (conc _ m) _ = _
    rw [g1]
    show (cK (conc _ m) one 6).bind _ = _
    rw [po_ck h1]
    show (fX4_copyFrom N one hi (conc _ m)).bind _ = _
    rw [c3]
    show (cK (conc _ m) one 6).bind _ = _
    rw [po_ck h1]
    show (fX4_makeMonic N one (conc _ m)).bind _ = _
    rw [c4]
    rfl
  · rw [st_same, g2]
    rfl
  · rw [st_ne _ _ u1, g5 x u2 u3 u4, st_ne _ _ u3, st_ne _ _ u2]
theorem DV.l {m : Hp} {D : Nat} (d : DV m D) (P : Nat → Po) : gR (conc P m) D 2 0 = some (D + 1) := cm_gR d.2.1 d.1 rfl
theorem DV.r {m : Hp} {D : Nat} (d : DV m D) (P : Nat → Po) : gR (conc P m) D 2 1 = some (D + 3) := cm_gR d.2.1 d.1 rfl
theorem DV.q {m : Hp} {D : Nat} (d : DV m D) (P : Nat → Po) : gR (conc P m) D 2 2 = some (D + 5) := cm_gR d.2.1 d.1 rfl
/-- writeQuotient -/
theorem writeQ_c {N : Nat} (hN : 1000 ≤ N) {P : Nat → Po} {m : Hp} (w : FT P) {D res who dsr : Nat} (dv : DV m D) (h1 : pl res ≠ 0) (h2 : pl who ≠ 0) (h3 : pl dsr ≠ 0) (n1 : res ≠ D + 5) (n2 : who ≠ D + 1) (n3 : dsr ≠ D + 1 ∧ dsr ≠ D + 5) (s1 : sz (P who) ≤ 13) (s2 : sz (pdv (P who) (P dsr)) ≤ pl res) : ∃ P', fX0_writeQuotient N D res who dsr (conc P m) = some (conc P' m) ∧ FT P' ∧ P' res = pdv (P who) (P dsr) ∧ (∀ x, x ≠ res → x ≠ D + 1 → x ≠ D + 5 → P' x = P x) := by
  obtain ⟨-, -, d3, d4, d5⟩ := id dv
  have c1 := copyFrom_c hN (m := m) w (a := D + 1) (b := who) (by omega) h2 (by omega) (by omega)
  have w1 : FT (st P (D + 1) (P who)) := w.st (by omega)
  have c2 := divideBy_c hN (m := m) w1 (a := D + 1) (b := dsr) (q := D + 5) (by omega) h3 (by omega) (by omega) (by omega) (by omega) (by rw [st_same, st_ne _ _ n3.1]; omega)
  rw [st_same, st_ne _ _ n3.1] at c2
  have w2 := (w1.st c2.2.1).st c2.2.2
  have e5 : st (st (st P (D + 1) (P who)) (D + 5) (pdv (P who) (P dsr))) (D + 1) (pmd (P who) (P dsr)) (D + 5) = pdv (P who) (P dsr) := by
    rw [st_ne _ _ (by omega), st_same]
  have c3 := copyFrom_c hN (m := m) w2 (a := res) (b := D + 5) h1 (by omega) n1 (by rw [e5]; exact s2)
  rw [e5] at c3
  refine ⟨_, ?_, w2.st s2, st_same _ _ _, fun x u1 u2 u3 => ?_⟩
  · unfold fX0_writeQuotient
    simp only [dv.l, dv.q, Option.bind_some, po_ck (a := D + 1) (by omega), c1, c2.1, po_ck h1, c3]
  · rw [st_ne _ _ u1, st_ne _ _ u2, st_ne _ _ u3, st_ne _ _ u2]
noncomputable def ho : Nat → Po → Po → Nat
  | 0, _, _ => 0
  | n + 1, w, d => if sz (pmd w d) = 0 then ho n (pdv w d) d + 1 else 0
theorem howOften_l {N D dsr who : Nat} {m : Hp} (hN : 1000 ≤ N) (dv : DV m D) (hd : pl dsr ≠ 0) (nd : dsr ≠ D + 1 ∧ dsr ≠ D + 5) : ∀ (k n t : Nat) (P : Nat → Po), t + k = 13 → k < n → FT P → sz (P dsr) ≠ 0 → ∃ (P' : Nat → Po), lX0_howOften_10 N D dsr who n (nI t) (conc P m) (fun _ h6 => some ((13 : Int32), h6)) = some (nI (t + ho k (P (D + 1)) (P dsr)), conc P' m) ∧ FT P' ∧ (∀ x, x ≠ D + 1 → x ≠ D + 5 → P' x = P x)
  | k, 0, t, P, _, hn, _, _ => absurd hn (Nat.not_lt_zero _)
  | 0, n + 1, t, P, ht, hn, w, hz => by
    refine ⟨P, ?_, w, fun _ _ _ => rfl⟩
    rw [lX0_howOften_10]
    show (if nI 13 ≤ nI t then _ else _) = _
    rw [if_pos ((le_n (by omega) (by omega)).mpr (by omega)), show t + ho 0 (P (D + 1)) (P dsr) = 13 by rw [ho]; omega]
    rfl
  | k + 1, n + 1, t, P, ht, hn, w, hz => by
    obtain ⟨-, -, d3, d4, d5⟩ := id dv
    have sl := w (D + 1) (by omega)
    have dd := divideBy_c hN (m := m) w (a := D + 1) (b := dsr) (q := D + 5) (by omega) hd (by omega) (by omega) (by omega) (by omega) (fun _ => by omega)
    have w1 := (w.st dd.2.1).st dd.2.2
    rw [lX0_howOften_10]
    show ∃ P', (if nI 13 ≤ nI t then _ else _) = _ ∧ _
    rw [if_neg (fun z => by have := (le_n (by omega) (by omega)).mp z; omega)]
    simp only [dv.l, dv.q, Option.bind_some, po_ck (a := D + 1) (by omega), dd.1, po_dg (a := D + 1) (by omega), st_same]
    by_cases q : sz (pmd (P (D + 1)) (P dsr)) = 0
    · have e5 : st (st P (D + 5) (pdv (P (D + 1)) (P dsr))) (D + 1) (pmd (P (D + 1)) (P dsr)) (D + 5) = pdv (P (D + 1)) (P dsr) := by
        rw [st_ne _ _ (by omega), st_same]
      have sq : sz (pdv (P (D + 1)) (P dsr)) ≤ pl (D + 1) := by have := dd.2.1; omega
      have c3 := copyFrom_c hN (m := m) w1 (a := D + 1) (b := D + 5) (by omega) (by omega) (by omega) (by rw [e5]; exact sq)
      rw [e5] at c3
      have w2 : FT (st (st (st P (D + 5) (pdv (P (D + 1)) (P dsr))) (D + 1) (pmd (P (D + 1)) (P dsr))) (D + 1) (pdv (P (D + 1)) (P dsr))) := w1.st sq
      have ed : st (st (st P (D + 5) (pdv (P (D + 1)) (P dsr))) (D + 1) (pmd (P (D + 1)) (P dsr))) (D + 1) (pdv (P (D + 1)) (P dsr)) dsr = P dsr := by
        rw [st_ne _ _ nd.1, st_ne _ _ nd.1, st_ne _ _ nd.2]
      obtain ⟨P', g1, g2, g3⟩ := howOften_l (who := who) hN dv hd nd k n (t + 1) _ (by omega) (by omega) w2 (by rw [ed]; exact hz)
      rw [ed, st_same] at g1
      refine ⟨P', ?_, g2, fun x u1 u2 => by rw [g3 x u1 u2, st_ne _ _ u1, st_ne _ _ u1, st_ne _ _ u2]⟩
      rw [if_pos ((dI_lt_0 (by omega)).mpr q), c3]
      show lX0_howOften_10 N D dsr who n (nI t + 1) _ _ = _
      rw [nI_1, g1, ho, if_pos q]
      congr 3
      omega
    · refine ⟨_, ?_, w1, fun x u1 u2 => by rw [st_ne _ _ u1, st_ne _ _ u2]⟩
      have := (pdm (P (D + 1)) hz).2
      have := w dsr hd
      have := pl_lt dsr
      rw [if_neg (fun z => q ((dI_lt_0 (by omega)).mp z)), ho, if_neg q]
      rfl
/-- howOften -/
theorem howOften_c {N : Nat} (hN : 1000 ≤ N) {P : Nat → Po} {m : Hp} (w : FT P) {D who dsr : Nat} (dv : DV m D) (h2 : pl who ≠ 0) (h3 : pl dsr ≠ 0) (n2 : who ≠ D + 1) (n3 : dsr ≠ D + 1 ∧ dsr ≠ D + 5) (s1 : sz (P who) ≤ 13) (s2 : sz (P dsr) ≠ 0) : ∃ P', fX0_howOften N D dsr who (conc P m) = some (nI (ho 13 (P who) (P dsr)), conc P' m) ∧ FT P' ∧ (∀ x, x ≠ D + 1 → x ≠ D + 5 → P' x = P x) := by
  obtain ⟨-, -, d3, d4, d5⟩ := id dv
  have c1 := copyFrom_c hN (m := m) w (a := D + 1) (b := who) (by omega) h2 (by omega) (by omega)
  have w1 : FT (st P (D + 1) (P who)) := w.st (by omega)
  obtain ⟨P', g1, g2, g3⟩ := howOften_l (N := N) (who := who) hN dv h3 n3 13 N 0 _ rfl (by omega) w1 (by rw [st_ne _ _ n3.1]; exact s2)
  rw [st_same, st_ne _ _ n3.1, Nat.zero_add] at g1
  refine ⟨P', ?_, g2, fun x u1 u2 => by rw [g3 x u1 u2, st_ne _ _ u1]⟩
  unfold fX0_howOften
  simp only [dv.l, Option.bind_some, po_ck (a := D + 1) (by omega), c1]
  exact g1
