/-! Minors: reckon -/
noncomputable def gcol (A : Nat → Nat → Po) (r : Nat) : Nat → Nat → (Nat → Po) → (Nat → Po)
  | 0, _, d => d
  | k + 1, s, d => gcol A r k (s + 1) (if bc s = bc r then st d (bc r) (pgcd (d (bc r)) (mi A r s)) else d)
noncomputable def grow (A : Nat → Nat → Po) : Nat → Nat → (Nat → Po) → (Nat → Po)
  | 0, _, d => d
  | k + 1, r, d => grow A k (r + 1) (gcol A r 15 1 d)
/-- the common divisors of the minors of 0, 1, .. rows -/
noncomputable def gd (A : Nat → Nat → Po) : Nat → Po := grow A 15 1 (fun k => if k = 0 then pC 1 else pC 0)
/-- while the minors are reckoned: what stands before the rows r and the columns s -/
def RI (A : Nat → Nat → Po) (M B : Nat) (P0 P : Nat → Po) (r s : Nat) (d : Nat → Po) : Prop := FT P ∧ (∀ i j, i < 4 → j < 4 → P (ce M i j) = A i j) ∧ (∀ r' s', r' < 16 → s' < 16 → bc r' = bc s' → (r' < r ∨ r' = r ∧ s' < s) → P (B + mo (16 * r' + s')) = mi A r' s') ∧ (∀ k, k < 5 → P (B + 145 + 2 * k) = d k) ∧ (∀ x, x < B ∨ B + 171 ≤ x → P x = P0 x)
theorem bc_0 : ∀ r, r < 16 → bc r = 0 → r = 0 := by decide +kernel
theorem reck60 {N B M len r : Nat} {m : Hp} (hN : 1000 ≤ N) (w : MN m B) (mx : MX m M len) (hMB : M + 42 ≤ B) (hr : r < 16) (hr0 : r ≠ 0) {A : Nat → Nat → Po} (hA4 : ∀ i j, sz (A i j) ≤ 4) {P0 : Nat → Po} : ∀ (k n s : Nat) (P d : Nat → Po), s + k = 16 → k < n → s ≠ 0 → RI A M B P0 P r s d → ∃ P', (∀ κ, lX3_reckon_60 N B M (nI r) (nI (bc r)) n (nI s) (conc P m) κ = κ (nI 16) (conc P' m)) ∧ RI A M B P0 P' r 16 (gcol A r k s d)
  | k, 0, s, P, d, _, hn, _, _ => absurd hn (Nat.not_lt_zero _)
  | 0, n + 1, s, P, d, hk, hn, hs0, ri => by
    have e : s = 16 := by omega
    subst e
    refine ⟨P, fun κ => ?_, ri⟩
    rw [lX3_reckon_60]
    show (if nI 15 < nI 16 then _ else _) = _
    rw [if_pos ((lt_n (by omega) (by omega)).mpr (by omega))]
  | k + 1, n + 1, s, P, d, hk, hn, hs0, ri => by
    have hs : s < 16 := by omega
    have bl := bc_lt r hr
    obtain ⟨wf, i2, i3, i4, i5⟩ := ri
    have br0 : bc r ≠ 0 := fun z => hr0 (bc_0 r hr z)
    by_cases q : bc s = bc r
    · have qq : sq (16 * r + s) = true := sq_of hs q.symm
      obtain ⟨y, hy, ey⟩ := mo_sq (i := 16 * r + s) (by omega) qq
      have pm : pl (B + mo (16 * r + s)) = 13 := w.pm (by omega) qq
      have ex := expand_c hN wf w mx hMB hr hs q.symm br0 i2 hA4 (fun r' s' h1 h2 h3 => i3 r' s' (by omega) (by omega) h3 (by omega))
      have pd := w.pd (k := bc r) (by omega)
      have e1 : st P (B + mo (16 * r + s)) (mi A r s) (B + 145 + 2 * bc r) = d (bc r) := by
        rw [st_ne _ _ (by omega)]; exact i4 _ (by omega)
      obtain ⟨P1, s1, s2, s3, s4⟩ := shrink_c hN (m := m) ex.2 (D := B + 164) (one := B + 145 + 2 * bc r) (other := B + mo (16 * r + s)) w.dv (by omega) (by omega) (by omega) (by omega) (by omega) (by have := ex.2 (B + 145 + 2 * bc r) (by omega); omega) (by have := ex.2 (B + mo (16 * r + s)) (by omega); omega) (by have := ex.2 (B + mo (16 * r + s)) (by omega); omega)
      rw [e1, st_same] at s3
      obtain ⟨P', g1, g2⟩ := reck60 hN w mx hMB hr hr0 hA4 (P0 := P0) k n (s + 1) P1 (st d (bc r) (pgcd (d (bc r)) (mi A r s))) (by omega) (by omega) (by omega) ⟨s2, fun i j hi hj => by
          have : ce M i j < B := by show M + 2 + 10 * i + 2 + 2 * j < B; omega
          rw [s4 _ (by omega) (by omega) (by omega) (by omega), st_ne _ _ (by omega)]
          exact i2 i j hi hj, fun r' s' h1 h2 h3 h4 => by
          have q3 : sq (16 * r' + s') = true := sq_of h2 h3
          obtain ⟨y', hy', ey'⟩ := mo_sq (i := 16 * r' + s') (by omega) q3
          rw [s4 _ (by omega) (by omega) (by omega) (by omega)]
          by_cases z : r' = r ∧ s' = s
          · rw [z.1, z.2, st_same]
          · have := mo_ne (i := 16 * r' + s') (j := 16 * r + s) (by omega) q3 qq
            rw [st_ne _ _ (by omega)]
            exact i3 r' s' h1 h2 h3 (by omega), fun k hk => by
          by_cases z : k = bc r
          · rw [z, s3, st_same]
          · rw [s4 _ (by omega) (by omega) (by omega) (by omega), st_ne _ _ (by omega), st_ne _ _ z]
            exact i4 k hk, fun x hx => by
          rw [s4 x (by omega) (by omega) (by omega) (by omega), st_ne _ _ (by omega)]
          exact i5 x hx⟩
      refine ⟨P', fun κ => ?_, ?_⟩
      · rw [lX3_reckon_60]
        show (if nI 15 < nI s then _ else _) = _
        rw [if_neg (fun z => by have := (lt_n (by omega) (by omega)).mp z; omega), ix5 s hs]
        unfold jn
        show (if nI (bc s) = nI (bc r) then _ else _) = _
        rw [if_pos (by rw [q])]
        simp only [w.ck, Option.bind_some, ex.1, w.g3, w.g1, w.a1 _ bl, of_c w hr hs, cm_cK w.dv.2.1 w.dv.1, s1]
        unfold nm
        rw [nI_1]
        exact g1 κ
      · rw [gcol, if_pos q]; exact g2
    · obtain ⟨P', g1, g2⟩ := reck60 hN w mx hMB hr hr0 hA4 (P0 := P0) k n (s + 1) P d (by omega) (by omega) (by omega) ⟨wf, i2, fun r' s' h1 h2 h3 h4 => i3 r' s' h1 h2 h3 (by
        by_cases z : r' = r ∧ s' = s
        · rw [z.1, z.2] at h3
          exact absurd h3.symm q
        · omega), i4, i5⟩
      refine ⟨P', fun κ => ?_, ?_⟩
      · rw [lX3_reckon_60]
        show (if nI 15 < nI s then _ else _) = _
        have bs := bc_lt s hs
        rw [if_neg (fun z => by have := (lt_n (by omega) (by omega)).mp z; omega), ix5 s hs]
        unfold jn
        show (if nI (bc s) = nI (bc r) then _ else _) = _
        rw [if_neg (fun z => q ((eq_n (by omega) (by omega)).mp z))]
        unfold nm
        rw [nI_1]
        exact g1 κ
      · rw [gcol, if_neg q]; exact g2
theorem reck46 {N B M len : Nat} {m : Hp} (hN : 1000 ≤ N) (w : MN m B) (mx : MX m M len) (hMB : M + 42 ≤ B) {A : Nat → Nat → Po} (hA4 : ∀ i j, sz (A i j) ≤ 4) {P0 : Nat → Po} : ∀ (k n r : Nat) (P d : Nat → Po), r + k = 16 → k < n → r ≠ 0 → RI A M B P0 P r 0 d → ∃ P', (∀ κ, lX3_reckon_46 N B M n (nI r) (conc P m) κ = κ (nI 16) (conc P' m)) ∧ RI A M B P0 P' 16 0 (grow A k r d)
  | k, 0, r, P, d, _, hn, _, _ => absurd hn (Nat.not_lt_zero _)
  | 0, n + 1, r, P, d, hk, hn, hr0, ri => by
    have e : r = 16 := by omega
    subst e
    refine ⟨P, fun κ => ?_, ri⟩
    rw [lX3_reckon_46]
    show (if nI 15 < nI 16 then _ else _) = _
    rw [if_pos ((lt_n (by omega) (by omega)).mpr (by omega))]
  | k + 1, n + 1, r, P, d, hk, hn, hr0, ri => by
    have hr : r < 16 := by omega
    obtain ⟨wf, i2, i3, i4, i5⟩ := ri
    obtain ⟨P1, f1, f2⟩ := reck60 hN w mx hMB hr hr0 hA4 (P0 := P0) 15 N 1 P d rfl (by omega) (by omega) ⟨wf, i2, fun r' s' h1 h2 h3 h4 => i3 r' s' h1 h2 h3 (by
      by_cases z : r' = r ∧ s' = 0
      · rw [z.1, z.2] at h3
        exact absurd (bc_0 r hr h3) hr0
      · omega), i4, i5⟩
    obtain ⟨v1, v2, v3, v4, v5⟩ := f2
    obtain ⟨P', g1, g2⟩ := reck46 hN w mx hMB hA4 (P0 := P0) k n (r + 1) P1 (gcol A r 15 1 d) (by omega) (by omega) (by omega) ⟨v1, v2, fun r' s' h1 h2 h3 h4 => v3 r' s' h1 h2 h3 (by omega), v4, v5⟩
    refine ⟨P', fun κ => ?_, g2⟩
    rw [lX3_reckon_46]
    show (if nI 15 < nI r then _ else _) = _
    rw [if_neg (fun z => by have := (lt_n (by omega) (by omega)).mp z; omega), ix5 r hr]
    show lX3_reckon_60 N B M (nI r) (nI (bc r)) N (nI 1) (conc P m) _ = _
    rw [f1]
    unfold nm
    rw [nI_1]
    exact g1 κ
theorem reck13 {N B M : Nat} {m : Hp} (hN : 1000 ≤ N) (w : MN m B) : ∀ (k n j : Nat) (P : Nat → Po), j + k = 5 → k < n → FT P → ∃ P', (∀ κ, lX3_reckon_13 N B M n (nI j) (conc P m) κ = κ (nI 5) (conc P' m)) ∧ FT P' ∧ (∀ i, j ≤ i → i < 5 → P' (B + 145 + 2 * i) = pC 0) ∧ (∀ x, (∀ i, j ≤ i → i < 5 → x ≠ B + 145 + 2 * i) → P' x = P x)
  | k, 0, j, P, _, hn, _ => absurd hn (Nat.not_lt_zero _)
  | 0, n + 1, j, P, hk, hn, wf => by
    have e : j = 5 := by omega
    subst e
    refine ⟨P, fun κ => ?_, wf, fun i h1 h2 => by omega, fun _ _ => rfl⟩
    rw [lX3_reckon_13]
    show (if nI 4 < nI 5 then _ else _) = _
    rw [if_pos ((lt_n (by omega) (by omega)).mpr (by omega))]
  | k + 1, n + 1, j, P, hk, hn, wf => by
    have hp := w.pd (k := j) (by omega)
    have c := clear_c hN (m := m) wf (a := B + 145 + 2 * j) (by omega)
    obtain ⟨P', g1, g2, g3, g4⟩ := reck13 (M := M) hN w k n (j + 1) _ (by omega) (by omega) (wf.st (a := B + 145 + 2 * j) (p := pC 0) (by rw [sz_z]; omega))
    refine ⟨P', fun κ => ?_, g2, fun i h1 h2 => ?_, fun x hx => ?_⟩
    · rw [lX3_reckon_13]
      show (if nI 4 < nI j then _ else _) = _
      rw [if_neg (fun z => by have := (lt_n (by omega) (by omega)).mp z; omega)]
      simp only [w.g1, Option.bind_some, w.a1 _ (show j < 5 by omega), po_ck (show pl (B + 145 + 2 * j) ≠ 0 by omega), c]
      unfold nm
      rw [nI_1]
      exact g1 κ
    · by_cases q : i = j
      · rw [q, g4 _ (fun i h1 h2 => by omega), st_same]
      · exact g3 i (by omega) h2
    · rw [g4 x (fun i h1 h2 => hx i (by omega) h2), st_ne _ _ (hx j (Nat.le_refl _) (by omega))]
-- the order is written
def mset (m : Hp) (B : Nat) (o : Int32) : Hp := hset m B (mnO B o)
theorem conc_hset {P : Nat → Po} {m : Hp} {a : Nat} {e : hE} (h : np a) : hset (conc P m) a e = conc P (hset m a e) := by
  funext x
  by_cases q : x = a
  · rw [q, hset_self, cm_at h, hset_self]
  · rw [hset_ne _ _ q]
    unfold conc
    rw [hset_ne _ _ q]
theorem cm_pV {P : Nat → Po} {m : Hp} {a ci k : Nat} {fs : List Value} {v : Value} (h : np a) (e : m a = some (.inr (ci, fs))) (q : k < fs.length) : pV (conc P m) a ci k v = some (conc P (hset m a (.inr (ci, fs.set k v)))) := by
  rw [pV_of (by rw [cm_at h]; exact e) q, conc_hset h]
theorem MN.po {m : Hp} {B : Nat} (w : MN m B) (P : Nat → Po) (o : Int32) : pV (conc P m) B 5 4 (.int o) = some (conc P (mset m B o)) := by
  obtain ⟨o', h⟩ := w.1
  exact cm_pV w.2.2.2.2.2.1.1 h (by simp)
theorem mset_ne {m : Hp} {B x : Nat} {o : Int32} (h : x ≠ B) : mset m B o x = m x := hset_ne _ _ h
theorem mset_mset {m : Hp} {B : Nat} {o o' : Int32} : mset (mset m B o) B o' = mset m B o' := by
  funext x
  unfold mset hset
  split <;> rfl
theorem MN.ms {m : Hp} {B : Nat} (w : MN m B) (o : Int32) : MN (mset m B o) B := by
  obtain ⟨h1, h2, h3, h4, h5, h6⟩ := w
  refine ⟨⟨o, hset_self _ _ _⟩, ?_, ?_, ?_, ⟨?_, h5.2⟩, h6⟩
  · rw [mset_ne (by omega)]; exact h2
  · rw [mset_ne (by omega)]; exact h3
  · rw [mset_ne (by omega)]; exact h4
  · rw [mset_ne (by omega)]; exact h5.1
theorem pdv_sz (a d : Po) : sz (pdv a d) ≤ sz a := by
  by_cases h : sz d = 0
  · rw [sz_0 h, (pdm_0 a).1, sz_z]; omega
  · by_cases h2 : sz a < sz d
    · rw [(pdm_lo h2).1, sz_z]; omega
    · have z := pdm a h
      have := div_sz z.1 z.2 (by omega)
      omega
/-- the invariants: each common divisor divided by the one before -/
noncomputable def ivf (d : Nat → Po) (k : Nat) : Po := if sz (d (k + 1)) = 0 then pC 0 else pdv (d (k + 1)) (d k)
noncomputable def orf (d : Nat → Po) : Nat → Nat → Nat → Nat
  | 0, _, o => o
  | k + 1, j, o => orf d k (j + 1) (if sz (d (j + 1)) = 0 then o else j + 1)
theorem finv_l {N B : Nat} (hN : 1000 ≤ N) {d : Nat → Po} : ∀ (k n j o : Nat) (m : Hp) (P : Nat → Po), MN m B → j + k = 4 → k < n → FT P → (∀ i, i < 5 → P (B + 145 + 2 * i) = d i) → m B = some (mnO B (nI o)) → ∃ P', lX3_findInvariants_7 N B n (nI j) (conc P m) (fun _ h3 => some h3) = some (conc P' (mset m B (nI (orf d k j o)))) ∧ FT P' ∧ (∀ i, j ≤ i → i < 4 → P' (B + 156 + 2 * i) = ivf d i) ∧ (∀ x, (∀ i, j ≤ i → i < 4 → x ≠ B + 156 + 2 * i) → x ≠ B + 165 → x ≠ B + 169 → P' x = P x)
  | k, 0, j, o, m, P, _, _, hn, _, _, _ => absurd hn (Nat.not_lt_zero _)
  | 0, n + 1, j, o, m, P, w, hk, hn, wf, hd, ho => by
    refine ⟨P, ?_, wf, fun i h1 h2 => by omega, fun _ _ _ _ => rfl⟩
    rw [lX3_findInvariants_7]
    show (if nI 4 ≤ nI j then _ else _) = _
    rw [if_pos ((le_n (by omega) (by omega)).mpr (by omega)), orf]
    have : mset m B (nI o) = m := by
      funext x
      by_cases q : x = B
      · rw [q, ho]; exact hset_self _ _ _
      · exact mset_ne q
    rw [this]
  | k + 1, n + 1, j, o, m, P, w, hk, hn, wf, hd, ho => by
    have pi := w.pi (k := j) (by omega)
    have pd1 := w.pd (k := j) (by omega)
    have pd2 := w.pd (k := j + 1) (by omega)
    have c := clear_c hN (m := m) wf (a := B + 156 + 2 * j) (by omega)
    have w1 : FT (st P (B + 156 + 2 * j) (pC 0)) := wf.st (by rw [sz_z]; omega)
    have e1 : ∀ i, i < 5 → st P (B + 156 + 2 * j) (pC 0) (B + 145 + 2 * i) = d i := fun i hi => by rw [st_ne _ _ (by omega)]; exact hd i hi
    rw [lX3_findInvariants_7]
    show ∃ P', (if nI 4 ≤ nI j then _ else _) = _ ∧ _
    rw [if_neg (fun z => by have := (le_n (by omega) (by omega)).mp z; omega)]
    simp only [w.g2, Option.bind_some, w.a2 _ (show j < 4 by omega), po_ck (show pl (B + 156 + 2 * j) ≠ 0 by omega), c, w.g1, nI_1, w.a1 _ (show j + 1 < 5 by omega), po_dg (show pl (B + 145 + 2 * (j + 1)) ≠ 0 by omega), e1 (j + 1) (by omega)]
    unfold jn
    dsimp only
    have sd := w1 (B + 145 + 2 * (j + 1)) (by omega)
    rw [e1 _ (by omega)] at sd
    by_cases q : sz (d (j + 1)) = 0
    · obtain ⟨P', g1, g2, g3, g4⟩ := finv_l hN (d := d) k n (j + 1) o m _ w (by omega) (by omega) w1 e1 ho
      refine ⟨P', ?_, g2, fun i h1 h2 => ?_, fun x h1 h2 h3 => ?_⟩
      · rw [if_pos ((dI_lt_0 (by omega)).mpr q), orf, if_pos q]
        exact g1
      · by_cases z : i = j
        · rw [z, g4 _ (fun i h1 h2 => by omega) (by omega) (by omega), st_same, ivf, if_pos q]
        · exact g3 i (by omega) h2
      · rw [g4 x (fun i h4 h5 => h1 i (by omega) h5) h2 h3, st_ne _ _ (h1 j (Nat.le_refl _) (by omega))]
    · have sv := pdv_sz (d (j + 1)) (d j)
      obtain ⟨P1, q1, q2, q3, q4⟩ := writeQ_c hN (m := m) w1 (D := B + 164) (res := B + 156 + 2 * j) (who := B + 145 + 2 * (j + 1)) (dsr := B + 145 + 2 * j) w.dv (by omega) (by omega) (by omega) (by omega) (by omega) (by omega) (by rw [e1 _ (by omega)]; omega) (by rw [e1 _ (by omega), e1 _ (by omega)]; omega)
      rw [e1 _ (by omega), e1 _ (by omega)] at q3
      obtain ⟨P', g1, g2, g3, g4⟩ := finv_l hN (d := d) k n (j + 1) (j + 1) (mset m B (nI (j + 1))) P1 (w.ms _) (by omega) (by omega) q2 (fun i hi => by rw [q4 _ (by omega) (by omega) (by omega)]; exact e1 i hi) (hset_self _ _ _)
      refine ⟨P', ?_, g2, fun i h1 h2 => ?_, fun x h1 h2 h3 => ?_⟩
      · rw [if_neg (fun z => q ((dI_lt_0 (by omega)).mp z)), orf, if_neg q]
        simp only [w.g3, Option.bind_some, w.g2, w.a2 _ (show j < 4 by omega), w.g1, w.a1 _ (show j + 1 < 5 by omega), w.a1 _ (show j < 5 by omega), cm_cK w.dv.2.1 w.dv.1, q1, w.po]
        rw [mset_mset] at g1
        exact g1
      · by_cases z : i = j
        · rw [z, g4 _ (fun i h1 h2 => by omega) (by omega) (by omega), q3, ivf, if_neg q]
        · exact g3 i (by omega) h2
      · rw [g4 x (fun i h4 h5 => h1 i (by omega) h5) h2 h3, q4 x (h1 j (Nat.le_refl _) (by omega)) (by omega) (by omega), st_ne _ _ (h1 j (Nat.le_refl _) (by omega))]
/-- what a Minors holds after reckon -/
def MR (A : Nat → Nat → Po) (B : Nat) (P : Nat → Po) : Prop := (∀ r s, r < 16 → s < 16 → bc r = bc s → P (B + mo (16 * r + s)) = mi A r s) ∧ (∀ k, k < 4 → P (B + 156 + 2 * k) = ivf (gd A) k)
noncomputable def ord (A : Nat → Nat → Po) : Nat := orf (gd A) 4 0 0
theorem pSet_1 {p : Po} (h : sz p ≤ 1) : pSet p 0 1 = pC 1 := po_ext (fun j => by
  rw [co_set, co_C]
  by_cases q : j = 0
  · rw [if_pos q, if_pos q]
  · rw [if_neg q, if_neg q, sz_hi (by omega)])
/-- reckon -/
theorem reckon_c {N B M len : Nat} {m : Hp} {P : Nat → Po} (hN : 1000 ≤ N) (wf : FT P) (w : MN m B) (mx : MX m M len) (hMB : M + 42 ≤ B) {A : Nat → Nat → Po} (hA : ∀ i j, i < 4 → j < 4 → P (ce M i j) = A i j) (hA4 : ∀ i j, sz (A i j) ≤ 4) (h1 : sz (P (B + 4)) ≤ 1) : ∃ P', fX3_reckon N B M (conc P m) = some (conc P' (mset m B (nI (ord A)))) ∧ FT P' ∧ MR A B P' ∧ (∀ x, x < B ∨ B + 171 ≤ x → P' x = P x) := by
  have m0 : mo (16 * 0 + 0) = 4 := by decide
  have p4 : pl (B + 4) = 13 := by have := w.pm (i := 16 * 0 + 0) (by omega) (by decide); rw [m0] at this; exact this
  have c1 := setNumber_c hN (m := m) wf (a := B + 4) (by omega) (j := 0) (by omega) 1
  rw [pSet_1 h1] at c1
  have w1 : FT (st P (B + 4) (pC 1)) := wf.st c1.2
  obtain ⟨P2, r1, r2, r3, r4⟩ := reck13 (N := N) (M := M) hN w 5 N 0 _ rfl (by omega) w1
  have pd := w.pd (k := 0) (by omega)
  have c2 := setNumber_c hN (m := m) r2 (a := B + 145 + 2 * 0) (by omega) (j := 0) (by omega) 1
  rw [r3 0 (by omega) (by omega), pSet_1 (by rw [sz_z]; omega)] at c2
  have w3 : FT (st P2 (B + 145 + 2 * 0) (pC 1)) := r2.st c2.2
  obtain ⟨P4, k1, k2⟩ := reck46 (N := N) hN w mx hMB hA4 (P0 := P) 15 N 1 _ (fun k => if k = 0 then pC 1 else pC 0) rfl (by omega) (by omega) ⟨w3, fun i j hi hj => by
    have : ce M i j < B := by show M + 2 + 10 * i + 2 + 2 * j < B; omega
    rw [st_ne _ _ (by omega), r4 _ (fun i h1 h2 => by omega), st_ne _ _ (by omega)]
    exact hA i j hi hj, fun r' s' h1 h2 h3 h4 => by
    have e : r' = 0 := by omega
    subst e
    have e2 : s' = 0 := bc_0 s' h2 h3.symm
    subst e2
    rw [m0, st_ne _ _ (by omega), r4 _ (fun i h1 h2 => by omega), st_same]
    rfl, fun k hk => by
    by_cases q : k = 0
    · subst q; exact st_same _ _ _
    · show _ = if k = 0 then pC 1 else pC 0
      rw [if_neg q, st_ne _ _ (by omega)]; exact r3 k (by omega) hk, fun x hx => by
    rw [st_ne _ _ (by omega), r4 x (fun i h1 h2 => by omega), st_ne _ _ (by omega)]⟩
  obtain ⟨v1, v2, v3, v4, v5⟩ := k2
  obtain ⟨P5, f1, f2, f3, f4⟩ := finv_l (N := N) hN (d := gd A) 4 N 0 0 (mset m B (nI 0)) P4 (w.ms _) rfl (by omega) v1 v4 (hset_self _ _ _)
  rw [mset_mset] at f1
  refine ⟨P5, ?_, f2, ⟨fun r s hr hs hb => ?_, fun k hk => f3 k (by omega) hk⟩, fun x hx => ?_⟩
  · unfold fX3_reckon
    have o0 := of_c (N := N) (P := P) w (r := 0) (s := 0) (by omega) (by omega)
    rw [m0] at o0
    simp only [w.ck, Option.bind_some]
    show (fX3_of N B (nI 0) (nI 0) (conc P m)).bind _ = _
    rw [o0]
    show (cK (conc P m) (B + 4) 6).bind _ = _
    rw [po_ck (by omega)]
    show (fX4_setNumber N (B + 4) (nI 0) (nI (1 : Fp).val) (conc P m)).bind _ = _
    rw [c1.1]
    show lX3_reckon_13 N B M N (nI 0) _ _ = _
    rw [r1]
    simp only [w.g1, Option.bind_some]
    show (aR (conc P2 m) (B + 144) 4 (nI 0)).bind _ = _
    rw [w.a1 _ (by omega)]
    show (cK (conc P2 m) (B + 145 + 2 * 0) 6).bind _ = _
    rw [po_ck (by omega)]
    show (fX4_setNumber N (B + 145 + 2 * 0) (nI 0) (nI (1 : Fp).val) (conc P2 m)).bind _ = _
    rw [c2.1]
    show lX3_reckon_46 N B M N (nI 1) _ _ = _
    rw [k1]
    simp only [w.ck, Option.bind_some]
    unfold fX3_findInvariants
    rw [w.po]
    show (lX3_findInvariants_7 N B N (nI 0) (conc P4 (mset m B (nI 0))) _).bind _ = _
    rw [f1]
    rfl
  · obtain ⟨y, hy, ey⟩ := mo_sq (i := 16 * r + s) (by omega) (sq_of hs hb)
    rw [f4 _ (fun i h1 h2 => by omega) (by omega) (by omega)]
    exact v3 r s hr hs hb (by omega)
  · rw [f4 x (fun i h1 h2 => by omega) (by omega) (by omega)]
    exact v5 x hx
