/-! Minors -/
def mnO (B : Nat) (o : Int32) : hE := .inr (5, [.ref (B + 1), .ref (B + 144), .ref (B + 155), .ref (B + 164), .int o])
def MN (m : Hp) (B : Nat) : Prop := (∃ o, m B = some (mnO B o)) ∧ (∃ f, m (B + 1) = some (.inl (4, 256, .inr (.inr (.inr (.inr f))))) ∧ ∀ j, j < 256 → f j = some (B + mo j)) ∧ (∃ f, m (B + 144) = some (.inl (4, 5, .inr (.inr (.inr (.inr f))))) ∧ ∀ j, j < 5 → f j = some (B + 145 + 2 * j)) ∧ (∃ f, m (B + 155) = some (.inl (4, 4, .inr (.inr (.inr (.inr f))))) ∧ ∀ j, j < 4 → f j = some (B + 156 + 2 * j)) ∧ DV m (B + 164) ∧ (np B ∧ np (B + 1) ∧ np (B + 144) ∧ np (B + 155)) ∧ (∀ k, k < 70 → pl (B + 4 + 2 * k) = 13) ∧ (∀ k, k < 5 → pl (B + 145 + 2 * k) = 13) ∧ (∀ k, k < 4 → pl (B + 156 + 2 * k) = 13)
theorem MN.ck {m : Hp} {B : Nat} (w : MN m B) (P : Nat → Po) : cK (conc P m) B 5 = some () := by
  obtain ⟨o, h⟩ := w.1
  exact cm_cK w.2.2.2.2.2.1.1 h
theorem MN.g0 {m : Hp} {B : Nat} (w : MN m B) (P : Nat → Po) : gR (conc P m) B 5 0 = some (B + 1) := by
  obtain ⟨o, h⟩ := w.1
  exact cm_gR w.2.2.2.2.2.1.1 h rfl
theorem MN.g1 {m : Hp} {B : Nat} (w : MN m B) (P : Nat → Po) : gR (conc P m) B 5 1 = some (B + 144) := by
  obtain ⟨o, h⟩ := w.1
  exact cm_gR w.2.2.2.2.2.1.1 h rfl
theorem MN.g2 {m : Hp} {B : Nat} (w : MN m B) (P : Nat → Po) : gR (conc P m) B 5 2 = some (B + 155) := by
  obtain ⟨o, h⟩ := w.1
  exact cm_gR w.2.2.2.2.2.1.1 h rfl
theorem MN.g3 {m : Hp} {B : Nat} (w : MN m B) (P : Nat → Po) : gR (conc P m) B 5 3 = some (B + 164) := by
  obtain ⟨o, h⟩ := w.1
  exact cm_gR w.2.2.2.2.2.1.1 h rfl
theorem MN.a0 {m : Hp} {B : Nat} (w : MN m B) (P : Nat → Po) {j : Nat} (hj : j < 256) : aR (conc P m) (B + 1) 4 (nI j) = some (B + mo j) := by
  obtain ⟨f, h1, h2⟩ := w.2.1
  exact cm_aR w.2.2.2.2.2.1.2.1 h1 hj (by decide) (h2 j hj)
theorem MN.a1 {m : Hp} {B : Nat} (w : MN m B) (P : Nat → Po) {j : Nat} (hj : j < 5) : aR (conc P m) (B + 144) 4 (nI j) = some (B + 145 + 2 * j) := by
  obtain ⟨f, h1, h2⟩ := w.2.2.1
  exact cm_aR w.2.2.2.2.2.1.2.2.1 h1 hj (by decide) (h2 j hj)
theorem MN.a2 {m : Hp} {B : Nat} (w : MN m B) (P : Nat → Po) {j : Nat} (hj : j < 4) : aR (conc P m) (B + 155) 4 (nI j) = some (B + 156 + 2 * j) := by
  obtain ⟨f, h1, h2⟩ := w.2.2.2.1
  exact cm_aR w.2.2.2.2.2.1.2.2.2 h1 hj (by decide) (h2 j hj)
theorem MN.dv {m : Hp} {B : Nat} (w : MN m B) : DV m (B + 164) := w.2.2.2.2.1
theorem MN.pm {m : Hp} {B : Nat} (w : MN m B) {i : Nat} (hi : i < 256) (q : sq i = true) : pl (B + mo i) = 13 := by
  obtain ⟨k, hk, e⟩ := mo_sq hi q
  rw [e, ← Nat.add_assoc]
  exact w.2.2.2.2.2.2.1 k hk
theorem MN.pd {m : Hp} {B : Nat} (w : MN m B) {k : Nat} (hk : k < 5) : pl (B + 145 + 2 * k) = 13 := w.2.2.2.2.2.2.2.1 k hk
theorem MN.pi {m : Hp} {B : Nat} (w : MN m B) {k : Nat} (hk : k < 4) : pl (B + 156 + 2 * k) = 13 := w.2.2.2.2.2.2.2.2 k hk
theorem ix0 : ∀ r, r < 16 → ∀ s, s < 16 → ((nI r &&& (15 : Int32)) <<< ((4 : Int32) &&& 31)) ||| (nI s &&& (15 : Int32)) = nI (16 * r + s) := by decide +kernel
theorem ix1 : ∀ s, s < 16 → ∀ c, c < 4 → (nI s >>> (nI c &&& 31)) &&& (1 : Int32) = nI (s / 2 ^ c % 2) := by decide +kernel
theorem ix2 : ∀ s, s < 16 → ∀ c, c < 4 → s / 2 ^ c % 2 = 1 → nI s &&& (((1 : Int32) <<< (nI c &&& 31)) ^^^ (-1 : Int32)) = nI (s - 2 ^ c) ∧ bc (s - 2 ^ c) + 1 = bc s ∧ s - 2 ^ c < s := by decide +kernel
theorem ix3 : ∀ r, r < 16 → bc r ≠ 0 → low r < 4 ∧ r / 2 ^ low r % 2 = 1 := by decide +kernel
theorem ix4 : ∀ n, n < 5 → ((1 : Int32) <<< (nI n &&& 31)) - (1 : Int32) = nI (2 ^ n - 1) ∧ 2 ^ n - 1 < 16 ∧ bc (2 ^ n - 1) = n := by decide +kernel
theorem ix5 : ∀ s, s < 16 → (∀ (N : Nat) (h : Hp), fJ6_bitCount_0f7a4 N (nI s) h = some (nI (bc s), h)) := by
  have e : ∀ s, s < 16 → ((fun (x1 : Int32) => (fun (x2 : Int32) => (fun (x3 : Int32) => (fun (x4 : Int32) => (x4 + (iushr x4 (16 : Int32))) &&& (63 : Int32)) (x3 + (iushr x3 (8 : Int32)))) ((x2 + (iushr x2 (4 : Int32))) &&& (252645135 : Int32))) ((x1 &&& (858993459 : Int32)) + ((iushr x1 (2 : Int32)) &&& (858993459 : Int32)))) (nI s - ((iushr (nI s) (1 : Int32)) &&& (1431655765 : Int32)))) = nI (bc s) := by decide +kernel
  intro s hs N h
  have q := e s hs
  unfold fJ6_bitCount_0f7a4 nm
  dsimp only at q ⊢
  rw [q]
theorem bc_lt : ∀ s, s < 16 → bc s < 5 := by decide +kernel
theorem of_c {N : Nat} {P : Nat → Po} {m : Hp} {B r s : Nat} (w : MN m B) (hr : r < 16) (hs : s < 16) : fX3_of N B (nI r) (nI s) (conc P m) = some (B + mo (16 * r + s), conc P m) := by
  unfold fX3_of
  simp only [w.g0, Option.bind_some, ix0 r hr s hs, w.a0 _ (show 16 * r + s < 256 by omega)]
theorem leading_c {N : Nat} {P : Nat → Po} {m : Hp} {B n : Nat} (w : MN m B) (hn : n < 5) : fX3_leading N B (nI n) (conc P m) = some (B + mo (17 * (2 ^ n - 1)), conc P m) := by
  have e := ix4 n hn
  unfold fX3_leading nm
  simp only [e.1, w.ck, Option.bind_some, of_c w e.2.1 e.2.1]
  rw [show 16 * (2 ^ n - 1) + (2 ^ n - 1) = 17 * (2 ^ n - 1) by omega]
theorem low_l {N r : Nat} {h : Hp} (hr : r < 16) : ∀ (k n c : Nat) (κ : Int32 → Hp → Option (Int32 × Hp)), c + k = 3 → k < n → lX3_lowestIn_2 N (nI r) n (nI c) h κ = κ (nI (lowf r k c)) h
  | k, 0, c, κ, _, hn => absurd hn (Nat.not_lt_zero _)
  | 0, n + 1, c, κ, hk, hn => by
    rw [lX3_lowestIn_2]
    show (if nI 3 ≤ nI c then _ else _) = _
    rw [if_pos ((le_n (by omega) (by omega)).mpr (by omega))]
    rfl
  | k + 1, n + 1, c, κ, hk, hn => by
    rw [lX3_lowestIn_2]
    show (if nI 3 ≤ nI c then _ else _) = _
    rw [if_neg (fun z => by have := (le_n (by omega) (by omega)).mp z; omega), ix1 r hr c (by omega), lowf]
    show (if nI (r / 2 ^ c % 2) = nI 0 then _ else _) = _
    by_cases q : r / 2 ^ c % 2 = 0
    · rw [if_pos (by rw [q]), if_pos q]
      show lX3_lowestIn_2 N (nI r) n (nI c + 1) h κ = _
      rw [nI_1]
      exact low_l hr k n (c + 1) κ (by omega) (by omega)
    · rw [if_neg (fun z => q ((eq_n (by omega) (by omega)).mp z)), if_neg q]
theorem low_c {N : Nat} (hN : 1000 ≤ N) {h : Hp} {r : Nat} (hr : r < 16) : fX3_lowestIn N (nI r) h = some (nI (low r), h) := low_l hr 3 N 0 _ rfl (by omega)
theorem f_neg_val {x : Fp} (h : x ≠ 0) : (32003 : Int32) - nI x.val = nI (- x).val := by
  have hx := x.isLt
  have h0 : x.val ≠ 0 := fun z => h (Fin.ext z)
  rw [show (32003 : Int32) - nI x.val = nI (32003 - x.val) from pk_sub (a := 32003) (by omega), Fin.val_neg, if_neg h]
theorem expand_l {N B M len r s a i : Nat} {m : Hp} (hN : 1000 ≤ N) (w : MN m B) (mx : MX m M len) (hMB : M + 42 ≤ B) (hr : r < 16) (hs : s < 16) (hi : i < 4) (hri : r / 2 ^ i % 2 = 1) (hb : bc r = bc s) (ea : a = B + mo (16 * r + s)) {A R : Nat → Po} (hsz : ∀ c, c < 4 → sz (A c) + sz (R c) - 1 ≤ 13 ∧ sz (A c) ≤ 13) : ∀ (k n c : Nat) (sg : Fp) (P : Nat → Po), c + k = 4 → k < n → sg ≠ 0 → FT P → (∀ c, c < 4 → P (ce M i c) = A c) → (∀ c, c < 4 → s / 2 ^ c % 2 = 1 → P (B + mo (16 * (r - 2 ^ i) + (s - 2 ^ c))) = R c) → lX3_expand_25 N B M (nI r) (nI s) a (nI i) n (nI sg.val) (nI c) (conc P m) (fun _ _ h => some h) = some (conc (st P a (exq (fun c => pMul (A c) (R c)) s k c sg (P a))) m) ∧ FT (st P a (exq (fun c => pMul (A c) (R c)) s k c sg (P a)))
  | k, 0, c, sg, P, _, hn, _, _, _, _ => absurd hn (Nat.not_lt_zero _)
  | 0, n + 1, c, sg, P, hk, hn, h0, wf, hA, hR => by
    rw [lX3_expand_25]
    show (if nI 4 ≤ nI c then _ else _) = _ ∧ _
    rw [if_pos ((le_n (by omega) (by omega)).mpr (by omega)), exq, st_id]
    exact ⟨rfl, wf⟩
  | k + 1, n + 1, c, sg, P, hk, hn, h0, wf, hA, hR => by
    have pa : pl a = 13 := by rw [ea]; exact w.pm (by omega) (sq_of hs hb)
    rw [lX3_expand_25]
    show (if nI 4 ≤ nI c then _ else _) = _ ∧ _
    rw [if_neg (fun z => by have := (le_n (by omega) (by omega)).mp z; omega)]
    unfold jn
    rw [ix1 s hs c (by omega)]
    show (if nI (s / 2 ^ c % 2) = nI 1 then _ else _) = _ ∧ _
    rw [exq]
    by_cases q : s / 2 ^ c % 2 = 1
    · rw [if_pos (by rw [q]), if_pos q]
      have x1 := ix2 r hr i hi hri
      have x2 := ix2 s hs c (by omega) q
      have q1 : sq (16 * r + s) = true := sq_of hs hb
      have q2 : sq (16 * (r - 2 ^ i) + (s - 2 ^ c)) = true := sq_of (by omega) (by omega)
      have pr2 : pl (B + mo (16 * (r - 2 ^ i) + (s - 2 ^ c))) = 13 := w.pm (by omega) q2
      have ne1 : a ≠ B + mo (16 * (r - 2 ^ i) + (s - 2 ^ c)) := by
        have := mo_ne (i := 16 * (r - 2 ^ i) + (s - 2 ^ c)) (j := 16 * r + s) (by omega) q2 q1
        rw [ea]; omega
      have ne2 : ∀ d, d < 4 → a ≠ ce M i d := fun d hd => by
        show a ≠ M + 2 + 10 * i + 2 + 2 * d
        omega
      have z := hsz c (by omega)
      have e1 := hA c (by omega)
      have e2 := hR c (by omega) q
      have ad := addProduct_c hN (m := m) wf (a := a) (b := ce M i c) (d := B + mo (16 * (r - 2 ^ i) + (s - 2 ^ c))) (by omega) ((mx.r hi).n (by omega)) (by omega) (ne2 c (by omega)) ne1 sg (by rw [e1, e2]; omega) (by rw [e1]; omega)
      rw [e1, e2] at ad
      have ih := expand_l hN w mx hMB hr hs hi hri hb ea hsz k n (c + 1) (- sg) _ (by omega) (by omega) (by grind) (wf.st ad.2) (fun d hd => by rw [st_ne _ _ (Ne.symm (ne2 d hd))]; exact hA d hd) (fun d hd hq => by
        have y2 := ix2 s hs d hd hq
        have q3 : sq (16 * (r - 2 ^ i) + (s - 2 ^ d)) = true := sq_of (by omega) (by omega)
        have := mo_ne (i := 16 * (r - 2 ^ i) + (s - 2 ^ d)) (j := 16 * r + s) (by omega) q3 q1
        rw [st_ne _ _ (by omega)]
        exact hR d hd hq)
      rw [st_same, st_st] at ih
      simp only [x1.1, x2.1, w.ck, Option.bind_some, of_c w (show r - 2 ^ i < 16 by omega) (show s - 2 ^ c < 16 by omega), mx.ck, cell_c mx hi (show c < 4 by omega), po_ck (show pl a ≠ 0 by omega), ad.1]
      unfold nm
      rw [f_neg_val h0, nI_1]
      exact ih
    · rw [if_neg (fun z => q ((eq_n (by omega) (by omega)).mp z)), if_neg q]
      unfold nm
      rw [nI_1]
      exact expand_l hN w mx hMB hr hs hi hri hb ea hsz k n (c + 1) sg P (by omega) (by omega) h0 wf hA hR
/-- expand: the minor of r and s, where those of fewer rows are there -/
theorem expand_c {N B M len r s : Nat} {m : Hp} {P : Nat → Po} (hN : 1000 ≤ N) (wf : FT P) (w : MN m B) (mx : MX m M len) (hMB : M + 42 ≤ B) (hr : r < 16) (hs : s < 16) (hb : bc r = bc s) (h0 : bc r ≠ 0) {A : Nat → Nat → Po} (hA : ∀ i j, i < 4 → j < 4 → P (ce M i j) = A i j) (hA4 : ∀ i j, sz (A i j) ≤ 4) (hR : ∀ r' s', r' < r → s' < s → bc r' = bc s' → P (B + mo (16 * r' + s')) = mi A r' s') : fX3_expand N B M (nI r) (nI s) (conc P m) = some (conc (st P (B + mo (16 * r + s)) (mi A r s)) m) ∧ FT (st P (B + mo (16 * r + s)) (mi A r s)) := by
  have l := ix3 r hr h0
  have x1 := ix2 r hr (low r) l.1 l.2
  have pa : pl (B + mo (16 * r + s)) = 13 := w.pm (by omega) (sq_of hs hb)
  have c1 := clear_c hN (m := m) wf (a := B + mo (16 * r + s)) (by omega)
  have w1 : FT (st P (B + mo (16 * r + s)) (pC 0)) := wf.st (by rw [sz_z]; omega)
  have bl := bc_lt r hr
  have e := expand_l (N := N) hN w mx hMB hr hs l.1 l.2 hb rfl (A := fun c => A (low r) c) (R := fun c => mi A (r - 2 ^ low r) (s - 2 ^ c)) (fun c hc => by
    have h2 := hA4 (low r) c
    have h3 := mnr_sz hA4 (bc (r - 2 ^ low r)) (r - 2 ^ low r) (s - 2 ^ c)
    show sz (A (low r) c) + sz (mnr A (bc (r - 2 ^ low r)) (r - 2 ^ low r) (s - 2 ^ c)) - 1 ≤ 13 ∧ _
    omega) 4 N 0 1 (st P (B + mo (16 * r + s)) (pC 0)) rfl (by omega) (by decide) w1 (fun c hc => by
    rw [st_ne _ _ (by show M + 2 + 10 * low r + 2 + 2 * c ≠ _; omega)]
    exact hA _ _ l.1 hc) (fun c hc hq => by
    have y2 := ix2 s hs c hc hq
    have q3 : sq (16 * (r - 2 ^ low r) + (s - 2 ^ c)) = true := sq_of (by omega) (by omega)
    have := mo_ne (i := 16 * (r - 2 ^ low r) + (s - 2 ^ c)) (j := 16 * r + s) (by omega) q3 (sq_of hs hb)
    rw [st_ne _ _ (by omega)]
    exact hR _ _ (by omega) (by omega) (by omega))
  rw [st_same, st_st] at e
  have em : mi A r s = exq (fun c => pMul (A (low r) c) (mi A (r - 2 ^ low r) (s - 2 ^ c))) s 4 0 1 (pC 0) := by
    unfold mi
    rw [show bc r = bc (r - 2 ^ low r) + 1 by omega, mnr]
  rw [← em] at e
  refine ⟨?_, e.2⟩
  unfold fX3_expand
  simp only [w.ck, Option.bind_some, of_c w hr hs, po_ck (show pl (B + mo (16 * r + s)) ≠ 0 by omega), c1, low_c hN hr]
  exact e.1
