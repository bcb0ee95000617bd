/-! the common divisors of the minors; the rank -/
noncomputable def gs (E : Nat → Nat → Po) (k r : Nat) : Nat → Nat → Po → Po
  | 0, _, g => g
  | d + 1, s, g => gs E k r d (s + 1) (if bc r = k ∧ bc s = k then pgcd g (mi E r s) else g)
noncomputable def gr (E : Nat → Nat → Po) (k : Nat) : Nat → Nat → Po → Po
  | 0, _, g => g
  | d + 1, r, g => gr E k d (r + 1) (gs E k r 16 0 g)
theorem gcol_gs (E : Nat → Nat → Po) (r k : Nat) : ∀ (n s : Nat) (d : Nat → Po), gcol E r n s d k = gs E k r n s (d k)
  | 0, s, d => rfl
  | n + 1, s, d => by
    rw [gcol, gcol_gs E r k n, gs]
    congr 1
    by_cases q : bc s = bc r
    · rw [if_pos q]
      by_cases q2 : bc r = k
      · rw [if_pos ⟨q2, q.trans q2⟩, q2, st_same]
      · rw [if_neg (fun z => q2 z.1), st_ne _ _ (Ne.symm q2)]
    · rw [if_neg q, if_neg (fun z => q (z.2.trans z.1.symm))]
theorem gs_0 (E : Nat → Nat → Po) {k : Nat} (hk : k ≠ 0) (r : Nat) (g : Po) : gs E k r 16 0 g = gs E k r 15 1 g := by
  rw [gs, if_neg (fun z => hk (z.2.symm.trans rfl))]
theorem grow_gr (E : Nat → Nat → Po) {k : Nat} (hk : k ≠ 0) : ∀ (n r : Nat) (d : Nat → Po), grow E n r d k = gr E k n r (d k)
  | 0, r, d => rfl
  | n + 1, r, d => by rw [grow, grow_gr E hk n, gr, gs_0 E hk, gcol_gs]
theorem gs_no {E : Nat → Nat → Po} {k r : Nat} (h : bc r ≠ k) : ∀ (n s : Nat) (g : Po), gs E k r n s g = g
  | 0, _, _ => rfl
  | n + 1, s, g => by rw [gs, if_neg (fun z => h z.1)]; exact gs_no h n (s + 1) g
theorem gd_gr (E : Nat → Nat → Po) {k : Nat} (hk : k ≠ 0) : gd E k = gr E k 16 0 (pC 0) := by
  have e : gr E k 16 0 (pC 0) = gr E k 15 1 (pC 0) := by
    rw [show (16 : Nat) = 15 + 1 from rfl, gr, gs_no (r := 0) (fun z => hk (z.symm.trans rfl))]
  unfold gd
  rw [grow_gr E hk, if_neg hk, e]
theorem gd_0 (E : Nat → Nat → Po) : gd E 0 = pC 1 := by
  unfold gd
  have : ∀ (n r : Nat) (d : Nat → Po), r + n ≤ 16 → r ≠ 0 → grow E n r d 0 = d 0 := by
    intro n
    induction n with
    | zero => intro r d _ _; rfl
    | succ n ih =>
      intro r d hr h0r
      rw [grow, ih (r + 1) _ (by omega) (by omega), gcol_gs, gs_no (fun z => h0r (bc_0 r (by omega) z))]
  rw [this 15 1 _ (by omega) (by omega), if_pos rfl]
theorem gs_z (E : Nat → Nat → Po) (k r : Nat) : ∀ (n s : Nat) (g : Po), sz (gs E k r n s g) = 0 ↔ sz g = 0 ∧ ∀ s', s ≤ s' → s' < s + n → bc r = k → bc s' = k → sz (mi E r s') = 0
  | 0, s, g => ⟨fun h => ⟨h, fun s' h1 h2 => by omega⟩, fun h => h.1⟩
  | n + 1, s, g => by
    rw [gs, gs_z E k r n (s + 1)]
    by_cases q : bc r = k ∧ bc s = k
    · rw [if_pos q, pgcd_0]
      constructor
      · intro ⟨⟨h1, h2⟩, h3⟩
        refine ⟨h1, fun s' h4 h5 h6 h7 => ?_⟩
        by_cases z : s' = s
        · rw [z]; exact h2
        · exact h3 s' (by omega) (by omega) h6 h7
      · intro ⟨h1, h2⟩
        exact ⟨⟨h1, h2 s (by omega) (by omega) q.1 q.2⟩, fun s' h4 h5 => h2 s' (by omega) (by omega)⟩
    · rw [if_neg q]
      constructor
      · intro ⟨h1, h3⟩
        refine ⟨h1, fun s' h4 h5 h6 h7 => ?_⟩
        by_cases z : s' = s
        · rw [z] at h7; exact absurd ⟨h6, h7⟩ q
        · exact h3 s' (by omega) (by omega) h6 h7
      · intro ⟨h1, h2⟩
        exact ⟨h1, fun s' h4 h5 => h2 s' (by omega) (by omega)⟩
theorem gr_z (E : Nat → Nat → Po) (k : Nat) : ∀ (n r : Nat) (g : Po), sz (gr E k n r g) = 0 ↔ sz g = 0 ∧ ∀ r' s', r ≤ r' → r' < r + n → s' < 16 → bc r' = k → bc s' = k → sz (mi E r' s') = 0
  | 0, r, g => ⟨fun h => ⟨h, fun r' s' h1 h2 => by omega⟩, fun h => h.1⟩
  | n + 1, r, g => by
    rw [gr, gr_z E k n (r + 1), gs_z]
    constructor
    · intro ⟨⟨h1, h2⟩, h3⟩
      refine ⟨h1, fun r' s' h4 h5 h6 h7 h8 => ?_⟩
      by_cases z : r' = r
      · rw [z] at h7 ⊢; exact h2 s' (by omega) (by omega) h7 h8
      · exact h3 r' s' (by omega) (by omega) h6 h7 h8
    · intro ⟨h1, h2⟩
      exact ⟨⟨h1, fun s' h4 h5 h6 h7 => h2 r s' (by omega) (by omega) (by omega) h6 h7⟩, fun r' s' h4 h5 => h2 r' s' (by omega) (by omega)⟩
theorem gd_nz (E : Nat → Nat → Po) {k : Nat} (hk : k ≠ 0) : sz (gd E k) ≠ 0 ↔ nz E k := by
  rw [gd_gr E hk]
  have e := gr_z E k 16 0 (pC 0)
  constructor
  · intro h
    apply Classical.byContradiction
    intro q
    exact h (e.mpr ⟨sz_z, fun r' s' _ h2 h3 h4 h5 => Classical.byContradiction (fun z => q ⟨r', s', by omega, h3, h4, h5, z⟩)⟩)
  · intro ⟨r, s, hr, hs, h1, h2, h3⟩ z
    exact h3 ((e.mp z).2 r s (by omega) (by omega) hs h1 h2)
theorem exq_z {g : Nat → Po} {s : Nat} : ∀ (k c : Nat) (sg : Fp) (acc : Po), (∀ x, c ≤ x → x < c + k → s / 2 ^ x % 2 = 1 → g x = pC 0) → exq g s k c sg acc = acc
  | 0, _, _, _, _ => rfl
  | k + 1, c, sg, acc, h => by
    rw [exq]
    by_cases q : s / 2 ^ c % 2 = 1
    · rw [if_pos q, exq_z k (c + 1) _ _ (fun x h1 h2 => h x (by omega) (by omega)), h c (by omega) (by omega) q, pMul_comm, pZero_mul, pAdd_zero]
    · rw [if_neg q, exq_z k (c + 1) _ _ (fun x h1 h2 => h x (by omega) (by omega))]
/-- a minor that isn't 0 has one of a row less that isn't 0 -/
theorem nz_less (E : Nat → Nat → Po) {k : Nat} (h : nz E (k + 1)) : nz E k := by
  obtain ⟨r, s, hr, hs, h1, h2, h3⟩ := h
  have l := ix3 r hr (by omega)
  have x1 := ix2 r hr (low r) l.1 l.2
  apply Classical.byContradiction
  intro q
  apply h3
  have em : mi E r s = exq (fun c => pMul (E (low r) c) (mi E (r - 2 ^ low r) (s - 2 ^ c))) s 4 0 1 (pC 0) := by
    unfold mi
    rw [show bc r = bc (r - 2 ^ low r) + 1 by omega, mnr]
  rw [em, exq_z 4 0 1 (pC 0) (fun c _ hc hz => ?_), sz_z]
  have y := ix2 s hs c (by omega) hz
  have : mi E (r - 2 ^ low r) (s - 2 ^ c) = pC 0 := sz_0 (Classical.byContradiction (fun z => q ⟨r - 2 ^ low r, s - 2 ^ c, by omega, by omega, by omega, by omega, z⟩))
  rw [this, pMul_comm, pZero_mul]
theorem nz_le (E : Nat → Nat → Po) : ∀ {k j : Nat}, j ≤ k → nz E k → nz E j
  | 0, j, h, w => by rw [show j = 0 by omega]; exact w
  | k + 1, j, h, w => by
    by_cases q : j = k + 1
    · rw [q]; exact w
    · exact nz_le E (by omega) (nz_less E w)
theorem nz_5 {E : Nat → Nat → Po} {k : Nat} (h : nz E k) : k < 5 := by
  obtain ⟨r, s, hr, hs, h1, -⟩ := h
  have := bc_lt r hr
  omega
/-- the class's order is the rank -/
theorem ord_rk (E : Nat → Nat → Po) : RKf E (ord E) := by
  have n1 := gd_nz E (k := 1) (by decide)
  have n2 := gd_nz E (k := 2) (by decide)
  have n3 := gd_nz E (k := 3) (by decide)
  have n4 := gd_nz E (k := 4) (by decide)
  have key : ord E = if sz (gd E 4) = 0 then (if sz (gd E 3) = 0 then (if sz (gd E 2) = 0 then (if sz (gd E 1) = 0 then 0 else 1) else 2) else 3) else 4 := by
    unfold ord
    simp only [orf]
  have up : ∀ k, nz E k → k = 0 ∨ k = 1 ∨ k = 2 ∨ k = 3 ∨ k = 4 := fun k h => by have := nz_5 h; omega
  rw [key]
  by_cases h4 : sz (gd E 4) = 0
  · rw [if_pos h4]
    have f4 : ¬ nz E 4 := fun z => (n4.mpr z) h4
    by_cases h3 : sz (gd E 3) = 0
    · rw [if_pos h3]
      have f3 : ¬ nz E 3 := fun z => (n3.mpr z) h3
      by_cases h2 : sz (gd E 2) = 0
      · rw [if_pos h2]
        have f2 : ¬ nz E 2 := fun z => (n2.mpr z) h2
        by_cases h1 : sz (gd E 1) = 0
        · rw [if_pos h1]
          have f1 : ¬ nz E 1 := fun z => (n1.mpr z) h1
          refine ⟨by omega, Or.inl rfl, fun k hk => ?_⟩
          rcases up k hk with z | z | z | z | z <;> subst z <;> first | omega | contradiction
        · rw [if_neg h1]
          refine ⟨by omega, Or.inr (n1.mp h1), fun k hk => ?_⟩
          rcases up k hk with z | z | z | z | z <;> subst z <;> first | omega | contradiction
      · rw [if_neg h2]
        refine ⟨by omega, Or.inr (n2.mp h2), fun k hk => ?_⟩
        rcases up k hk with z | z | z | z | z <;> subst z <;> first | omega | contradiction
    · rw [if_neg h3]
      refine ⟨by omega, Or.inr (n3.mp h3), fun k hk => ?_⟩
      rcases up k hk with z | z | z | z | z <;> subst z <;> first | omega | contradiction
  · rw [if_neg h4]
    exact ⟨by omega, Or.inr (n4.mp h4), fun k hk => by have := nz_5 hk; omega⟩
theorem gd_lt {E : Nat → Nat → Po} {k : Nat} (h : k ≤ ord E) : sz (gd E k) ≠ 0 := by
  by_cases q : k = 0
  · rw [q, gd_0]
    have := lin_sz []
    show sz (lin []) ≠ 0
    omega
  · rw [gd_nz E q]
    rcases (ord_rk E).2.1 with z | z
    · omega
    · exact nz_le E h z
