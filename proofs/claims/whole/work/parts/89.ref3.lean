/-! the reference: all minors, the rank -/
theorem fm2_l {N : Nat} {h0 : Hp} {cd rw cl : Int32} : ∀ (d n k : Nat) (A : Nat → Nat → Int32), k + d = 3328 → d < n → (∀ y, y < k → A 6 y = 0) → ∃ f', (∀ κ, lX8_findMinors_2 N 645 n (nI k) (rfh h0 cd rw cl A) κ = κ (nI 3328) (rfh h0 cd rw cl (ua A 6 f'))) ∧ (∀ y, y < 3328 → f' y = 0)
  | d, 0, k, A, _, hn, _ => absurd hn (Nat.not_lt_zero _)
  | 0, n + 1, k, A, hk, hn, hz => by
    have e : k = 3328 := by omega
    subst e
    refine ⟨A 6, fun κ => ?_, hz⟩
    rw [lX8_findMinors_2, ua_id]
    show (if nI 3328 ≤ nI 3328 then _ else _) = _
    rw [if_pos (by decide)]
  | d + 1, n + 1, k, A, hk, hn, hz => by
    obtain ⟨f', g1, g2⟩ := fm2_l (N := N) (h0 := h0) (cd := cd) (rw := rw) (cl := cl) d n (k + 1) (ua A 6 (upd (A 6) k 0)) (by omega) (by omega) (fun y hy => by
      rw [ua_s]
      unfold upd
      by_cases z : y = k
      · rw [if_pos z]
      · rw [if_neg z]; exact hz y (by omega))
    refine ⟨f', fun κ => ?_, g2⟩
    rw [lX8_findMinors_2]
    show (if nI 3328 ≤ nI k then _ else _) = _
    rw [if_neg (fun z => by have := (le_n (by omega) (by omega)).mp z; omega), rg_6, Option.bind_some, rs_6 (by omega), Option.bind_some]
    unfold nm
    rw [nI_1]
    have := g1 κ
    rw [ua_ua] at this
    exact this
/-- the minors array before the rows r and the columns s -/
def MA (E : Nat → Nat → Po) (f : Nat → Int32) (r s : Nat) : Prop := ∀ r' s', r' < 16 → s' < 16 → bc r' = bc s' → ((r' < r ∨ r' = r ∧ s' < s) → RP f (13 * (16 * r' + s')) 13 (mi E r' s')) ∧ (¬ (r' < r ∨ r' = r ∧ s' < s) → RP f (13 * (16 * r' + s')) 13 (pC 0))
theorem fm39_l {N r : Nat} {h0 : Hp} {cd rw cl : Int32} (hN : 1000 ≤ N) (hr : r < 16) (hr0 : r ≠ 0) {E : Nat → Nat → Po} (hE : ∀ i j, sz (E i j) ≤ 4) : ∀ (d n s : Nat) (A : Nat → Nat → Int32), s + d = 16 → d < n → s ≠ 0 → (∀ i j, i < 4 → j < 4 → RP (A 7) (16 * i + 4 * j) 4 (E i j)) → MA E (A 6) r s → ∃ f', (∀ κ, lX8_findMinors_39 N 645 (nI r) n (nI s) (rfh h0 cd rw cl A) κ = κ (nI 16) (rfh h0 cd rw cl (ua A 6 f'))) ∧ MA E f' r 16
  | d, 0, s, A, _, hn, _, _, _ => absurd hn (Nat.not_lt_zero _)
  | 0, n + 1, s, A, hk, hn, hs0, hW, hM => by
    have e : s = 16 := by omega
    subst e
    refine ⟨A 6, fun κ => ?_, hM⟩
    rw [lX8_findMinors_39, ua_id]
    show (if nI 16 ≤ nI 16 then _ else _) = _
    rw [if_pos (by decide)]
  | d + 1, n + 1, s, A, hk, hn, hs0, hW, hM => by
    have hs : s < 16 := by omega
    have br := bc_lt r hr
    have bs := bc_lt s hs
    by_cases q : bc r = bc s
    · obtain ⟨f1, u1, u2, u3⟩ := minor_s (N := N) (h0 := h0) (cd := cd) (rw := rw) (cl := cl) hN hr hs q (fun z => hr0 (bc_0 r hr z)) hE hW (fun r' s' h1 h2 h3 => (hM r' s' (by omega) (by omega) h3).1 (by omega)) ((hM r s hr hs q).2 (by omega))
      obtain ⟨f', g1, g2⟩ := fm39_l (h0 := h0) (cd := cd) (rw := rw) (cl := cl) hN hr hr0 hE d n (s + 1) (ua A 6 f1) (by omega) (by omega) (by omega) (fun i j hi hj => by rw [ua_n _ _ (by decide)]; exact hW i j hi hj) (by
        rw [ua_s]
        intro r' s' h1 h2 h3
        by_cases z : r' = r ∧ s' = s
        · rw [z.1, z.2]
          exact ⟨fun _ => u2, fun h => absurd (Or.inr ⟨rfl, by omega⟩) h⟩
        · have off : 13 * (16 * r' + s') + 13 ≤ 13 * (16 * r + s) ∨ 13 * (16 * r + s) + 13 ≤ 13 * (16 * r' + s') := by omega
          refine ⟨fun h => ((hM r' s' h1 h2 h3).1 (by omega)).ext (fun t ht => u3 _ (by omega)), fun h => ((hM r' s' h1 h2 h3).2 (by omega)).ext (fun t ht => u3 _ (by omega))⟩)
      refine ⟨f', fun κ => ?_, g2⟩
      rw [lX8_findMinors_39]
      show (if nI 16 ≤ nI s then _ else _) = _
      rw [if_neg (fun z => by have := (le_n (by omega) (by omega)).mp z; omega), bits_s _ hr, Option.bind_some]
      dsimp only
      rw [bits_s _ hs, Option.bind_some]
      unfold jn
      dsimp only
      rw [if_pos (by rw [q]), rf_ck, Option.bind_some, u1, Option.bind_some]
      unfold nm
      rw [nI_1]
      have := g1 κ
      rw [ua_ua] at this
      exact this
    · obtain ⟨f', g1, g2⟩ := fm39_l (h0 := h0) (cd := cd) (rw := rw) (cl := cl) hN hr hr0 hE d n (s + 1) A (by omega) (by omega) (by omega) hW (by
        intro r' s' h1 h2 h3
        have nz : ¬ (r' = r ∧ s' = s) := fun z => q (by rw [← z.1, ← z.2]; exact h3)
        exact ⟨fun h => (hM r' s' h1 h2 h3).1 (by omega), fun h => (hM r' s' h1 h2 h3).2 (by omega)⟩)
      refine ⟨f', fun κ => ?_, g2⟩
      rw [lX8_findMinors_39]
      show (if nI 16 ≤ nI s then _ else _) = _
      rw [if_neg (fun z => by have := (le_n (by omega) (by omega)).mp z; omega), bits_s _ hr, Option.bind_some]
      dsimp only
      rw [bits_s _ hs, Option.bind_some]
      unfold jn
      dsimp only
      rw [if_neg (fun z => q ((eq_n (by omega) (by omega)).mp z))]
      unfold nm
      rw [nI_1]
      exact g1 κ
theorem fm31_l {N : Nat} {h0 : Hp} {cd rw cl : Int32} (hN : 1000 ≤ N) {E : Nat → Nat → Po} (hE : ∀ i j, sz (E i j) ≤ 4) : ∀ (d n r : Nat) (A : Nat → Nat → Int32), r + d = 16 → d < n → r ≠ 0 → (∀ i j, i < 4 → j < 4 → RP (A 7) (16 * i + 4 * j) 4 (E i j)) → MA E (A 6) r 0 → ∃ f', (∀ κ, lX8_findMinors_31 N 645 n (nI r) (rfh h0 cd rw cl A) κ = κ (nI 16) (rfh h0 cd rw cl (ua A 6 f'))) ∧ MA E f' 16 0
  | d, 0, r, A, _, hn, _, _, _ => absurd hn (Nat.not_lt_zero _)
  | 0, n + 1, r, A, hk, hn, hr0, hW, hM => by
    have e : r = 16 := by omega
    subst e
    refine ⟨A 6, fun κ => ?_, hM⟩
    rw [lX8_findMinors_31, ua_id]
    show (if nI 16 ≤ nI 16 then _ else _) = _
    rw [if_pos (by decide)]
  | d + 1, n + 1, r, A, hk, hn, hr0, hW, hM => by
    have hr : r < 16 := by omega
    obtain ⟨f1, u1, u2⟩ := fm39_l (N := N) (h0 := h0) (cd := cd) (rw := rw) (cl := cl) hN hr hr0 hE 15 N 1 A rfl (by omega) (by omega) hW (by
      intro r' s' h1 h2 h3
      have nz : ¬ (r' = r ∧ s' = 0) := fun z => hr0 (bc_0 r hr (by rw [← z.1, h3, z.2]; rfl))
      exact ⟨fun h => (hM r' s' h1 h2 h3).1 (by omega), fun h => (hM r' s' h1 h2 h3).2 (by omega)⟩)
    obtain ⟨f', g1, g2⟩ := fm31_l (h0 := h0) (cd := cd) (rw := rw) (cl := cl) hN hE d n (r + 1) (ua A 6 f1) (by omega) (by omega) (by omega) (fun i j hi hj => by rw [ua_n _ _ (by decide)]; exact hW i j hi hj) (by
      rw [ua_s]
      intro r' s' h1 h2 h3
      exact ⟨fun h => (u2 r' s' h1 h2 h3).1 (by omega), fun h => (u2 r' s' h1 h2 h3).2 (by omega)⟩)
    refine ⟨f', fun κ => ?_, g2⟩
    rw [lX8_findMinors_31]
    show (if nI 16 ≤ nI r then _ else _) = _
    rw [if_neg (fun z => by have := (le_n (by omega) (by omega)).mp z; omega)]
    show lX8_findMinors_39 N 645 (nI r) N (nI 1) (rfh h0 cd rw cl A) _ = _
    rw [u1]
    unfold nm
    rw [nI_1]
    have := g1 κ
    rw [ua_ua] at this
    exact this
/-- all minors of E stand in the array -/
def MF (E : Nat → Nat → Po) (f : Nat → Int32) : Prop := ∀ r s, r < 16 → s < 16 → bc r = bc s → RP f (13 * (16 * r + s)) 13 (mi E r s)
theorem minors_s {N : Nat} {h0 : Hp} {cd rw cl : Int32} (hN : 33000 ≤ N) {E : Nat → Nat → Po} (hE : ∀ i j, sz (E i j) ≤ 4) {A : Nat → Nat → Int32} (hW : ∀ i j, i < 4 → j < 4 → RP (A 7) (16 * i + 4 * j) 4 (E i j)) : ∃ f', fX8_findMinors N 645 (rfh h0 cd rw cl A) = some (rfh h0 cd rw cl (ua A 6 f')) ∧ MF E f' := by
  obtain ⟨f1, u1, u2⟩ := fm2_l (N := N) (h0 := h0) (cd := cd) (rw := rw) (cl := cl) 3328 N 0 A rfl (by omega) (fun y hy => by omega)
  obtain ⟨f', g1, g2⟩ := fm31_l (N := N) (h0 := h0) (cd := cd) (rw := rw) (cl := cl) (by omega) hE 15 N 1 (ua (ua A 6 f1) 6 (upd f1 0 1)) rfl (by omega) (by omega) (fun i j hi hj => by rw [ua_n _ _ (by decide), ua_n _ _ (by decide)]; exact hW i j hi hj) (by
    rw [ua_s]
    intro r' s' h1 h2 h3
    refine ⟨fun h => ?_, fun h t ht => ?_⟩
    · have e : r' = 0 := by omega
      subst e
      have e2 : s' = 0 := bc_0 s' h2 h3.symm
      subst e2
      intro t ht
      show upd f1 0 1 (13 * (16 * 0 + 0) + t) = nI (vl (pC 1) t)
      unfold upd vl
      rw [co_C]
      by_cases z : t = 0
      · rw [if_pos (by omega), if_pos z]; rfl
      · rw [if_neg (by omega), if_neg z, u2 _ (by omega)]; rfl
    · unfold upd
      rw [if_neg (by omega), u2 _ (by omega), vl_C0]
      rfl)
  refine ⟨f', ?_, fun r s hr hs hb => (g2 r s hr hs hb).1 (by omega)⟩
  unfold fX8_findMinors
  show lX8_findMinors_2 N 645 N (nI 0) (rfh h0 cd rw cl A) _ = _
  rw [u1, rg_6, Option.bind_some]
  show (aIs (rfh h0 cd rw cl (ua A 6 f1)) 649 (nI 0) 1).bind _ = _
  rw [rs_6 (by omega), Option.bind_some, ua_s]
  show lX8_findMinors_31 N 645 N (nI 1) _ _ = _
  rw [g1, ua_ua, ua_ua]
theorem load_l {N : Nat} {h0 : Hp} {cd rw cl : Int32} : ∀ (d n k : Nat) (A : Nat → Nat → Int32), k + d = 64 → d < n → (∀ y, y < k → A 7 y = A 3 y) → ∃ f', (∀ κ, lX8_loadEntries_2 N 645 n (nI k) (rfh h0 cd rw cl A) κ = κ (nI 64) (rfh h0 cd rw cl (ua A 7 f'))) ∧ (∀ y, y < 64 → f' y = A 3 y)
  | d, 0, k, A, _, hn, _ => absurd hn (Nat.not_lt_zero _)
  | 0, n + 1, k, A, hk, hn, hz => by
    have e : k = 64 := by omega
    subst e
    refine ⟨A 7, fun κ => ?_, hz⟩
    rw [lX8_loadEntries_2, ua_id]
    show (if nI 64 ≤ nI 64 then _ else _) = _
    rw [if_pos (by decide)]
  | d + 1, n + 1, k, A, hk, hn, hz => by
    obtain ⟨f', g1, g2⟩ := load_l (N := N) (h0 := h0) (cd := cd) (rw := rw) (cl := cl) d n (k + 1) (ua A 7 (upd (A 7) k (A 3 k))) (by omega) (by omega) (fun y hy => by
      rw [ua_s, ua_n _ _ (by decide)]
      unfold upd
      by_cases z : y = k
      · rw [if_pos z, z]
      · rw [if_neg z]; exact hz y (by omega))
    refine ⟨f', fun κ => ?_, fun y hy => by rw [g2 y hy, ua_n _ _ (by decide)]⟩
    rw [lX8_loadEntries_2]
    show (if nI 64 ≤ nI k then _ else _) = _
    rw [if_neg (fun z => by have := (le_n (by omega) (by omega)).mp z; omega), rg_7, Option.bind_some, rg_3, Option.bind_some, ra_3 (by omega), Option.bind_some, rs_7 (by omega), Option.bind_some]
    unfold nm
    rw [nI_1]
    have := g1 κ
    rw [ua_ua] at this
    exact this
/-- the entries stand in the array -/
def EN (E : Nat → Nat → Po) (f : Nat → Int32) : Prop := ∀ i j, i < 4 → j < 4 → RP f (16 * i + 4 * j) 4 (E i j)
theorem load_s {N : Nat} {h0 : Hp} {cd rw cl : Int32} (hN : 33000 ≤ N) {E : Nat → Nat → Po} (hE : ∀ i j, sz (E i j) ≤ 4) {A : Nat → Nat → Int32} (hW : EN E (A 3)) : ∃ f6 f7, fX8_loadEntries N 645 (rfh h0 cd rw cl A) = some (rfh h0 cd rw cl (ua (ua A 7 f7) 6 f6)) ∧ MF E f6 := by
  obtain ⟨f7, u1, u2⟩ := load_l (N := N) (h0 := h0) (cd := cd) (rw := rw) (cl := cl) 64 N 0 A rfl (by omega) (fun y hy => by omega)
  obtain ⟨f6, g1, g2⟩ := minors_s (N := N) (h0 := h0) (cd := cd) (rw := rw) (cl := cl) hN hE (A := ua A 7 f7) (fun i j hi hj => by
    rw [ua_s]
    exact (hW i j hi hj).ext (fun t ht => u2 _ (by omega)))
  refine ⟨f6, f7, ?_, g2⟩
  unfold fX8_loadEntries
  show lX8_loadEntries_2 N 645 N (nI 0) (rfh h0 cd rw cl A) _ = _
  rw [u1, rf_ck, Option.bind_some, g1]
  rfl
theorem isM_l {N r s : Nat} {h : Hp} {h0 : Hp} {cd rw cl : Int32} {A : Nat → Nat → Int32} {p : Po} (hr : r < 16) (hs : s < 16) (hp : RP (A 6) (13 * (16 * r + s)) 13 p) : ∀ (d n k is : Nat), k + d = 13 → d < n → is < 2 → (is = 0 ↔ ∀ t, t < k → co p t = 0) → ∃ is', (∀ κ, lX8_isMinor_5 N 645 (nI r) (nI s) n (nI is) (nI k) (rfh h0 cd rw cl A) κ = κ (nI is') (nI 13) (rfh h0 cd rw cl A)) ∧ is' < 2 ∧ (is' = 0 ↔ ∀ t, t < 13 → co p t = 0)
  | d, 0, k, is, _, hn, _, _ => absurd hn (Nat.not_lt_zero _)
  | 0, n + 1, k, is, hk, hn, hi, hz => by
    have e : k = 13 := by omega
    subst e
    refine ⟨is, fun κ => ?_, hi, hz⟩
    rw [lX8_isMinor_5]
    show (if nI 13 ≤ nI 13 then _ else _) = _
    rw [if_pos (by decide)]
  | d + 1, n + 1, k, is, hk, hn, hi, hz => by
    by_cases q : is = 0
    · have hv := (co p k).isLt
      by_cases q2 : co p k = 0
      · obtain ⟨is', g1, g2, g3⟩ := isM_l (N := N) (h := h) (h0 := h0) (cd := cd) (rw := rw) (cl := cl) hr hs hp d n (k + 1) 0 (by omega) (by omega) (by omega) ⟨fun _ t ht => by
          by_cases z : t = k
          · rw [z]; exact q2
          · exact hz.mp q t (by omega), fun _ => rfl⟩
        refine ⟨is', fun κ => ?_, g2, g3⟩
        rw [lX8_isMinor_5]
        show (if nI 13 ≤ nI k then _ else _) = _
        rw [if_neg (fun z => by have := (le_n (by omega) (by omega)).mp z; omega)]
        unfold jn
        dsimp only
        rw [q, if_pos (show nI 0 = 0 from rfl), rg_6, Option.bind_some]
        show (aI (rfh h0 cd rw cl A) 649 (nI 13 * (nI 16 * nI r + nI s) + nI k)).bind _ = _
        rw [pk_mul, nI_add, pk_mul, nI_add, ra_6 (by omega), Option.bind_some, hp k (by omega), vl_0.mpr q2, if_pos (show nI 0 = 0 from rfl)]
        unfold nm
        rw [nI_1]
        exact g1 κ
      · obtain ⟨is', g1, g2, g3⟩ := isM_l (N := N) (h := h) (h0 := h0) (cd := cd) (rw := rw) (cl := cl) hr hs hp d n (k + 1) 1 (by omega) (by omega) (by omega) ⟨fun z => absurd z (by decide), fun h => absurd (h k (by omega)) q2⟩
        refine ⟨is', fun κ => ?_, g2, g3⟩
        rw [lX8_isMinor_5]
        show (if nI 13 ≤ nI k then _ else _) = _
        rw [if_neg (fun z => by have := (le_n (by omega) (by omega)).mp z; omega)]
        unfold jn
        dsimp only
        rw [q, if_pos (show nI 0 = 0 from rfl), rg_6, Option.bind_some]
        show (aI (rfh h0 cd rw cl A) 649 (nI 13 * (nI 16 * nI r + nI s) + nI k)).bind _ = _
        have hv0 : vl p k ≠ 0 := fun z => q2 (vl_0.mp z)
        have hvl := vl_lt p k
        rw [pk_mul, nI_add, pk_mul, nI_add, ra_6 (by omega), Option.bind_some, hp k (by omega), if_neg (nI_ne0 (by omega) (by omega))]
        unfold nm
        rw [nI_1]
        exact g1 κ
    · obtain ⟨is', g1, g2, g3⟩ := isM_l (N := N) (h := h) (h0 := h0) (cd := cd) (rw := rw) (cl := cl) hr hs hp d n (k + 1) 1 (by omega) (by omega) (by omega) ⟨fun z => absurd z (by decide), fun h => absurd (hz.mpr (fun t ht => h t (by omega))) q⟩
      refine ⟨is', fun κ => ?_, g2, g3⟩
      rw [lX8_isMinor_5]
      show (if nI 13 ≤ nI k then _ else _) = _
      rw [if_neg (fun z => by have := (le_n (by omega) (by omega)).mp z; omega)]
      unfold jn
      dsimp only
      rw [if_neg (nI_ne0 (by omega) (by omega))]
      unfold nm
      rw [nI_1]
      exact g1 κ
theorem isM_s {N r s : Nat} {h0 : Hp} {cd rw cl : Int32} {A : Nat → Nat → Int32} {p : Po} (hN : 1000 ≤ N) (hr : r < 16) (hs : s < 16) (hp : RP (A 6) (13 * (16 * r + s)) 13 p) (hz : sz p ≤ 13) : fX8_isMinor N 645 (nI r) (nI s) (rfh h0 cd rw cl A) = some (if sz p = 0 then 0 else 1, rfh h0 cd rw cl A) := by
  obtain ⟨is, g1, g2, g3⟩ := isM_l (N := N) (h := h0) (h0 := h0) (cd := cd) (rw := rw) (cl := cl) hr hs hp 13 N 0 0 rfl (by omega) (by omega) ⟨fun _ t ht => by omega, fun _ => rfl⟩
  unfold fX8_isMinor
  show lX8_isMinor_5 N 645 (nI r) (nI s) N (nI 0) (nI 0) (rfh h0 cd rw cl A) _ = _
  rw [g1]
  have e : is = 0 ↔ sz p = 0 := by
    rw [g3]
    constructor
    · intro h
      exact Nat.le_zero.mp (sz_le (fun j hj => by
        by_cases q : j < 13
        · exact h j q
        · exact sz_hi (by omega)))
    · intro h t ht; exact sz_hi (by omega)
  by_cases q : sz p = 0
  · rw [if_pos q, e.mpr q, if_pos (by decide)]; rfl
  · have : is = 1 := by
      have : is ≠ 0 := fun z => q (e.mp z)
      omega
    rw [if_neg q, this, if_pos (by decide)]; rfl
/-- some minor of k rows isn't 0 -/
def nz (E : Nat → Nat → Po) (k : Nat) : Prop := ∃ r s, r < 16 ∧ s < 16 ∧ bc r = k ∧ bc s = k ∧ sz (mi E r s) ≠ 0
/-- n is the rank as far as the rows before r and the columns before s tell -/
def RK (E : Nat → Nat → Po) (n r s : Nat) : Prop := n < 5 ∧ (n = 0 ∨ nz E n) ∧ ∀ r' s', r' < 16 → s' < 16 → (r' < r ∨ r' = r ∧ s' < s) → bc r' = bc s' → sz (mi E r' s') ≠ 0 → bc r' ≤ n
theorem mi_sz {E : Nat → Nat → Po} (hE : ∀ i j, sz (E i j) ≤ 4) {r s : Nat} (hr : r < 16) : sz (mi E r s) ≤ 13 := by
  have h1 := mnr_sz hE (bc r) r s
  have h2 := bc_lt r hr
  unfold mi
  omega
theorem rk12 {N r : Nat} {h0 : Hp} {cd rw cl : Int32} (hN : 1000 ≤ N) (hr : r < 16) {E : Nat → Nat → Po} (hE : ∀ i j, sz (E i j) ≤ 4) {A : Nat → Nat → Int32} (hM : MF E (A 6)) : ∀ (d f n s : Nat), s + d = 16 → d < f → RK E n r s → ∃ n', (∀ κ, lX8_rankNow_12 N 645 (nI r) f (nI n) (nI s) (rfh h0 cd rw cl A) κ = κ (nI n') (nI 16) (rfh h0 cd rw cl A)) ∧ RK E n' r 16
  | d, 0, n, s, _, hn, _ => absurd hn (Nat.not_lt_zero _)
  | 0, f + 1, n, s, hk, hn, hK => by
    have e : s = 16 := by omega
    subst e
    refine ⟨n, fun κ => ?_, hK⟩
    rw [lX8_rankNow_12]
    show (if nI 16 ≤ nI 16 then _ else _) = _
    rw [if_pos (by decide)]
  | d + 1, f + 1, n, s, hk, hn, hK => by
    have hs : s < 16 := by omega
    have br := bc_lt r hr
    have bs := bc_lt s hs
    obtain ⟨k1, k2, k3⟩ := hK
    have head : ∀ κ, lX8_rankNow_12 N 645 (nI r) (f + 1) (nI n) (nI s) (rfh h0 cd rw cl A) κ = lX8_rankNow_12 N 645 (nI r) f (if bc r = bc s ∧ n < bc r ∧ sz (mi E r s) ≠ 0 then nI (bc r) else nI n) (nI (s + 1)) (rfh h0 cd rw cl A) κ := fun κ => by
      rw [lX8_rankNow_12]
      show (if nI 16 ≤ nI s then _ else _) = _
      rw [if_neg (fun z => by have := (le_n (by omega) (by omega)).mp z; omega), bits_s _ hr, Option.bind_some]
      dsimp only
      rw [bits_s _ hs, Option.bind_some]
      unfold jn nm
      dsimp only
      rw [nI_1]
      by_cases q1 : bc r = bc s
      · rw [if_pos (by rw [q1]), bits_s _ hr, Option.bind_some]
        dsimp only
        by_cases q2 : n < bc r
        · rw [if_neg (fun z => by have := (le_n (by omega) (by omega)).mp z; omega), rf_ck, Option.bind_some, isM_s hN hr hs (hM r s hr hs q1) (mi_sz hE hr), Option.bind_some]
          dsimp only
          by_cases q3 : sz (mi E r s) = 0
          · rw [if_pos q3, if_pos rfl, if_neg (fun z => z.2.2 q3)]
          · rw [if_neg q3, if_neg (by decide), bits_s _ hr, Option.bind_some, if_pos ⟨q1, q2, q3⟩]
        · rw [if_pos ((le_n (by omega) (by omega)).mpr (by omega)), if_neg (fun z => q2 z.2.1)]
      · rw [if_neg (fun z => q1 ((eq_n (by omega) (by omega)).mp z)), if_neg (fun z => q1 z.1)]
    by_cases q : bc r = bc s ∧ n < bc r ∧ sz (mi E r s) ≠ 0
    · obtain ⟨n', g1, g2⟩ := rk12 (h0 := h0) (cd := cd) (rw := rw) (cl := cl) hN hr hE hM d f (bc r) (s + 1) (by omega) (by omega) ⟨br, Or.inr ⟨r, s, hr, hs, rfl, q.1.symm, q.2.2⟩, fun r' s' h1 h2 h3 h4 h5 => by
        by_cases z : r' = r ∧ s' = s
        · rw [z.1]; omega
        · have := k3 r' s' h1 h2 (by omega) h4 h5
          omega⟩
      refine ⟨n', fun κ => ?_, g2⟩
      rw [head, if_pos q]
      exact g1 κ
    · obtain ⟨n', g1, g2⟩ := rk12 (h0 := h0) (cd := cd) (rw := rw) (cl := cl) hN hr hE hM d f n (s + 1) (by omega) (by omega) ⟨k1, k2, fun r' s' h1 h2 h3 h4 h5 => by
        by_cases z : r' = r ∧ s' = s
        · rw [z.1, z.2] at h4
          rw [z.1, z.2] at h5
          rw [z.1]
          by_cases z2 : n < bc r
          · exact absurd ⟨h4, z2, h5⟩ q
          · omega
        · exact k3 r' s' h1 h2 (by omega) h4 h5⟩
      refine ⟨n', fun κ => ?_, g2⟩
      rw [head, if_neg q]
      exact g1 κ
theorem rk4 {N : Nat} {h0 : Hp} {cd rw cl : Int32} (hN : 1000 ≤ N) {E : Nat → Nat → Po} (hE : ∀ i j, sz (E i j) ≤ 4) {A : Nat → Nat → Int32} (hM : MF E (A 6)) : ∀ (d f n r : Nat), r + d = 16 → d < f → RK E n r 0 → ∃ n', (∀ κ, lX8_rankNow_4 N 645 f (nI n) (nI r) (rfh h0 cd rw cl A) κ = κ (nI n') (nI 16) (rfh h0 cd rw cl A)) ∧ RK E n' 16 0
  | d, 0, n, r, _, hn, _ => absurd hn (Nat.not_lt_zero _)
  | 0, f + 1, n, r, hk, hn, hK => by
    have e : r = 16 := by omega
    subst e
    refine ⟨n, fun κ => ?_, hK⟩
    rw [lX8_rankNow_4]
    show (if nI 16 ≤ nI 16 then _ else _) = _
    rw [if_pos (by decide)]
  | d + 1, f + 1, n, r, hk, hn, hK => by
    have hr : r < 16 := by omega
    obtain ⟨n1, u1, u2⟩ := rk12 (N := N) (h0 := h0) (cd := cd) (rw := rw) (cl := cl) hN hr hE hM 16 N n 0 rfl (by omega) hK
    obtain ⟨n', g1, g2⟩ := rk4 (h0 := h0) (cd := cd) (rw := rw) (cl := cl) hN hE hM d f n1 (r + 1) (by omega) (by omega) ⟨u2.1, u2.2.1, fun r' s' h1 h2 h3 => u2.2.2 r' s' h1 h2 (by omega)⟩
    refine ⟨n', fun κ => ?_, g2⟩
    rw [lX8_rankNow_4]
    show (if nI 16 ≤ nI r then _ else _) = _
    rw [if_neg (fun z => by have := (le_n (by omega) (by omega)).mp z; omega)]
    show lX8_rankNow_12 N 645 (nI r) N (nI n) (nI 0) (rfh h0 cd rw cl A) _ = _
    rw [u1]
    unfold nm
    rw [nI_1]
    exact g1 κ
/-- n is the rank -/
def RKf (E : Nat → Nat → Po) (n : Nat) : Prop := n < 5 ∧ (n = 0 ∨ nz E n) ∧ ∀ k, nz E k → k ≤ n
theorem RKf_un {E : Nat → Nat → Po} {n m : Nat} (h1 : RKf E n) (h2 : RKf E m) : n = m := by
  have a : n ≤ m := by
    rcases h1.2.1 with z | z
    · omega
    · exact h2.2.2 n z
  have b : m ≤ n := by
    rcases h2.2.1 with z | z
    · omega
    · exact h1.2.2 m z
  omega
theorem rankNow_s {N : Nat} {h0 : Hp} {cd rw cl : Int32} (hN : 1000 ≤ N) {E : Nat → Nat → Po} (hE : ∀ i j, sz (E i j) ≤ 4) {A : Nat → Nat → Int32} (hM : MF E (A 6)) : ∃ n, fX8_rankNow N 645 (rfh h0 cd rw cl A) = some (nI n, rfh h0 cd rw cl A) ∧ RKf E n := by
  obtain ⟨n, g1, g2⟩ := rk4 (N := N) (h0 := h0) (cd := cd) (rw := rw) (cl := cl) hN hE hM 16 N 0 0 rfl (by omega) ⟨by omega, Or.inl rfl, fun r' s' h1 h2 h3 => by omega⟩
  refine ⟨n, ?_, g2.1, g2.2.1, fun k ⟨r, s, hr, hs, h1, h2, h3⟩ => ?_⟩
  · unfold fX8_rankNow
    show lX8_rankNow_4 N 645 N (nI 0) (nI 0) (rfh h0 cd rw cl A) _ = _
    rw [g1]
  · have := g2.2.2 r s hr hs (by omega) (by omega) h3
    omega
