/-! sums of polynomials; the adjugate; the last invariant is the least relation -/
def spo (f : Nat → Po) : Nat → Po
  | 0 => pC 0
  | n + 1 => pAdd (spo f n) (f n)
theorem spo_sm (f : Nat → Po) : ∀ n, spo f n = (letI := pr; sm f n)
  | 0 => rfl
  | n + 1 => by
    rw [spo, spo_sm f n]
    rfl
theorem spo_congr {f g : Nat → Po} {n : Nat} (h : ∀ i, i < n → f i = g i) : spo f n = spo g n := by
  rw [spo_sm, spo_sm]
  letI := pr
  exact sm_congr n h
theorem spo_mul (c : Po) (f : Nat → Po) (n : Nat) : spo (fun i => pMul c (f i)) n = pMul c (spo f n) := by
  rw [spo_sm, spo_sm]
  letI := pr
  exact sm_mul c f n
theorem spo_mulr (c : Po) (f : Nat → Po) (n : Nat) : spo (fun i => pMul (f i) c) n = pMul (spo f n) c := by
  rw [pMul_comm, ← spo_mul]
  exact spo_congr (fun i _ => pMul_comm _ _)
theorem spo_swap (g : Nat → Nat → Po) (m n : Nat) : spo (fun i => spo (fun j => g i j) m) n = spo (fun j => spo (fun i => g i j) n) m := by
  have e1 : spo (fun i => spo (fun j => g i j) m) n = spo (fun i => (letI := pr; sm (fun j => g i j) m)) n := spo_congr (fun i _ => spo_sm _ m)
  have e2 : spo (fun j => spo (fun i => g i j) n) m = spo (fun j => (letI := pr; sm (fun i => g i j) n)) m := spo_congr (fun i _ => spo_sm _ n)
  rw [e1, e2, spo_sm, spo_sm]
  letI := pr
  exact sm_swap g m n
theorem spo_one {f : Nat → Po} {n k : Nat} (hk : k < n) (h : ∀ i, i < n → i ≠ k → f i = pC 0) : spo f n = f k := by
  rw [spo_sm]
  letI := pr
  exact sm_single n k hk h
theorem co_spo (f : Nat → Po) (t : Nat) : ∀ n, co (spo f n) t = sm (fun k => co (f k) t) n
  | 0 => co_0 t
  | n + 1 => by rw [spo, co_add, co_spo f t n, sm]
theorem spo_1 (f : Nat → Po) : spo f 1 = pAdd (pC 0) (f 0) := rfl
theorem spo_2 (f : Nat → Po) : spo f 2 = pAdd (pAdd (pC 0) (f 0)) (f 1) := rfl
theorem spo_3 (f : Nat → Po) : spo f 3 = pAdd (pAdd (pAdd (pC 0) (f 0)) (f 1)) (f 2) := rfl
theorem spo_4 (f : Nat → Po) : spo f 4 = pAdd (pAdd (pAdd (pAdd (pC 0) (f 0)) (f 1)) (f 2)) (f 3) := rfl
theorem adjR (A : Nat → Nat → Po) {R i j : Nat} (hR : R < 5) (hi : i < R) (hj : j < R) : spo (fun k => pMul (A i k) (adj A R k j)) R = if i = j then mi A (2 ^ R - 1) (2 ^ R - 1) else pC 0 := by
  rcases (show R = 1 ∨ R = 2 ∨ R = 3 ∨ R = 4 by omega) with h | h | h | h <;> subst h
  · rcases (show i = 0 by omega) with rfl
    rcases (show j = 0 by omega) with rfl
    rw [if_pos rfl, spo_1]
    exact ajR_1_0_0 A
  · rcases (show i = 0 ∨ i = 1 by omega) with h | h <;> subst h
    · rcases (show j = 0 ∨ j = 1 by omega) with h | h <;> subst h
      · rw [if_pos rfl, spo_2]
        exact ajR_2_0_0 A
      · rw [if_neg (by decide), spo_2]
        exact ajR_2_0_1 A
    · rcases (show j = 0 ∨ j = 1 by omega) with h | h <;> subst h
      · rw [if_neg (by decide), spo_2]
        exact ajR_2_1_0 A
      · rw [if_pos rfl, spo_2]
        exact ajR_2_1_1 A
  · rcases (show i = 0 ∨ i = 1 ∨ i = 2 by omega) with h | h | h <;> subst h
    · rcases (show j = 0 ∨ j = 1 ∨ j = 2 by omega) with h | h | h <;> subst h
      · rw [if_pos rfl, spo_3]
        exact ajR_3_0_0 A
      · rw [if_neg (by decide), spo_3]
        exact ajR_3_0_1 A
      · rw [if_neg (by decide), spo_3]
        exact ajR_3_0_2 A
    · rcases (show j = 0 ∨ j = 1 ∨ j = 2 by omega) with h | h | h <;> subst h
      · rw [if_neg (by decide), spo_3]
        exact ajR_3_1_0 A
      · rw [if_pos rfl, spo_3]
        exact ajR_3_1_1 A
      · rw [if_neg (by decide), spo_3]
        exact ajR_3_1_2 A
    · rcases (show j = 0 ∨ j = 1 ∨ j = 2 by omega) with h | h | h <;> subst h
      · rw [if_neg (by decide), spo_3]
        exact ajR_3_2_0 A
      · rw [if_neg (by decide), spo_3]
        exact ajR_3_2_1 A
      · rw [if_pos rfl, spo_3]
        exact ajR_3_2_2 A
  · rcases (show i = 0 ∨ i = 1 ∨ i = 2 ∨ i = 3 by omega) with h | h | h | h <;> subst h
    · rcases (show j = 0 ∨ j = 1 ∨ j = 2 ∨ j = 3 by omega) with h | h | h | h <;> subst h
      · rw [if_pos rfl, spo_4]
        exact ajR_4_0_0 A
      · rw [if_neg (by decide), spo_4]
        exact ajR_4_0_1 A
      · rw [if_neg (by decide), spo_4]
        exact ajR_4_0_2 A
      · rw [if_neg (by decide), spo_4]
        exact ajR_4_0_3 A
    · rcases (show j = 0 ∨ j = 1 ∨ j = 2 ∨ j = 3 by omega) with h | h | h | h <;> subst h
      · rw [if_neg (by decide), spo_4]
        exact ajR_4_1_0 A
      · rw [if_pos rfl, spo_4]
        exact ajR_4_1_1 A
      · rw [if_neg (by decide), spo_4]
        exact ajR_4_1_2 A
      · rw [if_neg (by decide), spo_4]
        exact ajR_4_1_3 A
    · rcases (show j = 0 ∨ j = 1 ∨ j = 2 ∨ j = 3 by omega) with h | h | h | h <;> subst h
      · rw [if_neg (by decide), spo_4]
        exact ajR_4_2_0 A
      · rw [if_neg (by decide), spo_4]
        exact ajR_4_2_1 A
      · rw [if_pos rfl, spo_4]
        exact ajR_4_2_2 A
      · rw [if_neg (by decide), spo_4]
        exact ajR_4_2_3 A
    · rcases (show j = 0 ∨ j = 1 ∨ j = 2 ∨ j = 3 by omega) with h | h | h | h <;> subst h
      · rw [if_neg (by decide), spo_4]
        exact ajR_4_3_0 A
      · rw [if_neg (by decide), spo_4]
        exact ajR_4_3_1 A
      · rw [if_neg (by decide), spo_4]
        exact ajR_4_3_2 A
      · rw [if_pos rfl, spo_4]
        exact ajR_4_3_3 A
theorem adjL (A : Nat → Nat → Po) {R i j : Nat} (hR : R < 5) (hi : i < R) (hj : j < R) : spo (fun k => pMul (adj A R i k) (A k j)) R = if i = j then mi A (2 ^ R - 1) (2 ^ R - 1) else pC 0 := by
  rcases (show R = 1 ∨ R = 2 ∨ R = 3 ∨ R = 4 by omega) with h | h | h | h <;> subst h
  · rcases (show i = 0 by omega) with rfl
    rcases (show j = 0 by omega) with rfl
    rw [if_pos rfl, spo_1]
    exact ajL_1_0_0 A
  · rcases (show i = 0 ∨ i = 1 by omega) with h | h <;> subst h
    · rcases (show j = 0 ∨ j = 1 by omega) with h | h <;> subst h
      · rw [if_pos rfl, spo_2]
        exact ajL_2_0_0 A
      · rw [if_neg (by decide), spo_2]
        exact ajL_2_0_1 A
    · rcases (show j = 0 ∨ j = 1 by omega) with h | h <;> subst h
      · rw [if_neg (by decide), spo_2]
        exact ajL_2_1_0 A
      · rw [if_pos rfl, spo_2]
        exact ajL_2_1_1 A
  · rcases (show i = 0 ∨ i = 1 ∨ i = 2 by omega) with h | h | h <;> subst h
    · rcases (show j = 0 ∨ j = 1 ∨ j = 2 by omega) with h | h | h <;> subst h
      · rw [if_pos rfl, spo_3]
        exact ajL_3_0_0 A
      · rw [if_neg (by decide), spo_3]
        exact ajL_3_0_1 A
      · rw [if_neg (by decide), spo_3]
        exact ajL_3_0_2 A
    · rcases (show j = 0 ∨ j = 1 ∨ j = 2 by omega) with h | h | h <;> subst h
      · rw [if_neg (by decide), spo_3]
        exact ajL_3_1_0 A
      · rw [if_pos rfl, spo_3]
        exact ajL_3_1_1 A
      · rw [if_neg (by decide), spo_3]
        exact ajL_3_1_2 A
    · rcases (show j = 0 ∨ j = 1 ∨ j = 2 by omega) with h | h | h <;> subst h
      · rw [if_neg (by decide), spo_3]
        exact ajL_3_2_0 A
      · rw [if_neg (by decide), spo_3]
        exact ajL_3_2_1 A
      · rw [if_pos rfl, spo_3]
        exact ajL_3_2_2 A
  · rcases (show i = 0 ∨ i = 1 ∨ i = 2 ∨ i = 3 by omega) with h | h | h | h <;> subst h
    · rcases (show j = 0 ∨ j = 1 ∨ j = 2 ∨ j = 3 by omega) with h | h | h | h <;> subst h
      · rw [if_pos rfl, spo_4]
        exact ajL_4_0_0 A
      · rw [if_neg (by decide), spo_4]
        exact ajL_4_0_1 A
      · rw [if_neg (by decide), spo_4]
        exact ajL_4_0_2 A
      · rw [if_neg (by decide), spo_4]
        exact ajL_4_0_3 A
    · rcases (show j = 0 ∨ j = 1 ∨ j = 2 ∨ j = 3 by omega) with h | h | h | h <;> subst h
      · rw [if_neg (by decide), spo_4]
        exact ajL_4_1_0 A
      · rw [if_pos rfl, spo_4]
        exact ajL_4_1_1 A
      · rw [if_neg (by decide), spo_4]
        exact ajL_4_1_2 A
      · rw [if_neg (by decide), spo_4]
        exact ajL_4_1_3 A
    · rcases (show j = 0 ∨ j = 1 ∨ j = 2 ∨ j = 3 by omega) with h | h | h | h <;> subst h
      · rw [if_neg (by decide), spo_4]
        exact ajL_4_2_0 A
      · rw [if_neg (by decide), spo_4]
        exact ajL_4_2_1 A
      · rw [if_pos rfl, spo_4]
        exact ajL_4_2_2 A
      · rw [if_neg (by decide), spo_4]
        exact ajL_4_2_3 A
    · rcases (show j = 0 ∨ j = 1 ∨ j = 2 ∨ j = 3 by omega) with h | h | h | h <;> subst h
      · rw [if_neg (by decide), spo_4]
        exact ajL_4_3_0 A
      · rw [if_neg (by decide), spo_4]
        exact ajL_4_3_1 A
      · rw [if_neg (by decide), spo_4]
        exact ajL_4_3_2 A
      · rw [if_pos rfl, spo_4]
        exact ajL_4_3_3 A
-- the common divisors divide, and are combinations
theorem gs_dv (E : Nat → Nat → Po) (k r : Nat) : ∀ (n s : Nat) (g d : Po), pd d (gs E k r n s g) → pd d g ∧ ∀ s', s ≤ s' → s' < s + n → bc r = k → bc s' = k → pd d (mi E r s')
  | 0, s, g, d, h => ⟨h, fun s' h1 h2 => by omega⟩
  | n + 1, s, g, d, h => by
    rw [gs] at h
    have ih := gs_dv E k r n (s + 1) _ d h
    by_cases q : bc r = k ∧ bc s = k
    · rw [if_pos q] at ih
      refine ⟨pd_trans ih.1 (pgcd_l _ _), fun s' h1 h2 h3 h4 => ?_⟩
      by_cases z : s' = s
      · rw [z]; exact pd_trans ih.1 (pgcd_r _ _)
      · exact ih.2 s' (by omega) (by omega) h3 h4
    · rw [if_neg q] at ih
      refine ⟨ih.1, fun s' h1 h2 h3 h4 => ?_⟩
      by_cases z : s' = s
      · rw [z] at h4; exact absurd ⟨h3, h4⟩ q
      · exact ih.2 s' (by omega) (by omega) h3 h4
theorem gr_dv (E : Nat → Nat → Po) (k : Nat) : ∀ (n r : Nat) (g d : Po), pd d (gr E k n r g) → pd d g ∧ ∀ r' s', r ≤ r' → r' < r + n → s' < 16 → bc r' = k → bc s' = k → pd d (mi E r' s')
  | 0, r, g, d, h => ⟨h, fun r' s' h1 h2 => by omega⟩
  | n + 1, r, g, d, h => by
    rw [gr] at h
    have ih := gr_dv E k n (r + 1) _ d h
    have ih2 := gs_dv E k r 16 0 g d ih.1
    refine ⟨ih2.1, fun r' s' h1 h2 h3 h4 h5 => ?_⟩
    by_cases z : r' = r
    · rw [z] at h4 ⊢; exact ih2.2 s' (by omega) (by omega) h4 h5
    · exact ih.2 r' s' (by omega) (by omega) h3 h4 h5
theorem gd_dv (E : Nat → Nat → Po) {k r s : Nat} (hr : r < 16) (hs : s < 16) (h1 : bc r = k) (h2 : bc s = k) : pd (gd E k) (mi E r s) := by
  by_cases q : k = 0
  · rw [q, gd_0]
    exact ⟨mi E r s, by rw [pMul_comm, pOne_mul]⟩
  · have := gr_dv E k 16 0 (pC 0) _ (pd_refl _)
    rw [gd_gr E q]
    exact this.2 r s (by omega) (by omega) hs h1 h2
theorem pgcd_f {d f a b : Po} (h1 : pd d (pMul f a)) (h2 : pd d (pMul f b)) : pd d (pMul f (pgcd a b)) := by
  obtain ⟨u, v, e⟩ := pgcd_bez a b
  have := pd_lin u v h1 h2
  rw [e]
  have e2 : pMul f (pAdd (pMul u a) (pMul v b)) = pAdd (pMul u (pMul f a)) (pMul v (pMul f b)) := by
    letI := pr
    simp only [hA, hM]
    grind
  rw [e2]
  exact this
theorem gs_f {E : Nat → Nat → Po} {k r : Nat} {d f : Po} : ∀ (n s : Nat) (g : Po), pd d (pMul f g) → (∀ s', s ≤ s' → s' < s + n → bc r = k → bc s' = k → pd d (pMul f (mi E r s'))) → pd d (pMul f (gs E k r n s g))
  | 0, s, g, h, _ => h
  | n + 1, s, g, h, h2 => by
    rw [gs]
    refine gs_f n (s + 1) _ ?_ (fun s' h3 h4 => h2 s' (by omega) (by omega))
    by_cases q : bc r = k ∧ bc s = k
    · rw [if_pos q]; exact pgcd_f h (h2 s (by omega) (by omega) q.1 q.2)
    · rw [if_neg q]; exact h
theorem gr_f {E : Nat → Nat → Po} {k : Nat} {d f : Po} : ∀ (n r : Nat) (g : Po), pd d (pMul f g) → (∀ r' s', r ≤ r' → r' < r + n → s' < 16 → bc r' = k → bc s' = k → pd d (pMul f (mi E r' s'))) → pd d (pMul f (gr E k n r g))
  | 0, r, g, h, _ => h
  | n + 1, r, g, h, h2 => by
    rw [gr]
    exact gr_f n (r + 1) _ (gs_f 16 0 g h (fun s' h3 h4 h5 h6 => h2 r s' (by omega) (by omega) (by omega) h5 h6)) (fun r' s' h3 h4 => h2 r' s' (by omega) (by omega))
theorem gd_f {E : Nat → Nat → Po} {k : Nat} {d f : Po} (h : ∀ r s, r < 16 → s < 16 → bc r = k → bc s = k → pd d (pMul f (mi E r s))) : pd d (pMul f (gd E k)) := by
  by_cases q : k = 0
  · have := h 0 0 (by omega) (by omega) (by rw [q]; rfl) (by rw [q]; rfl)
    rw [q, gd_0]
    exact this
  · rw [gd_gr E q]
    refine gr_f 16 0 (pC 0) ?_ (fun r' s' h1 h2 h3 h4 h5 => h r' s' (by omega) h3 h4 h5)
    rw [pMul_comm, pZero_mul]
    exact pd_0 d
