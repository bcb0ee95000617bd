/-! LAYER 2: numbers, the pure heap's reads and writes, a Polynomial's cells -/
def dgs (c : Nat → Nat) : Nat → Nat
  | 0 => 0
  | n + 1 => if c n = 0 then dgs c n else n + 1
theorem dgs_le (c : Nat → Nat) : ∀ n, dgs c n ≤ n
  | 0 => Nat.le_refl _
  | n + 1 => by
    unfold dgs
    split
    · exact Nat.le_succ_of_le (dgs_le c n)
    · exact Nat.le_refl _
theorem dgs_above (c : Nat → Nat) : ∀ n j, dgs c n ≤ j → j < n → c j = 0
  | 0, j, _, h => absurd h (Nat.not_lt_zero j)
  | n + 1, j, h1, h2 => by
    unfold dgs at h1
    split at h1
    · rename_i hz
      by_cases hj : j = n
      · rw [hj]; exact hz
      · exact dgs_above c n j h1 (by omega)
    · omega
theorem dgs_top (c : Nat → Nat) : ∀ n, 0 < dgs c n → c (dgs c n - 1) ≠ 0
  | 0, h => absurd h (Nat.not_lt_zero 0)
  | n + 1, h => by
    unfold dgs at h ⊢
    split
    · rename_i hz
      rw [if_pos hz] at h
      exact dgs_top c n h
    · rename_i hz
      simpa using hz
/-- a degree as the machine has it: one less than the number of coefficients up to the highest that isn't 0 -/
def dI (s : Nat) : Int32 := nI s - 1
theorem dI_toInt {s : Nat} (h : s < 2 ^ 30) : (dI s).toInt = (s : Int) - 1 := by
  have := pk_sub_toInt (a := s) (b := 1) h (by decide)
  exact this
theorem dI_lt_nI {s j : Nat} (hs : s < 2 ^ 30) (hj : j < 2 ^ 30) : dI s < nI j ↔ s ≤ j := by
  rw [Int32.lt_iff_toInt_lt, dI_toInt hs, nI_toInt (by omega)]; omega
theorem nI_le_dI {s j : Nat} (hs : s < 2 ^ 30) (hj : j < 2 ^ 30) : nI j ≤ dI s ↔ j < s := by
  rw [Int32.le_iff_toInt_le, dI_toInt hs, nI_toInt (by omega)]; omega
theorem dI_lt_0 {s : Nat} (hs : s < 2 ^ 30) : dI s < 0 ↔ s = 0 := by
  rw [Int32.lt_iff_toInt_lt, dI_toInt hs, Int32.toInt_zero]; omega
theorem dI_succ (s : Nat) : dI (s + 1) = nI s := nI_pred s
theorem dI_0 : dI 0 = -1 := by decide
-- reads and writes
theorem gI_of {h : Hp} {a ci k : Nat} {fs : List Value} {v : Int32} (e : h a = some (.inr (ci, fs))) (q : fs[k]? = some (.int v)) : gI h a ci k = some v := by
  unfold gI; rw [e]; simp [q]
theorem gR_of {h : Hp} {a ci k : Nat} {fs : List Value} {v : Nat} (e : h a = some (.inr (ci, fs))) (q : fs[k]? = some (.ref v)) : gR h a ci k = some v := by
  unfold gR; rw [e]; simp [q]
theorem pV_of {h : Hp} {a ci k : Nat} {fs : List Value} {v : Value} (e : h a = some (.inr (ci, fs))) (q : k < fs.length) : pV h a ci k v = some (hset h a (.inr (ci, fs.set k v))) := by
  unfold pV; rw [e]; simp [q]
theorem cK_of {h : Hp} {a ci : Nat} {fs : List Value} (e : h a = some (.inr (ci, fs))) : cK h a ci = some () := by
  unfold cK; rw [e]; simp
theorem ix_ok {n j : Nat} (hj : j < n) (hn : n < 2 ^ 31) : ¬ (nI j < 0 ∨ n ≤ (nI j).toNatClampNeg) := nI_in hj hn
theorem aI_of {h : Hp} {a n j : Nat} {f : Nat → Int32} (e : h a = some (.inl (0, n, .inl f))) (hj : j < n) (hn : n < 2 ^ 31) : aI h a (nI j) = some (f j) := by
  unfold aI; rw [e]
  show (if 0 = 0 ∧ ¬ (nI j < 0 ∨ n ≤ (nI j).toNatClampNeg) then some (f (nI j).toNatClampNeg) else none) = some (f j)
  rw [if_pos ⟨rfl, ix_ok hj hn⟩, nI_clamp (by omega)]
theorem aIs_of {h : Hp} {a n j : Nat} {f : Nat → Int32} {x : Int32} (e : h a = some (.inl (0, n, .inl f))) (hj : j < n) (hn : n < 2 ^ 31) : aIs h a (nI j) x = some (hset h a (.inl (0, n, .inl (upd f j x)))) := by
  unfold aIs; rw [e]
  show (if 0 = 0 ∧ ¬ (nI j < 0 ∨ n ≤ (nI j).toNatClampNeg) then some (hset h a (.inl (0, n, .inl (upd f (nI j).toNatClampNeg x)))) else none) = _
  rw [if_pos ⟨rfl, ix_ok hj hn⟩, nI_clamp (by omega)]
theorem aZ_of {h : Hp} {a n j : Nat} {f : Nat → Int32} (e : h a = some (.inl (2, n, .inl f))) (hj : j < n) (hn : n < 2 ^ 31) : aZ h a (nI j) = some (f j) := by
  unfold aZ; rw [e]
  show (if 2 = 2 ∧ ¬ (nI j < 0 ∨ n ≤ (nI j).toNatClampNeg) then some (f (nI j).toNatClampNeg) else none) = some (f j)
  rw [if_pos ⟨rfl, ix_ok hj hn⟩, nI_clamp (by omega)]
theorem aZs_of {h : Hp} {a n j : Nat} {f : Nat → Int32} {x : Int32} (e : h a = some (.inl (2, n, .inl f))) (hj : j < n) (hn : n < 2 ^ 31) : aZs h a (nI j) x = some (hset h a (.inl (2, n, .inl (upd f j (vp_nar .boolean x))))) := by
  unfold aZs; rw [e]
  show (if 2 = 2 ∧ ¬ (nI j < 0 ∨ n ≤ (nI j).toNatClampNeg) then some (hset h a (.inl (2, n, .inl (upd f (nI j).toNatClampNeg (vp_nar .boolean x))))) else none) = _
  rw [if_pos ⟨rfl, ix_ok hj hn⟩, nI_clamp (by omega)]
theorem aR_of {h : Hp} {a t n j r : Nat} {f : Nat → Option Nat} (e : h a = some (.inl (t, n, .inr (.inr (.inr (.inr f)))))) (hj : j < n) (hn : n < 2 ^ 31) (hr : f j = some r) : aR h a t (nI j) = some r := by
  unfold aR; rw [e]
  show (if t = t ∧ ¬ (nI j < 0 ∨ n ≤ (nI j).toNatClampNeg) then f (nI j).toNatClampNeg else none) = some r
  rw [if_pos ⟨rfl, ix_ok hj hn⟩, nI_clamp (by omega), hr]
theorem aLen_of {h : Hp} {a t : Nat} {x : vp_A} (e : h a = some (.inl (t, x))) : aLen h a t = some (nI x.1) := by
  unfold aLen; rw [e]; simp; rfl
-- a Polynomial at a, its row at a + 1: len places, coefficients c
def PA (h : Hp) (a len : Nat) (c : Nat → Nat) : Prop := ∃ f : Nat → Int32, h a = some (.inr (6, [.ref (a + 1), .int (dI (dgs c len))])) ∧ h (a + 1) = some (.inl (0, len, .inl f)) ∧ (∀ j, f j = nI (c j)) ∧ (∀ j, c j < 32003) ∧ (∀ j, len ≤ j → c j = 0) ∧ len < 1000
theorem PA.deg {h : Hp} {a len : Nat} {c : Nat → Nat} (w : PA h a len c) : gI h a 6 1 = some (dI (dgs c len)) := by
  obtain ⟨f, h1, -⟩ := w
  exact gI_of h1 rfl
theorem PA.row {h : Hp} {a len : Nat} {c : Nat → Nat} (w : PA h a len c) : gR h a 6 0 = some (a + 1) := by
  obtain ⟨f, h1, -⟩ := w
  exact gR_of h1 rfl
theorem PA.ck {h : Hp} {a len : Nat} {c : Nat → Nat} (w : PA h a len c) : cK h a 6 = some () := by
  obtain ⟨f, h1, -⟩ := w
  exact cK_of h1
theorem PA.at {h : Hp} {a len j : Nat} {c : Nat → Nat} (w : PA h a len c) (hj : j < len) : aI h (a + 1) (nI j) = some (nI (c j)) := by
  obtain ⟨f, h1, h2, h3, h4, h5, h6⟩ := w
  rw [aI_of h2 hj (by omega), h3 j]
theorem PA.alen {h : Hp} {a len : Nat} {c : Nat → Nat} (w : PA h a len c) : aLen h (a + 1) 0 = some (nI len) := by
  obtain ⟨f, h1, h2, -⟩ := w
  exact aLen_of h2
theorem PA.lt {h : Hp} {a len : Nat} {c : Nat → Nat} (w : PA h a len c) : len < 1000 := by
  obtain ⟨f, h1, h2, h3, h4, h5, h6⟩ := w
  exact h6
theorem PA.hi {h : Hp} {a len : Nat} {c : Nat → Nat} (w : PA h a len c) {j : Nat} (hj : dgs c len ≤ j) : c j = 0 := by
  obtain ⟨f, h1, h2, h3, h4, h5, h6⟩ := w
  by_cases q : j < len
  · exact dgs_above c len j hj q
  · exact h5 j (Nat.le_of_not_lt q)
theorem PA.bd {h : Hp} {a len : Nat} {c : Nat → Nat} (w : PA h a len c) (j : Nat) : c j < 32003 := by
  obtain ⟨f, h1, h2, h3, h4, h5, h6⟩ := w
  exact h4 j
theorem PA.keep {h h' : Hp} {a len : Nat} {c : Nat → Nat} (w : PA h a len c) (e1 : h' a = h a) (e2 : h' (a + 1) = h (a + 1)) : PA h' a len c := by
  obtain ⟨f, h1, h2, h3⟩ := w
  exact ⟨f, by rw [e1]; exact h1, by rw [e2]; exact h2, h3⟩
/-- two Polynomials lie apart -/
theorem PA.apart {h : Hp} {a b la lb : Nat} {ca cb : Nat → Nat} (wa : PA h a la ca) (wb : PA h b lb cb) (n : a ≠ b) : a ≠ b + 1 ∧ a + 1 ≠ b := by
  obtain ⟨f, h1, h2, -⟩ := wa
  obtain ⟨g, g1, g2, -⟩ := wb
  refine ⟨fun q => ?_, fun q => ?_⟩
  · rw [q, g2] at h1; cases h1
  · rw [q, g1] at h2; cases h2
/-- the number at a power of any size -/
def cf (c : Nat → Nat) (x : Int32) : Int32 := if x < 0 then 0 else nI (c x.toNatClampNeg)
theorem numberAt_s {N : Nat} {h : Hp} {a len : Nat} {c : Nat → Nat} (w : PA h a len c) (x : Int32) : fX4_numberAt N a x h = some (cf c x, h) := by
  have hs : dgs c len < 2 ^ 30 := by have := dgs_le c len; have := w.lt; omega
  unfold fX4_numberAt jn cf
  dsimp only
  by_cases hx : x < 0
  · rw [if_pos hx, if_pos hx]
  · rw [if_neg hx, if_neg hx, w.deg]
    obtain ⟨j, hj, rfl⟩ := nI_of hx
    show (if nI j ≤ dI (dgs c len) then _ else _) = _
    rw [nI_clamp hj]
    by_cases hd : nI j ≤ dI (dgs c len)
    · rw [if_pos hd, w.row]
      have hjs : j < dgs c len := by
        rw [Int32.le_iff_toInt_le, dI_toInt hs, nI_toInt hj] at hd; omega
      show ((aI h (a + 1) (nI j)).bind _) = _
      rw [w.at (by have := dgs_le c len; omega)]
      rfl
    · rw [if_neg hd]
      have hjs : dgs c len ≤ j := by
        rw [Int32.le_iff_toInt_le, dI_toInt hs, nI_toInt hj] at hd; omega
      rw [w.hi hjs]
      rfl
