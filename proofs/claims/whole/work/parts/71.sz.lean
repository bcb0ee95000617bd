/-! the size of a polynomial, monomials, ring rows -/
theorem hA (a b : Po) : pAdd a b = (letI := pr; a + b) := rfl
theorem hM (a b : Po) : pMul a b = (letI := pr; a * b) := rfl
theorem hG (a : Po) : pNeg a = (letI := pr; - a) := rfl
theorem h0 : pC 0 = (letI := pr; (0 : Po)) := rfl
theorem h1 : pC 1 = (letI := pr; (1 : Po)) := rfl
def vl (p : Po) (j : Nat) : Nat := (co p j).val
theorem vl_lt (p : Po) (j : Nat) : vl p j < 32003 := (co p j).isLt
theorem vl_0 {p : Po} {j : Nat} : vl p j = 0 ↔ co p j = 0 := ⟨fun h => Fin.ext h, fun h => by unfold vl; rw [h]; rfl⟩
noncomputable def sz (p : Po) : Nat := dgs (vl p) (Classical.choose p.2)
theorem sz_hi {p : Po} {j : Nat} (h : sz p ≤ j) : co p j = 0 := by
  by_cases q : j < Classical.choose p.2
  · exact vl_0.mp (dgs_above _ _ _ h q)
  · exact Classical.choose_spec p.2 j (Nat.le_of_not_lt q)
theorem sz_top {p : Po} (h : sz p ≠ 0) : co p (sz p - 1) ≠ 0 := fun q => dgs_top (vl p) _ (Nat.pos_of_ne_zero h) (vl_0.mpr q)
theorem sz_le {p : Po} {n : Nat} (h : ∀ j, n ≤ j → co p j = 0) : sz p ≤ n := by
  by_cases q : sz p ≤ n
  · exact q
  · exact absurd (h (sz p - 1) (by omega)) (sz_top (by omega))
theorem sz_lt {p : Po} {j : Nat} (h : co p j ≠ 0) : j < sz p := by
  by_cases q : j < sz p
  · exact q
  · exact absurd (sz_hi (Nat.le_of_not_lt q)) h
theorem dgs_sz {p : Po} {n : Nat} (h : sz p ≤ n) : dgs (vl p) n = sz p := by
  have e := dgs_cut (vl p) n (sz p) h (fun j h1 _ => vl_0.mpr (sz_hi h1))
  rw [e]
  have d := dgs_le (vl p) (sz p)
  by_cases q : sz p = 0
  · omega
  · by_cases q2 : dgs (vl p) (sz p) ≤ sz p - 1
    · exact absurd (vl_0.mp (dgs_above (vl p) (sz p) (sz p - 1) q2 (by omega))) (sz_top q)
    · omega
theorem sz_0 {p : Po} (h : sz p = 0) : p = pC 0 := po_ext (fun j => by
  rw [sz_hi (p := p) (by omega)]
  show 0 = if j = 0 then (0 : Fp) else 0
  rw [ite_self])
theorem co_0 (j : Nat) : co (pC 0) j = 0 := by
  show (if j = 0 then (0 : Fp) else 0) = 0
  rw [ite_self]
theorem sz_z : sz (pC 0) = 0 := Nat.le_zero.mp (sz_le (fun j _ => co_0 j))
theorem sz_eq {p : Po} {n : Nat} (h : ∀ j, n ≤ j → co p j = 0) (ht : n ≠ 0 → co p (n - 1) ≠ 0) : sz p = n := by
  have a := sz_le h
  by_cases q : n = 0
  · omega
  · have b := sz_lt (ht q)
    omega
theorem co_add (p q : Po) (j : Nat) : co (pAdd p q) j = co p j + co q j := rfl
theorem co_neg (p : Po) (j : Nat) : co (pNeg p) j = - co p j := rfl
theorem co_C (c : Fp) (j : Nat) : co (pC c) j = if j = 0 then c else 0 := rfl
def mono (c : Fp) (s : Nat) : Po := ⟨fun j => if j = s then c else 0, s + 1, fun j hj => if_neg (by omega)⟩
theorem co_mono (c : Fp) (s j : Nat) : co (mono c s) j = if j = s then c else 0 := rfl
theorem co_monom (c : Fp) (s : Nat) (d : Po) (x : Nat) : co (pMul (mono c s) d) x = if s ≤ x then c * co d (x - s) else 0 := by
  show sm (fun i => (if i = s then c else 0) * co d (x - i)) (x + 1) = _
  by_cases h : s ≤ x
  · rw [if_pos h, sm_single (x + 1) s (by omega) (fun i hi hs => by rw [if_neg hs]; grind), if_pos rfl]
  · rw [if_neg h]
    exact sm_zero _ (fun i hi => by rw [if_neg (by omega)]; grind)
/-- the first n coefficients -/
def tr (p : Po) (n : Nat) : Po := ⟨fun j => if j < n then co p j else 0, n, fun j hj => if_neg (by omega)⟩
theorem co_tr (p : Po) (n j : Nat) : co (tr p n) j = if j < n then co p j else 0 := rfl
theorem tr_0 (p : Po) : tr p 0 = pC 0 := po_ext (fun j => by rw [co_tr, if_neg (Nat.not_lt_zero j), co_0])
theorem tr_succ (p : Po) (n : Nat) : tr p (n + 1) = pAdd (tr p n) (mono (co p n) n) := po_ext (fun j => by
  rw [co_add, co_tr, co_tr, co_mono]
  by_cases q : j = n
  · subst q; rw [if_pos (by omega), if_neg (by omega), if_pos rfl]; grind
  · rw [if_neg q]
    by_cases q2 : j < n
    · rw [if_pos q2, if_pos (by omega)]; grind
    · rw [if_neg q2, if_neg (by omega)]; grind)
theorem tr_all {p : Po} {n : Nat} (h : sz p ≤ n) : tr p n = p := po_ext (fun j => by
  rw [co_tr]
  by_cases q : j < n
  · rw [if_pos q]
  · rw [if_neg q, sz_hi (by omega)])
theorem fN_val {x : Nat} (h : x < 32003) : (fN x).val = x := Nat.mod_eq_of_lt h
theorem fN_co (p : Po) (j : Nat) : fN (vl p j) = co p j := Fin.ext (fN_val (vl_lt p j))
theorem fv_mul (a b : Fp) : (a * b).val = a.val * b.val % 32003 := rfl
theorem fv_add (a b : Fp) : (a + b).val = (a.val + b.val) % 32003 := rfl
theorem f_mul_ne {a b : Fp} (ha : a ≠ 0) (hb : b ≠ 0) : a * b ≠ 0 := fun q => mul_ne0 a.isLt (fun z => ha (Fin.ext z)) b.isLt (fun z => hb (Fin.ext z)) (congrArg Fin.val q)
theorem sz_add {p q : Po} {n : Nat} (h1 : sz p ≤ n) (h2 : sz q ≤ n) : sz (pAdd p q) ≤ n := sz_le (fun j hj => by rw [co_add, sz_hi (by omega), sz_hi (by omega)]; grind)
theorem sz_neg (p : Po) : sz (pNeg p) = sz p := by
  refine sz_eq (fun j hj => by rw [co_neg, sz_hi hj]; grind) (fun h q => ?_)
  have := sz_top h
  rw [co_neg] at q
  grind
theorem sz_mul_le (p q : Po) : sz (pMul p q) ≤ sz p + sz q - 1 := sz_le (fun k hk => by
  show sm (fun i => co p i * co q (k - i)) (k + 1) = 0
  refine sm_zero _ (fun i hi => ?_)
  by_cases h : sz p ≤ i
  · rw [sz_hi h]; grind
  · rw [sz_hi (p := q) (j := k - i) (by omega)]; grind)
theorem co_mul_top {p q : Po} {m n : Nat} (h1 : sz p ≤ m + 1) (h2 : sz q ≤ n + 1) : co (pMul p q) (m + n) = co p m * co q n := by
  show sm (fun i => co p i * co q (m + n - i)) (m + n + 1) = _
  rw [sm_single (m + n + 1) m (by omega) (fun i hi hm => by
    by_cases h : m < i
    · rw [sz_hi (p := p) (j := i) (by omega)]; grind
    · rw [sz_hi (p := q) (j := m + n - i) (by omega)]; grind), show m + n - m = n by omega]
theorem sz_mul {p q : Po} (h1 : sz p ≠ 0) (h2 : sz q ≠ 0) : sz (pMul p q) = sz p + sz q - 1 := by
  refine sz_eq (fun j hj => sz_hi (Nat.le_trans (sz_mul_le p q) hj)) (fun _ => ?_)
  rw [show sz p + sz q - 1 - 1 = (sz p - 1) + (sz q - 1) by omega, co_mul_top (by omega) (by omega)]
  exact f_mul_ne (sz_top h1) (sz_top h2)
theorem po_dom {p q : Po} (h : pMul p q = pC 0) (hp : p ≠ pC 0) : q = pC 0 := by
  by_cases h2 : sz q = 0
  · exact sz_0 h2
  · have h1 : sz p ≠ 0 := fun z => hp (sz_0 z)
    have := sz_mul h1 h2
    rw [h, sz_z] at this
    omega
