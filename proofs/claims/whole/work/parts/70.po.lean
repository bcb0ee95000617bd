/-! LAYER 3: sums, polynomials over the numbers modulo 32003 -/
def sm {R : Type} [Lean.Grind.CommRing R] (f : Nat → R) : Nat → R
  | 0 => 0
  | n + 1 => sm f n + f n
theorem sm_congr {R : Type} [Lean.Grind.CommRing R] {f g : Nat → R} : ∀ n, (∀ i, i < n → f i = g i) → sm f n = sm g n
  | 0, _ => rfl
  | n + 1, h => by
    unfold sm
    rw [sm_congr n (fun i hi => h i (by omega)), h n (by omega)]
theorem sm_add {R : Type} [Lean.Grind.CommRing R] (f g : Nat → R) : ∀ n, sm (fun i => f i + g i) n = sm f n + sm g n
  | 0 => by unfold sm; grind
  | n + 1 => by
    unfold sm
    rw [sm_add f g n]
    grind
theorem sm_mul {R : Type} [Lean.Grind.CommRing R] (c : R) (f : Nat → R) : ∀ n, sm (fun i => c * f i) n = c * sm f n
  | 0 => by unfold sm; grind
  | n + 1 => by
    unfold sm
    rw [sm_mul c f n]
    grind
theorem sm_zero {R : Type} [Lean.Grind.CommRing R] {f : Nat → R} : ∀ n, (∀ i, i < n → f i = 0) → sm f n = 0
  | 0, _ => rfl
  | n + 1, h => by
    unfold sm
    rw [sm_zero n (fun i hi => h i (by omega)), h n (by omega)]
    grind
theorem sm_left {R : Type} [Lean.Grind.CommRing R] (f : Nat → R) : ∀ n, sm f (n + 1) = f 0 + sm (fun i => f (i + 1)) n
  | 0 => by unfold sm sm; grind
  | n + 1 => by
    rw [sm, sm_left f n]
    conv => rhs; rw [sm]
    grind
theorem sm_rev {R : Type} [Lean.Grind.CommRing R] : ∀ (n : Nat) (f : Nat → R), sm f n = sm (fun i => f (n - 1 - i)) n
  | 0, _ => rfl
  | n + 1, f => by
    rw [sm_left f n, sm_rev n]
    conv => rhs; rw [sm]
    rw [sm_congr (g := fun i => f (n + 1 - 1 - i)) n (fun i hi => by
      show f (n - 1 - i + 1) = f (n + 1 - 1 - i)
      rw [show n - 1 - i + 1 = n + 1 - 1 - i by omega])]
    rw [show n + 1 - 1 - n = 0 by omega]
    grind
theorem sm_tri {R : Type} [Lean.Grind.CommRing R] (g : Nat → Nat → R) : ∀ n, sm (fun i => sm (fun j => g i j) (i + 1)) n = sm (fun j => sm (fun l => g (j + l) j) (n - j)) n
  | 0 => rfl
  | n + 1 => by
    rw [sm, sm_tri g n]
    have e : sm (fun j => sm (fun l => g (j + l) j) (n + 1 - j)) (n + 1) = sm (fun j => sm (fun l => g (j + l) j) (n - j) + g n j) (n + 1) := by
      refine sm_congr _ (fun j hj => ?_)
      show sm (fun l => g (j + l) j) (n + 1 - j) = _
      rw [show n + 1 - j = (n - j) + 1 by omega, sm, show j + (n - j) = n by omega]
    rw [e, sm_add]
    have e2 : sm (fun j => sm (fun l => g (j + l) j) (n - j)) (n + 1) = sm (fun j => sm (fun l => g (j + l) j) (n - j)) n := by
      rw [sm, Nat.sub_self]
      show _ + 0 = _
      grind
    rw [e2]
theorem sm_single {R : Type} [Lean.Grind.CommRing R] {f : Nat → R} : ∀ n k, k < n → (∀ i, i < n → i ≠ k → f i = 0) → sm f n = f k
  | 0, k, h, _ => absurd h (Nat.not_lt_zero k)
  | n + 1, k, h, hz => by
    unfold sm
    by_cases q : k = n
    · rw [sm_zero n (fun i hi => hz i (by omega) (by omega)), q]
      grind
    · rw [sm_single n k (by omega) (fun i hi hk => hz i (by omega) hk), hz n (by omega) (Ne.symm q)]
      grind
theorem sm_more {R : Type} [Lean.Grind.CommRing R] {f : Nat → R} {n : Nat} : ∀ m, (∀ i, n ≤ i → i < n + m → f i = 0) → sm f (n + m) = sm f n
  | 0, _ => rfl
  | m + 1, h => by
    rw [← Nat.add_assoc, sm, sm_more m (fun i h1 h2 => h i h1 (by omega)), h (n + m) (by omega) (by omega)]
    grind
theorem sm_swap {R : Type} [Lean.Grind.CommRing R] (g : Nat → Nat → R) (m : Nat) : ∀ n, sm (fun i => sm (fun j => g i j) m) n = sm (fun j => sm (fun i => g i j) n) m
  | 0 => by rw [sm]; exact (sm_zero m (fun i _ => rfl)).symm
  | n + 1 => by
    rw [sm, sm_swap g m n, ← sm_add]
    rfl
-- polynomials
abbrev Fp : Type := Fin 32003
def Po : Type := {c : Nat → Fp // ∃ n, ∀ j, n ≤ j → c j = 0}
def co (p : Po) (j : Nat) : Fp := p.1 j
theorem po_ext {p q : Po} (h : ∀ j, co p j = co q j) : p = q := Subtype.ext (funext h)
def pAdd (p q : Po) : Po := ⟨fun j => co p j + co q j, by
  obtain ⟨n, hn⟩ := p.2
  obtain ⟨m, hm⟩ := q.2
  refine ⟨max n m, fun j hj => ?_⟩
  have h1 : co p j = 0 := hn j (by omega)
  have h2 : co q j = 0 := hm j (by omega)
  show co p j + co q j = 0
  rw [h1, h2]
  grind⟩
def pNeg (p : Po) : Po := ⟨fun j => - co p j, by
  obtain ⟨n, hn⟩ := p.2
  refine ⟨n, fun j hj => ?_⟩
  have h1 : co p j = 0 := hn j (by omega)
  show - co p j = 0
  rw [h1]
  grind⟩
def pC (c : Fp) : Po := ⟨fun j => if j = 0 then c else 0, 1, fun j hj => if_neg (by omega)⟩
def pMul (p q : Po) : Po := ⟨fun k => sm (fun i => co p i * co q (k - i)) (k + 1), by
  obtain ⟨n, hn⟩ := p.2
  obtain ⟨m, hm⟩ := q.2
  refine ⟨n + m, fun j hj => sm_zero _ (fun i hi => ?_)⟩
  by_cases h : n ≤ i
  · have h1 : co p i = 0 := hn i h
    rw [h1]; grind
  · have h1 : co q (j - i) = 0 := hm _ (by omega)
    rw [h1]; grind⟩
def pPow (p : Po) : Nat → Po
  | 0 => pC 1
  | n + 1 => pMul (pPow p n) p
def fN (n : Nat) : Fp := Fin.ofNat 32003 n
def pInt (i : Int) : Po := match i with
  | .ofNat n => pC (fN n)
  | .negSucc n => pNeg (pC (fN (n + 1)))
theorem pAdd_comm (a b : Po) : pAdd a b = pAdd b a := po_ext (fun j => by show co a j + co b j = co b j + co a j; grind)
theorem pAdd_assoc (a b c : Po) : pAdd (pAdd a b) c = pAdd a (pAdd b c) := po_ext (fun j => by show co a j + co b j + co c j = co a j + (co b j + co c j); grind)
theorem pMul_comm (a b : Po) : pMul a b = pMul b a := po_ext (fun k => by
  show sm (fun i => co a i * co b (k - i)) (k + 1) = sm (fun i => co b i * co a (k - i)) (k + 1)
  rw [sm_rev]
  refine sm_congr _ (fun i hi => ?_)
  show co a (k + 1 - 1 - i) * co b (k - (k + 1 - 1 - i)) = _
  rw [show k + 1 - 1 - i = k - i by omega, show k - (k - i) = i by omega]
  grind)
theorem pMul_assoc (a b c : Po) : pMul (pMul a b) c = pMul a (pMul b c) := po_ext (fun k => by
  show sm (fun i => sm (fun j => co a j * co b (i - j)) (i + 1) * co c (k - i)) (k + 1) = sm (fun j => co a j * sm (fun l => co b l * co c (k - j - l)) (k - j + 1)) (k + 1)
  have e1 : sm (fun i => sm (fun j => co a j * co b (i - j)) (i + 1) * co c (k - i)) (k + 1) = sm (fun i => sm (fun j => co a j * co b (i - j) * co c (k - i)) (i + 1)) (k + 1) := by
    refine sm_congr _ (fun i hi => ?_)
    show _ = sm (fun j => co a j * co b (i - j) * co c (k - i)) (i + 1)
    have e := sm_mul (co c (k - i)) (fun j => co a j * co b (i - j)) (i + 1)
    show sm (fun j => co a j * co b (i - j)) (i + 1) * co c (k - i) = _
    rw [Lean.Grind.CommSemiring.mul_comm, ← e]
    exact sm_congr _ (fun j _ => by grind)
  rw [e1, sm_tri (fun i j => co a j * co b (i - j) * co c (k - i))]
  refine sm_congr _ (fun j hj => ?_)
  show sm (fun l => co a j * co b (j + l - j) * co c (k - (j + l))) (k + 1 - j) = _
  rw [← sm_mul, show k + 1 - j = k - j + 1 by omega]
  refine sm_congr _ (fun l hl => ?_)
  show co a j * co b (j + l - j) * co c (k - (j + l)) = co a j * (co b l * co c (k - j - l))
  rw [show j + l - j = l by omega, show k - (j + l) = k - j - l by omega]
  grind)
theorem pC_mul_co (c : Fp) (p : Po) (k : Nat) : co (pMul (pC c) p) k = c * co p k := by
  show sm (fun i => co (pC c) i * co p (k - i)) (k + 1) = _
  rw [sm_single (k + 1) 0 (by omega) (fun i hi h0 => by
    show (if i = 0 then c else 0) * co p (k - i) = 0
    rw [if_neg h0]; grind)]
  rfl
theorem pOne_mul (p : Po) : pMul (pC 1) p = p := po_ext (fun k => by rw [pC_mul_co]; grind)
theorem pZero_mul (p : Po) : pMul (pC 0) p = pC 0 := po_ext (fun k => by
  rw [pC_mul_co]
  show 0 * co p k = if k = 0 then 0 else 0
  rw [ite_self]; grind)
theorem pMul_add (a b c : Po) : pMul a (pAdd b c) = pAdd (pMul a b) (pMul a c) := po_ext (fun k => by
  show sm (fun i => co a i * (co b (k - i) + co c (k - i))) (k + 1) = sm (fun i => co a i * co b (k - i)) (k + 1) + sm (fun i => co a i * co c (k - i)) (k + 1)
  rw [← sm_add]
  refine sm_congr _ (fun i _ => ?_)
  show co a i * (co b (k - i) + co c (k - i)) = co a i * co b (k - i) + co a i * co c (k - i)
  grind)
theorem pAdd_zero (p : Po) : pAdd p (pC 0) = p := po_ext (fun j => by
  show co p j + (if j = 0 then 0 else 0) = co p j
  rw [ite_self]; grind)
theorem pNeg_add (p : Po) : pAdd (pNeg p) p = pC 0 := po_ext (fun j => by
  show - co p j + co p j = if j = 0 then 0 else 0
  rw [ite_self]; grind)
theorem fN_succ (n : Nat) : fN (n + 1) = fN n + 1 := by
  apply Fin.ext
  show (n + 1) % 32003 = (n % 32003 + 1 % 32003) % 32003
  omega
theorem pInt_neg (i : Int) : pInt (-i) = pNeg (pInt i) := by
  have hz : pNeg (pC 0) = pC 0 := po_ext (fun j => by
    show - (if j = 0 then (0 : Fp) else 0) = if j = 0 then 0 else 0
    rw [ite_self]; grind)
  match i with
  | .ofNat 0 => exact hz.symm
  | .ofNat (n + 1) => rfl
  | .negSucc n =>
    show pC (fN (n + 1)) = pNeg (pNeg (pC (fN (n + 1))))
    exact po_ext (fun j => by show _ = - - co (pC (fN (n + 1))) j; grind)
theorem pNeg_mul (a b : Po) : pMul (pNeg a) b = pNeg (pMul a b) := po_ext (fun k => by
  show sm (fun i => - co a i * co b (k - i)) (k + 1) = - sm (fun i => co a i * co b (k - i)) (k + 1)
  have e := sm_mul (-1 : Fp) (fun i => co a i * co b (k - i)) (k + 1)
  rw [show - sm (fun i => co a i * co b (k - i)) (k + 1) = -1 * sm (fun i => co a i * co b (k - i)) (k + 1) by grind, ← e]
  exact sm_congr _ (fun i _ => by grind))
def pr : Lean.Grind.CommRing Po where
  add := pAdd
  mul := pMul
  neg := pNeg
  sub a b := pAdd a (pNeg b)
  natCast := ⟨fun n => pC (fN n)⟩
  ofNat n := ⟨pC (fN n)⟩
  nsmul := ⟨fun n a => pMul (pC (fN n)) a⟩
  npow := ⟨pPow⟩
  intCast := ⟨pInt⟩
  zsmul := ⟨fun i a => pMul (pInt i) a⟩
  add_zero := pAdd_zero
  add_comm := pAdd_comm
  add_assoc := pAdd_assoc
  mul_assoc := pMul_assoc
  mul_one a := by
    show pMul a (pC 1) = a
    rw [pMul_comm]; exact pOne_mul a
  one_mul := pOne_mul
  left_distrib := pMul_add
  right_distrib a b c := by
    show pMul (pAdd a b) c = pAdd (pMul a c) (pMul b c)
    rw [pMul_comm, pMul_add, pMul_comm c a, pMul_comm c b]
  zero_mul := pZero_mul
  mul_zero a := by
    show pMul a (pC 0) = pC 0
    rw [pMul_comm]; exact pZero_mul a
  pow_zero _ := rfl
  pow_succ _ _ := rfl
  ofNat_succ n := by
    show pC (fN (n + 1)) = pAdd (pC (fN n)) (pC (fN 1))
    refine po_ext (fun j => ?_)
    show (if j = 0 then fN (n + 1) else 0) = (if j = 0 then fN n else 0) + (if j = 0 then fN 1 else 0)
    rw [fN_succ]
    by_cases q : j = 0
    · rw [if_pos q, if_pos q, if_pos q]; rfl
    · rw [if_neg q, if_neg q, if_neg q]; grind
  neg_add_cancel := pNeg_add
  sub_eq_add_neg _ _ := rfl
  neg_zsmul i a := by
    show pMul (pInt (-i)) a = pNeg (pMul (pInt i) a)
    rw [pInt_neg, pNeg_mul]
  zsmul_natCast_eq_nsmul _ _ := rfl
  intCast_ofNat _ := rfl
  intCast_neg := pInt_neg
  mul_comm := pMul_comm
