/-! Matrix -/
def MX (m : Hp) (M len : Nat) : Prop := m M = some (.inr (4, [.ref (M + 1)])) ∧ (∃ f, m (M + 1) = some (.inl (5, 4, .inr (.inr (.inr (.inr f))))) ∧ ∀ j, j < 4 → f j = some (M + 2 + 10 * j)) ∧ np M ∧ np (M + 1) ∧ ∀ i, i < 4 → RO m (M + 2 + 10 * i) len
theorem MX.g {m : Hp} {M len : Nat} (w : MX m M len) (P : Nat → Po) : gR (conc P m) M 4 0 = some (M + 1) := cm_gR w.2.2.1 w.1 rfl
theorem MX.ck {m : Hp} {M len : Nat} (w : MX m M len) (P : Nat → Po) : cK (conc P m) M 4 = some () := cm_cK w.2.2.1 w.1
theorem MX.a {m : Hp} {M len : Nat} (w : MX m M len) (P : Nat → Po) {j : Nat} (hj : j < 4) : aR (conc P m) (M + 1) 5 (nI j) = some (M + 2 + 10 * j) := by
  obtain ⟨f, h1, h2⟩ := w.2.1
  exact cm_aR w.2.2.2.1 h1 hj (by decide) (h2 j hj)
theorem MX.r {m : Hp} {M len : Nat} (w : MX m M len) {i : Nat} (hi : i < 4) : RO m (M + 2 + 10 * i) len := w.2.2.2.2 i hi
/-- the address of a Matrix's cell -/
abbrev ce (M i j : Nat) : Nat := M + 2 + 10 * i + 2 + 2 * j
theorem cell_c {N : Nat} {P : Nat → Po} {m : Hp} {M len i j : Nat} (w : MX m M len) (hi : i < 4) (hj : j < 4) : fX2_cell N M (nI i) (nI j) (conc P m) = some (ce M i j, conc P m) := by
  unfold fX2_cell
  simp only [w.g, Option.bind_some, w.a _ hi, (w.r hi).g, (w.r hi).a _ hj]
theorem mclear_l {N M len : Nat} {m : Hp} (hN : 1000 ≤ N) (mx : MX m M len) : ∀ (k n i : Nat) (P : Nat → Po), i + k = 4 → k < n → FT P → ∃ P', lX2_clear_2 N M n (nI i) (conc P m) (fun _ h2 => some h2) = some (conc P' m) ∧ FT P' ∧ (∀ a b, i ≤ a → a < 4 → b < 4 → P' (ce M a b) = pC 0) ∧ (∀ x, (∀ a b, i ≤ a → a < 4 → b < 4 → x ≠ ce M a b) → P' x = P x)
  | k, 0, i, P, _, hn, _ => absurd hn (Nat.not_lt_zero _)
  | 0, n + 1, i, P, hk, hn, w => by
    refine ⟨P, ?_, w, fun a b h1 h2 => by omega, fun _ _ => rfl⟩
    rw [lX2_clear_2]
    show (if nI 4 ≤ nI i then _ else _) = _
    rw [if_pos ((le_n (by omega) (by omega)).mpr (by omega))]
  | k + 1, n + 1, i, P, hk, hn, w => by
    obtain ⟨P1, c1, c2, c3, c4⟩ := rclear_c hN w (mx.r (i := i) (by omega))
    obtain ⟨P', g1, g2, g3, g4⟩ := mclear_l hN mx k n (i + 1) _ (by omega) (by omega) c2
    refine ⟨P', ?_, g2, fun a b h1 h2 h3 => ?_, fun x hx => ?_⟩
    · rw [lX2_clear_2]
      show (if nI 4 ≤ nI i then _ else _) = _
      rw [if_neg (fun z => by have := (le_n (by omega) (by omega)).mp z; omega)]
      simp only [mx.g, Option.bind_some, mx.a _ (show i < 4 by omega), (mx.r (show i < 4 by omega)).ck, c1]
      show lX2_clear_2 N M n (nI i + 1) _ _ = _
      rw [nI_1]
      exact g1
    · by_cases q : a = i
      · rw [q, g4 _ (fun c d h1 h2 h3 => by show M + 2 + 10 * i + 2 + 2 * b ≠ M + 2 + 10 * c + 2 + 2 * d; omega)]
        exact c3 b h3
      · exact g3 a b (by omega) h2 h3
    · rw [g4 x (fun a b h1 h2 h3 => hx a b (by omega) h2 h3), c4 x (fun j hj => hx i j (Nat.le_refl _) (by omega) hj)]
theorem mclear_c {N : Nat} (hN : 1000 ≤ N) {P : Nat → Po} {m : Hp} (w : FT P) {M len : Nat} (mx : MX m M len) : ∃ P', fX2_clear N M (conc P m) = some (conc P' m) ∧ FT P' ∧ (∀ a b, a < 4 → b < 4 → P' (ce M a b) = pC 0) ∧ (∀ x, (∀ a b, a < 4 → b < 4 → x ≠ ce M a b) → P' x = P x) := by
  obtain ⟨P', g1, g2, g3, g4⟩ := mclear_l hN mx 4 N 0 P rfl (by omega) w
  exact ⟨P', g1, g2, fun a b h1 h2 => g3 a b (by omega) h1 h2, fun x h => g4 x (fun a b _ h2 h3 => h a b h2 h3)⟩
/-! minors, as class and reference reckon them -/
def bc (n : Nat) : Nat := n % 2 + n / 2 % 2 + n / 4 % 2 + n / 8 % 2
def lowf (r : Nat) : Nat → Nat → Nat
  | 0, c => c
  | k + 1, c => if r / 2 ^ c % 2 = 0 then lowf r k (c + 1) else c
def low (r : Nat) : Nat := lowf r 3 0
noncomputable def exq (g : Nat → Po) (s : Nat) : Nat → Nat → Fp → Po → Po
  | 0, _, _, acc => acc
  | k + 1, c, sg, acc => if s / 2 ^ c % 2 = 1 then exq g s k (c + 1) (- sg) (pAdd acc (pMul (pC sg) (g c))) else exq g s k (c + 1) sg acc
noncomputable def mnr (A : Nat → Nat → Po) : Nat → Nat → Nat → Po
  | 0, _, _ => pC 1
  | n + 1, r, s => exq (fun c => pMul (A (low r) c) (mnr A n (r - 2 ^ low r) (s - 2 ^ c))) s 4 0 1 (pC 0)
/-- the minor of the rows r and the columns s -/
noncomputable def mi (A : Nat → Nat → Po) (r s : Nat) : Po := mnr A (bc r) r s
theorem exq_congr {g g' : Nat → Po} {s : Nat} : ∀ (k c : Nat) (sg : Fp) (acc : Po), (∀ x, c ≤ x → x < c + k → s / 2 ^ x % 2 = 1 → g x = g' x) → exq g s k c sg acc = exq g' s k c sg acc
  | 0, _, _, _, _ => rfl
  | k + 1, c, sg, acc, h => by
    rw [exq, exq]
    by_cases q : s / 2 ^ c % 2 = 1
    · rw [if_pos q, if_pos q, h c (by omega) (by omega) q]
      exact exq_congr k (c + 1) _ _ (fun x h1 h2 => h x (by omega) (by omega))
    · rw [if_neg q, if_neg q]
      exact exq_congr k (c + 1) _ _ (fun x h1 h2 => h x (by omega) (by omega))
theorem sz_C (c : Fp) : sz (pC c) ≤ 1 := sz_le (fun j hj => by rw [co_C, if_neg (by omega)])
theorem sz_Cmul (c : Fp) (p : Po) : sz (pMul (pC c) p) ≤ sz p := sz_le (fun j hj => by rw [co_Cmul, sz_hi hj]; grind)
theorem exq_sz {g : Nat → Po} {s n : Nat} : ∀ (k c : Nat) (sg : Fp) (acc : Po), sz acc ≤ n → (∀ x, c ≤ x → x < c + k → s / 2 ^ x % 2 = 1 → sz (g x) ≤ n) → sz (exq g s k c sg acc) ≤ n
  | 0, _, _, _, h, _ => h
  | k + 1, c, sg, acc, h, h2 => by
    rw [exq]
    by_cases q : s / 2 ^ c % 2 = 1
    · rw [if_pos q]
      exact exq_sz k (c + 1) _ _ (sz_add h (Nat.le_trans (sz_Cmul _ _) (h2 c (by omega) (by omega) q))) (fun x h3 h4 => h2 x (by omega) (by omega))
    · rw [if_neg q]
      exact exq_sz k (c + 1) _ _ h (fun x h3 h4 => h2 x (by omega) (by omega))
theorem mnr_sz {A : Nat → Nat → Po} (hA : ∀ i j, sz (A i j) ≤ 4) : ∀ (n r s : Nat), sz (mnr A n r s) ≤ 3 * n + 1
  | 0, r, s => by rw [mnr]; exact sz_C 1
  | n + 1, r, s => by
    rw [mnr]
    refine exq_sz _ _ _ _ (by rw [sz_z]; omega) (fun x _ _ _ => ?_)
    have h1 := sz_mul_le (A (low r) x) (mnr A n (r - 2 ^ low r) (s - 2 ^ x))
    have h2 := hA (low r) x
    have h3 := mnr_sz hA n (r - 2 ^ low r) (s - 2 ^ x)
    omega
/-- which choices of rows and columns are as many -/
def sq (i : Nat) : Bool := bc (i / 16) == bc (i % 16)
def sqc : Nat → Nat
  | 0 => 0
  | n + 1 => sqc n + (if sq n then 1 else 0)
def mo (i : Nat) : Nat := if sq i then 4 + 2 * sqc i else 2
theorem sqc_le : ∀ {i j : Nat}, i ≤ j → sqc i ≤ sqc j
  | i, 0, h => by rw [show i = 0 by omega]; exact Nat.le_refl _
  | i, j + 1, h => by
    by_cases q : i = j + 1
    · rw [q]; exact Nat.le_refl _
    · rw [sqc]
      have := sqc_le (i := i) (j := j) (by omega)
      omega
theorem sqc_lt {i j : Nat} (h : i < j) (q : sq i = true) : sqc i < sqc j := by
  have := sqc_le (i := i + 1) (j := j) h
  rw [sqc, if_pos q] at this
  omega
set_option maxRecDepth 100000 in
theorem sqc_256 : sqc 256 = 70 := by decide +kernel
theorem mo_ne {i j : Nat} (h : i < j) (qi : sq i = true) (qj : sq j = true) : mo i ≠ mo j := by
  unfold mo
  rw [if_pos qi, if_pos qj]
  have := sqc_lt h qi
  omega
theorem mo_sq {i : Nat} (hi : i < 256) (q : sq i = true) : ∃ k, k < 70 ∧ mo i = 4 + 2 * k := ⟨sqc i, by have := sqc_lt hi q; rw [sqc_256] at this; exact this, by unfold mo; rw [if_pos q]⟩
theorem sq_of {r s : Nat} (hs : s < 16) (h : bc r = bc s) : sq (16 * r + s) = true := by
  unfold sq
  rw [show (16 * r + s) / 16 = r by omega, show (16 * r + s) % 16 = s by omega, h]
  exact beq_self_eq_true _
