/-! how often x less a number divides; minors at that number -/
def VA (ρ : Fp) (p : Po) (e : Nat) : Prop := ∃ u, p = pMul (pPow (xs (- ρ)) e) u ∧ ev u ρ ≠ 0
section VAL
variable {ρ : Fp}
theorem xs_r : ev (xs (- ρ)) ρ = 0 := by
  rw [ev_xs]
  grind
theorem pp_ne (e : Nat) : pPow (xs (- ρ)) e ≠ pC 0 := sz_ne (by rw [(xs_pow (- ρ) e).1]; omega)
theorem ev_pC0 (a : Fp) : ev (pC 0) a = 0 := ev_C 0 a
theorem va_ne {p : Po} {e : Nat} (h : VA ρ p e) : p ≠ pC 0 := fun z => by
  obtain ⟨u, h1, h2⟩ := h
  rw [z] at h1
  have := po_dom h1.symm (pp_ne e)
  rw [this, ev_pC0] at h2
  exact h2 rfl
theorem va_ex : ∀ (n : Nat) (p : Po), sz p ≤ n → p ≠ pC 0 → ∃ e, VA ρ p e ∧ e < sz p
  | 0, p, h, hp => absurd (sz_0 (by omega)) hp
  | n + 1, p, h, hp => by
    by_cases q : ev p ρ = 0
    · obtain ⟨w, hw⟩ := fac q
      have w0 : w ≠ pC 0 := fun z => hp (by rw [← hw, z, pZero_mul])
      have s := sz_mul (ne_sz w0) (by rw [xs_sz]; decide : sz (xs (- ρ)) ≠ 0)
      rw [hw, xs_sz] at s
      obtain ⟨e, ⟨u, h1, h2⟩, h3⟩ := va_ex n w (by omega) w0
      refine ⟨e + 1, ⟨u, ?_, h2⟩, by omega⟩
      rw [← hw, h1, pPow, pMul_assoc, pMul_assoc, pMul_comm u]
    · refine ⟨0, ⟨p, ?_, q⟩, Nat.pos_of_ne_zero (ne_sz hp)⟩
      rw [pPow, pOne_mul]
theorem va_mul {p q : Po} {e f : Nat} (h : VA ρ p e) (k : VA ρ q f) : VA ρ (pMul p q) (e + f) := by
  obtain ⟨u, h1, h2⟩ := h
  obtain ⟨w, k1, k2⟩ := k
  refine ⟨pMul u w, ?_, by rw [ev_mul]; exact f_mul_ne h2 k2⟩
  rw [h1, k1, pPow_add]
  generalize pPow (xs (- ρ)) e = a, pPow (xs (- ρ)) f = b
  letI := pr
  simp only [hM]
  grind
theorem va_lt {p : Po} {e d : Nat} (h : VA ρ p e) (k : VA ρ p (e + d + 1)) : False := by
  obtain ⟨u, h1, h2⟩ := h
  obtain ⟨w, k1, k2⟩ := k
  rw [h1, show e + d + 1 = e + (d + 1) by omega, pPow_add, pMul_assoc, pMul_comm, pMul_comm (pPow (xs (- ρ)) e)] at k1
  have := po_cancel k1 (pp_ne e)
  rw [this, ev_mul, pPow, ev_mul, xs_r] at h2
  exact h2 (by grind)
theorem va_un {p : Po} {e f : Nat} (h : VA ρ p e) (k : VA ρ p f) : e = f := by
  rcases Nat.lt_trichotomy e f with q | q | q
  · exact absurd (va_lt h (d := f - e - 1) (by rw [show e + (f - e - 1) + 1 = f by omega]; exact k)) (fun z => z)
  · exact q
  · exact absurd (va_lt k (d := e - f - 1) (by rw [show f + (e - f - 1) + 1 = e by omega]; exact h)) (fun z => z)
theorem va_pw (k : Nat) : VA ρ (pPow (xs (- ρ)) k) k := ⟨pC 1, by rw [pMul_comm, pOne_mul], by rw [ev_C]; decide⟩
theorem va_dv {p q : Po} {e f : Nat} (hp : VA ρ p e) (hq : VA ρ q f) (h : pd p q) : e ≤ f := by
  obtain ⟨c, hc⟩ := h
  have c0 : c ≠ pC 0 := fun z => va_ne hq (by rw [← hc, z, pZero_mul])
  obtain ⟨g, h1, _⟩ := va_ex (ρ := ρ) (sz c) c (Nat.le_refl _) c0
  have := va_un hq (by rw [← hc]; exact va_mul h1 hp)
  omega
theorem va_le {p : Po} {e k : Nat} (h : VA ρ p e) (hk : k ≤ e) : pd (pPow (xs (- ρ)) k) p := by
  obtain ⟨u, h1, _⟩ := h
  refine ⟨pMul (pPow (xs (- ρ)) (e - k)) u, ?_⟩
  rw [h1]
  have : pPow (xs (- ρ)) e = pMul (pPow (xs (- ρ)) (e - k)) (pPow (xs (- ρ)) k) := by rw [← pPow_add]; congr 1; omega
  rw [this]
  generalize pPow (xs (- ρ)) (e - k) = a, pPow (xs (- ρ)) k = b
  letI := pr
  simp only [hM]
  grind
theorem va_0 {p : Po} {e : Nat} (h : VA ρ p e) : e = 0 ↔ ev p ρ ≠ 0 := by
  obtain ⟨u, h1, h2⟩ := id h
  constructor
  · intro z
    rw [h1, z, pPow, pOne_mul]
    exact h2
  · intro z
    refine va_un h ⟨p, by rw [pPow, pOne_mul], z⟩
theorem va_sz {p : Po} {e : Nat} (h : VA ρ p e) : e < sz p := by
  obtain ⟨f, h1, h2⟩ := va_ex (ρ := ρ) (sz p) p (Nat.le_refl _) (va_ne h)
  rw [va_un h h1]
  exact h2
theorem ho_va : ∀ (n : Nat) (p : Po) (e : Nat), VA ρ p e → e ≤ n → ho n p (xs (- ρ)) = e
  | 0, p, e, h, he => by rw [ho]; omega
  | n + 1, p, e, h, he => by
    have l0 : sz (xs (- ρ)) ≠ 0 := by rw [xs_sz]; decide
    have dm := pdm p l0
    rw [ho]
    by_cases q : sz (pmd p (xs (- ρ))) = 0
    · rw [if_pos q]
      have e1 : pMul (pdv p (xs (- ρ))) (xs (- ρ)) = p := by
        have := dm.1
        rw [sz_0 q, pAdd_zero] at this
        exact this
      have d0 : pdv p (xs (- ρ)) ≠ pC 0 := fun z => va_ne h (by rw [← e1, z, pZero_mul])
      obtain ⟨f, k1, _⟩ := va_ex (ρ := ρ) _ _ (Nat.le_refl _) d0
      have k2 : VA ρ (xs (- ρ)) 1 := by
        have := va_pw (ρ := ρ) 1
        rw [pPow, pPow, pOne_mul] at this
        exact this
      have := va_un h (by rw [← e1]; exact va_mul k1 k2)
      rw [ho_va n _ f k1 (by omega)]
      omega
    · rw [if_neg q]
      refine ((va_0 h).mpr (fun z => q ?_)).symm
      obtain ⟨w, hw⟩ := fac z
      rw [pd_mod ⟨w, hw⟩, sz_z]
end VAL
theorem pca (x y : Fp) : pAdd (pC x) (pC y) = pC (x + y) := pcA x y
theorem pcm (x y : Fp) : pMul (pC x) (pC y) = pC (x * y) := pcM x y
theorem exq_ev (ρ : Fp) (g : Nat → Po) (s : Nat) : ∀ (k c : Nat) (sg : Fp) (acc : Po), exq (fun c => pC (ev (g c) ρ)) s k c sg (pC (ev acc ρ)) = pC (ev (exq g s k c sg acc) ρ)
  | 0, _, _, _ => rfl
  | k + 1, c, sg, acc => by
    rw [exq, exq]
    by_cases q : s / 2 ^ c % 2 = 1
    · rw [if_pos q, if_pos q, ← exq_ev ρ g s k (c + 1) (- sg), ev_add, ev_mul, ev_C, pcm, pca]
    · rw [if_neg q, if_neg q]
      exact exq_ev ρ g s k (c + 1) sg acc
theorem mnr_ev (ρ : Fp) (A : Nat → Nat → Po) : ∀ (n r s : Nat), mnr (fun i j => pC (ev (A i j) ρ)) n r s = pC (ev (mnr A n r s) ρ)
  | 0, r, s => by rw [mnr, mnr, ev_C]
  | n + 1, r, s => by
    rw [mnr, mnr, ← exq_ev, ev_C]
    refine exq_congr _ _ _ _ (fun x _ _ _ => ?_)
    rw [mnr_ev ρ A n, ev_mul, pcm]
theorem exq_hom (f : Po) (g : Nat → Po) (s : Nat) : ∀ (k c : Nat) (sg : Fp) (acc : Po), exq (fun c => pMul f (g c)) s k c sg (pMul f acc) = pMul f (exq g s k c sg acc)
  | 0, _, _, _ => rfl
  | k + 1, c, sg, acc => by
    rw [exq, exq]
    by_cases q : s / 2 ^ c % 2 = 1
    · rw [if_pos q, if_pos q, ← exq_hom f g s k (c + 1) (- sg)]
      congr 1
      generalize pC sg = S, g c = G
      letI := pr
      simp only [hA, hM]
      grind
    · rw [if_neg q, if_neg q]
      exact exq_hom f g s k (c + 1) sg acc
theorem mnr_hom (f : Po) (A : Nat → Nat → Po) : ∀ (n r s : Nat), mnr (fun i j => pMul f (A i j)) n r s = pMul (pPow f n) (mnr A n r s)
  | 0, r, s => by rw [mnr, mnr, pPow, pOne_mul]
  | n + 1, r, s => by
    rw [mnr, mnr, ← exq_hom, pMul_comm (pPow f (n + 1)) (pC 0), pZero_mul]
    refine exq_congr _ _ _ _ (fun x _ _ _ => ?_)
    rw [mnr_hom f A n, pPow]
    generalize pPow f n = a, A (low r) x = b, mnr A n (r - 2 ^ low r) (s - 2 ^ x) = c
    letI := pr
    simp only [hM]
    grind
theorem exq_pd {d : Po} {g : Nat → Po} {s : Nat} : ∀ (k c : Nat) (sg : Fp) (acc : Po), pd d acc → (∀ x, c ≤ x → x < c + k → s / 2 ^ x % 2 = 1 → pd d (g x)) → pd d (exq g s k c sg acc)
  | 0, _, _, _, h, _ => h
  | k + 1, c, sg, acc, h, h2 => by
    rw [exq]
    by_cases q : s / 2 ^ c % 2 = 1
    · rw [if_pos q]
      exact exq_pd k (c + 1) _ _ (pd_add h (pd_mul _ (h2 c (by omega) (by omega) q))) (fun x h3 h4 => h2 x (by omega) (by omega))
    · rw [if_neg q]
      exact exq_pd k (c + 1) _ _ h (fun x h3 h4 => h2 x (by omega) (by omega))
/-- a common divisor divides the next -/
theorem gd_dd (E : Nat → Nat → Po) (k : Nat) : pd (gd E k) (gd E (k + 1)) := by
  have h : pd (gd E k) (pMul (pC 1) (gd E (k + 1))) := gd_f (fun r s hr hs h1 h2 => by
    rw [pOne_mul]
    have l := ix3 r hr (by omega)
    have x1 := ix2 r hr (low r) l.1 l.2
    have em : mi E r s = exq (fun c => pMul (E (low r) c) (mi E (r - 2 ^ low r) (s - 2 ^ c))) s 4 0 1 (pC 0) := by
      unfold mi
      rw [show bc r = bc (r - 2 ^ low r) + 1 by omega, mnr]
    rw [em]
    refine exq_pd _ _ _ _ (pd_0 _) (fun c _ hc hz => pd_mul _ ?_)
    have y := ix2 s hs c (by omega) hz
    exact gd_dv E (by omega) (by omega) (by omega) (by omega))
  rw [pOne_mul] at h
  exact h
theorem ev_gd {E : Nat → Nat → Po} {k : Nat} {ρ : Fp} : ev (gd E k) ρ ≠ 0 ↔ k = 0 ∨ ∃ r s, r < 16 ∧ s < 16 ∧ bc r = k ∧ bc s = k ∧ ev (mi E r s) ρ ≠ 0 := by
  constructor
  · intro h
    by_cases q : k = 0
    · exact Or.inl q
    · refine Or.inr (Classical.byContradiction (fun z => h ?_))
      have : pd (xs (- ρ)) (pMul (pC 1) (gd E k)) := gd_f (fun r s hr hs h1 h2 => by
        rw [pOne_mul]
        obtain ⟨w, hw⟩ := fac (p := mi E r s) (a := ρ) (Classical.byContradiction (fun y => z ⟨r, s, hr, hs, h1, h2, y⟩))
        exact ⟨w, hw⟩)
      rw [pOne_mul] at this
      exact ev_pd this xs_r
  · intro h z
    rcases h with q | ⟨r, s, hr, hs, h1, h2, h3⟩
    · rw [q, gd_0, ev_C] at z
      exact absurd z (by decide)
    · exact h3 (ev_pd (gd_dv E hr hs h1 h2) z)
theorem pw1 (a : Nat → Nat → Fp) {R i j : Nat} (hi : i < R) (hj : j < R) : mpw a R 1 i j = a i j := by
  rw [mpw_in a 0 hi hj]
  have e : sm (fun l => mpw a R 0 i l * a l j) R = sm (fun l => if l = i then a l j else 0) R := sm_congr R (fun l hl => by
    show (if i = l ∧ i < R then (1 : Fp) else 0) * a l j = if l = i then a l j else 0
    by_cases q : i = l
    · rw [if_pos ⟨q, hi⟩, if_pos q.symm]; grind
    · rw [if_neg (fun z => q z.1), if_neg (Ne.symm q)]; grind)
  rw [e]
  exact sm_delta (f := fun l => a l j) hi
theorem ev_xE (E : Nat → Nat → Po) {R i j : Nat} (hi : i < R) (hj : j < R) (ρ : Fp) : ev (xE E R i j) ρ = - shA E ρ i j := by
  unfold xE shA
  rw [if_pos ⟨hi, hj⟩, ev_add, ev_C]
  by_cases q : i = j
  · rw [if_pos q, if_pos q]
    have : ev (mono 1 1) ρ = ρ := by
      have e := ev_xs 0 ρ
      unfold xs at e
      rw [ev_add, ev_C] at e
      grind
    rw [this]
    grind
  · rw [if_neg q, if_neg q, ev_C]
    grind
theorem pw1_ev (E : Nat → Nat → Po) (R : Nat) (ρ : Fp) : pwE E R ρ 1 = fun i j => pMul (pC (-1)) (pC (ev (xE E R i j) ρ)) := by
  funext i j
  unfold pwE
  rw [pcm]
  congr 1
  by_cases q : i < R ∧ j < R
  · rw [pw1 _ q.1 q.2, ev_xE E q.1 q.2]
    grind
  · rw [mpw_out _ _ _ _ _ q, xE_out q, ev_C]
    grind
/-- the rank at ρ, and where the common divisors are 0 there -/
theorem nz_ev (E : Nat → Nat → Po) (R : Nat) (ρ : Fp) (k : Nat) : (k = 0 ∨ nz (pwE E R ρ 1) k) ↔ ev (gd (xE E R) k) ρ ≠ 0 := by
  rw [ev_gd, pw1_ev]
  have key : ∀ r s, sz (mi (fun i j => pMul (pC (-1)) (pC (ev (xE E R i j) ρ))) r s) ≠ 0 ↔ ev (mi (xE E R) r s) ρ ≠ 0 := fun r s => by
    have e : mi (fun i j => pMul (pC (-1)) (pC (ev (xE E R i j) ρ))) r s = pMul (pPow (pC (-1)) (bc r)) (pC (ev (mi (xE E R) r s) ρ)) := by
      unfold mi
      rw [mnr_hom, mnr_ev]
    have u : ∀ n, pMul (pPow (pC (-1)) n) (pPow (pC (-1)) n) = pC 1 := fun n => by
      induction n with
      | zero => rw [pPow, pOne_mul]
      | succ n ih =>
        rw [pPow]
        have e2 : pMul (pC (-1)) (pC (-1)) = pC 1 := by rw [pcm]; congr 1
        generalize pPow (pC (-1)) n = a at ih ⊢
        generalize pC (-1) = b at e2 ⊢
        letI := pr
        simp only [hM, h1] at ih e2 ⊢
        grind
    rw [e]
    constructor
    · intro h z
      rw [z, pMul_comm, pZero_mul, sz_z] at h
      exact h rfl
    · intro h z
      have z0 := sz_0 z
      have : pMul (pPow (pC (-1)) (bc r)) (pMul (pPow (pC (-1)) (bc r)) (pC (ev (mi (xE E R) r s) ρ))) = pC 0 := by rw [z0, pMul_comm, pZero_mul]
      rw [← pMul_assoc, u, pOne_mul] at this
      exact sz_pC.mpr h (by rw [this, sz_z])
  constructor
  · rintro (h | ⟨r, s, h1, h2, h3, h4, h5⟩)
    · exact Or.inl h
    · exact Or.inr ⟨r, s, h1, h2, h3, h4, (key r s).mp h5⟩
  · rintro (h | ⟨r, s, h1, h2, h3, h4, h5⟩)
    · exact Or.inl h
    · exact Or.inr ⟨r, s, h1, h2, h3, h4, (key r s).mpr h5⟩
