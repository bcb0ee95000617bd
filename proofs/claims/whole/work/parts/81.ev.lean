/-! values of polynomials, divisors, linear factors -/
def fw (a : Fp) : Nat → Fp
  | 0 => 1
  | n + 1 => fw a n * a
theorem fw_add (a : Fp) (m : Nat) : ∀ n, fw a (m + n) = fw a m * fw a n
  | 0 => by show fw a m = fw a m * 1; grind
  | n + 1 => by
    rw [← Nat.add_assoc, fw, fw_add a m n, fw]
    grind
noncomputable def ev (p : Po) (a : Fp) : Fp := sm (fun i => co p i * fw a i) (sz p)
theorem ev_ge {p : Po} {n : Nat} (h : sz p ≤ n) (a : Fp) : ev p a = sm (fun i => co p i * fw a i) n := by
  rw [show n = sz p + (n - sz p) by omega]
  exact (sm_more _ (fun i h1 _ => by rw [sz_hi h1]; grind)).symm
theorem ev_add (p q : Po) (a : Fp) : ev (pAdd p q) a = ev p a + ev q a := by
  rw [ev_ge (p := p) (n := max (sz p) (sz q)) (by omega), ev_ge (p := q) (n := max (sz p) (sz q)) (by omega), ev_ge (p := pAdd p q) (n := max (sz p) (sz q)) (sz_add (by omega) (by omega)), ← sm_add]
  exact sm_congr _ (fun i _ => by rw [co_add]; grind)
theorem ev_mul (p q : Po) (a : Fp) : ev (pMul p q) a = ev p a * ev q a := by
  rw [ev_ge (p := pMul p q) (n := sz p + sz q) (by have := sz_mul_le p q; omega)]
  have e1 : sm (fun k => co (pMul p q) k * fw a k) (sz p + sz q) = sm (fun k => sm (fun i => co p i * co q (k - i) * fw a k) (k + 1)) (sz p + sz q) := by
    refine sm_congr _ (fun k _ => ?_)
    show sm (fun i => co p i * co q (k - i)) (k + 1) * fw a k = _
    have e := sm_mul (fw a k) (fun i => co p i * co q (k - i)) (k + 1)
    rw [Lean.Grind.CommSemiring.mul_comm, ← e]
    exact sm_congr _ (fun i _ => by grind)
  rw [e1, sm_tri (fun k i => co p i * co q (k - i) * fw a k)]
  have e2 : sm (fun j => sm (fun l => co p j * co q (j + l - j) * fw a (j + l)) (sz p + sz q - j)) (sz p + sz q) = sm (fun j => ev q a * (co p j * fw a j)) (sz p + sz q) := by
    refine sm_congr _ (fun j _ => ?_)
    show sm (fun l => co p j * co q (j + l - j) * fw a (j + l)) (sz p + sz q - j) = ev q a * (co p j * fw a j)
    by_cases h : j < sz p
    · rw [ev_ge (p := q) (n := sz p + sz q - j) (by omega)]
      have e := sm_mul (co p j * fw a j) (fun l => co q l * fw a l) (sz p + sz q - j)
      rw [Lean.Grind.CommSemiring.mul_comm (sm _ _), ← e]
      refine sm_congr _ (fun l _ => ?_)
      show co p j * co q (j + l - j) * fw a (j + l) = co p j * fw a j * (co q l * fw a l)
      rw [show j + l - j = l by omega, fw_add]
      grind
    · rw [sz_hi (p := p) (j := j) (by omega), sm_zero _ (fun l _ => by grind)]
      grind
  rw [e2, sm_mul, ← ev_ge (p := p) (n := sz p + sz q) (by omega)]
  grind
theorem ev_C (c a : Fp) : ev (pC c) a = c := by
  rw [ev_ge (sz_C c), sm, sm, co_C, if_pos rfl, fw]
  grind
theorem ev_neg (p : Po) (a : Fp) : ev (pNeg p) a = - ev p a := by
  have e := ev_add (pNeg p) p a
  rw [pNeg_add, ev_C] at e
  grind
theorem ev_xs (s a : Fp) : ev (xs s) a = a + s := by
  rw [ev_ge (n := 2) (by rw [xs_sz]; omega), sm, sm, sm]
  unfold xs
  rw [co_add, co_add, co_mono, co_mono, co_C, co_C, if_neg (by omega), if_pos rfl, if_pos rfl, if_neg (by omega), fw, fw, fw]
  grind
theorem ev_pow (p : Po) (a : Fp) : ∀ n, ev (pPow p n) a = fw (ev p a) n
  | 0 => ev_C 1 a
  | n + 1 => by rw [pPow, ev_mul, ev_pow p a n, fw]
theorem ev_cg {w a b : Po} (h : cg w a b) {x : Fp} (hx : ev w x = 0) : ev b x = ev a x := by
  obtain ⟨t, ht⟩ := h
  rw [← ht, ev_add, ev_mul, hx]
  grind
-- divisors
def pd (d a : Po) : Prop := ∃ q, pMul q d = a
theorem pd_refl (a : Po) : pd a a := ⟨pC 1, pOne_mul a⟩
theorem pd_trans {a b c : Po} (h1 : pd a b) (h2 : pd b c) : pd a c := by
  obtain ⟨p, hp⟩ := h1
  obtain ⟨q, hq⟩ := h2
  exact ⟨pMul q p, by rw [pMul_assoc, hp, hq]⟩
theorem pd_0 (a : Po) : pd a (pC 0) := ⟨pC 0, pZero_mul a⟩
theorem pd_lin {d a b : Po} (u v : Po) (h1 : pd d a) (h2 : pd d b) : pd d (pAdd (pMul u a) (pMul v b)) := by
  obtain ⟨p, hp⟩ := h1
  obtain ⟨q, hq⟩ := h2
  refine ⟨pAdd (pMul u p) (pMul v q), ?_⟩
  rw [← hp, ← hq]
  letI := pr
  simp only [hA, hM]
  grind
theorem pd_mul {d a : Po} (u : Po) (h : pd d a) : pd d (pMul u a) := by
  obtain ⟨p, hp⟩ := h
  exact ⟨pMul u p, by rw [pMul_assoc, hp]⟩
theorem pd_add {d a b : Po} (h1 : pd d a) (h2 : pd d b) : pd d (pAdd a b) := by
  have := pd_lin (pC 1) (pC 1) h1 h2
  rw [pOne_mul, pOne_mul] at this
  exact this
theorem ev_pd {d a : Po} (h : pd d a) {x : Fp} (hx : ev d x = 0) : ev a x = 0 := by
  obtain ⟨q, hq⟩ := h
  rw [← hq, ev_mul, hx]
  grind
/-- a divides b: no remainder -/
theorem pd_mod {d a : Po} (h : pd d a) : pmd a d = pC 0 := by
  by_cases z : sz d = 0
  · obtain ⟨q, hq⟩ := h
    rw [sz_0 z] at hq ⊢
    rw [(pdm_0 a).2, ← hq, pMul_comm, pZero_mul]
  · obtain ⟨q, hq⟩ := h
    exact (pdm_of (q := q) (r := pC 0) (by rw [pAdd_zero]; exact hq) (by rw [sz_z]; omega)).2
theorem pd_div {d a : Po} (h : pd d a) : pMul (pdv a d) d = a := by
  by_cases z : sz d = 0
  · obtain ⟨q, hq⟩ := h
    rw [sz_0 z] at hq ⊢
    rw [pMul_comm, pZero_mul, ← hq, pMul_comm, pZero_mul]
  · have := (pdm a z).1
    rw [pd_mod h, pAdd_zero] at this
    exact this
theorem po_cancel {a b c : Po} (h : pMul a c = pMul b c) (hc : c ≠ pC 0) : a = b := by
  have e : pMul c (pAdd a (pNeg b)) = pC 0 := by
    letI := pr
    simp only [hA, hM, hG, h0] at h ⊢
    grind
  have hz := po_dom e hc
  letI := pr
  simp only [hA, hG, h0] at hz
  grind
theorem eu_bez : ∀ (n : Nat) (a b : Po), ∃ u v, eu n a b = pAdd (pMul u a) (pMul v b)
  | 0, a, b => ⟨pC 1, pC 0, by
      rw [eu]
      letI := pr
      simp only [hA, hM, h0, h1]
      grind⟩
  | n + 1, a, b => by
    rw [eu]
    by_cases q : sz b = 0
    · rw [if_pos q]
      exact ⟨pC 1, pC 0, by
        letI := pr
        simp only [hA, hM, h0, h1]
        grind⟩
    · rw [if_neg q]
      obtain ⟨u, v, e⟩ := eu_bez n b (pmd a b)
      have z := (pdm a q).1
      refine ⟨v, pAdd u (pNeg (pMul v (pdv a b))), ?_⟩
      rw [e]
      generalize pmd a b = r at z ⊢
      generalize pdv a b = t at z ⊢
      rw [← z]
      letI := pr
      simp only [hA, hM, hG]
      grind
theorem eu_dvd : ∀ (n : Nat) (a b : Po), sz b ≤ n → pd (eu n a b) a ∧ pd (eu n a b) b
  | 0, a, b, h => by
    rw [eu, sz_0 (show sz b = 0 by omega)]
    exact ⟨pd_refl a, pd_0 a⟩
  | n + 1, a, b, h => by
    rw [eu]
    by_cases q : sz b = 0
    · rw [if_pos q, sz_0 q]
      exact ⟨pd_refl a, pd_0 a⟩
    · rw [if_neg q]
      have z := pdm a q
      have ih := eu_dvd n b (pmd a b) (by omega)
      refine ⟨?_, ih.1⟩
      have := pd_add (pd_mul (pdv a b) ih.1) ih.2
      rw [z.1] at this
      exact this
theorem pMon_assoc {p : Po} (h : sz p ≠ 0) : pMul (pC (lead p)) (pMon p) = p := po_ext (fun j => by
  unfold pMon
  rw [co_Cmul, co_Cmul]
  have := finv_mul (lead_ne h)
  grind)
theorem pMon_0 : pMon (pC 0) = pC 0 := by
  unfold pMon
  letI := pr
  simp only [hM, h0]
  grind
theorem pd_mon {p a : Po} : pd (pMon p) a ↔ pd p a := by
  by_cases h : sz p = 0
  · rw [sz_0 h, pMon_0]
  · constructor
    · intro ⟨q, hq⟩
      refine ⟨pMul q (pC (finv (lead p))), ?_⟩
      rw [pMul_assoc]
      exact hq
    · intro ⟨q, hq⟩
      refine ⟨pMul q (pC (lead p)), ?_⟩
      rw [pMul_assoc, pMon_assoc h]
      exact hq
def mnc (p : Po) : Prop := lead p = 1
theorem pMon_mnc {p : Po} (h : sz p ≠ 0) : mnc (pMon p) := by
  unfold mnc lead
  rw [pMon_sz]
  unfold pMon
  rw [co_Cmul]
  exact finv_mul (lead_ne h)
theorem pgcd_l (a b : Po) : pd (pgcd a b) a := pd_mon.mpr (eu_dvd _ a b (Nat.le_refl _)).1
theorem pgcd_r (a b : Po) : pd (pgcd a b) b := pd_mon.mpr (eu_dvd _ a b (Nat.le_refl _)).2
theorem pgcd_bez (a b : Po) : ∃ u v, pgcd a b = pAdd (pMul u a) (pMul v b) := by
  obtain ⟨u, v, e⟩ := eu_bez (sz b) a b
  refine ⟨pMul (pC (finv (lead (eu (sz b) a b)))) u, pMul (pC (finv (lead (eu (sz b) a b)))) v, ?_⟩
  unfold pgcd pMon
  generalize pC (finv (lead (eu (sz b) a b))) = k
  rw [e]
  letI := pr
  simp only [hA, hM]
  grind
theorem pgcd_g {a b d : Po} (h1 : pd d a) (h2 : pd d b) : pd d (pgcd a b) := by
  obtain ⟨u, v, e⟩ := pgcd_bez a b
  rw [e]
  exact pd_lin u v h1 h2
theorem pgcd_0 {a b : Po} : sz (pgcd a b) = 0 ↔ sz a = 0 ∧ sz b = 0 := by
  constructor
  · intro h
    have z := sz_0 h
    obtain ⟨p, hp⟩ := pgcd_l a b
    obtain ⟨q, hq⟩ := pgcd_r a b
    rw [z, pMul_comm, pZero_mul] at hp hq
    rw [← hp, ← hq, sz_z]
    exact ⟨rfl, rfl⟩
  · intro ⟨h1, h2⟩
    unfold pgcd
    rw [pMon_sz, h2, eu, h1]
theorem pgcd_mnc {a b : Po} (h : sz a ≠ 0 ∨ sz b ≠ 0) : mnc (pgcd a b) := by
  have : sz (pgcd a b) ≠ 0 := fun z => by have := pgcd_0.mp z; omega
  unfold pgcd at this ⊢
  rw [pMon_sz] at this
  exact pMon_mnc this
-- linear factors
theorem fac {p : Po} {a : Fp} (h : ev p a = 0) : ∃ q, pMul q (xs (-a)) = p := by
  have hz : sz (xs (-a)) ≠ 0 := by rw [xs_sz]; decide
  have z := pdm p hz
  rw [xs_sz] at z
  have hc : pmd p (xs (-a)) = pC (co (pmd p (xs (-a))) 0) := po_ext (fun j => by
    rw [co_C]
    by_cases q : j = 0
    · rw [if_pos q, q]
    · rw [if_neg q]; exact sz_hi (by omega))
  have e : ev p a = co (pmd p (xs (-a))) 0 := by
    have e1 : ev (pAdd (pMul (pdv p (xs (-a))) (xs (-a))) (pmd p (xs (-a)))) a = ev p a := by rw [z.1]
    rw [ev_add, ev_mul, ev_xs] at e1
    rw [hc, ev_C] at e1
    grind
  rw [h] at e
  rw [← e] at hc
  exact ⟨_, by have := z.1; rw [hc, pAdd_zero] at this; exact this⟩
def lin : List Fp → Po
  | [] => pC 1
  | a :: l => pMul (xs (-a)) (lin l)
theorem lin_sz : ∀ l, sz (lin l) = l.length + 1
  | [] => sz_eq (fun j hj => by show co (pC 1) j = 0; rw [co_C, if_neg (by omega)]) (fun _ => by show co (pC 1) 0 ≠ 0; rw [co_C, if_pos rfl]; decide)
  | a :: l => by
    rw [lin, sz_mul (by rw [xs_sz]; decide) (by rw [lin_sz l]; omega), xs_sz, lin_sz l, List.length_cons]
    omega
theorem ev_lin (x : Fp) : ∀ l, ev (lin l) x = 0 ↔ x ∈ l
  | [] => by
    rw [lin, ev_C]
    constructor
    · intro h; exact absurd h (by decide)
    · intro h; cases h
  | a :: l => by
    rw [lin, ev_mul, ev_xs, List.mem_cons, ← ev_lin x l]
    constructor
    · intro h
      by_cases q : x + -a = 0
      · left; grind
      · right
        by_cases q2 : ev (lin l) x = 0
        · exact q2
        · exact absurd h (f_mul_ne q q2)
    · intro h
      rcases h with h | h
      · rw [h]; grind
      · rw [h]; grind
theorem mnc_mul {p q : Po} (h1 : sz p ≠ 0) (h2 : sz q ≠ 0) : lead (pMul p q) = lead p * lead q := by
  unfold lead
  rw [sz_mul h1 h2, show sz p + sz q - 1 - 1 = (sz p - 1) + (sz q - 1) by omega, co_mul_top (by omega) (by omega)]
theorem xs_mnc (s : Fp) : mnc (xs s) := by
  unfold mnc lead
  rw [xs_sz]
  unfold xs
  rw [co_add, co_mono, co_C, if_pos rfl, if_neg (by decide)]
  decide
theorem mnc_sz {p : Po} (h : mnc p) : sz p ≠ 0 := fun z => by
  unfold mnc lead at h
  rw [sz_hi (by omega)] at h
  exact absurd h (by decide)
theorem lin_mnc : ∀ l, mnc (lin l)
  | [] => by
    unfold mnc lead
    rw [lin_sz]
    show co (pC 1) 0 = 1
    rw [co_C, if_pos rfl]
  | a :: l => by
    unfold mnc
    rw [lin, mnc_mul (by rw [xs_sz]; decide) (by rw [lin_sz]; omega), xs_mnc, lin_mnc l]
    decide
/-- a monic divisor of a product of linear factors is the product of those that have its roots -/
theorem lin_div {χ : Fp → Bool} : ∀ (l : List Fp) (g : Po), l.Nodup → mnc g → pd g (lin l) → (∀ a, a ∈ l → (ev g a = 0 ↔ χ a = true)) → g = lin (l.filter χ)
  | [], g, _, hm, ⟨q, hq⟩, _ => by
    have hg := mnc_sz hm
    have h1 : sz (lin []) = 1 := lin_sz []
    by_cases hq0 : sz q = 0
    · rw [sz_0 hq0, pZero_mul] at hq
      rw [← hq, sz_z] at h1
      omega
    · have h2 := sz_mul hq0 hg
      rw [hq, h1] at h2
      have hs : sz g = 1 := by omega
      show g = pC 1
      refine po_ext (fun j => ?_)
      rw [co_C]
      by_cases z : j = 0
      · rw [if_pos z, z]
        unfold mnc lead at hm
        rw [hs] at hm
        exact hm
      · rw [if_neg z]; exact sz_hi (by omega)
  | a :: l, g, hn, hm, ⟨q, hq⟩, hr => by
    have hx : xs (-a) ≠ pC 0 := fun z => by
      have := xs_sz (-a)
      rw [z, sz_z] at this
      omega
    have hn2 := List.nodup_cons.mp hn
    rw [lin] at hq
    by_cases c : χ a = true
    · obtain ⟨g', hg'⟩ := fac ((hr a (List.mem_cons_self)).mpr c)
      have hg0 : sz g' ≠ 0 := fun z => by
        rw [sz_0 z, pZero_mul] at hg'
        exact mnc_sz hm (by rw [← hg', sz_z])
      have hm' : mnc g' := by
        unfold mnc at hm ⊢
        rw [← hg', mnc_mul hg0 (by rw [xs_sz]; decide), xs_mnc] at hm
        grind
      have hd : pd g' (lin l) := ⟨q, po_cancel (c := xs (-a)) (by
        rw [pMul_assoc, hg', hq, pMul_comm]) hx⟩
      have ih := lin_div l g' hn2.2 hm' hd (fun b hb => by
        rw [← hr b (List.mem_cons_of_mem _ hb), ← hg', ev_mul, ev_xs]
        constructor
        · intro h; rw [h]; grind
        · intro h
          by_cases z : ev g' b = 0
          · exact z
          · refine absurd h (f_mul_ne z (fun y => hn2.1 ?_))
            have : b = a := by grind
            rw [← this]; exact hb)
      rw [List.filter_cons_of_pos c, lin, ← ih, pMul_comm, hg']
    · have hga : ev g a ≠ 0 := fun z => c ((hr a (List.mem_cons_self)).mp z)
      have hqa : ev q a = 0 := by
        have e : ev (pMul q g) a = 0 := by
          rw [hq, ev_mul, ev_xs]
          grind
        rw [ev_mul] at e
        by_cases z : ev q a = 0
        · exact z
        · exact absurd e (f_mul_ne z hga)
      obtain ⟨q', hq'⟩ := fac hqa
      have hd : pd g (lin l) := ⟨q', po_cancel (c := xs (-a)) (by
        rw [pMul_comm (lin l), ← hq, ← hq', pMul_assoc, pMul_assoc, pMul_comm (xs (-a))]) hx⟩
      rw [List.filter_cons_of_neg c]
      exact lin_div l g hn2.2 hm hd (fun b hb => hr b (List.mem_cons_of_mem _ hb))
