/-! the roots' mathematics -/
theorem fw_val (a : Fp) : ∀ n, (fw a n).val = a.val ^ n % 32003
  | 0 => rfl
  | n + 1 => by rw [fw, fv_mul, fw_val a n, Nat.mod_mul_mod, Nat.pow_succ]
theorem fw_p {a : Fp} (h : a ≠ 0) : fw a 32002 = 1 := Fin.ext (by
  rw [fw_val]
  exact fermat (fun z => h (Fin.ext z)) a.isLt)
theorem fw_q (a : Fp) : fw a 32003 = a := by
  rw [show (32003 : Nat) = 32002 + 1 from rfl, fw]
  by_cases h : a = 0
  · rw [h]; grind
  · rw [fw_p h]; grind
def all : List Fp := (List.range 32003).map fN
theorem all_mem (a : Fp) : a ∈ all := List.mem_map.mpr ⟨a.val, List.mem_range.mpr a.isLt, Fin.ext (fN_val a.isLt)⟩
theorem all_nodup : all.Nodup := by
  unfold all List.Nodup
  rw [List.pairwise_map]
  refine List.Pairwise.imp_of_mem ?_ List.pairwise_lt_range
  intro a b ha hb hab e
  have h1 := List.mem_range.mp ha
  have h2 := List.mem_range.mp hb
  have := congrArg Fin.val e
  rw [fN_val h1, fN_val h2] at this
  omega
theorem all_len : all.length = 32003 := by
  unfold all
  rw [List.length_map, List.length_range]
theorem lin_dvd : ∀ (l : List Fp) (h : Po), l.Nodup → (∀ a, a ∈ l → ev h a = 0) → pd (lin l) h
  | [], h, _, _ => ⟨h, by rw [lin, pMul_comm]; exact pOne_mul h⟩
  | a :: l, h, hn, hr => by
    obtain ⟨q, hq⟩ := fac (hr a List.mem_cons_self)
    have hn2 := List.nodup_cons.mp hn
    obtain ⟨t, ht⟩ := lin_dvd l q hn2.2 (fun b hb => by
      have e := hr b (List.mem_cons_of_mem _ hb)
      rw [← hq, ev_mul, ev_xs] at e
      by_cases z : ev q b = 0
      · exact z
      · refine absurd e (f_mul_ne z (fun y => hn2.1 ?_))
        have : b = a := by grind
        rw [← this]; exact hb)
    refine ⟨t, ?_⟩
    rw [lin, ← hq, ← ht, pMul_assoc, pMul_comm (xs (-a))]
theorem xs_pow (s : Fp) : ∀ n, sz (pPow (xs s) n) = n + 1 ∧ mnc (pPow (xs s) n)
  | 0 => by
    rw [show pPow (xs s) 0 = lin [] from rfl]
    exact ⟨lin_sz [], lin_mnc []⟩
  | n + 1 => by
    have ih := xs_pow s n
    rw [pPow]
    refine ⟨?_, ?_⟩
    · rw [sz_mul (by omega) (by rw [xs_sz]; decide), xs_sz]; omega
    · unfold mnc
      rw [mnc_mul (by omega) (by rw [xs_sz]; decide), ih.2, xs_mnc]
      decide
/-- x to the 32003, less x -/
def xp : Po := pAdd (pPow (xs 0) 32003) (pNeg (xs 0))
theorem xp_sz : sz xp = 32004 := by
  have h := (xs_pow 0 32003).1
  unfold xp
  rw [sz_add_lt (by rw [sz_neg, xs_sz, h]; omega), h]
theorem xp_mnc : mnc xp := by
  have h := xs_pow 0 32003
  have e := xp_sz
  unfold mnc lead at h ⊢
  rw [e]
  unfold xp
  rw [co_add, co_neg, sz_hi (p := xs 0) (by rw [xs_sz]; omega)]
  have := h.2
  rw [h.1] at this
  rw [show 32004 - 1 = 32003 + 1 - 1 from rfl, this]
  decide
theorem xp_ev (a : Fp) : ev xp a = 0 := by
  unfold xp
  rw [ev_add, ev_neg, ev_pow, ev_xs, show a + 0 = a by grind, fw_q]
  grind
theorem mnc_eq {a b : Po} (ha : mnc a) (hb : mnc b) (h : pd a b) (hs : sz a = sz b) : a = b := by
  obtain ⟨q, hq⟩ := h
  have za := mnc_sz ha
  have zb := mnc_sz hb
  have zq : sz q ≠ 0 := fun z => by
    rw [sz_0 z, pZero_mul] at hq
    rw [← hq, sz_z] at zb
    exact zb rfl
  have e := sz_mul zq za
  rw [hq] at e
  have l := mnc_mul zq za
  rw [hq, ha, hb] at l
  have s1 : sz q = 1 := by omega
  have : q = pC 1 := po_ext (fun j => by
    rw [co_C]
    by_cases z : j = 0
    · rw [if_pos z, z]
      unfold lead at l
      rw [s1] at l
      grind
    · rw [if_neg z]; exact sz_hi (by omega))
  rw [this, pOne_mul] at hq
  exact hq
theorem xp_lin : lin all = xp := mnc_eq (lin_mnc _) xp_mnc (lin_dvd _ _ all_nodup (fun a _ => xp_ev a)) (by rw [lin_sz, all_len, xp_sz])
/-- the roots of w, in their order -/
noncomputable def rl (w : Po) : List Fp := all.filter (fun a => decide (ev w a = 0))
theorem rl_mem {w : Po} {a : Fp} : a ∈ rl w ↔ ev w a = 0 := by
  unfold rl
  rw [List.mem_filter]
  constructor
  · intro h; exact of_decide_eq_true h.2
  · intro h; exact ⟨all_mem a, decide_eq_true h⟩
theorem rl_nodup (w : Po) : (rl w).Nodup := List.Pairwise.filter _ all_nodup
/-- the common divisor with x to the 32003 less x: all roots, each once -/
theorem roots_gcd {w r : Po} (hw : sz w ≠ 0) (h : cg w xp r) : pgcd w r = lin (rl w) := by
  refine lin_div all _ all_nodup (pgcd_mnc (Or.inl hw)) ?_ (fun a _ => ?_)
  · rw [xp_lin]
    obtain ⟨t, ht⟩ := h
    rw [← ht]
    exact pd_add (pd_mul t (pgcd_l w r)) (pgcd_r w r)
  · rw [decide_eq_true_iff]
    constructor
    · exact ev_pd (pgcd_l w r)
    · intro z
      obtain ⟨u, v, e⟩ := pgcd_bez w r
      rw [e, ev_add, ev_mul, ev_mul, z, ev_cg h z, xp_ev]
      grind
/-- is the root, with the shift, a square but not 0? -/
def chi (s a : Fp) : Bool := decide (fw (a + s) 16001 = 1)
theorem split_gcd {l : List Fp} {s : Fp} {r : Po} (hn : l.Nodup) (h : cg (lin l) (pPow (xs s) 16001) r) : pgcd (pAdd r (pNeg (pC 1))) (lin l) = lin (l.filter (chi s)) := by
  refine lin_div l _ hn (pgcd_mnc (Or.inr (by rw [lin_sz]; omega))) (pgcd_r _ _) (fun a ha => ?_)
  have z : ev (lin l) a = 0 := (ev_lin a l).mpr ha
  have e1 : ev (pAdd r (pNeg (pC 1))) a = fw (a + s) 16001 + -1 := by rw [ev_add, ev_neg, ev_C, ev_cg h z, ev_pow, ev_xs]
  unfold chi
  rw [decide_eq_true_iff]
  constructor
  · intro q
    have := ev_pd (pgcd_l (pAdd r (pNeg (pC 1))) (lin l)) q
    rw [e1] at this
    grind
  · intro q
    obtain ⟨u, v, e⟩ := pgcd_bez (pAdd r (pNeg (pC 1))) (lin l)
    rw [e, ev_add, ev_mul, ev_mul, z, e1, q]
    grind
theorem lin_part (χ : Fp → Bool) : ∀ l, pMul (lin (l.filter (fun x => !χ x))) (lin (l.filter χ)) = lin l
  | [] => pOne_mul _
  | a :: l => by
    have ih := lin_part χ l
    by_cases h : χ a = true
    · rw [List.filter_cons_of_pos h, List.filter_cons_of_neg (by rw [h]; decide), lin, lin, ← ih, ← pMul_assoc, pMul_comm (lin (l.filter (fun x => !χ x))), pMul_assoc]
    · have h2 : χ a = false := by cases q : χ a; rfl; exact absurd q h
      rw [List.filter_cons_of_neg h, List.filter_cons_of_pos (by rw [h2]; rfl), lin, lin, ← ih, pMul_assoc]
theorem lin_quot (χ : Fp → Bool) (l : List Fp) : pdv (lin l) (lin (l.filter χ)) = lin (l.filter (fun x => !χ x)) := by
  refine (pdm_of (r := pC 0) ?_ (by rw [sz_z, lin_sz]; omega)).1
  rw [pAdd_zero]
  exact lin_part χ l
theorem fw_sq {a : Fp} (h : a ≠ 0) : fw a 16001 = 1 ∨ fw a 16001 = -1 := by
  have e : fw a (16001 + 16001) = 1 := fw_p h
  rw [fw_add] at e
  generalize fw a 16001 = u at e ⊢
  by_cases q : u + -1 = 0
  · left; grind
  · right
    by_cases q2 : u + 1 = 0
    · grind
    · exact absurd (show (u + -1) * (u + 1) = 0 by grind) (f_mul_ne q q2)
theorem fw_neg (a : Fp) : ∀ n, fw (-a) (2 * n + 1) = - fw a (2 * n + 1) ∧ fw (-a) (2 * n) = fw a (2 * n)
  | 0 => by
    refine ⟨?_, rfl⟩
    show 1 * -a = - (1 * a)
    grind
  | n + 1 => by
    have ih := fw_neg a n
    have e : fw (-a) (2 * (n + 1)) = fw a (2 * (n + 1)) := by
      rw [show 2 * (n + 1) = 2 * n + 1 + 1 by omega, fw, ih.1]
      show - fw a (2 * n + 1) * - a = fw a (2 * n + 1) * a
      generalize fw a (2 * n + 1) = u
      grind
    refine ⟨?_, e⟩
    rw [fw, e, fw]
    generalize fw a (2 * (n + 1)) = u
    grind
/-- two roots: some shift tells them apart -/
theorem chi_sep {a b : Fp} (h : a ≠ b) : ∃ s, chi s a ≠ chi s b := by
  have hd : b + -a ≠ 0 := fun z => h (by grind)
  have z0 : fw (0 : Fp) 16001 = 0 := by
    rw [show (16001 : Nat) = 16000 + 1 from rfl, fw]; grind
  rcases fw_sq hd with q | q
  · refine ⟨-a, fun e => ?_⟩
    unfold chi at e
    rw [q, show a + -a = 0 by grind, z0] at e
    exact absurd e (by decide)
  · refine ⟨-b, fun e => ?_⟩
    unfold chi at e
    rw [show b + -b = 0 by grind, z0, show a + -b = - (b + -a) by grind, show (16001 : Nat) = 2 * 8000 + 1 from rfl, (fw_neg (b + -a) 8000).1, show 2 * 8000 + 1 = 16001 from rfl, q] at e
    exact absurd e (by decide)
