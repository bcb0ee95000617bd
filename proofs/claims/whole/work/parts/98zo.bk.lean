/-! multiplicities of a root: what else there is to know -/
theorem fw_ne {a : Fp} (h : a ≠ 0) : ∀ n, fw a n ≠ 0
  | 0 => by
    show (1 : Fp) ≠ 0
    decide
  | n + 1 => by
    rw [fw]
    exact f_mul_ne (fw_ne h n) h
theorem lin_rt {u : Po} (h : sz u = 2) : ∃ z, ev u z = 0 := by
  have h1 : co u 1 ≠ 0 := by
    have := sz_top (p := u) (by omega)
    rw [h] at this
    exact this
  have f := finv_mul h1
  refine ⟨- (co u 0 * finv (co u 1)), ?_⟩
  rw [ev_ge (p := u) (n := 2) (by omega), sm, sm, sm, fw, fw, fw]
  generalize finv (co u 1) = y at f ⊢
  generalize co u 1 = b at f ⊢
  generalize co u 0 = a
  grind
theorem va_u {ρ : Fp} {p : Po} {e : Nat} (h : VA ρ p e) : ∃ u, p = pMul (pPow (xs (- ρ)) e) u ∧ ev u ρ ≠ 0 ∧ sz p = e + sz u ∧ sz u ≠ 0 := by
  obtain ⟨u, h1, h2⟩ := h
  have u0 : sz u ≠ 0 := fun z => h2 (by rw [sz_0 z]; exact ev_pC0 ρ)
  have s := sz_mul (p := pPow (xs (- ρ)) e) (q := u) (by rw [(xs_pow (- ρ) e).1]; omega) u0
  rw [← h1, (xs_pow (- ρ) e).1] at s
  exact ⟨u, h1, h2, by omega, u0⟩
theorem pc1 {u : Po} (h : sz u = 1) : u = pC (co u 0) := po_ext (fun t => by
  rw [co_C]
  by_cases z : t = 0
  · rw [if_pos z, z]
  · rw [if_neg z, sz_hi (by omega)])
section BK
variable {E : Nat → Nat → Po} {R : Nat} {ρ : Fp}
theorem gd_ok (hR : R ≤ 4) {k : Nat} (hk : k ≤ R) : sz (gd (xE E R) k) ≠ 0 := by
  have cm := chp_mn E (R := R) (by omega)
  have c0 := mnc_sz cm.2
  by_cases q : R = 0
  · rw [show k = 0 by omega, gd_0]
    exact sz_pC.mpr (by decide)
  · refine gd_lt (Nat.le_trans hk ((ord_rk (xE E R)).2.2 R ((gd_nz (xE E R) q).mp ?_)))
    rw [gd_all E (by omega)]
    exact c0
theorem rk_mul0 {m : Nat} (h : ∀ i j, i < R → j < R → mpw (shA E ρ) R m i j = 0) : rk E R ρ m = 0 := by
  have := ld_mono (S := Rs (mpw (shA E ρ) R m)) (T := Z0) (rs_sub z0_v (fun a _ j _ => by
    by_cases q : a < R ∧ j < R
    · exact h a j q.1 q.2
    · exact mpw_out _ _ _ _ _ q))
  rw [ld_0] at this
  unfold rk
  omega
theorem sm_dl (x : Nat → Fp) (c : Fp) {j : Nat} (hj : j < R) : sm (fun k => x k * (if k = j then c else 0)) R = x j * c := by
  have : sm (fun k => x k * (if k = j then c else 0)) R = sm (fun k => if k = j then x k * c else 0) R := sm_congr R (fun k _ => by
    by_cases y : k = j
    · rw [if_pos y, if_pos y]
    · rw [if_neg y, if_neg y]; grind)
  rw [this]
  exact sm_delta (f := fun k => x k * c) hj
theorem bkK (hR : R ≤ 4) (h1 : 1 ≤ R) {t w : Nat} (ht : VA ρ (ivf (gd (xE E R)) (R - 1)) t) (hw : VA ρ (gd (xE E R) (R - 1)) w) (hs : t + w = R) : rk E R ρ t = 0 := by
  have mf := (min_facts E (R := R) (by omega) h1).2.2.2.2
  have cs := (chp_mn E (R := R) (by omega)).1
  obtain ⟨q, q1, q2, q3, q4⟩ := va_u ht
  obtain ⟨x, x1, x2, x3, x4⟩ := va_u hw
  have s := sz_mul (p := ivf (gd (xE E R)) (R - 1)) (q := gd (xE E R) (R - 1)) (by omega) (by omega)
  rw [mf, cs] at s
  have qc := pc1 (u := q) (by omega)
  have r0 := rl_mu (E := E) (R := R) (by omega) h1
  rw [q1, qc] at r0
  have r1 := rl_mul (rl_pw (E := E) (R := R) ρ t) (rl_c (E := E) (R := R) (co q 0))
  refine rk_mul0 (fun i j hi hj => ?_)
  have u := rl_un r1 r0 hi hj
  rw [sm_dl _ _ hj] at u
  have c0 : co q 0 ≠ 0 := fun z => q2 (by rw [qc, z]; exact ev_pC0 ρ)
  refine Classical.byContradiction (fun z => f_mul_ne z c0 u)
theorem bkR (hR : R ≤ 4) (h1 : 1 ≤ R) {z : Fp} (hz : ev (chp E R) z = 0) : ev (ivf (gd (xE E R)) (R - 1)) z = 0 := Classical.byContradiction (fun y => by
  have v0 : VA z (ivf (gd (xE E R)) (R - 1)) 0 := ⟨_, by rw [pPow, pOne_mul], y⟩
  have a : rk E R z 1 = rk E R z 0 := rk_hi (E := E) hR h1 v0 (m := 0) (Nat.le_refl _)
  rw [rk_0 hR] at a
  have b := (rk_ev (E := E) (R := R) (ρ := z) (k := R)).mp (by omega)
  rw [gd_all E (by omega)] at b
  exact b hz)
theorem bkG (hR : R ≤ 4) (h1 : 1 ≤ R) {a : Nat} (ha : VA ρ (chp E R) a) (hs : a + 1 = R) (m : Nat) : 1 ≤ rk E R ρ m := Classical.byContradiction (fun y => by
  have cs := (chp_mn E (R := R) (by omega)).1
  obtain ⟨u, u1, u2, u3, u4⟩ := va_u ha
  obtain ⟨z, hz⟩ := lin_rt (u := u) (by omega)
  have mz := bkR (E := E) hR h1 (z := z) (by rw [u1, ev_mul, hz]; grind)
  have r : Rl E R (pPow (xs (- ρ)) m) (fun _ _ => 0) := rl_cg (rl_pw ρ m) (fun i j hi hj => (rk_z (by omega) i j (by omega) (by omega)).symm)
  have p := ev_pd (rl_min (by omega) h1 r) mz
  rw [ev_pow, ev_xs] at p
  have zr : z + - ρ ≠ 0 := fun y => u2 (by
    have : z = ρ := by grind
    rw [← this]
    exact hz)
  exact fw_ne zr m p)
theorem bkH (hR : R = 4) {t w : Nat} (ht : VA ρ (ivf (gd (xE E R)) (R - 1)) t) (hw : VA ρ (gd (xE E R) (R - 1)) w) (h1 : t = 1) (h2 : w = 2) : rk E R ρ 1 ≤ 1 := by
  have mf := (min_facts E (R := R) (by omega) (by omega)).2.2.2.2
  have cs := (chp_mn E (R := R) (by omega)).1
  have ga := gd_all E (R := R) (by omega)
  obtain ⟨q, q1, q2, q3, q4⟩ := va_u ht
  obtain ⟨x, x1, x2, x3, x4⟩ := va_u hw
  have ha : VA ρ (chp E R) (t + w) := by rw [← mf]; exact va_mul ht hw
  obtain ⟨u, u1, u2, u3, u4⟩ := va_u ha
  have s := sz_mul (p := ivf (gd (xE E R)) (R - 1)) (q := gd (xE E R) (R - 1)) (by omega) (by omega)
  rw [mf, cs] at s
  obtain ⟨z, hz⟩ := lin_rt (u := u) (by omega)
  have cz : ev (chp E R) z = 0 := by rw [u1, ev_mul, hz]; grind
  have mz := bkR (E := E) (by omega) (by omega) cz
  have zr : z + - ρ ≠ 0 := fun y => u2 (by
    have : z = ρ := by grind
    rw [← this]
    exact hz)
  have lz : ∀ n, ev (pPow (xs (- ρ)) n) z ≠ 0 := fun n => by
    rw [ev_pow, ev_xs]
    exact fw_ne zr n
  have qz : ev q z = 0 := Classical.byContradiction (fun y => by
    rw [q1, ev_mul] at mz
    exact f_mul_ne (lz t) y mz)
  obtain ⟨q', hq'⟩ := fac qz
  have q'0 : sz q' ≠ 0 := fun y => q4 (by rw [← hq', sz_0 y, pZero_mul, sz_z])
  have s2 := sz_mul (p := q') (q := xs (- z)) q'0 (by rw [xs_sz]; decide)
  rw [hq', xs_sz] at s2
  have qc := pc1 (u := q') (by omega)
  have xc := pc1 (u := x) (by omega)
  have gz : ev (gd (xE E R) (R - 1)) z ≠ 0 := by
    rw [x1, ev_mul]
    refine f_mul_ne (lz w) ?_
    rw [xc, ev_C]
    intro y
    exact x2 (by rw [xc, y]; exact ev_pC0 ρ)
  have k3 := (rk_ev (E := E) (R := R) (ρ := z) (k := R - 1)).mpr gz
  have k4 : ¬ R ≤ rk E R z 1 := fun y => by
    have := (rk_ev (E := E) (R := R) (ρ := z) (k := R)).mp y
    rw [ga] at this
    exact this cz
  have r0 := rl_mu (E := E) (R := R) (by omega) (by omega)
  have r1 := rl_mul (rl_c (E := E) (R := R) (co q' 0)) (rl_mul (rl_l (E := E) (R := R) z) (rl_l (E := E) (R := R) ρ))
  have e : ivf (gd (xE E R)) (R - 1) = pMul (pC (co q' 0)) (pMul (xs (- z)) (xs (- ρ))) := by
    rw [q1, h1, ← hq', ← qc, pPow, pPow, pOne_mul]
    generalize xs (- ρ) = a, xs (- z) = b
    letI := pr
    simp only [hM]
    grind
  rw [← e] at r1
  have c0 : co q' 0 ≠ 0 := fun y => q'0 (by rw [qc, y, sz_z])
  have := lem6 (R := R) (by omega) (A := mpw (shA E ρ) R 1) (B := mpw (shA E z) R 1) (C := fun _ _ => 0) (pd_mpw _ _ _) (pd_mpw _ _ _) (fun _ _ _ => rfl) (fun i j hi hj => by
    have un := rl_un r1 r0 hi hj
    have d : sm (fun k => (if i = k then co q' 0 else 0) * sm (fun m => shA E z k m * shA E ρ m j) R) R = co q' 0 * sm (fun m => shA E z i m * shA E ρ m j) R := by
      have : sm (fun k => (if i = k then co q' 0 else 0) * sm (fun m => shA E z k m * shA E ρ m j) R) R = sm (fun k => if k = i then co q' 0 * sm (fun m => shA E z k m * shA E ρ m j) R else 0) R := sm_congr R (fun k _ => by
        by_cases y : i = k
        · rw [if_pos y, if_pos y.symm]
        · rw [if_neg y, if_neg (Ne.symm y)]; grind)
      rw [this]
      exact sm_delta (f := fun k => co q' 0 * sm (fun m => shA E z k m * shA E ρ m j) R) hi
    rw [d] at un
    have z0 : sm (fun m => shA E z i m * shA E ρ m j) R = 0 := Classical.byContradiction (fun y => f_mul_ne c0 y un)
    rw [← z0]
    exact sm_congr R (fun k hk => by rw [pw1 _ hi hk, pw1 _ hk hj])) (by
    show rk E R z 1 + 1 = R
    omega)
  have l0 : ldim (Rs (fun _ _ => 0)) = 0 := by
    have := ld_mono (S := Rs (fun _ _ => 0)) (T := Z0) (rs_sub z0_v (fun a _ j _ => rfl))
    rw [ld_0] at this
    omega
  rw [l0] at this
  exact this
theorem xE_sh {i j : Nat} (hi : i < R) (hj : j < R) : xE E R i j = pAdd (if i = j then xs (- ρ) else pC 0) (pNeg (pC (shA E ρ i j))) := by
  unfold xE shA
  rw [if_pos (show i < R ∧ j < R from ⟨hi, hj⟩)]
  by_cases q : i = j
  · rw [if_pos q, if_pos q, if_pos q]
    unfold xs
    refine po_ext (fun t => ?_)
    rw [co_add, co_add, co_add, co_neg, co_C, co_C, co_C]
    by_cases z : t = 0
    · rw [if_pos z, if_pos z, if_pos z]
      generalize co (mono 1 1) t = m, co (E i j) 0 = n
      grind
    · rw [if_neg z, if_neg z, if_neg z]
      grind
  · rw [if_neg q, if_neg q, if_neg q]
    refine po_ext (fun t => ?_)
    rw [co_add, co_add, co_neg, co_0, co_C, co_C]
    by_cases z : t = 0
    · rw [if_pos z, if_pos z]
      grind
    · rw [if_neg z, if_neg z]
      grind
theorem bkI (hR : R ≤ 4) (h0 : rk E R ρ 1 = 0) {k v : Nat} (hv : VA ρ (gd (xE E R) k) v) : k ≤ v := by
  by_cases k0 : k = 0
  · omega
  have eX : xE E R = fun i j => pMul (xs (- ρ)) (if i = j ∧ i < R then pC 1 else pC 0) := by
    funext i j
    by_cases q : i < R ∧ j < R
    · rw [xE_sh (ρ := ρ) q.1 q.2, ← pw1 (shA E ρ) q.1 q.2, rk_z h0 i j (by omega) (by omega), pn0, pAdd_zero]
      by_cases y : i = j
      · rw [if_pos y, if_pos ⟨y, q.1⟩, pMul_comm, pOne_mul]
      · rw [if_neg y, if_neg (fun w => y w.1), pMul_comm, pZero_mul]
    · rw [xE_out q, if_neg (by omega), pMul_comm, pZero_mul]
  have d : pd (pPow (xs (- ρ)) k) (pMul (pC 1) (gd (xE E R) k)) := gd_f (fun r s hr hs b1 b2 => by
    rw [pOne_mul, eX]
    unfold mi
    rw [mnr_hom, b1, pMul_comm]
    exact ⟨_, rfl⟩)
  rw [pOne_mul] at d
  exact va_dv (va_pw k) hv d
end BK
noncomputable def m2p (X : Nat → Nat → Po) (a b c d : Nat) : Po := pAdd (pMul (X a c) (X b d)) (pNeg (pMul (X a d) (X b c)))
theorem m2p_e (X : Nat → Nat → Po) (a b c d : Nat) : (letI := pr; X a c * (X b d) - X a d * (X b c)) = m2p X a b c d := by
  unfold m2p
  letI := pr
  simp only [hA, hM, hG]
  grind
theorem mi2P (X : Nat → Nat → Po) {a b c d : Nat} (hab : a < b) (hb : b < 4) (hcd : c < d) (hd : d < 4) : mi X (2 ^ a + 2 ^ b) (2 ^ c + 2 ^ d) = m2p X a b c d := by
  have h1 : (a = 0 ∧ b = 1) ∨ (a = 0 ∧ b = 2) ∨ (a = 0 ∧ b = 3) ∨ (a = 1 ∧ b = 2) ∨ (a = 1 ∧ b = 3) ∨ (a = 2 ∧ b = 3) := by omega
  have h2 : (c = 0 ∧ d = 1) ∨ (c = 0 ∧ d = 2) ∨ (c = 0 ∧ d = 3) ∨ (c = 1 ∧ d = 2) ∨ (c = 1 ∧ d = 3) ∨ (c = 2 ∧ d = 3) := by omega
  rcases h1 with ⟨e, f⟩ | ⟨e, f⟩ | ⟨e, f⟩ | ⟨e, f⟩ | ⟨e, f⟩ | ⟨e, f⟩ <;> subst e f <;> rcases h2 with ⟨e, f⟩ | ⟨e, f⟩ | ⟨e, f⟩ | ⟨e, f⟩ | ⟨e, f⟩ | ⟨e, f⟩ <;> subst e f
  · exact (mE_3_3 X).trans (m2p_e X _ _ _ _)
  · exact (mE_3_5 X).trans (m2p_e X _ _ _ _)
  · exact (mE_3_9 X).trans (m2p_e X _ _ _ _)
  · exact (mE_3_6 X).trans (m2p_e X _ _ _ _)
  · exact (mE_3_10 X).trans (m2p_e X _ _ _ _)
  · exact (mE_3_12 X).trans (m2p_e X _ _ _ _)
  · exact (mE_5_3 X).trans (m2p_e X _ _ _ _)
  · exact (mE_5_5 X).trans (m2p_e X _ _ _ _)
  · exact (mE_5_9 X).trans (m2p_e X _ _ _ _)
  · exact (mE_5_6 X).trans (m2p_e X _ _ _ _)
  · exact (mE_5_10 X).trans (m2p_e X _ _ _ _)
  · exact (mE_5_12 X).trans (m2p_e X _ _ _ _)
  · exact (mE_9_3 X).trans (m2p_e X _ _ _ _)
  · exact (mE_9_5 X).trans (m2p_e X _ _ _ _)
  · exact (mE_9_9 X).trans (m2p_e X _ _ _ _)
  · exact (mE_9_6 X).trans (m2p_e X _ _ _ _)
  · exact (mE_9_10 X).trans (m2p_e X _ _ _ _)
  · exact (mE_9_12 X).trans (m2p_e X _ _ _ _)
  · exact (mE_6_3 X).trans (m2p_e X _ _ _ _)
  · exact (mE_6_5 X).trans (m2p_e X _ _ _ _)
  · exact (mE_6_9 X).trans (m2p_e X _ _ _ _)
  · exact (mE_6_6 X).trans (m2p_e X _ _ _ _)
  · exact (mE_6_10 X).trans (m2p_e X _ _ _ _)
  · exact (mE_6_12 X).trans (m2p_e X _ _ _ _)
  · exact (mE_10_3 X).trans (m2p_e X _ _ _ _)
  · exact (mE_10_5 X).trans (m2p_e X _ _ _ _)
  · exact (mE_10_9 X).trans (m2p_e X _ _ _ _)
  · exact (mE_10_6 X).trans (m2p_e X _ _ _ _)
  · exact (mE_10_10 X).trans (m2p_e X _ _ _ _)
  · exact (mE_10_12 X).trans (m2p_e X _ _ _ _)
  · exact (mE_12_3 X).trans (m2p_e X _ _ _ _)
  · exact (mE_12_5 X).trans (m2p_e X _ _ _ _)
  · exact (mE_12_9 X).trans (m2p_e X _ _ _ _)
  · exact (mE_12_6 X).trans (m2p_e X _ _ _ _)
  · exact (mE_12_10 X).trans (m2p_e X _ _ _ _)
  · exact (mE_12_12 X).trans (m2p_e X _ _ _ _)
theorem m2p_r (X : Nat → Nat → Po) (a b c d : Nat) : m2p X b a c d = pNeg (m2p X a b c d) := by
  unfold m2p
  letI := pr
  simp only [hA, hM, hG]
  grind
theorem m2p_c (X : Nat → Nat → Po) (a b c d : Nat) : m2p X a b d c = pNeg (m2p X a b c d) := by
  unfold m2p
  letI := pr
  simp only [hA, hM, hG]
  grind
theorem pd_neg {d a : Po} (h : pd d a) : pd d (pNeg a) := by
  obtain ⟨q, e⟩ := h
  refine ⟨pNeg q, ?_⟩
  rw [← e]
  letI := pr
  simp only [hM, hG]
  grind
theorem m2p_d {X : Nat → Nat → Po} {D : Po} (h : pd D (gd X 2)) {a b c d : Nat} (ha : a < 4) (hb : b < 4) (hc : c < 4) (hd : d < 4) (hab : a ≠ b) (hcd : c ≠ d) : pd D (m2p X a b c d) := by
  have s : ∀ a b c d, a < b → b < 4 → c < d → d < 4 → pd D (m2p X a b c d) := fun a b c d h1 h2 h3 h4 => by
    rw [← mi2P X h1 h2 h3 h4]
    have x1 := bk2 b h2 a h1
    have x2 := bk2 d h4 c h3
    exact pd_trans h (gd_dv X x1.1 x2.1 x1.2 x2.2)
  have s2 : ∀ a b, a < 4 → b < 4 → a ≠ b → ∀ c d, c < d → d < 4 → pd D (m2p X a b c d) := fun a b h1 h2 h3 c d h4 h5 => by
    by_cases q : a < b
    · exact s a b c d q h2 h4 h5
    · rw [m2p_r]
      exact pd_neg (s b a c d (by omega) h1 h4 h5)
  by_cases q : c < d
  · exact s2 a b ha hb hab c d q hd
  · rw [m2p_c]
    exact pd_neg (s2 a b ha hb hab d c (by omega) hc)
theorem oth : ∀ p, p < 4 → ∀ q, q < 4 → ∃ i, i < 4 ∧ i ≠ p ∧ i ≠ q := by decide +kernel
section R1
variable {X : Nat → Nat → Po} {l : Po} {u w : Nat → Fp}
theorem r1_o (ho : ∀ i j, i < 4 → j < 4 → X i j = pAdd (if i = j then l else pC 0) (pNeg (pMul (pC (u i)) (pC (w j))))) {i p q : Nat} (hi : i < 4) (hp : p < 4) (hq : q < 4) (h1 : i ≠ p) (h2 : i ≠ q) (h3 : p ≠ q) : m2p X i p i q = pMul l (pC (- (u p * w q))) := by
  unfold m2p
  rw [ho i i hi hi, ho p q hp hq, ho i q hi hq, ho p i hp hi, if_pos rfl, if_neg h3, if_neg h2, if_neg (Ne.symm h1)]
  have e : pC (- (u p * w q)) = pNeg (pMul (pC (u p)) (pC (w q))) := by
    rw [pcm]
    exact po_ext (fun t => by rw [co_neg, co_C, co_C]; split <;> grind)
  rw [e]
  generalize pC (u p) = a, pC (w q) = b, pC (u i) = c, pC (w i) = d
  letI := pr
  simp only [hA, hM, hG, hz0]
  grind
theorem r1_d (ho : ∀ i j, i < 4 → j < 4 → X i j = pAdd (if i = j then l else pC 0) (pNeg (pMul (pC (u i)) (pC (w j))))) {i p : Nat} (hi : i < 4) (hp : p < 4) (h1 : i ≠ p) (hu : u i = 0) : m2p X i p i p = pMul l (pAdd l (pC (- (u p * w p)))) := by
  unfold m2p
  rw [ho i i hi hi, ho p p hp hp, ho i p hi hp, ho p i hp hi, if_pos rfl, if_pos rfl, if_neg h1, if_neg (Ne.symm h1), hu]
  have e : pC (- (u p * w p)) = pNeg (pMul (pC (u p)) (pC (w p))) := by
    rw [pcm]
    exact po_ext (fun t => by rw [co_neg, co_C, co_C]; split <;> grind)
  rw [e]
  generalize pC (u p) = a, pC (w p) = b, pC (w i) = d
  letI := pr
  simp only [hA, hM, hG, hz0]
  grind
theorem r1_2 {ρ : Fp} (hl : l = xs (- ρ)) (ho : ∀ i j, i < 4 → j < 4 → X i j = pAdd (if i = j then l else pC 0) (pNeg (pMul (pC (u i)) (pC (w j))))) {p q : Nat} (hp : p < 4) (hq : q < 4) (hn : u p * w q ≠ 0) {v : Nat} (hv : VA ρ (gd X 2) v) : v ≤ 1 := by
  refine Classical.byContradiction (fun z => ?_)
  have D := va_le hv (k := 2) (by omega)
  have off : ∀ p q, p < 4 → q < 4 → p ≠ q → u p * w q ≠ 0 → False := fun p q hp hq h3 hn => by
    obtain ⟨i, hi, h1, h2⟩ := oth p hp q hq
    have d := m2p_d D hi hp hi hq h1 h2
    rw [r1_o ho hi hp hq h1 h2 h3] at d
    have v1 : VA ρ (pMul l (pC (- (u p * w q)))) 1 := ⟨pC (- (u p * w q)), by rw [hl, pPow, pPow, pOne_mul], by rw [ev_C]; intro y; exact hn (by grind)⟩
    have := va_dv (va_pw 2) v1 d
    omega
  by_cases h3 : p = q
  · subst h3
    obtain ⟨i, hi, h1, _⟩ := oth p hp p hp
    by_cases y : u i = 0
    · have d := m2p_d D hi hp hi hp h1 h1
      rw [r1_d ho hi hp h1 y] at d
      have v1 : VA ρ (pMul l (pAdd l (pC (- (u p * w p))))) 1 := ⟨pAdd l (pC (- (u p * w p))), by rw [hl, pPow, pPow, pOne_mul], by rw [ev_add, ev_C, hl, xs_r]; intro y; exact hn (by grind)⟩
      have := va_dv (va_pw 2) v1 d
      omega
    · refine off i p hi hp h1 (f_mul_ne y (fun z => hn ?_))
      rw [z]
      grind
  · exact off p q hp hq h3 hn
theorem r1_3 (ho : ∀ i j, i < 4 → j < 4 → X i j = pAdd (if i = j then l else pC 0) (pNeg (pMul (pC (u i)) (pC (w j))))) : pd (pMul l l) (gd X 3) := by
  have hd : ∀ i, i < 4 → X i i = (letI := pr; l - pC (u i) * pC (w i)) := fun i hi => by
    rw [ho i i hi hi, if_pos rfl]
    letI := pr
    simp only [hA, hM, hG]
    grind
  have hf : ∀ i j, i < 4 → j < 4 → i ≠ j → X i j = (letI := pr; - (pC (u i) * pC (w j))) := fun i j hi hj q => by
    rw [ho i j hi hj, if_neg q]
    letI := pr
    simp only [hA, hM, hG, hz0]
    grind
  have g : pd (pMul l l) (pMul (pC 1) (gd X 3)) := gd_f (fun r s hr hs b1 b2 => by
    rw [pOne_mul]
    obtain ⟨a, _, b, _, e, he, hab, hbe, e1⟩ := bc3 r hr b1
    obtain ⟨c, _, d, _, f, hf', hcd, hdf, e2⟩ := bc3 s hs b2
    have h1 : (a = 0 ∧ b = 1 ∧ e = 2) ∨ (a = 0 ∧ b = 1 ∧ e = 3) ∨ (a = 0 ∧ b = 2 ∧ e = 3) ∨ (a = 1 ∧ b = 2 ∧ e = 3) := by omega
    have h2 : (c = 0 ∧ d = 1 ∧ f = 2) ∨ (c = 0 ∧ d = 1 ∧ f = 3) ∨ (c = 0 ∧ d = 2 ∧ f = 3) ∨ (c = 1 ∧ d = 2 ∧ f = 3) := by omega
    clear b1 b2 hab hbe hcd hdf he hf' ho
    rcases h1 with ⟨p, q, y⟩ | ⟨p, q, y⟩ | ⟨p, q, y⟩ | ⟨p, q, y⟩ <;> subst p q y <;> rcases h2 with ⟨p, q, y⟩ | ⟨p, q, y⟩ | ⟨p, q, y⟩ | ⟨p, q, y⟩ <;> subst p q y <;> subst e1 e2
    · refine ⟨(letI := pr; l - pC (u 0) * pC (w 0) - pC (u 1) * pC (w 1) - pC (u 2) * pC (w 2)), ?_⟩
      show _ = mi X 7 7
      rw [mE_7_7, hd 0 (by omega), hf 0 1 (by omega) (by omega) (by omega), hf 0 2 (by omega) (by omega) (by omega), hf 1 0 (by omega) (by omega) (by omega), hd 1 (by omega), hf 1 2 (by omega) (by omega) (by omega), hf 2 0 (by omega) (by omega) (by omega), hf 2 1 (by omega) (by omega) (by omega), hd 2 (by omega)]
      clear hd hf
      generalize pC (u 0) = u0, pC (u 1) = u1, pC (u 2) = u2, pC (w 0) = w0, pC (w 1) = w1, pC (w 2) = w2
      letI := pr
      simp only [hM]
      grind
    · refine ⟨(letI := pr; - (pC (u 2) * pC (w 3))), ?_⟩
      show _ = mi X 7 11
      rw [mE_7_11, hd 0 (by omega), hf 0 1 (by omega) (by omega) (by omega), hf 0 3 (by omega) (by omega) (by omega), hf 1 0 (by omega) (by omega) (by omega), hd 1 (by omega), hf 1 3 (by omega) (by omega) (by omega), hf 2 0 (by omega) (by omega) (by omega), hf 2 1 (by omega) (by omega) (by omega), hf 2 3 (by omega) (by omega) (by omega)]
      clear hd hf
      generalize pC (u 0) = u0, pC (u 1) = u1, pC (u 2) = u2, pC (w 0) = w0, pC (w 1) = w1, pC (w 3) = w3
      letI := pr
      simp only [hM]
      grind
    · refine ⟨(letI := pr; pC (u 1) * pC (w 3)), ?_⟩
      show _ = mi X 7 13
      rw [mE_7_13, hd 0 (by omega), hf 0 2 (by omega) (by omega) (by omega), hf 0 3 (by omega) (by omega) (by omega), hf 1 0 (by omega) (by omega) (by omega), hf 1 2 (by omega) (by omega) (by omega), hf 1 3 (by omega) (by omega) (by omega), hf 2 0 (by omega) (by omega) (by omega), hd 2 (by omega), hf 2 3 (by omega) (by omega) (by omega)]
      clear hd hf
      generalize pC (u 0) = u0, pC (u 1) = u1, pC (u 2) = u2, pC (w 0) = w0, pC (w 2) = w2, pC (w 3) = w3
      letI := pr
      simp only [hM]
      grind
    · refine ⟨(letI := pr; - (pC (u 0) * pC (w 3))), ?_⟩
      show _ = mi X 7 14
      rw [mE_7_14, hf 0 1 (by omega) (by omega) (by omega), hf 0 2 (by omega) (by omega) (by omega), hf 0 3 (by omega) (by omega) (by omega), hd 1 (by omega), hf 1 2 (by omega) (by omega) (by omega), hf 1 3 (by omega) (by omega) (by omega), hf 2 1 (by omega) (by omega) (by omega), hd 2 (by omega), hf 2 3 (by omega) (by omega) (by omega)]
      clear hd hf
      generalize pC (u 0) = u0, pC (u 1) = u1, pC (u 2) = u2, pC (w 1) = w1, pC (w 2) = w2, pC (w 3) = w3
      letI := pr
      simp only [hM]
      grind
    · refine ⟨(letI := pr; - (pC (u 3) * pC (w 2))), ?_⟩
      show _ = mi X 11 7
      rw [mE_11_7, hd 0 (by omega), hf 0 1 (by omega) (by omega) (by omega), hf 0 2 (by omega) (by omega) (by omega), hf 1 0 (by omega) (by omega) (by omega), hd 1 (by omega), hf 1 2 (by omega) (by omega) (by omega), hf 3 0 (by omega) (by omega) (by omega), hf 3 1 (by omega) (by omega) (by omega), hf 3 2 (by omega) (by omega) (by omega)]
      clear hd hf
      generalize pC (u 0) = u0, pC (u 1) = u1, pC (u 3) = u3, pC (w 0) = w0, pC (w 1) = w1, pC (w 2) = w2
      letI := pr
      simp only [hM]
      grind
    · refine ⟨(letI := pr; l - pC (u 0) * pC (w 0) - pC (u 1) * pC (w 1) - pC (u 3) * pC (w 3)), ?_⟩
      show _ = mi X 11 11
      rw [mE_11_11, hd 0 (by omega), hf 0 1 (by omega) (by omega) (by omega), hf 0 3 (by omega) (by omega) (by omega), hf 1 0 (by omega) (by omega) (by omega), hd 1 (by omega), hf 1 3 (by omega) (by omega) (by omega), hf 3 0 (by omega) (by omega) (by omega), hf 3 1 (by omega) (by omega) (by omega), hd 3 (by omega)]
      clear hd hf
      generalize pC (u 0) = u0, pC (u 1) = u1, pC (u 3) = u3, pC (w 0) = w0, pC (w 1) = w1, pC (w 3) = w3
      letI := pr
      simp only [hM]
      grind
    · refine ⟨(letI := pr; - (pC (u 1) * pC (w 2))), ?_⟩
      show _ = mi X 11 13
      rw [mE_11_13, hd 0 (by omega), hf 0 2 (by omega) (by omega) (by omega), hf 0 3 (by omega) (by omega) (by omega), hf 1 0 (by omega) (by omega) (by omega), hf 1 2 (by omega) (by omega) (by omega), hf 1 3 (by omega) (by omega) (by omega), hf 3 0 (by omega) (by omega) (by omega), hf 3 2 (by omega) (by omega) (by omega), hd 3 (by omega)]
      clear hd hf
      generalize pC (u 0) = u0, pC (u 1) = u1, pC (u 3) = u3, pC (w 0) = w0, pC (w 2) = w2, pC (w 3) = w3
      letI := pr
      simp only [hM]
      grind
    · refine ⟨(letI := pr; pC (u 0) * pC (w 2)), ?_⟩
      show _ = mi X 11 14
      rw [mE_11_14, hf 0 1 (by omega) (by omega) (by omega), hf 0 2 (by omega) (by omega) (by omega), hf 0 3 (by omega) (by omega) (by omega), hd 1 (by omega), hf 1 2 (by omega) (by omega) (by omega), hf 1 3 (by omega) (by omega) (by omega), hf 3 1 (by omega) (by omega) (by omega), hf 3 2 (by omega) (by omega) (by omega), hd 3 (by omega)]
      clear hd hf
      generalize pC (u 0) = u0, pC (u 1) = u1, pC (u 3) = u3, pC (w 1) = w1, pC (w 2) = w2, pC (w 3) = w3
      letI := pr
      simp only [hM]
      grind
    · refine ⟨(letI := pr; pC (u 3) * pC (w 1)), ?_⟩
      show _ = mi X 13 7
      rw [mE_13_7, hd 0 (by omega), hf 0 1 (by omega) (by omega) (by omega), hf 0 2 (by omega) (by omega) (by omega), hf 2 0 (by omega) (by omega) (by omega), hf 2 1 (by omega) (by omega) (by omega), hd 2 (by omega), hf 3 0 (by omega) (by omega) (by omega), hf 3 1 (by omega) (by omega) (by omega), hf 3 2 (by omega) (by omega) (by omega)]
      clear hd hf
      generalize pC (u 0) = u0, pC (u 2) = u2, pC (u 3) = u3, pC (w 0) = w0, pC (w 1) = w1, pC (w 2) = w2
      letI := pr
      simp only [hM]
      grind
    · refine ⟨(letI := pr; - (pC (u 2) * pC (w 1))), ?_⟩
      show _ = mi X 13 11
      rw [mE_13_11, hd 0 (by omega), hf 0 1 (by omega) (by omega) (by omega), hf 0 3 (by omega) (by omega) (by omega), hf 2 0 (by omega) (by omega) (by omega), hf 2 1 (by omega) (by omega) (by omega), hf 2 3 (by omega) (by omega) (by omega), hf 3 0 (by omega) (by omega) (by omega), hf 3 1 (by omega) (by omega) (by omega), hd 3 (by omega)]
      clear hd hf
      generalize pC (u 0) = u0, pC (u 2) = u2, pC (u 3) = u3, pC (w 0) = w0, pC (w 1) = w1, pC (w 3) = w3
      letI := pr
      simp only [hM]
      grind
    · refine ⟨(letI := pr; l - pC (u 0) * pC (w 0) - pC (u 2) * pC (w 2) - pC (u 3) * pC (w 3)), ?_⟩
      show _ = mi X 13 13
      rw [mE_13_13, hd 0 (by omega), hf 0 2 (by omega) (by omega) (by omega), hf 0 3 (by omega) (by omega) (by omega), hf 2 0 (by omega) (by omega) (by omega), hd 2 (by omega), hf 2 3 (by omega) (by omega) (by omega), hf 3 0 (by omega) (by omega) (by omega), hf 3 2 (by omega) (by omega) (by omega), hd 3 (by omega)]
      clear hd hf
      generalize pC (u 0) = u0, pC (u 2) = u2, pC (u 3) = u3, pC (w 0) = w0, pC (w 2) = w2, pC (w 3) = w3
      letI := pr
      simp only [hM]
      grind
    · refine ⟨(letI := pr; - (pC (u 0) * pC (w 1))), ?_⟩
      show _ = mi X 13 14
      rw [mE_13_14, hf 0 1 (by omega) (by omega) (by omega), hf 0 2 (by omega) (by omega) (by omega), hf 0 3 (by omega) (by omega) (by omega), hf 2 1 (by omega) (by omega) (by omega), hd 2 (by omega), hf 2 3 (by omega) (by omega) (by omega), hf 3 1 (by omega) (by omega) (by omega), hf 3 2 (by omega) (by omega) (by omega), hd 3 (by omega)]
      clear hd hf
      generalize pC (u 0) = u0, pC (u 2) = u2, pC (u 3) = u3, pC (w 1) = w1, pC (w 2) = w2, pC (w 3) = w3
      letI := pr
      simp only [hM]
      grind
    · refine ⟨(letI := pr; - (pC (u 3) * pC (w 0))), ?_⟩
      show _ = mi X 14 7
      rw [mE_14_7, hf 1 0 (by omega) (by omega) (by omega), hd 1 (by omega), hf 1 2 (by omega) (by omega) (by omega), hf 2 0 (by omega) (by omega) (by omega), hf 2 1 (by omega) (by omega) (by omega), hd 2 (by omega), hf 3 0 (by omega) (by omega) (by omega), hf 3 1 (by omega) (by omega) (by omega), hf 3 2 (by omega) (by omega) (by omega)]
      clear hd hf
      generalize pC (u 1) = u1, pC (u 2) = u2, pC (u 3) = u3, pC (w 0) = w0, pC (w 1) = w1, pC (w 2) = w2
      letI := pr
      simp only [hM]
      grind
    · refine ⟨(letI := pr; pC (u 2) * pC (w 0)), ?_⟩
      show _ = mi X 14 11
      rw [mE_14_11, hf 1 0 (by omega) (by omega) (by omega), hd 1 (by omega), hf 1 3 (by omega) (by omega) (by omega), hf 2 0 (by omega) (by omega) (by omega), hf 2 1 (by omega) (by omega) (by omega), hf 2 3 (by omega) (by omega) (by omega), hf 3 0 (by omega) (by omega) (by omega), hf 3 1 (by omega) (by omega) (by omega), hd 3 (by omega)]
      clear hd hf
      generalize pC (u 1) = u1, pC (u 2) = u2, pC (u 3) = u3, pC (w 0) = w0, pC (w 1) = w1, pC (w 3) = w3
      letI := pr
      simp only [hM]
      grind
    · refine ⟨(letI := pr; - (pC (u 1) * pC (w 0))), ?_⟩
      show _ = mi X 14 13
      rw [mE_14_13, hf 1 0 (by omega) (by omega) (by omega), hf 1 2 (by omega) (by omega) (by omega), hf 1 3 (by omega) (by omega) (by omega), hf 2 0 (by omega) (by omega) (by omega), hd 2 (by omega), hf 2 3 (by omega) (by omega) (by omega), hf 3 0 (by omega) (by omega) (by omega), hf 3 2 (by omega) (by omega) (by omega), hd 3 (by omega)]
      clear hd hf
      generalize pC (u 1) = u1, pC (u 2) = u2, pC (u 3) = u3, pC (w 0) = w0, pC (w 2) = w2, pC (w 3) = w3
      letI := pr
      simp only [hM]
      grind
    · refine ⟨(letI := pr; l - pC (u 1) * pC (w 1) - pC (u 2) * pC (w 2) - pC (u 3) * pC (w 3)), ?_⟩
      show _ = mi X 14 14
      rw [mE_14_14, hd 1 (by omega), hf 1 2 (by omega) (by omega) (by omega), hf 1 3 (by omega) (by omega) (by omega), hf 2 1 (by omega) (by omega) (by omega), hd 2 (by omega), hf 2 3 (by omega) (by omega) (by omega), hf 3 1 (by omega) (by omega) (by omega), hf 3 2 (by omega) (by omega) (by omega), hd 3 (by omega)]
      clear hd hf
      generalize pC (u 1) = u1, pC (u 2) = u2, pC (u 3) = u3, pC (w 1) = w1, pC (w 2) = w2, pC (w 3) = w3
      letI := pr
      simp only [hM]
      grind)
  rw [pOne_mul] at g
  exact g
end R1
theorem bkJ {E : Nat → Nat → Po} {ρ : Fp} (h1 : rk E 4 ρ 1 = 1) {v2 v3 : Nat} (k2 : VA ρ (gd (xE E 4) 2) v2) (k3 : VA ρ (gd (xE E 4) 3) v3) : v2 ≤ 1 ∧ 2 ≤ v3 := by
  obtain ⟨A, hA⟩ : ∃ A, A = mpw (shA E ρ) 4 1 := ⟨_, rfl⟩
  have rf := ord_rk (pwE E 4 ρ 1)
  have e := rk_of rf
  rw [h1] at e
  rw [e] at rf
  have rf : RKf (cM A) 1 := by rw [hA]; exact rf
  have n2 : ¬ nz (cM A) 2 := fun z => by have := rf.2.2 2 z; omega
  obtain ⟨r, s, hr, hs, b1, b2, k⟩ := rf.2.1.resolve_left (by omega)
  obtain ⟨a, ha, e1⟩ := bc1 r hr b1
  obtain ⟨c, hc, e2⟩ := bc1 s hs b2
  rw [e1, e2, mi1 ha hc, sz_pC] at k
  have f := finv_mul k
  have ho : ∀ i j, i < 4 → j < 4 → xE E 4 i j = pAdd (if i = j then xs (- ρ) else pC 0) (pNeg (pMul (pC (finv (A a c) * A i c)) (pC (A a j)))) := fun i j hi hj => by
    rw [xE_sh (ρ := ρ) hi hj, ← pw1 (shA E ρ) hi hj, ← hA, pcm]
    have z := no2 n2 ha hi hc hj
    unfold d2 at z
    congr 3
    generalize finv (A a c) = y at f ⊢
    generalize A a c = p, A i j = q, A a j = x, A i c = b at f z ⊢
    clear rf n2 e k2 k3 h1 k hA
    have : y * (p * q - x * b) = 0 := by rw [z]; grind
    grind
  refine ⟨r1_2 rfl ho (p := a) (q := c) ha hc ?_ k2, ?_⟩
  · show finv (A a c) * A a c * A a c ≠ 0
    rw [f]
    intro z
    exact k (by grind)
  · have d := r1_3 ho
    have pw : pPow (xs (- ρ)) 2 = pMul (xs (- ρ)) (xs (- ρ)) := by rw [pPow, pPow, pPow, pOne_mul]
    rw [← pw] at d
    exact va_dv (va_pw 2) k3 d
