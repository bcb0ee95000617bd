/-! ranks of the powers of a matrix of numbers less a root -/
theorem sm4 (f : Nat → Fp) {R : Nat} (hR : R ≤ 4) (h : ∀ k, R ≤ k → k < 4 → f k = 0) : sm f R = f 0 + f 1 + f 2 + f 3 := by
  have : R = 0 ∨ R = 1 ∨ R = 2 ∨ R = 3 ∨ R = 4 := by omega
  rcases this with e | e | e | e | e <;> subst e
  · rw [h 0 (by omega) (by omega), h 1 (by omega) (by omega), h 2 (by omega) (by omega), h 3 (by omega) (by omega)]; rfl
  · rw [h 1 (by omega) (by omega), h 2 (by omega) (by omega), h 3 (by omega) (by omega), sm, sm]; grind
  · rw [h 2 (by omega) (by omega), h 3 (by omega) (by omega), sm, sm, sm]; grind
  · rw [h 3 (by omega) (by omega), sm, sm, sm, sm]; grind
  · rw [sm, sm, sm, sm, sm]; grind
def Pd (R : Nat) (A : Nat → Nat → Fp) : Prop := ∀ i j, ¬ (i < R ∧ j < R) → A i j = 0
theorem pd_mpw (a : Nat → Nat → Fp) (R m : Nat) : Pd R (mpw a R m) := fun i j h => mpw_out a R m i j h
theorem mm4 {R : Nat} (hR : R ≤ 4) {A B C : Nat → Nat → Fp} (hA : Pd R A) (hC : Pd R C) (h : ∀ i j, i < R → j < R → C i j = sm (fun k => B i k * A k j) R) {i j : Nat} (hi : i < R) : C i j = B i 0 * A 0 j + B i 1 * A 1 j + B i 2 * A 2 j + B i 3 * A 3 j := by
  by_cases q : j < R
  · rw [h i j hi q]
    exact sm4 (fun k => B i k * A k j) hR (fun k h1 _ => by show B i k * A k j = 0; rw [hA k j (by omega)]; grind)
  · rw [hC i j (by omega), hA 0 j (by omega), hA 1 j (by omega), hA 2 j (by omega), hA 3 j (by omega)]
    grind
theorem rs_lm {R : Nat} (hR : R ≤ 4) {A B C : Nat → Nat → Fp} (hA : Pd R A) (hC : Pd R C) (h : ∀ i j, i < R → j < R → C i j = sm (fun k => B i k * A k j) R) : ∀ v, Rs C v → Rs A v := rs_sub (rs_v A) (fun a ha => by
  by_cases q : a < R
  · exact ⟨B a 0, B a 1, B a 2, B a 3, fun j _ => mm4 hR hA hC h q⟩
  · exact (rs_v A).1 _ _ (fun j _ => (hC a j (by omega)).symm) (rs_v A).2.1)
theorem ld_id (a : Nat → Nat → Fp) {R : Nat} (hR : R ≤ 4) : ldim (Rs (mpw a R 0)) = R := by
  have key : ∀ c, c < 4 → (ldb (Rs (mpw a R 0)) c = true ↔ c < R) := fun c hc => by
    rw [ldb_t]
    constructor
    · rintro ⟨v, ⟨x, y, z, w, e⟩, _, h3⟩
      refine Classical.byContradiction (fun q => h3 ?_)
      have o := pd_mpw a R 0
      rw [e c hc, o 0 c (by omega), o 1 c (by omega), o 2 c (by omega), o 3 c (by omega)]
      grind
    · intro q
      refine ⟨mpw a R 0 c, rs_row _ hc, fun j hj => ?_, ?_⟩
      · show (if c = j ∧ c < R then (1 : Fp) else 0) = 0
        rw [if_neg (by omega)]
      · show (if c = c ∧ c < R then (1 : Fp) else 0) ≠ 0
        rw [if_pos ⟨rfl, q⟩]
        decide
  have f : ∀ c, c < 4 → R ≤ c → ldb (Rs (mpw a R 0)) c = false := fun c hc h => by
    cases e : ldb (Rs (mpw a R 0)) c
    · rfl
    · have := (key c hc).mp e; omega
  have t : ∀ c, c < 4 → c < R → ldb (Rs (mpw a R 0)) c = true := fun c hc h => (key c hc).mpr h
  unfold ldim
  have : R = 0 ∨ R = 1 ∨ R = 2 ∨ R = 3 ∨ R = 4 := by omega
  rcases this with e | e | e | e | e <;> subst e
  · rw [cn_0 (f 3 (by omega) (by omega)), cn_0 (f 2 (by omega) (by omega)), cn_0 (f 1 (by omega) (by omega)), cn_0 (f 0 (by omega) (by omega))]; rfl
  · rw [cn_0 (f 3 (by omega) (by omega)), cn_0 (f 2 (by omega) (by omega)), cn_0 (f 1 (by omega) (by omega)), cn_1 (t 0 (by omega) (by omega))]; rfl
  · rw [cn_0 (f 3 (by omega) (by omega)), cn_0 (f 2 (by omega) (by omega)), cn_1 (t 1 (by omega) (by omega)), cn_1 (t 0 (by omega) (by omega))]; rfl
  · rw [cn_0 (f 3 (by omega) (by omega)), cn_1 (t 2 (by omega) (by omega)), cn_1 (t 1 (by omega) (by omega)), cn_1 (t 0 (by omega) (by omega))]; rfl
  · rw [cn_1 (t 3 (by omega) (by omega)), cn_1 (t 2 (by omega) (by omega)), cn_1 (t 1 (by omega) (by omega)), cn_1 (t 0 (by omega) (by omega))]; rfl
def Sz (S : (Nat → Fp) → Prop) (z : Nat → Fp) (v : Nat → Fp) : Prop := ∃ (s : Nat → Fp) (a : Fp), S s ∧ ∀ j, j < 4 → v j = s j + a * z j
theorem sz_v {S : (Nat → Fp) → Prop} (hS : vsp S) (z : Nat → Fp) : vsp (Sz S z) := ⟨fun u v q ⟨s, a, h1, h2⟩ => ⟨s, a, h1, fun j hj => by rw [← q j hj]; exact h2 j hj⟩, ⟨_, 0, hS.2.1, fun j _ => by grind⟩, fun u v ⟨s, a, h1, h2⟩ ⟨s', a', k1, k2⟩ => ⟨_, a + a', hS.2.2.1 _ _ h1 k1, fun j hj => by show u j + v j = _; rw [h2 j hj, k2 j hj]; grind⟩, fun c u ⟨s, a, h1, h2⟩ => ⟨_, c * a, hS.2.2.2 c _ h1, fun j hj => by show c * u j = _; rw [h2 j hj]; grind⟩⟩
/-- a product with a matrix of all but full rank loses one at most -/
theorem lem6 {R : Nat} (hR : R ≤ 4) {A B C : Nat → Nat → Fp} (hA : Pd R A) (hB : Pd R B) (hC : Pd R C) (h : ∀ i j, i < R → j < R → C i j = sm (fun k => B i k * A k j) R) (hr : ldim (Rs B) + 1 = R) : ldim (Rs A) ≤ ldim (Rs C) + 1 := by
  obtain ⟨I, hI⟩ : ∃ I, I = mpw A R 0 := ⟨_, rfl⟩
  have hId : ldim (Rs I) = R := by rw [hI]; exact ld_id A hR
  have pI : Pd R I := by rw [hI]; exact pd_mpw A R 0
  have Ia : ∀ a k, a < R → I a k = if a = k then 1 else 0 := fun a k ha => by
    rw [hI]
    show (if a = k ∧ a < R then (1 : Fp) else 0) = _
    by_cases q : a = k
    · rw [if_pos ⟨q, ha⟩, if_pos q]
    · rw [if_neg (fun z => q z.1), if_neg q]
  have BI : ∀ v, Rs B v → Rs I v := rs_lm hR pI hB (fun i j hi hj => by
    have e : sm (fun k => B i k * I k j) R = sm (fun k => if k = j then B i k else 0) R := sm_congr R (fun k hk => by
      rw [Ia k j hk]
      by_cases q : k = j
      · rw [if_pos q, if_pos q]; grind
      · rw [if_neg q, if_neg q]; grind)
    rw [e]
    exact (sm_delta (f := fun k => B i k) hj).symm)
  have ex : ∃ j0, j0 < R ∧ ¬ Rs B (I j0) := Classical.byContradiction (fun z => by
    have : ∀ v, Rs I v → Rs B v := rs_sub (rs_v B) (fun a ha => by
      by_cases q : a < R
      · exact Classical.byContradiction (fun y => z ⟨a, q, y⟩)
      · exact (rs_v B).1 _ _ (fun j _ => (pI a j (by omega)).symm) (rs_v B).2.1)
    have := ld_mono this
    omega)
  obtain ⟨j0, hj0, nj⟩ := ex
  have uv := sz_v (rs_v B) (I j0)
  have u1 : Sz (Rs B) (I j0) (I j0) := ⟨_, 1, (rs_v B).2.1, fun j _ => by grind⟩
  have l1 := ld_lt (rs_v B) uv (fun v hv => ⟨v, 0, hv, fun j _ => by grind⟩) u1 nj
  have uI : ∀ v, Sz (Rs B) (I j0) v → Rs I v := fun v ⟨s, a, h1, h2⟩ => vs_c (rs_v I) a (BI s h1) (rs_row I (by omega)) h2
  have Iu := ld_eq uv (rs_v I) uI (by omega)
  refine ld_one (rs_v C) (z := A j0) (rs_sub (sz_v (rs_v C) (A j0)) (fun a ha => ?_))
  by_cases q : a < R
  · obtain ⟨s, α, ⟨y0, y1, y2, y3, e1⟩, e2⟩ := Iu _ (rs_row I ha)
    refine ⟨fun j => y0 * C 0 j + y1 * C 1 j + y2 * C 2 j + y3 * C 3 j, α, ⟨y0, y1, y2, y3, fun _ _ => rfl⟩, fun j hj => ?_⟩
    have row : ∀ b, b < R → A b j = I b 0 * A 0 j + I b 1 * A 1 j + I b 2 * A 2 j + I b 3 * A 3 j := fun b hb => mm4 hR hA hA (fun i j hi hj => by
      have e : sm (fun k => I i k * A k j) R = sm (fun k => if k = i then A k j else 0) R := sm_congr R (fun k hk => by
        rw [Ia i k hi]
        by_cases q : i = k
        · rw [if_pos q, if_pos q.symm]; grind
        · rw [if_neg q, if_neg (Ne.symm q)]; grind)
      rw [e]
      exact (sm_delta (f := fun k => A k j) hi).symm) hb
    have crow : ∀ b, b < 4 → C b j = B b 0 * A 0 j + B b 1 * A 1 j + B b 2 * A 2 j + B b 3 * A 3 j := fun b hb => by
      by_cases z : b < R
      · exact mm4 hR hA hC h z
      · rw [hC b j (by omega), hB b 0 (by omega), hB b 1 (by omega), hB b 2 (by omega), hB b 3 (by omega)]
        grind
    have f0 := e2 0 (by omega)
    have f1 := e2 1 (by omega)
    have f2 := e2 2 (by omega)
    have f3 := e2 3 (by omega)
    rw [e1 0 (by omega)] at f0
    rw [e1 1 (by omega)] at f1
    rw [e1 2 (by omega)] at f2
    rw [e1 3 (by omega)] at f3
    show A a j = (y0 * C 0 j + y1 * C 1 j + y2 * C 2 j + y3 * C 3 j) + α * A j0 j
    rw [row a q, row j0 hj0, crow 0 (by omega), crow 1 (by omega), crow 2 (by omega), crow 3 (by omega), f0, f1, f2, f3]
    clear f0 f1 f2 f3 e1 e2 row crow
    generalize A 0 j = a0, A 1 j = a1, A 2 j = a2, A 3 j = a3, I j0 0 = i0, I j0 1 = i1, I j0 2 = i2, I j0 3 = i3
    generalize B 0 0 = b00, B 0 1 = b01, B 0 2 = b02, B 0 3 = b03, B 1 0 = b10, B 1 1 = b11, B 1 2 = b12, B 1 3 = b13, B 2 0 = b20, B 2 1 = b21, B 2 2 = b22, B 2 3 = b23, B 3 0 = b30, B 3 1 = b31, B 3 2 = b32, B 3 3 = b33
    clear hA hB hC h hr hI hId pI Ia BI nj uv u1 l1 uI Iu
    grind
  · exact (sz_v (rs_v C) (A j0)).1 _ _ (fun j _ => (hA a j (by omega)).symm) (sz_v (rs_v C) (A j0)).2.1
noncomputable def rk (E : Nat → Nat → Po) (R : Nat) (ρ : Fp) (m : Nat) : Nat := ldim (Rs (mpw (shA E ρ) R m))
section RKS
variable {E : Nat → Nat → Po} {R : Nat} {ρ : Fp}
theorem rk_of {m n : Nat} (h : RKf (pwE E R ρ m) n) : n = rk E R ρ m := br (A := mpw (shA E ρ) R m) h
theorem rk_0 (hR : R ≤ 4) : rk E R ρ 0 = R := ld_id _ hR
theorem rk_ev {k : Nat} : k ≤ rk E R ρ 1 ↔ ev (gd (xE E R) k) ρ ≠ 0 := by
  rw [← nz_ev]
  have h := ord_rk (pwE E R ρ 1)
  have e := rk_of h
  rw [← e]
  constructor
  · intro hk
    by_cases q : k = 0
    · exact Or.inl q
    · exact Or.inr (nz_le _ hk (h.2.1.resolve_left (by omega)))
  · rintro (q | q)
    · omega
    · exact h.2.2 k q
theorem pw_st (hR : R ≤ 4) (m : Nat) : ∀ v, Rs (mpw (shA E ρ) R (m + 1)) v → Rs (mpw (shA E ρ) R m) v := rs_lm hR (pd_mpw _ _ _) (pd_mpw _ _ _) (fun i j hi hj => (mpw_left (shA E ρ) m hi hj).symm)
theorem rk_st (hR : R ≤ 4) (m : Nat) : rk E R ρ (m + 1) ≤ rk E R ρ m := ld_mono (pw_st hR m)
theorem rl_0m {f g : Po} (h : Rl E R g (fun _ _ => 0)) (hf : ∃ C, Rl E R f C) : Rl E R (pMul f g) (fun _ _ => 0) := by
  obtain ⟨C, hC⟩ := hf
  exact rl_cg (rl_mul hC h) (fun i j _ _ => (sm_zero R (fun k _ => by grind)).symm)
/-- from the multiplicity on the ranks stay -/
theorem pw_hi (hR : R ≤ 4) (h1 : 1 ≤ R) {t m : Nat} (ht : VA ρ (ivf (gd (xE E R)) (R - 1)) t) (hm : t ≤ m) : ∀ v, Rs (mpw (shA E ρ) R m) v → Rs (mpw (shA E ρ) R (m + 1)) v := by
  obtain ⟨q, hq, q0⟩ := ht
  have z : ev (pAdd q (pNeg (pC (ev q ρ)))) ρ = 0 := by
    rw [ev_add, ev_neg, ev_C]
    grind
  obtain ⟨s, hs⟩ := fac z
  obtain ⟨S, hS⟩ := rl_ex (E := E) (R := R) (sz s) s (Nat.le_refl _)
  have r1 := rl_add (rl_mul (rl_c (E := E) (R := R) (ev q ρ)) (rl_pw ρ m)) (rl_mul hS (rl_pw ρ (m + 1)))
  have r2 := rl_0m (rl_mu (E := E) (by omega) h1) ⟨_, rl_pw ρ (m - t)⟩
  have e : pMul (pPow (xs (- ρ)) (m - t)) (ivf (gd (xE E R)) (R - 1)) = pAdd (pMul (pC (ev q ρ)) (pPow (xs (- ρ)) m)) (pMul s (pPow (xs (- ρ)) (m + 1))) := by
    have e1 : pPow (xs (- ρ)) m = pMul (pPow (xs (- ρ)) (m - t)) (pPow (xs (- ρ)) t) := by rw [← pPow_add]; congr 1; omega
    rw [hq, pPow, e1]
    generalize pPow (xs (- ρ)) (m - t) = a, pPow (xs (- ρ)) t = b, pC (ev q ρ) = c at hs ⊢
    generalize xs (- ρ) = l at hs ⊢
    letI := pr
    simp only [hA, hM, hG] at hs ⊢
    grind
  rw [e] at r2
  have f := finv_mul q0
  refine rs_lm (B := fun i k => - (finv (ev q ρ) * S i k)) hR (pd_mpw _ _ _) (pd_mpw _ _ _) (fun i j hi hj => ?_)
  have u := rl_un r1 r2 hi hj
  have d : sm (fun k => (if i = k then ev q ρ else 0) * mpw (shA E ρ) R m k j) R = ev q ρ * mpw (shA E ρ) R m i j := by
    have : sm (fun k => (if i = k then ev q ρ else 0) * mpw (shA E ρ) R m k j) R = sm (fun k => if k = i then ev q ρ * mpw (shA E ρ) R m k j else 0) R := sm_congr R (fun k _ => by
      by_cases y : i = k
      · rw [if_pos y, if_pos y.symm]
      · rw [if_neg y, if_neg (Ne.symm y)]; grind)
    rw [this]
    exact sm_delta (f := fun k => ev q ρ * mpw (shA E ρ) R m k j) hi
  rw [d] at u
  have g : sm (fun k => - (finv (ev q ρ) * S i k) * mpw (shA E ρ) R (m + 1) k j) R = - finv (ev q ρ) * sm (fun k => S i k * mpw (shA E ρ) R (m + 1) k j) R := by
    rw [← sm_mul]
    exact sm_congr R (fun k _ => by grind)
  rw [g]
  generalize sm (fun k => S i k * mpw (shA E ρ) R (m + 1) k j) R = x at u ⊢
  generalize finv (ev q ρ) = y at f ⊢
  generalize ev q ρ = c at f u
  generalize mpw (shA E ρ) R m i j = w at u ⊢
  clear g d r1 r2 e
  have : y * (c * w + x) = 0 := by rw [u]; grind
  grind
theorem pw_lo (hR : R ≤ 4) (h1 : 1 ≤ R) {t m : Nat} (ht : VA ρ (ivf (gd (xE E R)) (R - 1)) t) (h : ∀ v, Rs (mpw (shA E ρ) R m) v → Rs (mpw (shA E ρ) R (m + 1)) v) : t ≤ m := by
  obtain ⟨q, hq, q0⟩ := id ht
  have ch : ∀ i, ∃ z : Nat → Fp, i < R → ∀ j, j < R → mpw (shA E ρ) R m i j = sm (fun k => z k * mpw (shA E ρ) R (m + 1) k j) R := fun i => by
    by_cases hi : i < R
    · obtain ⟨a, c, f, g, e⟩ := h _ (rs_row _ (show i < 4 by omega))
      refine ⟨fun k => if k = 0 then a else if k = 1 then c else if k = 2 then f else g, fun _ j hj => ?_⟩
      rw [e j (by omega), sm4 _ hR (fun k k1 k2 => by show _ * mpw (shA E ρ) R (m + 1) k j = 0; rw [mpw_out _ _ _ _ _ (by omega)]; grind)]
      rfl
    · exact ⟨fun _ => 0, fun y => absurd y hi⟩
  obtain ⟨Z, hZ⟩ := Classical.axiomOfChoice ch
  have rq : ∀ k, ∃ C, Rl E R (pMul (pPow (xs (- ρ)) k) q) C := fun k => rl_ex _ _ (Nat.le_refl _)
  have hi0 : ∀ k, t ≤ k → Rl E R (pMul (pPow (xs (- ρ)) k) q) (fun _ _ => 0) := fun k hk => by
    have r2 := rl_0m (rl_mu (E := E) (by omega) h1) ⟨_, rl_pw ρ (k - t)⟩
    have e1 : pPow (xs (- ρ)) k = pMul (pPow (xs (- ρ)) (k - t)) (pPow (xs (- ρ)) t) := by rw [← pPow_add]; congr 1; omega
    rw [e1, pMul_assoc, ← hq]
    exact r2
  have dn : ∀ d k, m ≤ k → t ≤ k + d → Rl E R (pMul (pPow (xs (- ρ)) k) q) (fun _ _ => 0) := by
    intro d
    induction d with
    | zero => exact fun k _ h2 => hi0 k h2
    | succ d ih =>
      intro k k1 k2
      have r := ih (k + 1) (by omega) (by omega)
      obtain ⟨D, hD⟩ := rq (k - m)
      have a1 := rl_mul (rl_pw (E := E) (R := R) ρ (m + 1)) hD
      have a0 := rl_mul (rl_pw (E := E) (R := R) ρ m) hD
      have e1 : pMul (pPow (xs (- ρ)) (m + 1)) (pMul (pPow (xs (- ρ)) (k - m)) q) = pMul (pPow (xs (- ρ)) (k + 1)) q := by
        rw [← pMul_assoc, ← pPow_add]
        congr 2
        omega
      have e0 : pMul (pPow (xs (- ρ)) m) (pMul (pPow (xs (- ρ)) (k - m)) q) = pMul (pPow (xs (- ρ)) k) q := by
        rw [← pMul_assoc, ← pPow_add]
        congr 2
        omega
      rw [e1] at a1
      rw [e0] at a0
      refine rl_cg a0 (fun i j hi hj => ?_)
      show 0 = sm (fun l => mpw (shA E ρ) R m i l * D l j) R
      have s1 : sm (fun l => mpw (shA E ρ) R m i l * D l j) R = sm (fun l => sm (fun k => Z i k * (mpw (shA E ρ) R (m + 1) k l * D l j)) R) R := sm_congr R (fun l hl => by
        rw [hZ i hi l hl]
        have : D l j * sm (fun k => Z i k * mpw (shA E ρ) R (m + 1) k l) R = sm (fun k => D l j * (Z i k * mpw (shA E ρ) R (m + 1) k l)) R := (sm_mul _ _ _).symm
        have c : sm (fun k => Z i k * mpw (shA E ρ) R (m + 1) k l) R * D l j = D l j * sm (fun k => Z i k * mpw (shA E ρ) R (m + 1) k l) R := by
          generalize sm (fun k => Z i k * mpw (shA E ρ) R (m + 1) k l) R = x
          grind
        rw [c, this]
        exact sm_congr R (fun k _ => by grind))
      rw [s1, sm_swap]
      refine (sm_zero R (fun k hk => ?_)).symm
      rw [sm_mul (Z i k) (fun l => mpw (shA E ρ) R (m + 1) k l * D l j)]
      have := rl_un a1 r hk hj
      rw [this]
      grind
  have fin := rl_min (by omega) h1 (dn t m (Nat.le_refl _) (by omega))
  exact va_dv ht ⟨q, rfl, q0⟩ fin
theorem rk_hi (hR : R ≤ 4) (h1 : 1 ≤ R) {t m : Nat} (ht : VA ρ (ivf (gd (xE E R)) (R - 1)) t) (hm : t ≤ m) : rk E R ρ (m + 1) = rk E R ρ m := by
  have a := rk_st (E := E) (ρ := ρ) hR m
  have b : rk E R ρ m ≤ rk E R ρ (m + 1) := ld_mono (pw_hi hR h1 ht hm)
  omega
theorem rk_lo (hR : R ≤ 4) (h1 : 1 ≤ R) {t m : Nat} (ht : VA ρ (ivf (gd (xE E R)) (R - 1)) t) (hm : m < t) : rk E R ρ (m + 1) < rk E R ρ m := Classical.byContradiction (fun z => by
  have := pw_lo hR h1 ht (m := m) (ld_eq (rs_v _) (rs_v _) (pw_st hR m) (show rk E R ρ m ≤ rk E R ρ (m + 1) by omega))
  omega)
theorem rk_g1 (hR : R ≤ 4) (hg : rk E R ρ 1 + 1 = R) (m : Nat) : rk E R ρ m ≤ rk E R ρ (m + 1) + 1 := lem6 hR (A := mpw (shA E ρ) R m) (B := mpw (shA E ρ) R 1) (C := mpw (shA E ρ) R (m + 1)) (pd_mpw _ _ _) (pd_mpw _ _ _) (pd_mpw _ _ _) (fun i j hi hj => by
  rw [← mpw_left (shA E ρ) m hi hj]
  exact sm_congr R (fun k hk => by rw [pw1 _ hi hk])) hg
theorem rk_z {m : Nat} (h : rk E R ρ m = 0) (i j : Nat) (hi : i < 4) (hj : j < 4) : mpw (shA E ρ) R m i j = 0 := Classical.byContradiction (fun z => by
  have := up1 (rs_v _) (rs_row (mpw (shA E ρ) R m) hi) (fun y => z (y j hj))
  unfold rk at h
  omega)
end RKS
