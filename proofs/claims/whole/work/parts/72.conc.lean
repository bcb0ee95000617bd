/-! the class's heap: its Polynomials by their addresses, and the other cells -/
def plM (b len x : Nat) : Nat := if b + 4 ≤ x ∧ x < b + 42 ∧ (x - b - 4) % 10 < 8 ∧ (x - b - 4) % 2 = 0 then len else 0
def plE (b n len x : Nat) : Nat := if b ≤ x ∧ x < b + 2 * n ∧ (x - b) % 2 = 0 then len else 0
def plMi (b x : Nat) : Nat := if x < b + 4 then plE (b + 2) 1 1 x else if x < b + 144 then plE (b + 4) 70 13 x else if x < b + 155 then plE (b + 145) 5 13 x else if x < b + 164 then plE (b + 156) 4 13 x else plE (b + 165) 3 13 x
/-- the room of the Polynomial at an address; 0 where there is none -/
def pl (x : Nat) : Nat := if x < 43 then plM 1 4 x else if x < 214 then plMi 43 x else if x < 256 then plM 214 2 x else if x < 427 then plMi 256 x else
  if x < 446 then plE 430 8 7 x else if x < 453 then plE 447 3 13 x else if x < 495 then plM 453 67 x else if x < 498 then plE 496 1 67 x else if x < 508 then plE 500 4 67 x else
  if x < 551 then plM 509 13 x else if x < 593 then plM 551 13 x else if x < 635 then plM 593 13 x else if x < 643 then plE 637 3 13 x else plE 643 1 2 x
theorem pl_ok0 : ∀ x, x < 646 → pl x < 1000 ∧ (pl x ≠ 0 → pl (x + 1) = 0) := by decide +kernel
theorem pl_big {x : Nat} (h : 645 ≤ x) : pl x = 0 := by
  unfold pl
  rw [if_neg (by omega), if_neg (by omega), if_neg (by omega), if_neg (by omega), if_neg (by omega), if_neg (by omega), if_neg (by omega), if_neg (by omega), if_neg (by omega), if_neg (by omega), if_neg (by omega), if_neg (by omega), if_neg (by omega)]
  unfold plE
  rw [if_neg (by omega)]
theorem pl_lt (x : Nat) : pl x < 1000 := by
  by_cases h : x < 646
  · exact (pl_ok0 x h).1
  · rw [pl_big (by omega)]; decide
theorem pl_next {x : Nat} (h : pl x ≠ 0) : pl (x + 1) = 0 := by
  by_cases q : x < 646
  · exact (pl_ok0 x q).2 h
  · exact pl_big (by omega)
noncomputable def conc (P : Nat → Po) (m : Hp) : Hp := fun x => if pl x ≠ 0 then some (.inr (6, [.ref (x + 1), .int (dI (sz (P x)))])) else if x ≠ 0 ∧ pl (x - 1) ≠ 0 then some (.inl (0, pl (x - 1), .inl (fun j => nI (vl (P (x - 1)) j)))) else m x
/-- every Polynomial has room for what it holds -/
def FT (P : Nat → Po) : Prop := ∀ a, pl a ≠ 0 → sz (P a) ≤ pl a
def st (P : Nat → Po) (a : Nat) (p : Po) : Nat → Po := fun x => if x = a then p else P x
theorem st_same (P : Nat → Po) (a : Nat) (p : Po) : st P a p a = p := if_pos rfl
theorem st_ne (P : Nat → Po) {a x : Nat} (p : Po) (h : x ≠ a) : st P a p x = P x := if_neg h
theorem st_id (P : Nat → Po) (a : Nat) : st P a (P a) = P := by
  funext x
  unfold st
  split
  · rename_i h; rw [h]
  · rfl
theorem st_st (P : Nat → Po) (a : Nat) (p q : Po) : st (st P a p) a q = st P a q := by
  funext x
  unfold st
  split <;> rfl
theorem FT.st {P : Nat → Po} (w : FT P) {a : Nat} {p : Po} (h : sz p ≤ pl a) : FT (st P a p) := fun x hx => by
  by_cases q : x = a
  · rw [q, st_same]; exact h
  · rw [st_ne _ _ q]; exact w x hx
theorem conc_a {P : Nat → Po} {m : Hp} {a : Nat} (h : pl a ≠ 0) : conc P m a = some (.inr (6, [.ref (a + 1), .int (dI (sz (P a)))])) := if_pos h
theorem conc_b {P : Nat → Po} {m : Hp} {a : Nat} (h : pl a ≠ 0) : conc P m (a + 1) = some (.inl (0, pl a, .inl (fun j => nI (vl (P a) j)))) := by
  unfold conc
  rw [if_neg (fun q => q (pl_next h)), if_pos ⟨by omega, by rw [Nat.add_sub_cancel]; exact h⟩, Nat.add_sub_cancel]
theorem conc_m {P : Nat → Po} {m : Hp} {a : Nat} (h : pl a = 0) (h2 : a = 0 ∨ pl (a - 1) = 0) : conc P m a = m a := by
  unfold conc
  rw [if_neg (fun q => q h), if_neg (fun q => by rcases h2 with z | z; exact q.1 z; exact q.2 z)]
theorem FT.pa {P : Nat → Po} {m : Hp} (w : FT P) {a : Nat} (h : pl a ≠ 0) : PA (conc P m) a (pl a) (vl (P a)) :=
  ⟨_, by rw [dgs_sz (w a h)]; exact conc_a h, conc_b h, fun _ => rfl, vl_lt _, fun j hj => vl_0.mpr (sz_hi (Nat.le_trans (w a h) hj)), pl_lt a⟩
theorem conc_of {P : Nat → Po} {m h' : Hp} {a : Nat} {p : Po} (h : pl a ≠ 0) (w : PA h' a (pl a) (vl p)) (r : fr2 (conc P m) h' a) : h' = conc (st P a p) m ∧ sz p ≤ pl a := by
  obtain ⟨f, h1, h2, h3, h4, h5, h6⟩ := w
  have hs : sz p ≤ pl a := sz_le (fun j hj => vl_0.mp (h5 j hj))
  refine ⟨?_, hs⟩
  funext x
  by_cases q : x = a
  · rw [q, conc_a h, st_same, h1, dgs_sz hs]
  · by_cases q2 : x = a + 1
    · rw [q2, conc_b h, st_same, h2, show f = fun j => nI (vl p j) from funext h3]
    · rw [r x q q2]
      unfold conc
      rw [st_ne _ _ q]
      by_cases q3 : pl x ≠ 0
      · rw [if_pos q3, if_pos q3]
      · rw [if_neg q3, if_neg q3]
        by_cases q4 : x ≠ 0 ∧ pl (x - 1) ≠ 0
        · rw [if_pos q4, if_pos q4, st_ne _ _ (by omega)]
        · rw [if_neg q4, if_neg q4]
theorem vl_C0 : vl (pC 0) = fun _ => 0 := funext (fun j => vl_0.mpr (co_0 j))
theorem clear_c {N : Nat} (hN : 1000 ≤ N) {P : Nat → Po} {m : Hp} (w : FT P) {a : Nat} (h : pl a ≠ 0) : fX4_clear N a (conc P m) = some (conc (st P a (pC 0)) m) := by
  obtain ⟨h', e, w1, r⟩ := clear_s hN (w.pa (m := m) h)
  rw [← vl_C0] at w1
  rw [e, (conc_of h w1 r).1]
/-- the number at a power of any size -/
def cfp (p : Po) (x : Int32) : Int32 := if x < 0 then 0 else nI (vl p x.toNatClampNeg)
theorem numberAt_c {N : Nat} {P : Nat → Po} {m : Hp} (w : FT P) {a : Nat} (h : pl a ≠ 0) (x : Int32) : fX4_numberAt N a x (conc P m) = some (cfp (P a) x, conc P m) := numberAt_s (w.pa h) x
def pSet (p : Po) (j : Nat) (v : Fp) : Po := ⟨fun i => if i = j then v else co p i, by
  obtain ⟨n, hn⟩ := p.2
  exact ⟨max n (j + 1), fun i hi => by
    show (if i = j then v else co p i) = 0
    rw [if_neg (by omega)]
    exact hn i (by omega)⟩⟩
theorem co_set (p : Po) (j : Nat) (v : Fp) (i : Nat) : co (pSet p j v) i = if i = j then v else co p i := rfl
theorem setNumber_c {N : Nat} (hN : 1000 ≤ N) {P : Nat → Po} {m : Hp} (w : FT P) {a : Nat} (h : pl a ≠ 0) {j : Nat} (hj : j < pl a) (v : Fp) : fX4_setNumber N a (nI j) (nI v.val) (conc P m) = some (conc (st P a (pSet (P a) j v)) m) ∧ sz (pSet (P a) j v) ≤ pl a := by
  obtain ⟨h', e, w1, r⟩ := setNumber_s hN (w.pa (m := m) h) hj v.isLt
  have q : updN (vl (P a)) j v.val = vl (pSet (P a) j v) := by
    funext i
    unfold updN vl
    rw [co_set]
    split <;> rfl
  rw [q] at w1
  have z := conc_of h w1 r
  rw [e, z.1]
  exact ⟨rfl, z.2⟩
theorem copyFrom_c {N : Nat} (hN : 1000 ≤ N) {P : Nat → Po} {m : Hp} (w : FT P) {a b : Nat} (ha : pl a ≠ 0) (hb : pl b ≠ 0) (hab : a ≠ b) (hs : sz (P b) ≤ pl a) : fX4_copyFrom N a b (conc P m) = some (conc (st P a (P b)) m) := by
  obtain ⟨h', e, w1, w2, r⟩ := copyFrom_s hN (w.pa (m := m) ha) (w.pa (m := m) hb) hab
  have q : (fun j => if j < pl a then vl (P b) j else 0) = vl (P b) := by
    funext j
    by_cases z : j < pl a
    · rw [if_pos z]
    · rw [if_neg z, vl_0.mpr (sz_hi (by omega))]
  rw [q] at w1
  rw [e, (conc_of ha w1 r).1]
theorem co_Cmul (c : Fp) (p : Po) (j : Nat) : co (pMul (pC c) p) j = c * co p j := pC_mul_co c p j
theorem mult_c {N : Nat} (hN : 1000 ≤ N) {P : Nat → Po} {m : Hp} (w : FT P) {a : Nat} (ha : pl a ≠ 0) {k : Fp} (hk : k ≠ 0) : fX4_multiply N a (nI k.val) (conc P m) = some (conc (st P a (pMul (pC k) (P a))) m) := by
  have hk0 : k.val ≠ 0 := fun z => hk (Fin.ext z)
  obtain ⟨h', e, w1, r⟩ := mult_s hN (w.pa (m := m) ha) k.isLt (fun x hx hx0 => mul_ne0 hx hx0 k.isLt hk0)
  have q : (fun j => vl (P a) j * k.val % 32003) = vl (pMul (pC k) (P a)) := by
    funext j
    unfold vl
    rw [co_Cmul, fv_mul, Nat.mul_comm]
  rw [q] at w1
  rw [e, (conc_of ha w1 r).1]
def finv (x : Fp) : Fp := fN (inv x.val)
theorem finv_val (x : Fp) : (finv x).val = inv x.val := fN_val (inv_lt _)
theorem finv_mul {x : Fp} (h : x ≠ 0) : finv x * x = 1 := Fin.ext (by
  rw [fv_mul, finv_val, inv_mul (fun z => h (Fin.ext z)) x.isLt]
  rfl)
theorem finv_ne {x : Fp} (h : x ≠ 0) : finv x ≠ 0 := fun q => by
  have := finv_mul h
  rw [q] at this
  grind
noncomputable def lead (p : Po) : Fp := co p (sz p - 1)
theorem lead_ne {p : Po} (h : sz p ≠ 0) : lead p ≠ 0 := sz_top h
noncomputable def pMon (p : Po) : Po := pMul (pC (finv (lead p))) p
theorem makeMonic_c {N : Nat} (hN : 1000 ≤ N) {P : Nat → Po} {m : Hp} (w : FT P) {a : Nat} (ha : pl a ≠ 0) : fX4_makeMonic N a (conc P m) = some (conc (st P a (pMon (P a))) m) := by
  obtain ⟨h', e, w1, r⟩ := makeMonic_s hN (w.pa (m := m) ha)
  have q : monic (vl (P a)) (dgs (vl (P a)) (pl a)) = vl (pMon (P a)) := by
    funext j
    unfold monic pMon lead
    rw [dgs_sz (w a ha)]
    by_cases z : sz (P a) = 0
    · rw [if_pos z]
      symm
      rw [vl_0, co_Cmul, show co (P a) j = 0 from sz_hi (by omega)]
      grind
    · rw [if_neg z]
      unfold vl
      rw [co_Cmul, fv_mul, finv_val, Nat.mul_comm]
  rw [q] at w1
  rw [e, (conc_of ha w1 r).1]
/-- a product put on, coefficient by coefficient -/
theorem apR_po {la : Nat} {k : Fp} {b d r0 : Po} (hl : sz b + sz d - 1 ≤ la) (hr : sz r0 ≤ la) : ∀ n i, i + n ≤ sz b → apR la k.val (vl b) (vl d) n i (vl (pAdd r0 (pMul (pC k) (pMul (tr b i) d)))) = vl (pAdd r0 (pMul (pC k) (pMul (tr b (i + n)) d)))
  | 0, i, _ => rfl
  | n + 1, i, h => by
    rw [apR]
    have e : apS la k.val (vl b) (vl d) i (vl (pAdd r0 (pMul (pC k) (pMul (tr b i) d)))) = vl (pAdd r0 (pMul (pC k) (pMul (tr b (i + 1)) d))) := by
      have e1 : pAdd r0 (pMul (pC k) (pMul (tr b (i + 1)) d)) = pAdd (pAdd r0 (pMul (pC k) (pMul (tr b i) d))) (pMul (mono (co b i * k) i) d) := by
        rw [tr_succ]
        have e2 : mono (co b i * k) i = pMul (pC k) (mono (co b i) i) := po_ext (fun j => by
          rw [co_Cmul, co_mono, co_mono]
          split
          · grind
          · grind)
        rw [e2]
        letI := pr
        simp only [hA, hM]
        grind
      rw [e1]
      generalize pAdd r0 (pMul (pC k) (pMul (tr b i) d)) = r
      funext x
      unfold apS vl
      rw [co_add, co_monom]
      by_cases q : i ≤ x ∧ x < la
      · rw [if_pos q, if_pos q.1, fv_add, fv_mul, fv_mul, Nat.add_mod_mod]
      · rw [if_neg q]
        by_cases q2 : i ≤ x
        · rw [if_pos q2, sz_hi (p := d) (by omega)]
          congr 1
          grind
        · rw [if_neg q2]
          congr 1
          grind
    rw [e, apR_po hl hr n (i + 1) (by omega), show i + 1 + n = i + (n + 1) by omega]
theorem addProduct_c {N : Nat} (hN : 1000 ≤ N) {P : Nat → Po} {m : Hp} (w : FT P) {a b d : Nat} (ha : pl a ≠ 0) (hb : pl b ≠ 0) (hd : pl d ≠ 0) (hab : a ≠ b) (had : a ≠ d) (k : Fp) (hs : sz (P b) + sz (P d) - 1 ≤ pl a) (hs2 : sz (P b) ≤ pl a) : fX4_addProduct N a (nI k.val) b d (conc P m) = some (conc (st P a (pAdd (P a) (pMul (pC k) (pMul (P b) (P d))))) m) ∧ sz (pAdd (P a) (pMul (pC k) (pMul (P b) (P d)))) ≤ pl a := by
  obtain ⟨h', e, w1, r⟩ := addProduct_s hN (w.pa (m := m) ha) (w.pa (m := m) hb) (w.pa (m := m) hd) hab had k.isLt (by rw [dgs_sz (w b hb)]; exact hs2)
  rw [dgs_sz (w b hb)] at w1
  have q := apR_po (k := k) hs (w a ha) (sz (P b)) 0 (by omega)
  rw [Nat.zero_add, tr_all (Nat.le_refl _), tr_0] at q
  have q2 : pAdd (P a) (pMul (pC k) (pMul (pC 0) (P d))) = P a := by
    letI := pr
    simp only [hA, hM, h0]
    grind
  rw [q2] at q
  rw [q] at w1
  have z := conc_of ha w1 r
  rw [e, z.1]
  exact ⟨rfl, z.2⟩
