/-! Hermite forms: spans of rows of four polynomials, echelons, uniqueness, degrees -/
def sub4 (S : (Nat → Po) → Prop) : Prop := (∀ u v : Nat → Po, (∀ j, j < 4 → u j = v j) → S u → S v) ∧ S (fun _ => pC 0) ∧ (∀ u v : Nat → Po, S u → S v → S (fun j => pAdd (u j) (v j))) ∧ (∀ (c : Po) (u : Nat → Po), S u → S (fun j => pMul c (u j)))
def Sp (G : Nat → Prop) (W : Nat → Nat → Po) (v : Nat → Po) : Prop := ∀ S, sub4 S → (∀ a, G a → S (W a)) → S v
theorem sp_sub (G : Nat → Prop) (W : Nat → Nat → Po) : sub4 (Sp G W) := ⟨fun u v h hu S hS hW => hS.1 u v h (hu S hS hW), fun S hS _ => hS.2.1, fun u v hu hv S hS hW => hS.2.2.1 u v (hu S hS hW) (hv S hS hW), fun c u hu S hS hW => hS.2.2.2 c u (hu S hS hW)⟩
theorem sp_in {G : Nat → Prop} {W : Nat → Nat → Po} {a : Nat} (h : G a) : Sp G W (W a) := fun _ _ hW => hW a h
theorem sub_lin {S : (Nat → Po) → Prop} (hS : sub4 S) {u v w : Nat → Po} (a b : Po) (hu : S u) (hv : S v) (hw : ∀ j, j < 4 → w j = pAdd (pMul a (u j)) (pMul b (v j))) : S w := hS.1 _ _ (fun j hj => (hw j hj).symm) (hS.2.2.1 _ _ (hS.2.2.2 a u hu) (hS.2.2.2 b v hv))
theorem sub_off {S : (Nat → Po) → Prop} (hS : sub4 S) {u v w : Nat → Po} (q : Po) (hu : S u) (hv : S v) (hw : ∀ j, j < 4 → w j = pAdd (u j) (pNeg (pMul q (v j)))) : S w := sub_lin hS (pC 1) (pNeg q) hu hv (fun j hj => by
  rw [hw j hj]
  letI := pr
  simp only [hA, hM, hG, h1]
  grind)
theorem sub_on {S : (Nat → Po) → Prop} (hS : sub4 S) {u v w : Nat → Po} (q : Po) (hu : S w) (hv : S v) (hw : ∀ j, j < 4 → w j = pAdd (u j) (pNeg (pMul q (v j)))) : S u := sub_lin hS (pC 1) q hu hv (fun j hj => by
  rw [hw j hj]
  letI := pr
  simp only [hA, hM, hG, h1]
  grind)
theorem sub_z {S : (Nat → Po) → Prop} (hS : sub4 S) {u : Nat → Po} (h : ∀ j, j < 4 → u j = pC 0) : S u := hS.1 _ _ (fun j hj => (h j hj).symm) hS.2.1
def Sl (F : Nat → Bool) (W : Nat → Nat → Po) : (Nat → Po) → Prop := Sp (fun a => a < 4 ∧ F a = true) W
def La (F : Nat → Bool) (W : Nat → Nat → Po) : (Nat → Po) → Prop := Sp (fun a => a = 4 ∨ a < 4 ∧ F a = true) W
def lcs (y : Nat → Po) (W : Nat → Nat → Po) (j : Nat) : Po := pAdd (pAdd (pAdd (pMul (y 0) (W 0 j)) (pMul (y 1) (W 1 j))) (pMul (y 2) (W 2 j))) (pMul (y 3) (W 3 j))
theorem lcs_one (a : Nat) (ha : a < 4) (W : Nat → Nat → Po) (j : Nat) : lcs (fun b => if b = a then pC 1 else pC 0) W j = W a j := by
  have : a = 0 ∨ a = 1 ∨ a = 2 ∨ a = 3 := by omega
  rcases this with e | e | e | e <;> subst e <;> unfold lcs <;> simp only [reduceIte, Nat.reduceEqDiff] <;> letI := pr <;> simp only [hA, hM, h1, hz0] <;> grind
theorem sl_y {F : Nat → Bool} {W : Nat → Nat → Po} {v : Nat → Po} (h : Sl F W v) : ∃ y : Nat → Po, (∀ a, F a = false → y a = pC 0) ∧ ∀ j, j < 4 → v j = lcs y W j := by
  refine h (fun v => ∃ y : Nat → Po, (∀ a, F a = false → y a = pC 0) ∧ ∀ j, j < 4 → v j = lcs y W j) ⟨?_, ?_, ?_, ?_⟩ ?_
  · rintro u v e ⟨y, h1, h2⟩
    exact ⟨y, h1, fun j hj => by rw [← e j hj]; exact h2 j hj⟩
  · refine ⟨fun _ => pC 0, fun _ _ => rfl, fun j hj => ?_⟩
    unfold lcs
    letI := pr
    simp only [hA, hM, hz0]
    grind
  · rintro u v ⟨y, h1, h2⟩ ⟨z, g1, g2⟩
    refine ⟨fun a => pAdd (y a) (z a), fun a ha => ?_, fun j hj => ?_⟩
    · show pAdd (y a) (z a) = _
      rw [h1 a ha, g1 a ha, pAdd_zero]
    · show pAdd (u j) (v j) = _
      rw [h2 j hj, g2 j hj]
      unfold lcs
      letI := pr
      simp only [hA, hM]
      grind
  · rintro c u ⟨y, h1, h2⟩
    refine ⟨fun a => pMul c (y a), fun a ha => ?_, fun j hj => ?_⟩
    · show pMul c (y a) = _
      rw [h1 a ha, pMul_comm, pZero_mul]
    · show pMul c (u j) = _
      rw [h2 j hj]
      unfold lcs
      letI := pr
      simp only [hA, hM]
      grind
  · rintro a ⟨ha, hF⟩
    refine ⟨fun b => if b = a then pC 1 else pC 0, fun b hb => ?_, fun j hj => (lcs_one a ha W j).symm⟩
    show (if b = a then pC 1 else pC 0) = _
    rw [if_neg (fun e => by rw [e, hF] at hb; cases hb)]
/-- echelon: the row of slot r begins in column r -/
def EC (F : Nat → Bool) (W : Nat → Nat → Po) : Prop := ∀ r, r < 4 → F r = true → (∀ j, j < r → W r j = pC 0) ∧ W r r ≠ pC 0
theorem ec_up {F : Nat → Bool} {W : Nat → Nat → Po} (hE : EC F W) {y : Nat → Po} (hy : ∀ a, F a = false → y a = pC 0) {a j : Nat} (ha : a < 4) (hj : j < a) : pMul (y a) (W a j) = pC 0 := by
  cases hF : F a
  · rw [hy a hF, pZero_mul]
  · rw [(hE a ha hF).1 j hj, pMul_comm, pZero_mul]
theorem ec_at {F : Nat → Bool} {W : Nat → Nat → Po} (hE : EC F W) {y : Nat → Po} (hy : ∀ a, F a = false → y a = pC 0) {c : Nat} (hc : c < 4) (h : ∀ a, a < c → y a = pC 0) : lcs y W c = pMul (y c) (W c c) := by
  have g : ∀ a, a < 4 → a ≠ c → pMul (y a) (W a c) = pC 0 := fun a ha hac => by
    by_cases q : a < c
    · rw [h a q, pZero_mul]
    · exact ec_up hE hy ha (by omega)
  have : c = 0 ∨ c = 1 ∨ c = 2 ∨ c = 3 := by omega
  rcases this with e | e | e | e <;> subst e <;> unfold lcs
  · rw [g 1 (by omega) (by omega), g 2 (by omega) (by omega), g 3 (by omega) (by omega), pAdd_zero, pAdd_zero, pAdd_zero]
  · rw [g 0 (by omega) (by omega), g 2 (by omega) (by omega), g 3 (by omega) (by omega), pAdd_zero, pAdd_zero, pAdd_comm, pAdd_zero]
  · rw [g 0 (by omega) (by omega), g 1 (by omega) (by omega), g 3 (by omega) (by omega), pAdd_zero, pAdd_zero, pAdd_comm, pAdd_zero]
  · rw [g 0 (by omega) (by omega), g 1 (by omega) (by omega), g 2 (by omega) (by omega), pAdd_zero, pAdd_zero, pAdd_comm, pAdd_zero]
theorem ec_y {F : Nat → Bool} {W : Nat → Nat → Po} (hE : EC F W) {y : Nat → Po} (hy : ∀ a, F a = false → y a = pC 0) : ∀ c, c ≤ 4 → (∀ j, j < c → F j = true → lcs y W j = pC 0) → ∀ a, a < c → y a = pC 0
  | 0, _, _, a, ha => absurd ha (Nat.not_lt_zero _)
  | c + 1, hc, h, a, ha => by
    have ih := ec_y hE hy c (by omega) (fun j hj => h j (by omega))
    by_cases q : a < c
    · exact ih a q
    · have e : a = c := by omega
      subst e
      cases hF : F a
      · exact hy a hF
      · have k := h a (by omega) hF
        rw [ec_at hE hy (by omega) ih, pMul_comm] at k
        exact po_dom k (hE a (by omega) hF).2
/-- what is 0 in the full columns before c is 0 before c, and a multiple of the pivot there -/
theorem el {F : Nat → Bool} {W : Nat → Nat → Po} (hE : EC F W) {v : Nat → Po} (hv : Sl F W v) {c : Nat} (hc : c ≤ 4) (h : ∀ j, j < c → F j = true → v j = pC 0) : (∀ j, j < c → v j = pC 0) ∧ (c < 4 → (F c = true → pd (W c c) (v c)) ∧ (F c = false → v c = pC 0)) := by
  obtain ⟨y, hy, e⟩ := sl_y hv
  have k := ec_y hE hy c hc (fun j hj hF => by rw [← e j (by omega)]; exact h j hj hF)
  refine ⟨fun j hj => ?_, fun hc4 => ⟨fun _ => ⟨y c, ?_⟩, fun hF => ?_⟩⟩
  · rw [e j (by omega), ec_at hE hy (by omega) (fun a ha => k a (by omega)), k j hj, pZero_mul]
  · rw [e c hc4, ec_at hE hy hc4 k]
  · rw [e c hc4, ec_at hE hy hc4 k, hy c hF, pZero_mul]
theorem el_0 {F : Nat → Bool} {W : Nat → Nat → Po} (hE : EC F W) {v : Nat → Po} (hv : Sl F W v) (h : ∀ j, j < 4 → F j = true → v j = pC 0) : ∀ j, j < 4 → v j = pC 0 := (el hE hv (Nat.le_refl 4) h).1
/-- Hermite form -/
def HF (F : Nat → Bool) (W : Nat → Nat → Po) : Prop := EC F W ∧ (∀ r, r < 4 → F r = true → mnc (W r r)) ∧ ∀ r c, r < c → c < 4 → F r = true → F c = true → sz (W r c) < sz (W c c)
theorem pz2 (a : Po) : pAdd a (pNeg (pMul (pC 1) a)) = pC 0 := by
  letI := pr
  simp only [hA, hM, hG, hz0, h1]
  grind
theorem pz3 (a b : Po) : pAdd (pAdd a (pNeg (pMul (pC 1) b))) b = a := by
  letI := pr
  simp only [hA, hM, hG, h1]
  grind
theorem pd_sz {d a : Po} (h : pd d a) (ha : a ≠ pC 0) : sz d ≤ sz a := by
  obtain ⟨q, e⟩ := h
  have h1 : sz q ≠ 0 := fun z => ha (by rw [← e, sz_0 z, pZero_mul])
  have h2 : sz d ≠ 0 := fun z => ha (by rw [← e, sz_0 z, pMul_comm, pZero_mul])
  have := sz_mul h1 h2
  rw [e] at this
  omega
theorem ne_sz {p : Po} (h : p ≠ pC 0) : sz p ≠ 0 := fun z => h (sz_0 z)
theorem sz_ne {p : Po} (h : sz p ≠ 0) : p ≠ pC 0 := fun z => h (by rw [z, sz_z])
theorem mnc_pd {a b : Po} (h1 : mnc a) (h2 : mnc b) (h : pd a b) (hs : sz b ≤ sz a) : a = b := by
  obtain ⟨q, e⟩ := h
  have hb := mnc_sz h2
  have ha := mnc_sz h1
  have hq : sz q ≠ 0 := fun z => sz_ne hb (by rw [← e, sz_0 z, pZero_mul])
  have k := sz_mul hq ha
  rw [e] at k
  have q1 : sz q = 1 := by omega
  have l := mnc_mul hq ha
  rw [e, h1, h2] at l
  have eq : q = pC (lead q) := po_ext (fun j => by
    rw [co_C]
    by_cases z : j = 0
    · rw [if_pos z, z]
      unfold lead
      rw [q1]
    · rw [if_neg z, sz_hi (by omega)])
  have : lead q = 1 := by grind
  rw [this] at eq
  rw [← e, eq, pOne_mul]
theorem hf_F {F G : Nat → Bool} {W V : Nat → Nat → Po} (h1 : EC F W) (h2 : EC G V) (e : ∀ v, Sl F W v ↔ Sl G V v) {r : Nat} (hr : r < 4) (hF : F r = true) : G r = true ∧ pd (V r r) (W r r) := by
  have k : Sl G V (W r) := (e _).mp (sp_in ⟨hr, hF⟩)
  have g := (el h2 k (c := r) (by omega) (fun j hj _ => (h1 r hr hF).1 j hj)).2 hr
  cases z : G r
  · exact absurd (g.2 z) (h1 r hr hF).2
  · exact ⟨rfl, g.1 z⟩
theorem hf_eq {F G : Nat → Bool} {W V : Nat → Nat → Po} (h1 : EC F W) (h2 : EC G V) (e : ∀ v, Sl F W v ↔ Sl G V v) {r : Nat} (hr : r < 4) : F r = G r := by
  cases z : F r
  · cases z2 : G r
    · rfl
    · have := (hf_F h2 h1 (fun v => (e v).symm) hr z2).1
      rw [z] at this
      cases this
  · rw [(hf_F h1 h2 e hr z).1]
/-- the Hermite form is one -/
theorem hf_un {F G : Nat → Bool} {W V : Nat → Nat → Po} (h1 : HF F W) (h2 : HF G V) (e : ∀ v, Sl F W v ↔ Sl G V v) : (∀ r, r < 4 → F r = G r) ∧ ∀ r j, r < 4 → j < 4 → F r = true → W r j = V r j := by
  have eF : ∀ r, r < 4 → F r = G r := fun r hr => hf_eq h1.1 h2.1 e hr
  have eP : ∀ r, r < 4 → F r = true → W r r = V r r := fun r hr hF => by
    have a := hf_F h1.1 h2.1 e hr hF
    have b := hf_F h2.1 h1.1 (fun v => (e v).symm) hr a.1
    exact (mnc_pd (h2.2.1 r hr a.1) (h1.2.1 r hr hF) a.2 (pd_sz b.2 (h2.1 r hr a.1).2)).symm
  refine ⟨eF, fun r j hr hj hF => ?_⟩
  have hG : G r = true := by rw [← eF r hr]; exact hF
  have hd : Sl F W (fun j => pAdd (W r j) (pNeg (pMul (pC 1) (V r j)))) := sub_off (sp_sub _ _) (pC 1) (sp_in ⟨hr, hF⟩) ((e _).mpr (sp_in ⟨hr, hG⟩)) (fun _ _ => rfl)
  have key : ∀ c, c ≤ 4 → ∀ j, j < c → pAdd (W r j) (pNeg (pMul (pC 1) (V r j))) = pC 0 := by
    intro c
    induction c with
    | zero => intro _ j hj; omega
    | succ c ih =>
      intro hc j hj
      have ih := ih (by omega)
      by_cases q : j < c
      · exact ih j q
      · have ej : j = c := by omega
        subst ej
        have g := (el h1.1 hd (c := j) (by omega) (fun j' h' _ => ih j' h')).2 (by omega)
        cases hFj : F j
        · exact g.2 hFj
        · by_cases q1 : j < r
          · rw [(h1.1 r hr hF).1 j q1, (h2.1 r hr hG).1 j q1, pz2]
          · by_cases q2 : j = r
            · rw [q2, eP r hr hF, pz2]
            · have s1 := h1.2.2 r j (by omega) (by omega) hF hFj
              have s2 := h2.2.2 r j (by omega) (by omega) hG (by rw [← eF j (by omega)]; exact hFj)
              rw [← eP j (by omega) hFj] at s2
              refine Classical.byContradiction (fun ne => ?_)
              have s3 := pd_sz (g.1 hFj) ne
              have s4 : sz (pAdd (W r j) (pNeg (pMul (pC 1) (V r j)))) ≤ sz (W j j) - 1 := sz_add (by omega) (by rw [sz_neg, pOne_mul]; omega)
              omega
  have k := key 4 (Nat.le_refl 4) j hj
  have : pAdd (pAdd (W r j) (pNeg (pMul (pC 1) (V r j)))) (V r j) = V r j := by
    rw [k, pAdd_comm, pAdd_zero]
  rw [← this, pz3]
