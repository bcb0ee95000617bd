/-! Euclid's way between two rows: the rows stay combinations of the first two, of bounded degrees -/
theorem pdv_cs {a d : Po} (hd : sz d ≠ 0) : pdv a d = pC 0 ∧ sz a < sz d ∨ sz (pdv a d) = sz a + 1 - sz d ∧ sz d ≤ sz a := by
  have k := pdm a hd
  by_cases q : sz a < sz d
  · exact Or.inl ⟨(pdm_lo q).1, q⟩
  · exact Or.inr ⟨div_sz k.1 k.2 (by omega), by omega⟩
theorem pmd_off {a d : Po} (hd : sz d ≠ 0) : pAdd a (pNeg (pMul (pdv a d) d)) = pmd a d := by
  have k := (pdm a hd).1
  have : ∀ x y z : Po, pAdd x y = z → pAdd z (pNeg x) = y := fun x y z e => by
    rw [← e]
    letI := pr
    simp only [hA, hG]
    grind
  exact this _ _ _ k
def EU (S0 I0 : Nat → Po) (c : Nat) (S I : Nat → Po) : Prop := ∃ a b a' b' : Po, (∀ j, j < 4 → S j = pAdd (pMul a (S0 j)) (pMul b (I0 j)) ∧ I j = pAdd (pMul a' (S0 j)) (pMul b' (I0 j))) ∧ (a' = pC 0 ∨ sz a' + sz (S c) ≤ sz (I0 c) + 1) ∧ (b' = pC 0 ∨ sz b' + sz (S c) ≤ sz (S0 c) + 1) ∧ (a = pC 0 ∨ sz a + max (sz (I c)) 1 ≤ sz (I0 c) + 1) ∧ (b = pC 0 ∨ sz b + max (sz (I c)) 1 ≤ sz (S0 c) + 1) ∧ sz (S c) ≠ 0
theorem eu_0 {S I : Nat → Po} {c : Nat} (hS : sz (S c) ≠ 0) (hI : sz (I c) ≠ 0) : EU S I c S I := by
  have e1 := sz_one
  refine ⟨pC 1, pC 0, pC 0, pC 1, fun j _ => ?_, Or.inl rfl, Or.inr (by omega), Or.inr (by omega), Or.inl rfl, hS⟩
  letI := pr
  simp only [hA, hM, hz0, h1]
  constructor <;> grind
theorem eu_cof {a a' q : Po} {x s i : Nat} (ha : a = pC 0 ∨ sz a + max i 1 ≤ x + 1) (ha' : a' = pC 0 ∨ sz a' + s ≤ x + 1) (hq : q = pC 0 ∨ sz q = s + 1 - i ∧ i ≤ s) (hi : i ≠ 0) : pAdd a (pNeg (pMul q a')) = pC 0 ∨ sz (pAdd a (pNeg (pMul q a'))) + i ≤ x + 1 := by
  by_cases z : pAdd a (pNeg (pMul q a')) = pC 0
  · exact Or.inl z
  · refine Or.inr ?_
    have e1 : sz a = 0 ∨ sz a + i ≤ x + 1 := by
      rcases ha with e | e
      · left; rw [e, sz_z]
      · right; omega
    have e2 : sz (pMul q a') = 0 ∨ sz (pMul q a') + i ≤ x + 1 := by
      rcases hq with e | e
      · left; rw [e, pZero_mul, sz_z]
      · rcases ha' with f | f
        · left; rw [f, pMul_comm, pZero_mul, sz_z]
        · have := sz_mul_le q a'
          right
          omega
    have nz := ne_sz z
    by_cases g : i ≤ x + 1
    · have : sz (pAdd a (pNeg (pMul q a'))) ≤ x + 1 - i := sz_add (by omega) (by rw [sz_neg]; omega)
      omega
    · have : sz (pAdd a (pNeg (pMul q a'))) ≤ 0 := sz_add (by omega) (by rw [sz_neg]; omega)
      omega
theorem eu_step {S0 I0 S I I' : Nat → Po} {c : Nat} (hc : c < 4) (h : EU S0 I0 c S I) (hI : sz (I c) ≠ 0) (hI' : ∀ j, j < 4 → I' j = pAdd (S j) (pNeg (pMul (pdv (S c) (I c)) (I j)))) : EU S0 I0 c I I' ∧ I' c = pmd (S c) (I c) ∧ sz (I' c) < sz (I c) := by
  obtain ⟨a, b, a', b', h1, h2, h3, h4, h5, h6⟩ := h
  have ec : I' c = pmd (S c) (I c) := by rw [hI' c hc, pmd_off hI]
  have lt : sz (I' c) < sz (I c) := by rw [ec]; exact (pdm (S c) hI).2
  have le : sz (I' c) ≤ sz (S c) := by
    rcases pdv_cs (a := S c) hI with e | e
    · rw [ec, (pdm_lo e.2).2]
      exact Nat.le_refl _
    · omega
  refine ⟨⟨a', b', pAdd a (pNeg (pMul (pdv (S c) (I c)) a')), pAdd b (pNeg (pMul (pdv (S c) (I c)) b')), fun j hj => ⟨(h1 j hj).2, ?_⟩, ?_, ?_, ?_, ?_, hI⟩, ec, lt⟩
  · rw [hI' j hj, (h1 j hj).1, (h1 j hj).2]
    generalize pdv (S c) (I c) = q
    clear h1 h2 h3 h4 h5
    letI := pr
    simp only [hA, hM, hG]
    grind
  · exact eu_cof h4 h2 ((pdv_cs hI).imp (fun e => e.1) (fun e => e)) hI
  · exact eu_cof h5 h3 ((pdv_cs hI).imp (fun e => e.1) (fun e => e)) hI
  · rcases h2 with e | e
    · exact Or.inl e
    · right; omega
  · rcases h3 with e | e
    · exact Or.inl e
    · right; omega
theorem eu_bd {S0 I0 S I : Nat → Po} {c d X : Nat} (hc : c < 4) (h : EU S0 I0 c S I) (hS : ∀ j, j < 4 → sz (S0 j) ≤ d + 1) (hI : ∀ j, j < 4 → sz (I0 j) ≤ X + 1) : ∀ j, j < 4 → sz (S j) ≤ X + d + 1 ∧ sz (I j) ≤ X + d + 1 ∧ (sz (I c) ≠ 0 → sz (pdv (S c) (I c)) + sz (I j) ≤ X + d + 2) := by
  obtain ⟨a, b, a', b', h1, h2, h3, h4, h5, h6⟩ := h
  have cS := hS c hc
  have cI := hI c hc
  have key : ∀ (u v : Po) (w m n l : Nat), (u = pC 0 ∨ sz u + w ≤ m + 1) → sz v ≤ n + 1 → 1 ≤ w → m + n + 1 ≤ l + w → sz (pMul u v) ≤ l := fun u v w m n l hu hv hw hl => by
    rcases hu with e | e
    · rw [e, pZero_mul, sz_z]; omega
    · have := sz_mul_le u v
      omega
  have bS : ∀ j, j < 4 → sz (S j) ≤ X + d + 1 := fun j hj => by
    rw [(h1 j hj).1]
    exact sz_add (key _ _ _ _ d _ h4 (hS j hj) (by omega) (by omega)) (key _ _ _ _ X _ h5 (hI j hj) (by omega) (by omega))
  have bI : ∀ j, j < 4 → sz (I j) + sz (S c) ≤ X + d + 2 ∨ sz (I j) = 0 := fun j hj => by
    by_cases q : sz (S c) ≤ X + d + 2
    · left
      have : sz (I j) ≤ X + d + 2 - sz (S c) := by
        rw [(h1 j hj).2]
        exact sz_add (key _ _ _ _ d _ h2 (hS j hj) (by omega) (by omega)) (key _ _ _ _ X _ h3 (hI j hj) (by omega) (by omega))
      omega
    · have := bS c hc
      omega
  intro j hj
  have b1 := bS j hj
  have b2 := bI j hj
  have b3 := bS c hc
  refine ⟨b1, by omega, fun hn => ?_⟩
  rcases pdv_cs (a := S c) hn with e | e
  · rw [e.1, sz_z]
    omega
  · omega
noncomputable def eS (c : Nat) (W : Nat → Nat → Po) : Nat → Nat → Po := fun a j => if a = c then W 4 j else if a = 4 then pAdd (W c j) (pNeg (pMul (pdv (W c c) (W 4 c)) (W 4 j))) else W a j
theorem es_la {F : Nat → Bool} {W V : Nat → Nat → Po} {c : Nat} (hc : c < 4) (hF : F c = true) (hV : ∀ a j, a < 5 → j < 4 → V a j = eS c W a j) (v : Nat → Po) : La F V v ↔ La F W v := by
  have v4 : ∀ j, j < 4 → V 4 j = pAdd (W c j) (pNeg (pMul (pdv (W c c) (W 4 c)) (W 4 j))) := fun j hj => by rw [hV 4 j (by omega) hj]; unfold eS; rw [if_neg (by omega), if_pos rfl]
  have vc : ∀ j, j < 4 → V c j = W 4 j := fun j hj => by rw [hV c j (by omega) hj]; unfold eS; rw [if_pos rfl]
  have va : ∀ a, a < 4 → a ≠ c → ∀ j, j < 4 → V a j = W a j := fun a ha hac j hj => by rw [hV a j (by omega) hj]; unfold eS; rw [if_neg hac, if_neg (by omega)]
  constructor
  · intro h
    refine h _ (sp_sub _ _) (fun a ha => ?_)
    rcases ha with e | ⟨h4, hFa⟩
    · rw [e]
      exact sub_off (sp_sub _ _) _ (sp_in (Or.inr ⟨hc, hF⟩)) (sp_in (Or.inl rfl)) v4
    · by_cases q : a = c
      · rw [q]
        exact (sp_sub _ _).1 _ _ (fun j hj => (vc j hj).symm) (sp_in (Or.inl rfl))
      · exact (sp_sub _ _).1 _ _ (fun j hj => (va a h4 q j hj).symm) (sp_in (Or.inr ⟨h4, hFa⟩))
  · intro h
    have i4 : La F V (W 4) := (sp_sub _ _).1 _ _ vc (sp_in (Or.inr ⟨hc, hF⟩))
    refine h _ (sp_sub _ _) (fun a ha => ?_)
    rcases ha with e | ⟨h4, hFa⟩
    · rw [e]
      exact i4
    · by_cases q : a = c
      · rw [q]
        exact sub_on (sp_sub _ _) _ (sp_in (Or.inl rfl)) i4 v4
      · exact (sp_sub _ _).1 _ _ (va a h4 q) (sp_in (Or.inr ⟨h4, hFa⟩))
/-- taking a row off another -/
theorem of_sl {F : Nat → Bool} {W V : Nat → Nat → Po} {r s : Nat} {q : Po} (hr : r < 4) (hs : s < 4) (hrs : r ≠ s) (hFr : F r = true) (hFs : F s = true) (hV : ∀ a j, a < 4 → j < 4 → F a = true → V a j = if a = r then pAdd (W r j) (pNeg (pMul q (W s j))) else W a j) (v : Nat → Po) : Sl F V v ↔ Sl F W v := by
  have vr : ∀ j, j < 4 → V r j = pAdd (W r j) (pNeg (pMul q (W s j))) := fun j hj => by rw [hV r j hr hj hFr, if_pos rfl]
  have va : ∀ a, a < 4 → F a = true → a ≠ r → ∀ j, j < 4 → V a j = W a j := fun a ha hF hac j hj => by rw [hV a j ha hj hF, if_neg hac]
  constructor
  · intro h
    refine h _ (sp_sub _ _) (fun a ha => ?_)
    by_cases e : a = r
    · rw [e]
      exact sub_off (sp_sub _ _) q (sp_in ⟨hr, hFr⟩) (sp_in ⟨hs, hFs⟩) vr
    · exact (sp_sub _ _).1 _ _ (fun j hj => (va a ha.1 ha.2 e j hj).symm) (sp_in ha)
  · intro h
    refine h _ (sp_sub _ _) (fun a ha => ?_)
    by_cases e : a = r
    · rw [e]
      exact sub_on (sp_sub _ _) q (sp_in ⟨hr, hFr⟩) ((sp_sub _ _).1 _ _ (va s hs hFs (fun z => hrs z.symm)) (sp_in ⟨hs, hFs⟩)) vr
    · exact (sp_sub _ _).1 _ _ (va a ha.1 ha.2 e) (sp_in ha)
/-- a row times a number that is not 0 -/
theorem mn_sl {F : Nat → Bool} {W V : Nat → Nat → Po} {r : Nat} {c d : Po} (hcd : pMul c d = pC 1) (hV : ∀ a j, a < 4 → j < 4 → F a = true → V a j = if a = r then pMul d (W r j) else W a j) (v : Nat → Po) : Sl F V v ↔ Sl F W v := by
  constructor
  · intro h
    refine h _ (sp_sub _ _) (fun a ha => ?_)
    by_cases e : a = r
    · exact (sp_sub _ _).1 _ _ (fun j hj => by rw [hV a j ha.1 hj ha.2, if_pos e, e]) ((sp_sub _ _).2.2.2 d (W a) (sp_in ha))
    · exact (sp_sub _ _).1 _ _ (fun j hj => by rw [hV a j ha.1 hj ha.2, if_neg e]) (sp_in ha)
  · intro h
    refine h _ (sp_sub _ _) (fun a ha => ?_)
    by_cases e : a = r
    · exact (sp_sub _ _).1 _ _ (fun j hj => by rw [hV a j ha.1 hj ha.2, if_pos e, e, ← pMul_assoc, hcd, pOne_mul]) ((sp_sub _ _).2.2.2 c (V a) (sp_in ha))
    · exact (sp_sub _ _).1 _ _ (fun j hj => by rw [hV a j ha.1 hj ha.2, if_neg e]) (sp_in ha)
