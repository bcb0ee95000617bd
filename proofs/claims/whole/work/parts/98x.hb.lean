/-! degrees of Hermite forms -/
theorem lcs_sing {y : Nat → Po} {W : Nat → Nat → Po} {c j : Nat} (hc : c < 4) (g : ∀ a, a < 4 → a ≠ c → pMul (y a) (W a j) = pC 0) : lcs y W j = pMul (y c) (W c j) := by
  have : c = 0 ∨ c = 1 ∨ c = 2 ∨ c = 3 := by omega
  rcases this with e | e | e | e <;> subst e <;> unfold lcs
  · rw [g 1 (by omega) (by omega), g 2 (by omega) (by omega), g 3 (by omega) (by omega), pAdd_zero, pAdd_zero, pAdd_zero]
  · rw [g 0 (by omega) (by omega), g 2 (by omega) (by omega), g 3 (by omega) (by omega), pAdd_zero, pAdd_zero, pAdd_comm, pAdd_zero]
  · rw [g 0 (by omega) (by omega), g 1 (by omega) (by omega), g 3 (by omega) (by omega), pAdd_zero, pAdd_zero, pAdd_comm, pAdd_zero]
  · rw [g 0 (by omega) (by omega), g 1 (by omega) (by omega), g 2 (by omega) (by omega), pAdd_zero, pAdd_zero, pAdd_comm, pAdd_zero]
theorem sub_lcs {S : (Nat → Po) → Prop} (hS : sub4 S) {y : Nat → Po} {z : Nat → Nat → Po} {w : Nat → Po} (h : ∀ m, m < 4 → y m = pC 0 ∨ S (z m)) (hw : ∀ j, j < 4 → w j = lcs y z j) : S w := by
  have k : ∀ m, m < 4 → S (fun j => pMul (y m) (z m j)) := fun m hm => by
    rcases h m hm with e | e
    · exact sub_z hS (fun j _ => by rw [e, pZero_mul])
    · exact hS.2.2.2 _ _ e
  exact hS.1 _ _ (fun j hj => (hw j hj).symm) (hS.2.2.1 _ _ (hS.2.2.1 _ _ (hS.2.2.1 _ _ (k 0 (by omega)) (k 1 (by omega))) (k 2 (by omega))) (k 3 (by omega)))
theorem sz_lcs {y : Nat → Po} {z : Nat → Nat → Po} {j n : Nat} (h : ∀ m, m < 4 → sz (pMul (y m) (z m j)) ≤ n) : sz (lcs y z j) ≤ n := sz_add (sz_add (sz_add (h 0 (by omega)) (h 1 (by omega))) (h 2 (by omega))) (h 3 (by omega))
/-- for each full column a vector that is there as large as all say and 0 in the other full ones -/
def ZP (F : Nat → Bool) (T : (Nat → Po) → Prop) (d : Nat) (D : Po) : Prop := D ≠ pC 0 ∧ ∀ m, m < 4 → F m = true → ∃ z : Nat → Po, T z ∧ (∀ j, j < 4 → F j = true → z j = if j = m then D else pC 0) ∧ ∀ j, j < 4 → sz (z j) ≤ d + 1
theorem zp_piv {F : Nat → Bool} {W : Nat → Nat → Po} {d : Nat} {D : Po} (hE : EC F W) (hZ : ZP F (Sl F W) d D) {m : Nat} (hm : m < 4) (hF : F m = true) : sz (W m m) ≤ sz D ∧ sz D ≤ d + 1 := by
  obtain ⟨z, h1, h2, h3⟩ := hZ.2 m hm hF
  have g := (el hE h1 (c := m) (by omega) (fun j hj hj2 => by rw [h2 j (by omega) hj2, if_neg (by omega)])).2 hm
  have k := h2 m hm hF
  rw [if_pos rfl] at k
  have g1 := g.1 hF
  have s := h3 m hm
  rw [k] at g1 s
  exact ⟨pd_sz g1 hZ.1, s⟩
theorem hb {F : Nat → Bool} {W : Nat → Nat → Po} {d : Nat} {D : Po} (hE : EC F W) (hZ : ZP F (Sl F W) d D) {v : Nat → Po} (hv : Sl F W v) (hr : ∀ m, m < 4 → F m = true → sz (v m) ≤ sz (W m m)) : ∀ j, j < 4 → sz (v j) ≤ d + 1 := by
  have ex : ∀ m, ∃ z : Nat → Po, Sl F W z ∧ (m < 4 → F m = true → (∀ j, j < 4 → F j = true → z j = if j = m then D else pC 0) ∧ ∀ j, j < 4 → sz (z j) ≤ d + 1) := fun m => by
    by_cases q : m < 4 ∧ F m = true
    · obtain ⟨z, h1, h2⟩ := hZ.2 m q.1 q.2
      exact ⟨z, h1, fun _ _ => h2⟩
    · exact ⟨_, (sp_sub _ _).2.1, fun a b => absurd ⟨a, b⟩ q⟩
  obtain ⟨z, hz⟩ := Classical.axiomOfChoice ex
  obtain ⟨y, hy⟩ : ∃ y : Nat → Po, y = fun m => if F m = true then v m else pC 0 := ⟨_, rfl⟩
  have hy1 : ∀ m, F m = true → y m = v m := fun m h => by rw [hy]; exact if_pos h
  have hy0 : ∀ m, F m ≠ true → y m = pC 0 := fun m h => by rw [hy]; exact if_neg h
  have hu : Sl F W (fun j => pAdd (pMul D (v j)) (pNeg (pMul (pC 1) (lcs y z j)))) := sub_off (sp_sub _ _) (pC 1) ((sp_sub _ _).2.2.2 D v hv) (sub_lcs (sp_sub _ _) (y := y) (z := z) (w := fun j => lcs y z j) (fun m _ => Or.inr (hz m).1) (fun _ _ => rfl)) (fun _ _ => rfl)
  have hu0 := el_0 hE hu (fun j hj hF => by
    have : lcs y z j = pMul (y j) (z j j) := lcs_sing hj (fun a ha haj => by
      by_cases q : F a = true
      · rw [((hz a).2 ha q).1 j hj hF, if_neg (fun e => haj e.symm), pMul_comm, pZero_mul]
      · rw [hy0 a q, pZero_mul])
    rw [this, ((hz j).2 hj hF).1 j hj hF, if_pos rfl, hy1 j hF, pMul_comm D, pz2])
  intro j hj
  have e : pMul D (v j) = lcs y z j := by
    have k := pz3 (pMul D (v j)) (lcs y z j)
    rw [hu0 j hj, pAdd_comm, pAdd_zero] at k
    exact k.symm
  by_cases q : sz (v j) = 0
  · omega
  · have s1 := sz_mul (ne_sz hZ.1) q
    have s2 : sz (lcs y z j) ≤ sz D + d := sz_lcs (fun m hm => by
      by_cases qF : F m = true
      · have a := sz_mul_le (y m) (z m j)
        have b := ((hz m).2 hm qF).2 j hj
        have c := hr m hm qF
        have c2 := (zp_piv hE hZ hm qF).1
        rw [hy1 m qF] at a ⊢
        omega
      · rw [hy0 m qF, pZero_mul, sz_z]
        omega)
    rw [← e] at s2
    omega
def m2 (a b : Nat → Po) (i k : Nat) : Po := pAdd (pMul (a i) (b k)) (pNeg (pMul (a k) (b i)))
def m3 (a b c : Nat → Po) (i k l : Nat) : Po := pAdd (pAdd (pMul (c i) (m2 a b k l)) (pNeg (pMul (c k) (m2 a b i l)))) (pMul (c l) (m2 a b i k))
def m4 (a b c d : Nat → Po) : Po := pAdd (pAdd (pAdd (pMul (d 3) (m3 a b c 0 1 2)) (pNeg (pMul (d 2) (m3 a b c 0 1 3)))) (pMul (d 1) (m3 a b c 0 2 3))) (pNeg (pMul (d 0) (m3 a b c 1 2 3)))
def dt (s : Nat) (u : Nat → Nat → Po) : Po := if s = 0 then pC 1 else if s = 1 then u 0 0 else if s = 2 then m2 (u 0) (u 1) 0 1 else if s = 3 then m3 (u 0) (u 1) (u 2) 0 1 2 else m4 (u 0) (u 1) (u 2) (u 3)
def cr (u : Nat → Nat → Po) (b : Nat) (w : Nat → Po) : Nat → Nat → Po := fun b' => if b' = b then w else u b'
theorem dt_eq {s b c : Nat} (hs : s ≤ 4) (hb : b < s) (hc : c < s) (hbc : b ≠ c) (u : Nat → Nat → Po) : dt s (cr u b (u c)) = pC 0 := by
  have hsv : s = 2 ∨ s = 3 ∨ s = 4 := by omega
  have hbv : b = 0 ∨ b = 1 ∨ b = 2 ∨ b = 3 := by omega
  have hcv : c = 0 ∨ c = 1 ∨ c = 2 ∨ c = 3 := by omega
  rcases hsv with e | e | e <;> subst e <;> rcases hbv with e | e | e | e <;> subst e <;> rcases hcv with e | e | e | e <;> subst e <;> first | omega | (simp only [dt, cr, m2, m3, m4, reduceIte, Nat.reduceEqDiff]; letI := pr; simp only [hA, hM, hG, hz0]; grind)
def eK (k : Nat) : Nat → Po := fun i => if i = k then pC 1 else pC 0
def kap (s : Nat) (u : Nat → Nat → Po) (b : Nat) : Nat → Po := fun k => if k < s then dt s (cr u b (eK k)) else pC 0
theorem dt_lin {s b : Nat} (hs : s ≤ 4) (hb : b < s) (u : Nat → Nat → Po) (w : Nat → Po) : dt s (cr u b w) = lcs (kap s u b) (fun k _ => w k) 0 := by
  have hsv : s = 1 ∨ s = 2 ∨ s = 3 ∨ s = 4 := by omega
  have hbv : b = 0 ∨ b = 1 ∨ b = 2 ∨ b = 3 := by omega
  rcases hsv with e | e | e | e <;> subst e <;> rcases hbv with e | e | e | e <;> subst e <;> first | omega | (simp only [lcs, kap, eK, dt, cr, m2, m3, m4, reduceIte, Nat.reduceEqDiff, Nat.reduceLT]; letI := pr; simp only [hA, hM, hG, hz0, h1]; grind)
theorem kap_last {s : Nat} (hs : s < 4) (u : Nat → Nat → Po) : kap (s + 1) u s s = dt s u := by
  have hsv : s = 0 ∨ s = 1 ∨ s = 2 ∨ s = 3 := by omega
  rcases hsv with e | e | e | e <;> subst e
  · simp only [kap, eK, dt, cr, reduceIte, Nat.reduceEqDiff, Nat.reduceLT, Nat.reduceAdd]
  all_goals (simp only [kap, eK, dt, cr, m2, m3, m4, reduceIte, Nat.reduceEqDiff, Nat.reduceLT, Nat.reduceAdd]; letI := pr; simp only [hA, hM, hG, hz0, h1]; grind)
theorem szm {p q : Po} {m n : Nat} (hp : sz p ≤ m + 1) (hq : sz q ≤ n + 1) : sz (pMul p q) ≤ m + n + 1 := by
  have := sz_mul_le p q
  omega
theorem m2_sz {a b : Nat → Po} (ha : ∀ k, sz (a k) ≤ 4) (hb : ∀ k, sz (b k) ≤ 4) (i k : Nat) : sz (m2 a b i k) ≤ 7 := sz_add (szm (m := 3) (n := 3) (ha i) (hb k)) (by rw [sz_neg]; exact szm (m := 3) (n := 3) (ha k) (hb i))
theorem m3_sz {a b c : Nat → Po} (ha : ∀ k, sz (a k) ≤ 4) (hb : ∀ k, sz (b k) ≤ 4) (hc : ∀ k, sz (c k) ≤ 4) (i k l : Nat) : sz (m3 a b c i k l) ≤ 10 := sz_add (sz_add (szm (m := 3) (n := 6) (hc i) (m2_sz ha hb k l)) (by rw [sz_neg]; exact szm (m := 3) (n := 6) (hc k) (m2_sz ha hb i l))) (szm (m := 3) (n := 6) (hc l) (m2_sz ha hb i k))
theorem m4_sz {a b c d : Nat → Po} (ha : ∀ k, sz (a k) ≤ 4) (hb : ∀ k, sz (b k) ≤ 4) (hc : ∀ k, sz (c k) ≤ 4) (hd : ∀ k, sz (d k) ≤ 4) : sz (m4 a b c d) ≤ 13 := sz_add (sz_add (sz_add (szm (m := 3) (n := 9) (hd 3) (m3_sz ha hb hc 0 1 2)) (by rw [sz_neg]; exact szm (m := 3) (n := 9) (hd 2) (m3_sz ha hb hc 0 1 3))) (szm (m := 3) (n := 9) (hd 1) (m3_sz ha hb hc 0 2 3))) (by rw [sz_neg]; exact szm (m := 3) (n := 9) (hd 0) (m3_sz ha hb hc 1 2 3))
theorem sz_one : sz (pC 1) ≤ 1 := sz_le (fun j hj => by rw [co_C, if_neg (by omega)])
theorem dt_sz {s : Nat} (hs : s ≤ 4) {u : Nat → Nat → Po} (h : ∀ b k, sz (u b k) ≤ 4) : sz (dt s u) ≤ 3 * s + 1 := by
  have hsv : s = 0 ∨ s = 1 ∨ s = 2 ∨ s = 3 ∨ s = 4 := by omega
  rcases hsv with e | e | e | e | e <;> subst e
  · exact sz_one
  · exact h 0 0
  · exact m2_sz (h 0) (h 1) 0 1
  · exact m3_sz (h 0) (h 1) (h 2) 0 1 2
  · exact m4_sz (h 0) (h 1) (h 2) (h 3)
/-- rows of degrees up to 3, as many as full slots, whose determinant in the full columns is not 0 -/
def ZI (s : Nat) (F : Nat → Bool) (T : (Nat → Po) → Prop) : Prop := s ≤ 4 ∧ ∃ (f : Nat → Nat) (R : Nat → Nat → Po), (∀ b, b < s → f b < 4 ∧ F (f b) = true) ∧ (∀ c, c < 4 → F c = true → ∃ b, b < s ∧ f b = c) ∧ (∀ k, k < s → T (R k)) ∧ (∀ k j, sz (R k j) ≤ 4) ∧ dt s (fun b k => R k (f b)) ≠ pC 0
theorem cr_id (u : Nat → Nat → Po) (b : Nat) : cr u b (u b) = u := by
  funext b'
  unfold cr
  by_cases q : b' = b
  · rw [if_pos q, q]
  · rw [if_neg q]
theorem zi_zp {s : Nat} {F : Nat → Bool} {T : (Nat → Po) → Prop} (hT : sub4 T) (h : ZI s F T) : ∃ D, ZP F T (3 * s) D := by
  obtain ⟨hs, f, R, h1, h2, h3, h4, h5⟩ := h
  refine ⟨_, h5, fun m hm hF => ?_⟩
  obtain ⟨b, hb, e⟩ := h2 m hm hF
  refine ⟨fun j => dt s (cr (fun b k => R k (f b)) b (fun k => R k j)), ?_, fun j hj hFj => ?_, fun j hj => dt_sz hs (fun b' k => ?_)⟩
  · refine sub_lcs hT (y := kap s (fun b k => R k (f b)) b) (z := R) (fun k hk => ?_) (fun j hj => ?_)
    · by_cases q : k < s
      · exact Or.inr (h3 k q)
      · exact Or.inl (if_neg q)
    · exact dt_lin hs hb _ _
  · show dt s (cr (fun b k => R k (f b)) b (fun k => R k j)) = _
    by_cases q : j = m
    · rw [if_pos q, q, ← e]
      exact congrArg _ (cr_id (fun b k => R k (f b)) b)
    · rw [if_neg q]
      obtain ⟨c, hc, e2⟩ := h2 j hj hFj
      rw [← e2]
      exact dt_eq hs hb hc (fun z => q (by rw [← e2, ← e, z])) (fun b k => R k (f b))
  · show sz ((if b' = b then fun k => R k j else fun k => R k (f b')) k) ≤ 4
    by_cases q : b' = b
    · rw [if_pos q]
      exact h4 k j
    · rw [if_neg q]
      exact h4 k (f b')
theorem zi_mono {s : Nat} {F G : Nat → Bool} {T T' : (Nat → Po) → Prop} (h : ZI s F T) (hT : ∀ v, T v → T' v) (hF : ∀ c, c < 4 → F c = G c) : ZI s G T' := by
  obtain ⟨hs, f, R, h1, h2, h3, h4, h5⟩ := h
  exact ⟨hs, f, R, fun b hb => ⟨(h1 b hb).1, by rw [← hF _ (h1 b hb).1]; exact (h1 b hb).2⟩, fun c hc hG => h2 c hc (by rw [hF c hc]; exact hG), fun k hk => hT _ (h3 k hk), h4, h5⟩
theorem zi_0 {T : (Nat → Po) → Prop} : ZI 0 (fun _ => false) T := by
  refine ⟨by omega, fun _ => 0, fun _ _ => pC 0, fun b hb => absurd hb (Nat.not_lt_zero _), fun c _ h => ?_, fun k hk => absurd hk (Nat.not_lt_zero _), fun _ _ => ?_, fun e => ?_⟩
  · cases h
  · rw [sz_z]
    omega
  · have e2 : pC 1 = pC 0 := e
    have : co (pC 1) 0 = co (pC 0) 0 := congrArg (fun p => co p 0) e2
    rw [co_C, co_C, if_pos rfl, if_pos rfl] at this
    exact absurd this (by decide)
theorem dt_congr {s : Nat} (hs : s ≤ 4) {u v : Nat → Nat → Po} (h : ∀ b k, b < s → k < s → u b k = v b k) : dt s u = dt s v := by
  have hsv : s = 0 ∨ s = 1 ∨ s = 2 ∨ s = 3 ∨ s = 4 := by omega
  rcases hsv with e | e | e | e | e <;> subst e
  · simp only [dt, reduceIte]
  · simp only [dt, reduceIte, Nat.reduceEqDiff]
    exact h 0 0 (by omega) (by omega)
  · simp only [dt, m2, reduceIte, Nat.reduceEqDiff]
    rw [h 0 0 (by omega) (by omega), h 0 1 (by omega) (by omega), h 1 0 (by omega) (by omega), h 1 1 (by omega) (by omega)]
  · simp only [dt, m2, m3, reduceIte, Nat.reduceEqDiff]
    rw [h 0 0 (by omega) (by omega), h 0 1 (by omega) (by omega), h 0 2 (by omega) (by omega), h 1 0 (by omega) (by omega), h 1 1 (by omega) (by omega), h 1 2 (by omega) (by omega), h 2 0 (by omega) (by omega), h 2 1 (by omega) (by omega), h 2 2 (by omega) (by omega)]
  · simp only [dt, m2, m3, m4, reduceIte, Nat.reduceEqDiff]
    rw [h 0 0 (by omega) (by omega), h 0 1 (by omega) (by omega), h 0 2 (by omega) (by omega), h 0 3 (by omega) (by omega), h 1 0 (by omega) (by omega), h 1 1 (by omega) (by omega), h 1 2 (by omega) (by omega), h 1 3 (by omega) (by omega), h 2 0 (by omega) (by omega), h 2 1 (by omega) (by omega), h 2 2 (by omega) (by omega), h 2 3 (by omega) (by omega), h 3 0 (by omega) (by omega), h 3 1 (by omega) (by omega), h 3 2 (by omega) (by omega), h 3 3 (by omega) (by omega)]
theorem pn0 : pNeg (pC 0) = pC 0 := by
  letI := pr
  simp only [hG, hz0]
  grind
theorem lcs_split {κ : Nat → Po} {R : Nat → Nat → Po} {j s : Nat} (hs : s < 4) (z : lcs κ R j = pC 0) : pMul (κ s) (R s j) = lcs (fun k => if k = s then pC 0 else pNeg (κ k)) R j := by
  have hsv : s = 0 ∨ s = 1 ∨ s = 2 ∨ s = 3 := by omega
  unfold lcs at *
  rcases hsv with e | e | e | e <;> subst e <;> simp only [reduceIte, Nat.reduceEqDiff] <;> letI := pr <;> simp only [hA, hM, hG, hz0] at z ⊢ <;> grind
/-- a new full column: one row more -/
theorem zi_new {s c : Nat} {F G : Nat → Bool} {W V : Nat → Nat → Po} (hs : s < 4) (h : ZI s F (Sl F W)) (hE : EC F W) (hV : EC G V) (hsub : ∀ v, Sl F W v → Sl G V v) {a : Nat → Po} (ha4 : ∀ j, sz (a j) ≤ 4) (ha : Sl G V a) (hc : c < 4) (hFc : F c = false) (hG : ∀ k, G k = if k = c then true else F k) (hgen : ∀ S, sub4 S → (∀ v, Sl F W v → S v) → S a → S (V c)) : ZI (s + 1) G (Sl G V) := by
  obtain ⟨_, f, R, h1, h2, h3, h4, h5⟩ := h
  have hGc : G c = true := by rw [hG, if_pos rfl]
  obtain ⟨R', hR'⟩ : ∃ R' : Nat → Nat → Po, R' = fun k => if k = s then a else R k := ⟨_, rfl⟩
  obtain ⟨f', hf'⟩ : ∃ f' : Nat → Nat, f' = fun b => if b = s then c else f b := ⟨_, rfl⟩
  have eR : ∀ k, k < s → R' k = R k := fun k hk => by rw [hR']; exact if_neg (by omega)
  have eRs : R' s = a := by rw [hR']; exact if_pos rfl
  have ef : ∀ b, b < s → f' b = f b := fun b hb => by rw [hf']; exact if_neg (by omega)
  have efs : f' s = c := by rw [hf']; exact if_pos rfl
  have tR : ∀ k, k < s + 1 → Sl G V (R' k) := fun k hk => by
    by_cases q : k = s
    · rw [q, eRs]; exact ha
    · rw [eR k (by omega)]; exact hsub _ (h3 k (by omega))
  have hF1 : ∀ k, F k = true → G k = true := fun k hk => by
    rw [hG]
    by_cases q : k = c
    · rw [if_pos q]
    · rw [if_neg q]; exact hk
  refine ⟨by omega, f', R', fun b hb => ?_, fun k hk hGk => ?_, tR, fun k j => ?_, fun e0 => ?_⟩
  · by_cases q : b = s
    · rw [q, efs]; exact ⟨hc, hGc⟩
    · rw [ef b (by omega)]; exact ⟨(h1 b (by omega)).1, hF1 _ (h1 b (by omega)).2⟩
  · by_cases q : k = c
    · exact ⟨s, by omega, by rw [efs, q]⟩
    · rw [hG, if_neg q] at hGk
      obtain ⟨b, hb, e⟩ := h2 k hk hGk
      exact ⟨b, by omega, by rw [ef b hb]; exact e⟩
  · rw [hR']
    show sz ((if k = s then a else R k) j) ≤ 4
    by_cases q : k = s
    · rw [if_pos q]; exact ha4 j
    · rw [if_neg q]; exact h4 k j
  · obtain ⟨u, hu⟩ : ∃ u : Nat → Nat → Po, u = fun b k => R' k (f' b) := ⟨_, rfl⟩
    obtain ⟨κ, hκ⟩ : ∃ κ, κ = kap (s + 1) u s := ⟨_, rfl⟩
    have k1 : ∀ w, dt (s + 1) (cr u s w) = lcs κ (fun k _ => w k) 0 := fun w => by rw [hκ]; exact dt_lin (by omega) (by omega) u w
    have y0 := el_0 hV (v := fun j => lcs κ R' j) (sub_lcs (sp_sub _ _) (y := κ) (z := R') (fun k hk => by
      by_cases q : k < s + 1
      · exact Or.inr (tR k q)
      · exact Or.inl (by rw [hκ]; exact if_neg q)) (fun _ _ => rfl)) (fun j hj hGj => by
      have : lcs κ R' j = dt (s + 1) (cr u s (fun k => R' k j)) := by
        rw [k1 (fun k => R' k j)]
        rfl
      show lcs κ R' j = _
      rw [this]
      by_cases q : j = c
      · rw [q, ← efs]
        have z := cr_id u s
        rw [show (fun k => R' k (f' s)) = u s by rw [hu], z, hu]
        exact e0
      · rw [hG, if_neg q] at hGj
        obtain ⟨b, hb, e⟩ := h2 j hj hGj
        rw [← e, ← ef b hb, show (fun k => R' k (f' b)) = u b by rw [hu]]
        exact dt_eq (by omega) (by omega) (by omega) (by omega) u)
    have kl : κ s = dt s (fun b k => R k (f b)) := by
      rw [hκ, kap_last hs, hu]
      exact dt_congr (by omega) (fun b k hb hk => by rw [eR k hk, ef b hb])
    obtain ⟨κ', hκ'⟩ : ∃ κ' : Nat → Po, κ' = fun k => if k = s then pC 0 else pNeg (κ k) := ⟨_, rfl⟩
    have split : ∀ j, j < 4 → pMul (κ s) (a j) = lcs κ' R' j := fun j hj => by
      have z : lcs κ R' j = pC 0 := y0 j hj
      have ea : a j = R' s j := by rw [eRs]
      rw [ea, hκ']
      exact lcs_split hs z
    have hT : Sl F W (fun j => pMul (κ s) (a j)) := sub_lcs (sp_sub _ _) (y := κ') (z := R') (fun k hk => by
      by_cases q : k < s
      · rw [eR k q]; exact Or.inr (h3 k q)
      · by_cases q2 : k = s
        · exact Or.inl (by rw [hκ']; exact if_pos q2)
        · refine Or.inl ?_
          rw [hκ']
          show (if k = s then pC 0 else pNeg (κ k)) = _
          rw [if_neg q2, hκ, show kap (s + 1) u s k = pC 0 from if_neg (by omega), pn0]) split
    have hVc : Sl F W (fun j => pMul (κ s) (V c j)) := hgen (fun v => Sl F W (fun j => pMul (κ s) (v j))) ⟨fun u v e hu => (sp_sub _ _).1 _ _ (fun j hj => by rw [e j hj]) hu, (sp_sub _ _).1 _ _ (fun j hj => by
        show pC 0 = pMul (κ s) (pC 0)
        rw [pMul_comm, pZero_mul]) (sp_sub _ _).2.1, fun u v hu hv => (sp_sub _ _).1 _ _ (fun j hj => by
        show pAdd (pMul (κ s) (u j)) (pMul (κ s) (v j)) = pMul (κ s) (pAdd (u j) (v j))
        rw [pMul_add]) ((sp_sub _ _).2.2.1 _ _ hu hv), fun x u hu => (sp_sub _ _).1 _ _ (fun j hj => by
        show pMul x (pMul (κ s) (u j)) = pMul (κ s) (pMul x (u j))
        rw [← pMul_assoc, ← pMul_assoc, pMul_comm x]) ((sp_sub _ _).2.2.2 x _ hu)⟩ (fun v hv => (sp_sub _ _).2.2.2 _ _ hv) hT
    have g := ((el hE hVc (c := c) (by omega) (fun j hj _ => by
      show pMul (κ s) (V c j) = _
      rw [(hV c hc hGc).1 j hj, pMul_comm, pZero_mul])).2 hc).2 hFc
    exact (hV c hc hGc).2 (po_dom g (by rw [kl]; exact h5))
