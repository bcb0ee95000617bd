/-! rows of an echelon are made monic and lowered by those below -/
def RO1 (F : Nat → Bool) (W : Nat → Nat → Po) (k : Nat) : Prop := mnc (W k k) ∧ ∀ m, k < m → m < 4 → F m = true → sz (W k m) < sz (W m m)
def RD (F : Nat → Bool) (W : Nat → Nat → Po) (T : (Nat → Po) → Prop) (r : Nat) : Prop := EC F W ∧ (∀ v, Sl F W v ↔ T v) ∧ ∀ k, r ≤ k → k < 4 → F k = true → RO1 F W k
def RIV (F : Nat → Bool) (W : Nat → Nat → Po) (T : (Nat → Po) → Prop) (r c : Nat) : Prop := EC F W ∧ (∀ v, Sl F W v ↔ T v) ∧ (∀ k, r < k → k < 4 → F k = true → RO1 F W k) ∧ mnc (W r r) ∧ ∀ m, r < m → m < c → F m = true → sz (W r m) < sz (W m m)
section RDI
variable {F : Nat → Bool} {W V : Nat → Nat → Po} {T : (Nat → Po) → Prop} {r c : Nat}
theorem ri_step (hr : r < c) (hc : c < 4) (hFr : F r = true) (hFc : F c = true) (hV : ∀ a j, a < 4 → j < 4 → F a = true → V a j = if a = r then pAdd (W r j) (pNeg (pMul (pdv (W r c) (W c c)) (W c j))) else W a j) (h : RIV F W T r c) : RIV F V T r (c + 1) := by
  obtain ⟨h1, h2, h3, h4, h5⟩ := h
  have ec := h1 c hc hFc
  have lo : ∀ j, j < c → V r j = W r j := fun j hj => by
    rw [hV r j (by omega) (by omega) hFr, if_pos rfl, ec.1 j hj, pMul_comm, pZero_mul, pn0, pAdd_zero]
  have ot : ∀ a j, a < 4 → j < 4 → F a = true → a ≠ r → V a j = W a j := fun a j ha hj hF q => by rw [hV a j ha hj hF, if_neg q]
  refine ⟨fun k hk hF => ?_, fun v => (of_sl (by omega) hc (by omega) hFr hFc hV v).trans (h2 v), fun k hk hk4 hF => ⟨?_, fun m hm hm4 hFm => ?_⟩, ?_, fun m hm hmc hFm => ?_⟩
  · by_cases q : k = r
    · rw [q]
      exact ⟨fun j hj => by rw [lo j (by omega)]; exact (h1 r (by omega) hFr).1 j hj, by rw [lo r hr]; exact (h1 r (by omega) hFr).2⟩
    · exact ⟨fun j hj => by rw [ot k j hk (by omega) hF q]; exact (h1 k hk hF).1 j hj, by rw [ot k k hk hk hF q]; exact (h1 k hk hF).2⟩
  · rw [ot k k hk4 hk4 hF (by omega)]
    exact (h3 k hk hk4 hF).1
  · rw [ot k m hk4 hm4 hF (by omega), ot m m hm4 hm4 hFm (by omega)]
    exact (h3 k hk hk4 hF).2 m hm hm4 hFm
  · rw [lo r hr]
    exact h4
  · rw [ot m m (by omega) (by omega) hFm (by omega)]
    by_cases q : m = c
    · rw [q, hV r c (by omega) hc hFr, if_pos rfl, pmd_off (ne_sz ec.2)]
      exact (pdm (W r c) (ne_sz ec.2)).2
    · rw [lo m (by omega)]
      exact h5 m hm (by omega) hFm
theorem ri_skip (hF : F c = false) (h : RIV F W T r c) : RIV F W T r (c + 1) := ⟨h.1, h.2.1, h.2.2.1, h.2.2.2.1, fun m hm hmc hFm => by
  by_cases q : m = c
  · rw [q, hF] at hFm
    cases hFm
  · exact h.2.2.2.2 m hm (by omega) hFm⟩
theorem ri_end (h : RIV F W T r 4) : RD F W T r := ⟨h.1, h.2.1, fun k hk hk4 hF => by
  by_cases q : k = r
  · rw [q]
    exact ⟨h.2.2.2.1, fun m hm hm4 hFm => h.2.2.2.2 m hm hm4 hFm⟩
  · exact h.2.2.1 k (by omega) hk4 hF⟩
theorem finv_pc {x : Fp} (h : x ≠ 0) : pMul (pC x) (pC (finv x)) = pC 1 := po_ext (fun j => by
  rw [pC_mul_co, co_C, co_C]
  by_cases q : j = 0
  · rw [if_pos q, if_pos q]
    have := finv_mul h
    grind
  · rw [if_neg q, if_neg q]
    grind)
theorem sz_cm {c : Fp} (hc : c ≠ 0) (p : Po) : sz (pMul (pC c) p) = sz p := sz_eq (fun j hj => by
  rw [pC_mul_co, sz_hi hj]
  grind) (fun hn => by
  rw [pC_mul_co]
  exact f_mul_ne hc (sz_top hn))
theorem mn_lead {p : Po} (h : sz p ≠ 0) : mnc (pMul (pC (finv (lead p))) p) := by
  have hl : lead p ≠ 0 := sz_top h
  unfold mnc
  rw [show lead (pMul (pC (finv (lead p))) p) = co (pMul (pC (finv (lead p))) p) (sz (pMul (pC (finv (lead p))) p) - 1) from rfl, sz_cm (finv_ne hl), pC_mul_co]
  exact finv_mul hl
theorem ri_start (hr : r < 4) (hFr : F r = true) (h : RD F W T (r + 1)) (hV : ∀ a j, a < 4 → j < 4 → F a = true → V a j = if a = r then pMul (pC (finv (lead (W r r)))) (W r j) else W a j) : RIV F V T r (r + 1) := by
  obtain ⟨h1, h2, h3⟩ := h
  have e := h1 r hr hFr
  have hl : lead (W r r) ≠ 0 := sz_top (ne_sz e.2)
  have ot : ∀ a j, a < 4 → j < 4 → F a = true → a ≠ r → V a j = W a j := fun a j ha hj hF q => by rw [hV a j ha hj hF, if_neg q]
  have rr : ∀ j, j < 4 → V r j = pMul (pC (finv (lead (W r r)))) (W r j) := fun j hj => by rw [hV r j hr hj hFr, if_pos rfl]
  refine ⟨fun k hk hF => ?_, fun v => (mn_sl (finv_pc hl) hV v).trans (h2 v), fun k hk hk4 hF => ⟨?_, fun m hm hm4 hFm => ?_⟩, ?_, fun m hm hmc hFm => by omega⟩
  · by_cases q : k = r
    · rw [q]
      refine ⟨fun j hj => by rw [rr j (by omega), e.1 j hj, pMul_comm, pZero_mul], ?_⟩
      rw [rr r hr]
      exact sz_ne (by rw [sz_cm (finv_ne hl)]; exact ne_sz e.2)
    · exact ⟨fun j hj => by rw [ot k j hk (by omega) hF q]; exact (h1 k hk hF).1 j hj, by rw [ot k k hk hk hF q]; exact (h1 k hk hF).2⟩
  · rw [ot k k hk4 hk4 hF (by omega)]
    exact (h3 k (by omega) hk4 hF).1
  · rw [ot k m hk4 hm4 hF (by omega), ot m m hm4 hm4 hFm (by omega)]
    exact (h3 k (by omega) hk4 hF).2 m hm hm4 hFm
  · rw [rr r hr]
    exact mn_lead (ne_sz e.2)
theorem rd_skip (hF : F r = false) (h : RD F W T (r + 1)) : RD F W T r := ⟨h.1, h.2.1, fun k hk hk4 hFk => by
  by_cases q : k = r
  · rw [q, hF] at hFk
    cases hFk
  · exact h.2.2 k (by omega) hk4 hFk⟩
theorem rd_hf (h : RD F W T 0) : HF F W := ⟨h.1, fun k hk hF => (h.2.2 k (by omega) hk hF).1, fun k m hkm hm hFk hFm => (h.2.2 k (by omega) (by omega) hFk).2 m hkm hm hFm⟩
theorem zp_iff {T' : (Nat → Po) → Prop} {d : Nat} {D : Po} (h : ZP F T d D) (e : ∀ v, T' v ↔ T v) : ZP F T' d D := ⟨h.1, fun m hm hF => by
  obtain ⟨z, h1, h2⟩ := h.2 m hm hF
  exact ⟨z, (e z).mpr h1, h2⟩⟩
/-- a lowered row has small degrees -/
theorem rd_sz {d : Nat} {D : Po} (h : RD F W T r) (hZ : ZP F T d D) (hr : r < 4) (hF : F r = true) : ∀ j, j < 4 → sz (W r j) ≤ d + 1 := by
  refine hb h.1 (zp_iff hZ h.2.1) (sp_in ⟨hr, hF⟩) (fun m hm hFm => ?_)
  by_cases q : m < r
  · rw [(h.1 r hr hF).1 m q, sz_z]
    omega
  · by_cases q2 : m = r
    · rw [q2]
      exact Nat.le_refl _
    · have := (h.2.2 r (Nat.le_refl _) hr hF).2 m (by omega) hm hFm
      omega
end RDI
section EC4
variable {N : Nat} {I : Nat → Int32} {h0 : Hp}
theorem red_in (hN : 1000 ≤ N) {B : Nat → Nat → Int32} {F : Nat → Bool} {T : (Nat → Po) → Prop} {inc : Nat} {sl : Nat → Option Nat} {g : Nat → Nat} (eh : EH g inc sl) (hB : ∀ k, k < 4 → B 1 k = bF F k) {r : Nat} (hr : r < 4) (hFr : F r = true) : ∀ (d n c : Nat) (P : Nat → Po), c + d = 4 → r < c → d < n → FT P → RIV F (WE P g) T r c → (∀ k j, r < k → k < 4 → j < 4 → F k = true → sz (WE P g k j) ≤ 13) → (∀ j, j < 4 → sz (WE P g r j) ≤ 31 + 12 * (c - r - 1)) → ∃ P' z', (∀ κ, lX1_reduce_29 N 453 (nI r) n (nI c) (HH P I B inc sl h0) κ = κ z' (HH P' I B inc sl h0)) ∧ FT P' ∧ RIV F (WE P' g) T r 4 ∧ (∀ k j, k < 4 → j < 4 → k ≠ r → WE P' g k j = WE P g k j) ∧ (∀ x, x < 457 ∨ 508 ≤ x → P' x = P x)
  | d, 0, c, P, _, _, hn, _, _, _, _ => absurd hn (Nat.not_lt_zero _)
  | 0, n + 1, c, P, hd, hrc, hn, w, ri, b1, b2 => by
    have e : c = 4 := by omega
    subst e
    refine ⟨P, nI 4, fun κ => ?_, w, ri, fun _ _ _ _ _ => rfl, fun _ _ => rfl⟩
    rw [lX1_reduce_29, if_pos (by decide)]
  | d + 1, n + 1, c, P, hd, hrc, hn, w, ri, b1, b2 => by
    have hc : c < 4 := by omega
    have head : ∀ κ, lX1_reduce_29 N 453 (nI r) (n + 1) (nI c) (HH P I B inc sl h0) κ = (if B 1 c = 0 then lX1_reduce_29 N 453 (nI r) n (nI (c + 1)) (HH P I B inc sl h0) κ else (fX6_lowerBy N (g r) (g c) (nI c) 496 (HH P I B inc sl h0)).bind fun h35 => lX1_reduce_29 N 453 (nI r) n (nI (c + 1)) h35 κ) := fun κ => by
      rw [lX1_reduce_29]
      show (if nI 4 ≤ nI c then _ else _) = _
      rw [if_neg (fun y => by have := (le_n (by omega) (by omega)).mp y; omega), eh_1, Option.bind_some, sf_g hc, Option.bind_some]
      unfold jn nm
      dsimp only
      rw [nI_1, eh_0, Option.bind_some, sl_g eh hr, Option.bind_some, Option.bind_some, sl_g eh hc, Option.bind_some, eh_2, Option.bind_some, show cK (HH P I B inc sl h0) (g r) 8 = some () from (er (h0 := h0) (mu := muf I B inc sl) eh (a := r) (by omega)).ck P, Option.bind_some]
    cases hF : F c
    · obtain ⟨P', z', t1, t2⟩ := red_in hN eh hB hr hFr d n (c + 1) P (by omega) (by omega) (by omega) w (ri_skip hF ri) b1 (fun j hj => by have := b2 j hj; omega)
      refine ⟨P', z', fun κ => ?_, t2⟩
      rw [head, hB c hc, show bF F c = 0 by unfold bF; rw [hF]; rfl, if_pos rfl]
      exact t1 κ
    · have ec := ri.1 c hc hF
      have sq : ∀ i, i < 4 → sz (pdv (WE P g r c) (WE P g c c)) + sz (WE P g c i) ≤ 31 + 12 * (c - r) + 1 := fun i hi => by
        have h1 := b1 c i hrc hc hi hF
        have h2 := b2 c hc
        have h3 := ne_sz ec.2
        rcases pdv_cs (a := WE P g r c) h3 with e | e
        · rw [e.1, sz_z]
          omega
        · omega
      obtain ⟨P1, g1, g2, g3, g4⟩ := elow_c (N := N) (I := I) (B := B) (h0 := h0) hN w eh (r := r) (o := c) (c := c) (by omega) (by omega) (by omega) hc ec.1 (ne_sz ec.2) (fun i hi => by have := sq i hi; omega)
      obtain ⟨P', z', t1, t2, t3, t4, t5⟩ := red_in hN eh hB hr hFr d n (c + 1) P1 (by omega) (by omega) (by omega) g2 (ri_step hrc hc hFr hF (fun a j ha hj _ => g3 a j (by omega) hj) ri) (fun k j hk hk4 hj hFk => by
        rw [g3 k j (by omega) hj, if_neg (by omega)]
        exact b1 k j hk hk4 hj hFk) (fun j hj => by
        rw [g3 r j (by omega) hj, if_pos rfl]
        have h1 := b2 j hj
        have h2 := sq j hj
        have h3 := sz_mul_le (pdv (WE P g r c) (WE P g c c)) (WE P g c j)
        exact sz_add (by omega) (by rw [sz_neg]; omega))
      refine ⟨P', z', fun κ => ?_, t2, t3, fun k j hk hj hkr => ?_, fun x hx => by rw [t5 x hx]; exact g4 x hx⟩
      · rw [head, hB c hc, show bF F c = 1 by unfold bF; rw [hF]; rfl, if_neg (by decide), g1, Option.bind_some]
        exact t1 κ
      · rw [t4 k j hk hj hkr, g3 k j (by omega) hj, if_neg hkr]
theorem nI_m1 {r : Nat} (hr : r < 4) : nI r + (-1 : Int32) = dI r := by
  have : r = 0 ∨ r = 1 ∨ r = 2 ∨ r = 3 := by omega
  rcases this with e | e | e | e <;> subst e <;> decide
theorem red_l (hN : 1000 ≤ N) {B : Nat → Nat → Int32} {F : Nat → Bool} {T : (Nat → Po) → Prop} {d0 : Nat} (hd0 : d0 ≤ 12) {D : Po} (hZ : ZP F T d0 D) {inc : Nat} {sl : Nat → Option Nat} {g : Nat → Nat} (eh : EH g inc sl) (hB : ∀ k, k < 4 → B 1 k = bF F k) : ∀ (m n : Nat) (P : Nat → Po), m ≤ 4 → m < n → FT P → RD F (WE P g) T m → (∀ k j, m ≤ k → k < 4 → j < 4 → F k = true → sz (WE P g k j) ≤ d0 + 1) → (∀ k j, k < m → j < 4 → F k = true → sz (WE P g k j) ≤ 31) → ∃ P', lX1_reduce_2 N 453 n (dI m) (HH P I B inc sl h0) (fun _ h => some h) = some (HH P' I B inc sl h0) ∧ FT P' ∧ RD F (WE P' g) T 0 ∧ (∀ k j, k < 4 → j < 4 → F k = true → sz (WE P' g k j) ≤ d0 + 1) ∧ (∀ x, x < 457 ∨ 508 ≤ x → P' x = P x)
  | m, 0, P, _, hn, _, _, _, _ => absurd hn (Nat.not_lt_zero _)
  | 0, n + 1, P, hm, hn, w, rd, b1, b2 => by
    refine ⟨P, ?_, w, rd, fun k j hk hj hF => b1 k j (by omega) hk hj hF, fun _ _ => rfl⟩
    rw [lX1_reduce_2, if_pos (by decide)]
  | r + 1, n + 1, P, hm, hn, w, rd, b1, b2 => by
    have hr : r < 4 := by omega
    have head : lX1_reduce_2 N 453 (n + 1) (dI (r + 1)) (HH P I B inc sl h0) (fun _ h => some h) = (if B 1 r = 0 then lX1_reduce_2 N 453 n (dI r) (HH P I B inc sl h0) (fun _ h => some h) else (fX6_makeMonicAt N (g r) (nI r) (HH P I B inc sl h0)).bind fun h15 => lX1_reduce_29 N 453 (nI r) N (nI (r + 1)) h15 (fun _ h19 => lX1_reduce_2 N 453 n (dI r) h19 (fun _ h => some h))) := by
      rw [lX1_reduce_2, dI_succ, if_neg (nI_pos (by omega)), eh_1, Option.bind_some, sf_g hr, Option.bind_some]
      unfold jn nm
      dsimp only
      rw [nI_m1 hr, nI_1, eh_0, Option.bind_some, sl_g eh hr, Option.bind_some, show cK (HH P I B inc sl h0) (g r) 8 = some () from (er (h0 := h0) (mu := muf I B inc sl) eh (a := r) (by omega)).ck P, Option.bind_some]
    cases hF : F r
    · obtain ⟨P', t1, t2⟩ := red_l hN hd0 hZ eh hB r n P (by omega) (by omega) w (rd_skip hF rd) (fun k j hk hk4 hj hFk => by
        by_cases q : k = r
        · rw [q, hF] at hFk
          cases hFk
        · exact b1 k j (by omega) hk4 hj hFk) (fun k j hk hj hFk => b2 k j (by omega) hj hFk)
      refine ⟨P', ?_, t2⟩
      rw [head, hB r hr, show bF F r = 0 by unfold bF; rw [hF]; rfl, if_pos rfl]
      exact t1
    · have e := rd.1 r hr hF
      obtain ⟨P1, u1, u2, u3, u4⟩ := monicAt_c hN (P := P) (m := cls (muf I B inc sl) h0) w (r := g r) (c := r) (er eh (by omega)) hr (ne_sz e.2)
      have hV : ∀ a j, a < 4 → j < 4 → WE P1 g a j = if a = r then pMul (pC (finv (lead (WE P g r r)))) (WE P g r j) else WE P g a j := fun a j ha hj => by
        by_cases q : a = r
        · rw [if_pos q, q]
          by_cases q1 : j < r
          · rw [e.1 j q1, pMul_comm, pZero_mul, ← e.1 j q1]
            exact u4 _ (fun i h1 h2 => by omega)
          · exact u3 j (by omega) hj
        · rw [if_neg q]
          refine u4 _ (fun i h1 h2 => ?_)
          have := er_d eh (a := a) (b := r) (by omega) (by omega) q
          omega
      have hl : lead (WE P g r r) ≠ 0 := sz_top (ne_sz e.2)
      obtain ⟨P2, z', t1, t2, t3, t4, t5⟩ := red_in (N := N) (I := I) (h0 := h0) hN eh hB hr hF (3 - r) N (r + 1) P1 (by omega) (by omega) (by omega) u2 (ri_start hr hF rd (fun a j ha hj _ => hV a j ha hj)) (fun k j hk hk4 hj hFk => by
        rw [hV k j hk4 hj, if_neg (by omega)]
        have := b1 k j hk hk4 hj hFk
        omega) (fun j hj => by
        rw [hV r j hr hj, if_pos rfl, sz_cm (finv_ne hl)]
        have := b2 r j (by omega) hj hF
        omega)
      have rd2 := ri_end t3
      obtain ⟨P', s1, s2, s3, s4, s5⟩ := red_l hN hd0 hZ eh hB r n P2 (by omega) (by omega) t2 rd2 (fun k j hk hk4 hj hFk => by
        by_cases q : k = r
        · rw [q]
          exact rd_sz rd2 hZ hr hF j hj
        · rw [t4 k j hk4 hj q, hV k j hk4 hj, if_neg q]
          exact b1 k j (by omega) hk4 hj hFk) (fun k j hk hj hFk => by
        rw [t4 k j (by omega) hj (by omega), hV k j (by omega) hj, if_neg (by omega)]
        exact b2 k j (by omega) hj hFk)
      refine ⟨P', ?_, s2, s3, s4, fun x hx => ?_⟩
      · rw [head, hB r hr, show bF F r = 1 by unfold bF; rw [hF]; rfl, if_neg (by decide), show fX6_makeMonicAt N (g r) (nI r) (HH P I B inc sl h0) = some (HH P1 I B inc sl h0) from u1, Option.bind_some, t1]
        exact s1
      · rw [s5 x hx, t5 x hx]
        refine u4 x (fun i h1 h2 => ?_)
        have := eh.2.2.1 r (by omega)
        omega
end EC4
