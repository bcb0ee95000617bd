/-! the class's Echelon: a row is put in -/
def cn (F : Nat → Bool) : Nat → Nat
  | 0 => 0
  | n + 1 => cn F n + (if F n = true then 1 else 0)
theorem cn_le (F : Nat → Bool) (n : Nat) : ∀ m, n ≤ m → cn F n ≤ cn F m
  | 0, h => by rw [show n = 0 by omega]; exact Nat.le_refl _
  | m + 1, h => by
    by_cases q : n = m + 1
    · rw [q]; exact Nat.le_refl _
    · have := cn_le F n m (by omega)
      show _ ≤ cn F m + _
      omega
theorem cn_1 {F : Nat → Bool} {c : Nat} (h : F c = true) : cn F (c + 1) = cn F c + 1 := by
  show cn F c + (if F c = true then 1 else 0) = _
  rw [if_pos h]
theorem cn_0 {F : Nat → Bool} {c : Nat} (h : F c = false) : cn F (c + 1) = cn F c := by
  show cn F c + (if F c = true then 1 else 0) = _
  rw [if_neg (by rw [h]; decide), Nat.add_zero]
theorem cn_congr {F G : Nat → Bool} : ∀ n, (∀ k, k < n → F k = G k) → cn F n = cn G n
  | 0, _ => rfl
  | n + 1, h => by
    show cn F n + (if F n = true then 1 else 0) = cn G n + (if G n = true then 1 else 0)
    rw [cn_congr n (fun k hk => h k (by omega)), h n (by omega)]
theorem cn_new {F G : Nat → Bool} {c : Nat} (hF : F c = false) (hG : ∀ k, G k = if k = c then true else F k) : ∀ n, cn G n = cn F n + (if c < n then 1 else 0)
  | 0 => rfl
  | n + 1 => by
    show cn G n + (if G n = true then 1 else 0) = cn F n + (if F n = true then 1 else 0) + _
    rw [cn_new hF hG n, hG n]
    by_cases q : n = c
    · rw [if_pos q, if_pos rfl, q, hF, if_neg (by omega), if_neg (by decide), if_pos (by omega)]
    · rw [if_neg q]
      have : (c < n + 1) = (c < n) := propext ⟨fun _ => by omega, fun _ => by omega⟩
      simp only [this]
      omega
def IV (F : Nat → Bool) (W0 : Nat → Nat → Po) (T : (Nat → Po) → Prop) (c : Nat) (W : Nat → Nat → Po) : Prop := (∀ j, j < c → W 4 j = pC 0) ∧ EC F W ∧ (∀ v, La F W v ↔ T v) ∧ ∀ k j, c ≤ k → k < 4 → j < 4 → W k j = W0 k j
theorem iv_skip {F : Nat → Bool} {W0 W : Nat → Nat → Po} {T : (Nat → Po) → Prop} {c : Nat} (h : IV F W0 T c W) (hz : W 4 c = pC 0) : IV F W0 T (c + 1) W := ⟨fun j hj => by
  by_cases q : j = c
  · rw [q]; exact hz
  · exact h.1 j (by omega), h.2.1, h.2.2.1, fun k j hk h4 hj => h.2.2.2 k j (by omega) h4 hj⟩
theorem eu_zl {S0 I0 S I : Nat → Po} {c : Nat} (hc : c < 4) (hu : EU S0 I0 c S I) (hl : ∀ j, j < c → S0 j = pC 0 ∧ I0 j = pC 0) : ∀ j, j < c → S j = pC 0 ∧ I j = pC 0 := fun j hj => by
  obtain ⟨a, b, a', b', k1, _⟩ := hu
  rw [(k1 j (by omega)).1, (k1 j (by omega)).2, (hl j hj).1, (hl j hj).2]
  letI := pr
  simp only [hA, hM, hz0]
  constructor <;> grind
theorem iv_eu {F : Nat → Bool} {W0 W V : Nat → Nat → Po} {T : (Nat → Po) → Prop} {c : Nat} (hc : c < 4) (hF : F c = true) (h : IV F W0 T c W) (hu : EU (W c) (W 4) c (V c) (V 4)) (h4 : V 4 c = pC 0) (hl : ∀ v, La F V v ↔ La F W v) (ho : ∀ a j, a < 4 → j < 4 → a ≠ c → V a j = W a j) : IV F W0 T (c + 1) V := by
  have zl := eu_zl hc hu (fun j hj => ⟨(h.2.1 c hc hF).1 j hj, h.1 j hj⟩)
  refine ⟨fun j hj => ?_, fun r hr hFr => ?_, fun v => (hl v).trans (h.2.2.1 v), fun k j hk hk4 hj => ?_⟩
  · by_cases q : j = c
    · rw [q]; exact h4
    · exact (zl j (by omega)).2
  · by_cases q : r = c
    · rw [q]
      obtain ⟨a, b, a', b', k1, _, _, _, _, k6⟩ := hu
      exact ⟨fun j hj => (zl j hj).1, sz_ne k6⟩
    · exact ⟨fun j hj => by rw [ho r j hr (by omega) q]; exact (h.2.1 r hr hFr).1 j hj, by rw [ho r r hr hr q]; exact (h.2.1 r hr hFr).2⟩
  · rw [ho k j hk4 hj (by omega)]
    exact h.2.2.2 k j (by omega) hk4 hj
theorem la_end {F : Nat → Bool} {W : Nat → Nat → Po} (h : ∀ j, j < 4 → W 4 j = pC 0) (v : Nat → Po) : Sl F W v ↔ La F W v := by
  constructor
  · intro k
    exact k _ (sp_sub _ _) (fun a ha => sp_in (Or.inr ha))
  · intro k
    refine k _ (sp_sub _ _) (fun a ha => ?_)
    rcases ha with e | e
    · rw [e]; exact sub_z (sp_sub _ _) h
    · exact sp_in e
theorem la_new {F G : Nat → Bool} {W V : Nat → Nat → Po} {c : Nat} (hc : c < 4) (hF : F c = false) (hG : ∀ k, G k = if k = c then true else F k) (hVc : ∀ j, j < 4 → V c j = W 4 j) (ho : ∀ a j, a < 4 → j < 4 → a ≠ c → V a j = W a j) (v : Nat → Po) : Sl G V v ↔ La F W v := by
  constructor
  · intro k
    refine k _ (sp_sub _ _) (fun a ha => ?_)
    by_cases q : a = c
    · rw [q]
      exact (sp_sub _ _).1 _ _ (fun j hj => (hVc j hj).symm) (sp_in (Or.inl rfl))
    · have hFa := ha.2
      rw [hG, if_neg q] at hFa
      exact (sp_sub _ _).1 _ _ (fun j hj => (ho a j ha.1 hj q).symm) (sp_in (Or.inr ⟨ha.1, hFa⟩))
  · intro k
    refine k _ (sp_sub _ _) (fun a ha => ?_)
    rcases ha with e | ⟨h4, hFa⟩
    · rw [e]
      exact (sp_sub _ _).1 _ _ hVc (sp_in ⟨hc, by rw [hG, if_pos rfl]⟩)
    · have q : a ≠ c := fun e => by rw [e, hF] at hFa; cases hFa
      exact (sp_sub _ _).1 _ _ (fun j hj => ho a j h4 hj q) (sp_in ⟨h4, by rw [hG, if_neg q]; exact hFa⟩)
theorem ec_new {F G : Nat → Bool} {W V : Nat → Nat → Po} {c : Nat} (hE : EC F W) (hG : ∀ k, G k = if k = c then true else F k) (hVc : ∀ j, j < 4 → V c j = W 4 j) (ho : ∀ a j, a < 4 → j < 4 → a ≠ c → V a j = W a j) (hz : ∀ j, j < c → W 4 j = pC 0) (hn : W 4 c ≠ pC 0) : EC G V := fun r hr hGr => by
  by_cases q : r = c
  · rw [q] at hr ⊢
    exact ⟨fun j hj => by rw [hVc j (by omega)]; exact hz j hj, by rw [hVc c hr]; exact hn⟩
  · rw [hG, if_neg q] at hGr
    exact ⟨fun j hj => by rw [ho r j hr (by omega) q]; exact (hE r hr hGr).1 j hj, by rw [ho r r hr hr q]; exact (hE r hr hGr).2⟩
section EC3
variable {N : Nat} {I : Nat → Int32} {h0 : Hp}
theorem ei_0 {B : Nat → Nat → Int32} {P : Nat → Po} {inc : Nat} {sl : Nat → Option Nat} {g : Nat → Nat} (eh : EH g inc sl) {c n : Nat} (hc : c < 4) (q : WE P g 4 c = pC 0) (κ : Int32 → Hp → Option Hp) : lX1_insert_46 N 453 (nI c) (n + 1) 0 (HH P I B inc sl h0) κ = κ 0 (HH P I B inc sl h0) := by
  rw [lX1_insert_46]
  rw [if_neg (by decide), eh_3, Option.bind_some, ← eh.1]
  unfold HH
  rw [(er eh (a := 4) (by omega)).g, Option.bind_some, (er eh (a := 4) (by omega)).a P hc, Option.bind_some, po_dg ((er (h0 := h0) (mu := muf I B (g 4) sl) eh (a := 4) (by omega)).n hc), Option.bind_some, if_pos]
  show dI (sz (WE P g 4 c)) < 0
  rw [q, sz_z]
  decide
theorem inc_dg {B : Nat → Nat → Int32} {P : Nat → Po} {inc : Nat} {sl : Nat → Option Nat} {g : Nat → Nat} (eh : EH g inc sl) {c : Nat} (hc : c < 4) {ρ : Type} (k : Int32 → Option ρ) : ((gR (HH P I B inc sl h0) inc 8 0).bind fun v54 => (aR (HH P I B inc sl h0) v54 4 (nI c)).bind fun v55 => (gI (HH P I B inc sl h0) v55 6 1).bind k) = k (dI (sz (WE P g 4 c))) := by
  rw [← eh.1]
  have r1 := (er (h0 := h0) (mu := muf I B (g 4) sl) eh (a := 4) (by omega))
  have d1 : gI (HH P I B (g 4) sl h0) (g 4 + 2 + 2 * c) 6 1 = some (dI (sz (WE P g 4 c))) := po_dg (r1.n hc)
  rw [show gR (HH P I B (g 4) sl h0) (g 4) 8 0 = some (g 4 + 1) from r1.g P, Option.bind_some, show aR (HH P I B (g 4) sl h0) (g 4 + 1) 4 (nI c) = some (g 4 + 2 + 2 * c) from r1.a P hc, Option.bind_some, d1, Option.bind_some]
def bF (F : Nat → Bool) (k : Nat) : Int32 := if F k = true then 1 else 0
theorem ins_l (hN : 1000 ≤ N) {B : Nat → Nat → Int32} {F : Nat → Bool} {W0 : Nat → Nat → Po} {T : (Nat → Po) → Prop} (hcn : cn F 4 ≤ 3) (hW0 : ∀ k j, k < 4 → j < 4 → F k = true → sz (W0 k j) ≤ 10) (hB : ∀ k, k < 4 → B 1 k = bF F k) : ∀ (d n c : Nat) (P : Nat → Po) (inc : Nat) (sl : Nat → Option Nat) (g : Nat → Nat), c + d = 4 → d < n → FT P → EH g inc sl → IV F W0 T c (WE P g) → (∀ j, j < 4 → sz (WE P g 4 j) ≤ 3 + 9 * cn F c + 1) → (∀ k j, k < c → j < 4 → F k = true → sz (WE P g k j) ≤ 31) → ∃ (P' : Nat → Po) (inc' : Nat) (sl' : Nat → Option Nat) (g' : Nat → Nat) (b' : Nat → Int32) (F' : Nat → Bool), lX1_insert_2 N 453 n (nI c) (HH P I B inc sl h0) (fun _ h => some h) = some (HH P' I (ua B 1 b') inc' sl' h0) ∧ FT P' ∧ EH g' inc' sl' ∧ EC F' (WE P' g') ∧ (∀ v, Sl F' (WE P' g') v ↔ T v) ∧ (∀ k j, k < 4 → j < 4 → F' k = true → sz (WE P' g' k j) ≤ 31) ∧ (∀ k, k < 4 → b' k = bF F' k) ∧ ((∀ k, F' k = F k) ∨ ∃ c, c < 4 ∧ F c = false ∧ ∀ k, F' k = if k = c then true else F k) ∧ (∀ x, x < 457 ∨ 508 ≤ x → P' x = P x)
  | d, 0, c, P, inc, sl, g, _, hn, _, _, _, _, _ => absurd hn (Nat.not_lt_zero _)
  | 0, n + 1, c, P, inc, sl, g, hd, hn, w, eh, iv, b1, b2 => by
    have e : c = 4 := by omega
    subst e
    refine ⟨P, inc, sl, g, B 1, F, ?_, w, eh, iv.2.1, fun v => (la_end iv.1 v).trans (iv.2.2.1 v), fun k j hk hj hF => b2 k j hk hj hF, hB, Or.inl (fun _ => rfl), fun _ _ => rfl⟩
    rw [lX1_insert_2, ua_id]
    rw [if_pos (by decide)]
  | d + 1, n + 1, c, P, inc, sl, g, hd, hn, w, eh, iv, b1, b2 => by
    have hc : c < 4 := by omega
    have head : lX1_insert_2 N 453 (n + 1) (nI c) (HH P I B inc sl h0) (fun _ h => some h) = (if B 1 c = 0 then (if dI (sz (WE P g 4 c)) < 0 then lX1_insert_46 N 453 (nI c) N 0 (HH P I B inc sl h0) (fun _ h11 => lX1_insert_2 N 453 n (nI (c + 1)) h11 (fun _ h => some h)) else (cK (HH P I B inc sl h0) 453 3).bind fun _ => (fX1_exchange N 453 (nI c) (HH P I B inc sl h0)).bind fun h59 => (gR h59 453 3 1).bind fun v61 => (aZs h59 v61 (nI c) (1 : Int32)).bind fun h62 => some h62) else lX1_insert_46 N 453 (nI c) N 0 (HH P I B inc sl h0) (fun _ h11 => lX1_insert_2 N 453 n (nI (c + 1)) h11 (fun _ h => some h))) := by
      rw [lX1_insert_2]
      show (if nI 4 ≤ nI c then _ else _) = _
      rw [if_neg (fun y => by have := (le_n (by omega) (by omega)).mp y; omega), eh_1, Option.bind_some, sf_g hc, Option.bind_some]
      unfold jn nm
      dsimp only
      rw [eh_3, Option.bind_some, inc_dg eh hc, nI_1]
    by_cases z : WE P g 4 c = pC 0
    · obtain ⟨P', inc', sl', g', b', F', t1, t2⟩ := ins_l hN hcn hW0 hB d n (c + 1) P inc sl g (by omega) (by omega) w eh (iv_skip iv z) (fun j hj => by
        have h1 := b1 j hj
        have h2 := cn_le F c (c + 1) (by omega)
        omega) (fun k j hk hj hF => by
        by_cases q : k = c
        · rw [q] at hF ⊢
          have h1 := hW0 c j hc hj hF
          rw [iv.2.2.2 c j (Nat.le_refl _) hc hj]
          omega
        · exact b2 k j (by omega) hj hF)
      refine ⟨P', inc', sl', g', b', F', ?_, t2⟩
      rw [head, z, sz_z, if_pos (show dI 0 < 0 by decide), ite_self, show N = (N - 1) + 1 by omega, ei_0 eh hc z, ← show N = (N - 1) + 1 by omega]
      exact t1
    · cases hF : F c
      · obtain ⟨inc1, sl1, x1, x2⟩ := exch_c (N := N) (P := P) (I := I) (B := B) (h0 := h0) eh hc
        obtain ⟨G, hG⟩ : ∃ G : Nat → Bool, ∀ k, G k = if k = c then true else F k := ⟨_, fun _ => rfl⟩
        have vc : ∀ j, j < 4 → WE P (gx g c) c j = WE P g 4 j := fun j _ => by rw [we_gx, if_pos rfl]
        have vo : ∀ a j, a < 4 → j < 4 → a ≠ c → WE P (gx g c) a j = WE P g a j := fun a j ha _ hac => by rw [we_gx, if_neg hac, if_neg (by omega)]
        refine ⟨P, inc1, sl1, gx g c, upd (B 1) c 1, G, ?_, w, x2, ec_new iv.2.1 hG vc vo iv.1 z, fun v => (la_new hc hF hG vc vo v).trans (iv.2.2.1 v), fun k j hk hj hGk => ?_, fun k hk => ?_, Or.inr ⟨c, hc, hF, hG⟩, fun _ _ => rfl⟩
        · rw [head, hB c hc, show bF F c = 0 by unfold bF; rw [hF]; rfl, if_pos rfl, if_neg (fun y => by
            have h1 := b1 c hc
            have h2 := cn_le F c 4 (by omega)
            rw [show sz (WE P g 4 c) = (sz (WE P g 4 c) - 1) + 1 by have := ne_sz z; omega, dI_succ] at y
            exact absurd y (nI_pos (by omega))), eh_ck, Option.bind_some, x1, Option.bind_some, eh_1, Option.bind_some, sf_s hc, Option.bind_some, nar1]
        · by_cases q : k = c
          · rw [q, vc j hj]
            have h1 := b1 j hj
            have h2 := cn_le F c 4 (by omega)
            omega
          · rw [vo k j hk hj q]
            rw [hG, if_neg q] at hGk
            by_cases q2 : k < c
            · exact b2 k j q2 hj hGk
            · rw [iv.2.2.2 k j (by omega) hk hj]
              have := hW0 k j hk hj hGk
              omega
        · unfold upd bF
          rw [hG]
          by_cases q : k = c
          · rw [if_pos q, if_pos q, if_pos rfl]
          · rw [if_neg q, if_neg q]
            exact hB k hk
      · have c1 := cn_1 hF
        have c2 := cn_le F (c + 1) 4 (by omega)
        have hnz := iv.2.1 c hc hF
        have k0 : EU (WE P g c) (WE P g 4) c (WE P g c) (WE P g 4) := eu_0 (ne_sz hnz.2) (ne_sz z)
        have kS : ∀ j, j < 4 → sz (WE P g c j) ≤ 9 + 1 := fun j hj => by
          rw [iv.2.2.2 c j (Nat.le_refl _) hc hj]
          exact hW0 c j hc hj hF
        obtain ⟨P1, inc1, sl1, g1, z1, t1, t2, t3, t4, t5, t6, t7, t8⟩ := ei_l (N := N) (I := I) (B := B) (h0 := h0) hN hc kS b1 (by omega) (fun j hj => ⟨hnz.1 j hj, iv.1 j hj⟩) hF (sz (WE P g 4 c)) N 0 P inc sl g w eh (Nat.le_refl _) (by have := b1 c hc; omega) (by have := b1 c hc; omega) k0
        have bd := eu_bd hc t4 kS b1
        obtain ⟨P', inc', sl', g', b', F', u1, u2, u3, u4, u5, u6, u7, u8, u9⟩ := ins_l hN hcn hW0 hB d n (c + 1) P1 inc1 sl1 g1 (by omega) (by omega) t2 t3 (iv_eu hc hF iv t4 t5 t6 t7) (fun j hj => by
          have h1 := (bd j hj).2.1
          omega) (fun k j hk hj hFk => by
          by_cases q : k = c
          · rw [q]
            have h1 := (bd j hj).1
            omega
          · rw [t7 k j (by omega) hj q]
            exact b2 k j (by omega) hj hFk)
        refine ⟨P', inc', sl', g', b', F', ?_, u2, u3, u4, u5, u6, u7, u8, fun x hx => by rw [u9 x hx]; exact t8 x hx⟩
        rw [head, hB c hc, show bF F c = 1 by unfold bF; rw [hF]; rfl, if_neg (by decide)]
        show lX1_insert_46 N 453 (nI c) N (nI 0) (HH P I B inc sl h0) _ = _
        rw [t1]
        exact u1
end EC3
