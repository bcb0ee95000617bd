/-! the reference's Hermite form: a row comes in -/
section RIN
variable {N : Nat} {h0 : Hp} {cd rw cl : Int32} {F : Nat → Bool}
theorem re_l (hN : 33000 ≤ N) {c : Nat} (hc : c < 4) (hF : F c = true) {S0 I0 : Nat → Po} {d X : Nat} (hS : ∀ j, j < 4 → sz (S0 j) ≤ d + 1) (hI : ∀ j, j < 4 → sz (I0 j) ≤ X + 1) (hdX : X + d + 2 ≤ 257) : ∀ (m n : Nat) (A : Nat → Nat → Int32) (W : Nat → Nat → Po), MD (A 8) W → sz (W 4 c) ≤ m → m < n → EU S0 I0 c (W c) (W 4) → ∃ (A' : Nat → Nat → Int32) (V : Nat → Nat → Po), (∀ κ, lX8_insert_52 N 645 (nI c) (nI c) n (rfh h0 cd rw cl A) κ = κ (rfh h0 cd rw cl A')) ∧ MD (A' 8) V ∧ A' 9 = A 9 ∧ frH A A' ∧ EU S0 I0 c (V c) (V 4) ∧ V 4 c = pC 0 ∧ (∀ v, La F V v ↔ La F W v) ∧ (∀ a j, a < 4 → a ≠ c → V a j = W a j)
  | m, 0, A, W, _, _, hn, _ => absurd hn (Nat.not_lt_zero _)
  | m, n + 1, A, W, hW, hm, hn, hu => by
    obtain ⟨f1, i1, i2⟩ := isNone_s (N := N) (h0 := h0) (cd := cd) (rw := rw) (cl := cl) (by omega) hW (r := 4) (j := c) (by omega) hc
    have i1' : fX8_isNone N 645 (4 : Int32) (nI c) (rfh h0 cd rw cl A) = some (if sz (W 4 c) = 0 then 1 else 0, rfh h0 cd rw cl (ua A 11 f1)) := i1
    by_cases q : sz (W 4 c) = 0
    · refine ⟨ua A 11 f1, W, fun κ => ?_, by rw [ua_n _ _ (by decide)]; exact hW, ua_n _ _ (by decide), frH.rf.u (by omega) _, hu, sz_0 q, fun _ => Iff.rfl, fun _ _ _ _ => rfl⟩
      rw [lX8_insert_52, rf_ck, Option.bind_some, i1', Option.bind_some]
      dsimp only
      rw [if_pos q, if_neg (by decide)]
    · have bd := eu_bd hc hu hS hI
      obtain ⟨f2, t1, t2⟩ := take_s (N := N) (h0 := h0) (cd := cd) (rw := rw) (cl := cl) (A := ua A 11 f1) (by omega) (W := W) (by rw [ua_n _ _ (by decide)]; exact hW) (k := 10) (by omega) (by omega) (r := c) (j := c) (by omega) hc
      have t1' : fX8_take N 645 653 (nI c) (nI c) (rfh h0 cd rw cl (ua A 11 f1)) = some (rfh h0 cd rw cl (ua (ua A 11 f1) 10 f2)) := t1
      obtain ⟨f3, u1, u2⟩ := take_s (N := N) (h0 := h0) (cd := cd) (rw := rw) (cl := cl) (A := ua (ua A 11 f1) 10 f2) (by omega) (W := W) (by rw [ua_n _ _ (by decide), ua_n _ _ (by decide)]; exact hW) (k := 11) (by omega) (by omega) (r := 4) (j := c) (by omega) hc
      have u1' : fX8_take N 645 654 (4 : Int32) (nI c) (rfh h0 cd rw cl (ua (ua A 11 f1) 10 f2)) = some (rfh h0 cd rw cl (ua (ua (ua A 11 f1) 10 f2) 11 f3)) := u1
      obtain ⟨fx, fc, d1, d2, d3⟩ := divide_r (N := N) (h0 := h0) (cd := cd) (rw := rw) (cl := cl) (A := ua (ua (ua A 11 f1) 10 f2) 11 f3) (by omega) (kx := 10) (ky := 11) (by omega) (by omega) (by omega) (by omega) (by omega) (by omega) (by omega) (by rw [ua_s]; exact u2) (by rw [ua_n _ _ (by decide), ua_s]; exact t2) q
      have d1' : fX8_divide N 645 653 654 (rfh h0 cd rw cl (ua (ua (ua A 11 f1) 10 f2) 11 f3)) = some (rfh h0 cd rw cl (ua (ua (ua (ua (ua A 11 f1) 10 f2) 11 f3) 12 fc) 10 fx)) := d1
      obtain ⟨B, hB⟩ : ∃ B, B = ua (ua (ua (ua (ua A 11 f1) 10 f2) 11 f3) 12 fc) 10 fx := ⟨_, rfl⟩
      rw [← hB] at d1'
      have hB8 : B 8 = A 8 := by rw [hB, ua_n _ _ (by decide), ua_n _ _ (by decide), ua_n _ _ (by decide), ua_n _ _ (by decide), ua_n _ _ (by decide)]
      have hB9 : B 9 = A 9 := by rw [hB, ua_n _ _ (by decide), ua_n _ _ (by decide), ua_n _ _ (by decide), ua_n _ _ (by decide), ua_n _ _ (by decide)]
      have hBf : frH A B := by
        rw [hB]
        exact ((((frH.rf.u (by omega) _).u (by omega) _).u (by omega) _).u (by omega) _).u (by omega) _
      obtain ⟨f', k1, k2⟩ := takeOff_s (N := N) (h0 := h0) (cd := cd) (rw := rw) (cl := cl) (A := B) (by omega) (W := W) (by rw [hB8]; exact hW) (r := c) (s := 4) (by omega) (by omega) (by omega) (c := pdv (W c c) (W 4 c)) (by rw [hB, ua_n _ _ (by decide), ua_s]; exact d3) (fun j hj => by
        have := (bd j hj).2.2 q
        omega)
      have k1' : fX8_takeOff N 645 (nI c) (4 : Int32) (rfh h0 cd rw cl B) = some (rfh h0 cd rw cl (ua B 8 f')) := k1
      obtain ⟨g', x1, x2⟩ := xch_s (N := N) (h0 := h0) (cd := cd) (rw := rw) (cl := cl) (A := ua B 8 f') hN (by rw [ua_s]; exact k2) (r := c) (s := 4) (by omega) (by omega) (by omega)
      have x1' : fX8_exchange N 645 (nI c) (4 : Int32) (rfh h0 cd rw cl (ua B 8 f')) = some (rfh h0 cd rw cl (ua (ua B 8 f') 8 g')) := x1
      have x3 : MD g' (eS c W) := x2.cg (fun a j ha hj => by
        unfold eS
        by_cases q1 : a = c
        · rw [if_pos q1, if_pos q1, if_neg (by omega)]
        · rw [if_neg q1, if_neg q1]
          by_cases q2 : a = 4
          · rw [if_pos q2, if_pos q2, if_pos rfl]
          · rw [if_neg q2, if_neg q2, if_neg q1])
      have e4 : ∀ j, eS c W 4 j = pAdd (W c j) (pNeg (pMul (pdv (W c c) (W 4 c)) (W 4 j))) := fun j => by
        unfold eS
        rw [if_neg (by omega), if_pos rfl]
      have ecc : eS c W c = W 4 := funext (fun j => by
        unfold eS
        rw [if_pos rfl])
      obtain ⟨s1, s2, s3⟩ := eu_step hc hu q (I' := eS c W 4) (fun j _ => e4 j)
      rw [← ecc] at s1
      obtain ⟨A', V, r1, r2, r3, r4, r5, r6, r7, r8⟩ := re_l hN hc hF hS hI hdX (m - 1) n (ua (ua B 8 f') 8 g') (eS c W) (by rw [ua_s]; exact x3) (by omega) (by omega) s1
      refine ⟨A', V, fun κ => ?_, r2, ?_, ((hBf.u (by omega) _).u (by omega) _).tr r4, r5, r6, fun v => (r7 v).trans (es_la hc hF (fun _ _ _ _ => rfl) v), fun a j ha hac => ?_⟩
      · rw [lX8_insert_52, rf_ck, Option.bind_some, i1', Option.bind_some]
        dsimp only
        rw [if_neg q, if_pos rfl, rg_10, Option.bind_some, rf_ck, Option.bind_some, t1', Option.bind_some, rg_11, Option.bind_some, rf_ck, Option.bind_some, u1', Option.bind_some, rg_10, Option.bind_some, rg_11, Option.bind_some, rf_ck, Option.bind_some, d1', Option.bind_some, rf_ck, Option.bind_some, k1', Option.bind_some, rf_ck, Option.bind_some, x1', Option.bind_some]
        exact r1 κ
      · rw [r3, ua_n _ _ (by decide), ua_n _ _ (by decide), hB9]
      · rw [r8 a j ha hac]
        unfold eS
        rw [if_neg hac, if_neg (by omega)]
end RIN
def XY (X Y : Nat → Nat) : Prop := ∀ c, c < 4 → X c + 9 * (4 - c) ≤ X (c + 1) ∧ Y c + 9 * (3 - c) ≤ Y (c + 1) ∧ 9 + X (c + 1) + 1 + 9 * (3 - c) ≤ Y (c + 1) + 1 ∧ Y (c + 1) ≤ 200 ∧ Y c + X c + 1 + 9 * (3 - c) + 9 * (3 - c) ≤ 250 ∧ X c ≤ 200
section RIN2
variable {N : Nat} {h0 : Hp} {cd rw : Int32} {C : Nat} {F : Nat → Bool}
theorem rins_l (hN : 33000 ≤ N) (hC : C ≤ 4) (hFC : ∀ k, C ≤ k → k < 4 → F k = false) {X Y : Nat → Nat} (hXY : XY X Y) {T : (Nat → Po) → Prop} (hT : ∀ v, T v → ∀ j, C ≤ j → j < 4 → v j = pC 0) : ∀ (d n c : Nat) (A : Nat → Nat → Int32) (W : Nat → Nat → Po), c + d = C → d < n → MD (A 8) W → (∀ k, k < 4 → A 9 k = pF F k) → HF F W → (∀ v, La F W v ↔ T v) → (∀ k j, c ≤ k → k < 4 → j < 4 → F k = true → sz (W k j) ≤ 10) → (∀ k j, k < c → j < 4 → F k = true → sz (W k j) ≤ Y c + 1) → (∀ j, j < 4 → sz (W 4 j) ≤ X c + 1) → (∀ j, j < c → W 4 j = pC 0) → (∀ a j, a < 4 → j < 4 → F a = false → W a j = pC 0) → ∃ (A' : Nat → Nat → Int32) (V : Nat → Nat → Po) (G : Nat → Bool), lX8_insert_2 N 645 n (nI c) (rfh h0 cd rw (nI C) A) (fun _ h => some h) = some (rfh h0 cd rw (nI C) A') ∧ MD (A' 8) V ∧ (∀ k, k < 4 → A' 9 k = pF G k) ∧ frH A A' ∧ HF G V ∧ (∀ v, Sl G V v ↔ T v) ∧ ((∀ k, G k = F k) ∨ ∃ c, c < 4 ∧ F c = false ∧ ∀ k, G k = if k = c then true else F k) ∧ (∀ k, C ≤ k → k < 4 → G k = false) ∧ (∀ a j, a < 4 → j < 4 → G a = false → V a j = pC 0)
  | d, 0, c, A, W, _, hn, _, _, _, _, _, _, _, _, _ => absurd hn (Nat.not_lt_zero _)
  | 0, n + 1, c, A, W, hd, hn, hW, h9, hf, hl, b1, b2, b3, hz, hnf => by
    have e : c = C := by omega
    subst e
    refine ⟨A, W, F, ?_, hW, h9, frH.rf, hf, fun v => (la_end (fun j hj => ?_) v).trans (hl v), Or.inl (fun _ => rfl), hFC, hnf⟩
    · rw [lX8_insert_2, rg_2, Option.bind_some, if_pos ((le_n (by omega) (by omega)).mpr (Nat.le_refl _))]
    · by_cases q : j < c
      · exact hz j q
      · exact hT _ ((hl _).mp (sp_in (Or.inl rfl))) j (by omega) hj
  | d + 1, n + 1, c, A, W, hd, hn, hW, h9, hf, hl, b1, b2, b3, hz, hnf => by
    have hc : c < 4 := by omega
    obtain ⟨x1, x2, x3, x4, x5, x6⟩ := hXY c hc
    obtain ⟨f1, i1, i2⟩ := isNone_s (N := N) (h0 := h0) (cd := cd) (rw := rw) (cl := nI C) (by omega) hW (r := 4) (j := c) (by omega) hc
    have i1' : fX8_isNone N 645 (4 : Int32) (nI c) (rfh h0 cd rw (nI C) A) = some (if sz (W 4 c) = 0 then 1 else 0, rfh h0 cd rw (nI C) (ua A 11 f1)) := i1
    have hW1 : MD (ua A 11 f1 8) W := by rw [ua_n _ _ (by decide)]; exact hW
    have h91 : ∀ k, k < 4 → ua A 11 f1 9 k = pF F k := fun k hk => by rw [ua_n _ _ (by decide)]; exact h9 k hk
    have head : lX8_insert_2 N 645 (n + 1) (nI c) (rfh h0 cd rw (nI C) A) (fun _ h => some h) = (if sz (W 4 c) = 0 then lX8_insert_2 N 645 n (nI (c + 1)) (rfh h0 cd rw (nI C) (ua A 11 f1)) (fun _ h => some h) else if pF F c = (-1 : Int32) then (aIs (rfh h0 cd rw (nI C) (ua A 11 f1)) 652 (nI c) (nI c)).bind fun h71 => (cK h71 645 10).bind fun u74 => (fX8_exchange N 645 (4 : Int32) (nI c) h71).bind fun h73 => (cK h73 645 10).bind fun u77 => (fX8_settle N 645 h73).bind fun h76 => some h76 else lX8_insert_52 N 645 (nI c) (pF F c) N (rfh h0 cd rw (nI C) (ua A 11 f1)) (fun h17 => (cK h17 645 10).bind fun u20 => (fX8_settle N 645 h17).bind fun h19 => lX8_insert_2 N 645 n (nI (c + 1)) h19 (fun _ h => some h))) := by
      rw [lX8_insert_2, rg_2, Option.bind_some, if_neg (fun y => by have := (le_n (by omega) (by omega)).mp y; omega), rf_ck, Option.bind_some, i1', Option.bind_some]
      unfold jn nm
      dsimp only
      rw [nI_1, rg_9, Option.bind_some, ra_9 hc, Option.bind_some, h91 c hc, Option.bind_some]
      by_cases q : sz (W 4 c) = 0
      · rw [if_pos q, if_pos q, if_neg (by decide)]
      · rw [if_neg q, if_neg q, if_pos rfl]
    by_cases q : sz (W 4 c) = 0
    · obtain ⟨A', V, G, t1, t2, t3, t4, t5⟩ := rins_l hN hC hFC hXY hT d n (c + 1) (ua A 11 f1) W (by omega) (by omega) hW1 h91 hf hl (fun k j h1 h2 h3 h4 => b1 k j (by omega) h2 h3 h4) (fun k j h1 h2 h3 => by
        by_cases e : k = c
        · have := b1 k j (by omega) (by omega) h2 h3
          omega
        · have := b2 k j (by omega) h2 h3
          omega) (fun j hj => by have := b3 j hj; omega) (fun j hj => by
        by_cases e : j = c
        · rw [e]; exact sz_0 q
        · exact hz j (by omega)) hnf
      refine ⟨A', V, G, ?_, t2, t3, (frH.rf.u (by omega) _).tr t4, t5⟩
      rw [head, if_pos q]
      exact t1
    · rw [head, if_neg q]
      cases hF : F c
      · rw [pF_n hF, if_pos rfl]
        have hzc : ∀ j, j < 4 → W c j = pC 0 := fun j hj => hnf c j hc hj hF
        obtain ⟨g', y1, y2⟩ := xch_s (N := N) (h0 := h0) (cd := cd) (rw := rw) (cl := nI C) (A := ua (ua A 11 f1) 9 (upd (ua A 11 f1 9) c (nI c))) hN (W := W) (by rw [ua_n _ _ (by decide)]; exact hW1) (r := 4) (s := c) (by omega) (by omega) (by omega)
        have y1' : fX8_exchange N 645 (4 : Int32) (nI c) (rfh h0 cd rw (nI C) (ua (ua A 11 f1) 9 (upd (ua A 11 f1 9) c (nI c)))) = some (rfh h0 cd rw (nI C) (ua (ua (ua A 11 f1) 9 (upd (ua A 11 f1 9) c (nI c))) 8 g')) := y1
        obtain ⟨G, hG⟩ : ∃ G : Nat → Bool, ∀ k, G k = if k = c then true else F k := ⟨fun k => if k = c then true else F k, fun _ => rfl⟩
        obtain ⟨V1, hV1⟩ : ∃ V1 : Nat → Nat → Po, V1 = fun a j => if a = 4 then W c j else if a = c then W 4 j else W a j := ⟨_, rfl⟩
        rw [← hV1] at y2
        have v4 : ∀ j, V1 4 j = W c j := fun j => by rw [hV1]; exact if_pos rfl
        have vc : ∀ j, V1 c j = W 4 j := fun j => by rw [hV1]; show (if c = 4 then _ else _) = _; rw [if_neg (by omega), if_pos rfl]
        have vo : ∀ a j, a < 4 → j < 4 → a ≠ c → V1 a j = W a j := fun a j ha _ hac => by rw [hV1]; show (if a = 4 then _ else _) = _; rw [if_neg (by omega), if_neg hac]
        have gn : ∀ k, k ≠ c → G k = F k := fun k hk => by rw [hG, if_neg hk]
        have gc : G c = true := by rw [hG, if_pos rfl]
        have ec1 : EC G V1 := ec_new hf.1 hG (fun j _ => vc j) vo hz (sz_ne q)
        obtain ⟨A', V, s1, s2, s3, s4, s5, s6, s7, s8, s9, s10, s11, s12, s13⟩ := settle_s (N := N) (h0 := h0) (cd := cd) (rw := rw) (C := C) (F := G) (c := c) (M := X c) (K := X c + 1 + 9 * (3 - c)) (U := Y c + (X c + 1 + 9 * (3 - c))) (Y := Y c) (Q := Y c) hN hC (by omega) (fun k h1 h2 => by rw [gn k (by omega)]; exact hFC k h1 h2) gc (by omega) (by omega) (by omega) (by omega) (A := ua (ua (ua A 11 f1) 9 (upd (ua A 11 f1 9) c (nI c))) 8 g') (W := V1) (by rw [ua_s]; exact y2) (fun k hk => by
          rw [ua_n _ _ (by decide), ua_s]
          unfold upd
          by_cases e : k = c
          · rw [if_pos e, e, pF_y gc]
          · rw [if_neg e, h91 k hk]
            unfold pF
            rw [gn k e]) ec1 (fun k j h1 h2 h3 h4 => by
          rw [vo k j h2 h3 (by omega)]
          rw [gn k (by omega)] at h4
          exact b1 k j (by omega) h2 h3 h4) (fun k m h1 h2 h3 h4 h5 => by
          rw [gn k (by omega)] at h4
          rw [gn m (by omega)] at h5
          rw [vo k m (by omega) h3 (by omega), vo m m h3 h3 (by omega)]
          exact hf.2.2 k m h2 h3 h4 h5) (fun j hj => by rw [vc]; exact b3 j hj) (fun k h1 h2 => by
          rw [gn k (by omega)] at h2
          refine ⟨fun m k1 k2 k3 k4 => ?_, ?_, fun j hj => ?_⟩
          · rw [gn m k3] at k4
            rw [vo k m (by omega) k2 (by omega), vo m m k2 k2 k3]
            exact hf.2.2 k m k1 k2 h2 k4
          · rw [vo k c (by omega) hc (by omega)]; exact b2 k c h1 hc h2
          · rw [vo k j (by omega) hj (by omega)]; exact b2 k j h1 hj h2) (fun j hj => by rw [v4, hzc j hj, sz_z]; omega) (fun j hj => by rw [v4]; exact hzc j (by omega))
        refine ⟨A', V, G, ?_, s2, fun k hk => ?_, (((frH.rf.u (by omega) _).u (by omega) _).u (by omega) _).tr s4, s5, fun v => (s6 v).trans ((la_new hc hF hG (fun j _ => vc j) vo v).trans (hl v)), Or.inr ⟨c, hc, hF, hG⟩, fun k h1 h2 => by rw [gn k (by omega)]; exact hFC k h1 h2, fun a j ha hj hGa => ?_⟩
        · rw [rs_9 hc, Option.bind_some, rf_ck, Option.bind_some, y1', Option.bind_some, rf_ck, Option.bind_some, s1, Option.bind_some]
        · rw [s3, ua_n _ _ (by decide), ua_s]
          unfold upd
          by_cases e : k = c
          · rw [if_pos e, e, pF_y gc]
          · rw [if_neg e, h91 k hk]
            unfold pF
            rw [gn k e]
        · have e : a ≠ c := fun e => by rw [e, gc] at hGa; cases hGa
          rw [s13 a ha hGa j, vo a j ha hj e]
          rw [gn a e] at hGa
          exact hnf a j ha hj hGa
      · rw [pF_y hF, if_neg (nI_nm hc)]
        have s4' := (hW 4 c (by omega) hc).2
        obtain ⟨A1, V1, r1, r2, r3, r4, r5, r6, r7, r8⟩ := re_l (N := N) (h0 := h0) (cd := cd) (rw := rw) (cl := nI C) (F := F) hN hc hF (S0 := W c) (I0 := W 4) (d := 9) (X := X c) (fun j hj => b1 c j (Nat.le_refl _) hc hj hF) b3 (by omega) (sz (W 4 c)) N (ua A 11 f1) W hW1 (Nat.le_refl _) (by omega) (eu_0 (ne_sz (hf.1 c hc hF).2) q)
        have h92 : ∀ k, k < 4 → A1 9 k = pF F k := fun k hk => by rw [r3]; exact h91 k hk
        have iv := iv_eu hc hF (W0 := W) (T := T) (W := W) (V := V1) ⟨hz, hf.1, hl, fun _ _ _ _ _ => rfl⟩ r5 r6 r7 (fun a j ha _ hac => r8 a j ha hac)
        have bd := eu_bd hc r5 (fun j hj => b1 c j (Nat.le_refl _) hc hj hF) b3
        have pc := b1 c c (Nat.le_refl _) hc hc hF
        obtain ⟨A2, V2, s1, s2, s3, s4, s5, s6, s7, s8, s9, s10, s11, s12, s13⟩ := settle_s (N := N) (h0 := h0) (cd := cd) (rw := rw) (C := C) (F := F) (c := c) (M := X c + 9) (K := X (c + 1) + 1) (U := Y (c + 1) + 1 - 9 * (3 - c)) (Y := Y c) (Q := 9) hN hC (by omega) hFC hF (by omega) (by omega) (by omega) (by omega) (A := A1) (W := V1) r2 h92 iv.2.1 (fun k j h1 h2 h3 h4 => by rw [r8 k j h2 (by omega)]; exact b1 k j (by omega) h2 h3 h4) (fun k m h1 h2 h3 h4 h5 => by rw [r8 k m (by omega) (by omega), r8 m m h3 (by omega)]; exact hf.2.2 k m h2 h3 h4 h5) (fun j hj => (bd j hj).1) (fun k h1 h2 => by
          refine ⟨fun m k1 k2 k3 k4 => ?_, ?_, fun j hj => ?_⟩
          · rw [r8 k m (by omega) (by omega), r8 m m k2 k3]
            exact hf.2.2 k m k1 k2 h2 k4
          · rw [r8 k c (by omega) (by omega)]
            have := hf.2.2 k c h1 hc h2 hF
            omega
          · rw [r8 k j (by omega) (by omega)]; exact b2 k j h1 hj h2) (fun j hj => (bd j hj).2.1) (fun j hj => iv.1 j (by omega))
        obtain ⟨A', V, G, t1, t2, t3, t4, t5⟩ := rins_l hN hC hFC hXY hT d n (c + 1) A2 V2 (by omega) (by omega) s2 (fun k hk => by rw [s3]; exact h92 k hk) s5 (fun v => (s7 v).trans (iv.2.2.1 v)) (fun k j h1 h2 h3 h4 => s8 k j (by omega) h2 h3 h4) (fun k j h1 h2 h3 => by
          by_cases e : k = c
          · rw [e]
            have := s9 j h2
            omega
          · have := s10 k j (by omega) h2 h3
            omega) s11 (fun j hj => s12 j (by omega)) (fun a j ha hj hFa => by
          have e : a ≠ c := fun e => by rw [e, hF] at hFa; cases hFa
          rw [s13 a ha hFa j, r8 a j ha e]
          exact hnf a j ha hj hFa)
        refine ⟨A', V, G, ?_, t2, t3, (((frH.rf.u (by omega) _).tr r4).tr s4).tr t4, t5⟩
        rw [r1, rf_ck, Option.bind_some, s1, Option.bind_some]
        exact t1
end RIN2
