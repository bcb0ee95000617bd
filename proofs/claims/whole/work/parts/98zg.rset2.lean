def SO (F : Nat → Bool) (T : (Nat → Po) → Prop) (c M K U Y Q : Nat) (W : Nat → Nat → Po) (r : Nat) : Prop := RD F W T r ∧ (∀ k, k < 4 → F k = true → mnc (W k k)) ∧ (∀ k j, c < k → k < 4 → j < 4 → F k = true → sz (W k j) ≤ 10) ∧ (∀ k m, c < k → k < m → m < 4 → F k = true → F m = true → sz (W k m) < sz (W m m)) ∧ (r ≤ c → ∀ j, j < 4 → sz (W c j) ≤ K) ∧ (c < r → ∀ j, j < 4 → sz (W c j) ≤ M + 1) ∧ (∀ k, k < c → k < r → F k = true → (∀ m, k < m → m < 4 → m ≠ c → F m = true → sz (W k m) < sz (W m m)) ∧ sz (W k c) ≤ Q + 1 ∧ ∀ j, j < 4 → sz (W k j) ≤ Y + 1) ∧ (∀ k j, k < c → r ≤ k → j < 4 → F k = true → sz (W k j) ≤ U + 9 * (3 - c))
section SOL
variable {F : Nat → Bool} {T : (Nat → Po) → Prop} {c M K U Y Q C : Nat} {W V : Nat → Nat → Po} {r : Nat}
theorem so_sj (hr : r < 4) (hF : F r = true) (h : SO F T c M K U Y Q W (r + 1)) : SJ F T c M K U Y Q W r (r + 1) := by
  obtain ⟨h1, h2, h3, h4, h5, h6, h7, h8⟩ := h
  exact ⟨⟨h1.1, h1.2.1, fun k hk hk4 hFk => h1.2.2 k hk hk4 hFk, h2 r hr hF, fun m h1 h2 => by omega⟩, h3, fun q => h5 q, fun q k hk hk4 hFk => h4 r k q hk hk4 hF hFk, fun q j hj => by
    have := h6 (by omega) j hj
    rw [← q] at this
    omega, fun q _ => h7 r q (by omega) hF, fun q q2 => by omega⟩
theorem sj_so (hC : C ≤ 4) (hcC : c < C) (hFC : ∀ k, C ≤ k → k < 4 → F k = false) (n3 : M + 1 + 9 * (3 - c) ≤ K) (h : SO F T c M K U Y Q W (r + 1)) (hs : SJ F T c M K U Y Q V r C) (ho : ∀ a j, a ≠ r → V a j = W a j) (hd : ∀ j, j ≤ r → V r j = W r j) : SO F T c M K U Y Q V r := by
  obtain ⟨h1, h2, h3, h4, h5, h6, h7, h8⟩ := h
  obtain ⟨s1, s2, s3, s4, s5, s6, s7⟩ := hs
  have pv : ∀ k, V k k = W k k := fun k => by
    by_cases q : k = r
    · rw [q]; exact hd r (Nat.le_refl _)
    · exact ho k k q
  refine ⟨ri_end ⟨s1.1, s1.2.1, s1.2.2.1, s1.2.2.2.1, fun m hm hm4 hFm => ?_⟩, fun k hk hF => by rw [pv]; exact h2 k hk hF, s2, fun k m hk hkm hm hFk hFm => ?_, fun q j hj => ?_, fun q j hj => ?_, fun k hk hkr hFk => ?_, fun k j hk hkr hj hFk => ?_⟩
  · by_cases q : m < C
    · exact s1.2.2.2.2 m hm q hFm
    · rw [hFC m (by omega) hm4] at hFm
      cases hFm
  · by_cases q : k = r
    · rw [q]
      exact s4 (by omega) m (by omega) hm hFm
    · rw [ho k m q, pv]
      exact h4 k m hk hkm hm hFk hFm
  · by_cases q2 : r = c
    · have := s5 q2 j hj
      rw [q2] at this
      omega
    · exact s3 (by omega) j hj
  · rw [ho c j (by omega)]
    exact h6 (by omega) j hj
  · obtain ⟨k1, k2, k3⟩ := h7 k hk (by omega) hFk
    exact ⟨fun m hm hm4 hmc hFm => by rw [ho k m (by omega), pv]; exact k1 m hm hm4 hmc hFm, by rw [ho k c (by omega)]; exact k2, fun j hj => by rw [ho k j (by omega)]; exact k3 j hj⟩
  · by_cases q : k = r
    · have := s7 (by omega) hcC j hj
      rw [q]
      omega
    · rw [ho k j q]
      exact h8 k j hk (by omega) hj hFk
theorem so_no (hF : F r = false) (hFc : F c = true) (h : SO F T c M K U Y Q W (r + 1)) : SO F T c M K U Y Q W r := by
  obtain ⟨h1, h2, h3, h4, h5, h6, h7, h8⟩ := h
  have hrc : r ≠ c := fun e => by rw [e, hFc] at hF; cases hF
  exact ⟨rd_skip hF h1, h2, h3, h4, fun q => h5 (by omega), fun q => h6 (by omega), fun k hk hkr => h7 k hk (by omega), fun k j hk hkr hj hFk => by
    by_cases q : k = r
    · rw [q, hF] at hFk; cases hFk
    · exact h8 k j hk (by omega) hj hFk⟩
end SOL
section RST2
variable {N : Nat} {h0 : Hp} {cd rw : Int32} {C : Nat} {F : Nat → Bool} {T : (Nat → Po) → Prop} {c M K U Y Q : Nat}
theorem st2_l (hN : 33000 ≤ N) (hC : C ≤ 4) (hcC : c < C) (hFC : ∀ k, C ≤ k → k < 4 → F k = false) (hFc : F c = true) (n1 : Y + 1 ≤ U) (n2 : Q + K ≤ U) (n3 : M + 1 + 9 * (3 - c) ≤ K) (n4 : U + 9 * (3 - c) ≤ 256) : ∀ (r n : Nat) (A : Nat → Nat → Int32) (W : Nat → Nat → Po), r ≤ C → r < n → MD (A 8) W → (∀ k, k < 4 → A 9 k = pF F k) → SO F T c M K U Y Q W r → ∃ (A' : Nat → Nat → Int32) (V : Nat → Nat → Po), (∀ κ, lX8_settle_114 N 645 n (dI r) (rfh h0 cd rw (nI C) A) κ = κ (dI 0) (rfh h0 cd rw (nI C) A')) ∧ MD (A' 8) V ∧ A' 9 = A 9 ∧ frH A A' ∧ SO F T c M K U Y Q V 0 ∧ (∀ a, (a < 4 → F a = false) → ∀ j, V a j = W a j)
  | r, 0, A, W, _, hn, _, _, _ => absurd hn (Nat.not_lt_zero _)
  | 0, n + 1, A, W, hr, hn, hW, h9, hs => by
    refine ⟨A, W, fun κ => ?_, hW, rfl, frH.rf, hs, fun _ _ _ => rfl⟩
    rw [lX8_settle_114, if_pos (by decide)]
  | r + 1, n + 1, A, W, hr, hn, hW, h9, hs => by
    have hr4 : r < 4 := by omega
    have head : ∀ κ, lX8_settle_114 N 645 (n + 1) (dI (r + 1)) (rfh h0 cd rw (nI C) A) κ = lX8_settle_122 N 645 (nI r) N (nI (r + 1)) (rfh h0 cd rw (nI C) A) (fun _ h41 => lX8_settle_114 N 645 n (dI r) h41 κ) := fun κ => by
      rw [lX8_settle_114, dI_succ, if_neg (nI_pos (by omega))]
      unfold nm
      rw [nI_1, nI_m1 hr4]
    cases hF : F r
    · obtain ⟨A', V, t1, t2⟩ := st2_l hN hC hcC hFC hFc n1 n2 n3 n4 r n A W (by omega) (by omega) hW h9 (so_no hF hFc hs)
      refine ⟨A', V, fun κ => ?_, t2⟩
      rw [head, st2_no hC hr4 hF h9 (C - (r + 1)) N (r + 1) (by omega) (by omega)]
      exact t1 κ
    · obtain ⟨A1, V1, u1, u2, u3, u4, u5, u6, u7⟩ := st2_in (N := N) (h0 := h0) (cd := cd) (rw := rw) hN hC (by omega) hFc n1 n2 n3 n4 hr4 hF (C - (r + 1)) N (r + 1) A W (by omega) (by omega) (by omega) hW h9 (so_sj hr4 hF hs)
      obtain ⟨A', V, t1, t2, t3, t4, t5, t6⟩ := st2_l hN hC hcC hFC hFc n1 n2 n3 n4 r n A1 V1 (by omega) (by omega) u2 (fun k hk => by rw [u3]; exact h9 k hk) (sj_so hC hcC hFC n3 hs u5 u6 u7)
      refine ⟨A', V, fun κ => ?_, t2, t3.trans u3, u4.tr t4, t5, fun a ha j => (t6 a ha j).trans (u6 a j (fun q => by rw [q, hF] at ha; exact absurd (ha hr4) (by decide)))⟩
      rw [head, u1]
      exact t1 κ
theorem st3_l (hN : 33000 ≤ N) (hC : C ≤ 4) (n3 : M + 1 + 9 * (3 - c) ≤ 256) : ∀ (d n m : Nat) (A : Nat → Nat → Int32) (W : Nat → Nat → Po), m + d = C → d < n → MD (A 8) W → (∀ k, k < 4 → A 9 k = pF F k) → EC F W → (∀ k j, c < k → k < 4 → j < 4 → F k = true → sz (W k j) ≤ 10) → (∀ j, j ≤ c → W 4 j = pC 0) → (∀ j, j < 4 → sz (W 4 j) ≤ M + 1 + 9 * (m - c - 1)) → ∃ (A' : Nat → Nat → Int32) (V : Nat → Nat → Po), (∀ κ, lX8_settle_150 N 645 n (nI m) (rfh h0 cd rw (nI C) A) κ = κ (nI C) (rfh h0 cd rw (nI C) A')) ∧ MD (A' 8) V ∧ A' 9 = A 9 ∧ frH A A' ∧ (∀ a j, a < 4 → V a j = W a j) ∧ (∀ v, La F V v ↔ La F W v) ∧ (∀ j, j ≤ c → V 4 j = pC 0) ∧ (∀ j, j < 4 → sz (V 4 j) ≤ M + 1 + 9 * (C - c - 1))
  | d, 0, m, A, W, _, hn, _, _, _, _, _, _ => absurd hn (Nat.not_lt_zero _)
  | 0, n + 1, m, A, W, hm, hn, hW, h9, ec, hb, hz, hs => by
    have e : m = C := by omega
    subst e
    refine ⟨A, W, fun κ => ?_, hW, rfl, frH.rf, fun _ _ _ => rfl, fun _ => Iff.rfl, hz, hs⟩
    rw [lX8_settle_150, rg_2, Option.bind_some, if_pos ((le_n (by omega) (by omega)).mpr (Nat.le_refl _))]
  | d + 1, n + 1, m, A, W, hm, hn, hW, h9, ec, hb, hz, hs => by
    have hm4 : m < 4 := by omega
    have head : ∀ κ, lX8_settle_150 N 645 (n + 1) (nI m) (rfh h0 cd rw (nI C) A) κ = (if A 9 m = (-1 : Int32) then lX8_settle_150 N 645 n (nI (m + 1)) (rfh h0 cd rw (nI C) A) κ else (fX8_lower N 645 (nI 4) (nI m) (rfh h0 cd rw (nI C) A)).bind fun h20 => lX8_settle_150 N 645 n (nI (m + 1)) h20 κ) := fun κ => by
      rw [lX8_settle_150, rg_2, Option.bind_some, if_neg (fun y => by have := (le_n (by omega) (by omega)).mp y; omega), rg_9, Option.bind_some, ra_9 hm4, Option.bind_some]
      unfold jn nm
      dsimp only
      rw [nI_1, rf_ck, Option.bind_some]
      rfl
    cases hF : F m
    · obtain ⟨A', V, t1, t2⟩ := st3_l hN hC n3 d n (m + 1) A W (by omega) (by omega) hW h9 ec hb hz (fun j hj => by have := hs j hj; omega)
      refine ⟨A', V, fun κ => ?_, t2⟩
      rw [head, h9 m hm4, pF_n hF, if_pos rfl]
      exact t1 κ
    · have hd := ne_sz (ec m hm4 hF).2
      have b1 : ∀ j, j < 4 → sz (pdv (W 4 m) (W m m)) + sz (W m j) ≤ 257 ∧ sz (lV4 W 4 m 4 j) ≤ M + 1 + 9 * (m + 1 - c - 1) := fun j hj => by
        have a1 := (hW m j (by omega) hj).2
        have a2 := hs j hj
        rcases pdv_cs (a := W 4 m) hd with e | e
        · rw [e.1, sz_z, lv_z e.1]
          omega
        · have a3 := hs m hm4
          have a4 : c < m := Classical.byContradiction (fun z => by
            have := hz m (by omega)
            rw [this, sz_z] at e
            omega)
          have a5 := hb m j a4 hm4 hj hF
          exact ⟨by omega, lv_sz (by omega) (by omega)⟩
      obtain ⟨A1, l1, l2, l3, l4⟩ := lower_s (N := N) (h0 := h0) (cd := cd) (rw := rw) (cl := nI C) (by omega) h9 hW (r := 4) (c := m) (by omega) hm4 (by omega) hF (Or.inl rfl) hd (fun j hj => (b1 j hj).1)
      have ot : ∀ a j, a < 4 → lV4 W 4 m a j = W a j := fun a j q => if_neg (by omega)
      obtain ⟨A', V, t1, t2, t3, t4, t5, t6, t7, t8⟩ := st3_l hN hC n3 d n (m + 1) A1 (lV4 W 4 m) (by omega) (by omega) l2 (fun k hk => by rw [l3]; exact h9 k hk) (fun k hk hFk => ⟨fun j hj => by rw [ot k j hk]; exact (ec k hk hFk).1 j hj, by rw [ot k k hk]; exact (ec k hk hFk).2⟩) (fun k j h1 h2 h3 h4 => by rw [ot k j h2]; exact hb k j h1 h2 h3 h4) (fun j hj => by
        by_cases q : m ≤ c
        · rcases pdv_cs (a := W 4 m) hd with e | e
          · rw [lv_z e.1]; exact hz j hj
          · rw [hz m q, sz_z] at e
            omega
        · rw [lv_lo ((ec m hm4 hF).1 j (by omega))]; exact hz j hj) (fun j hj => (b1 j hj).2)
      refine ⟨A', V, fun κ => ?_, t2, t3.trans l3, l4.tr t4, fun a j ha => (t5 a j ha).trans (ot a j ha), fun v => (t6 v).trans (la_low hm4 hF v), t7, t8⟩
      rw [head, h9 m hm4, pF_y hF, if_neg (nI_nm hm4), l1, Option.bind_some]
      exact t1 κ
/-- settle: monic, lowered by one another, and so the row that comes in -/
theorem settle_s (hN : 33000 ≤ N) (hC : C ≤ 4) (hcC : c < C) (hFC : ∀ k, C ≤ k → k < 4 → F k = false) (hFc : F c = true) (n1 : Y + 1 ≤ U) (n2 : Q + K ≤ U) (n3 : M + 1 + 9 * (3 - c) ≤ K) (n4 : U + 9 * (3 - c) ≤ 256) {A : Nat → Nat → Int32} {W : Nat → Nat → Po} (hW : MD (A 8) W) (h9 : ∀ k, k < 4 → A 9 k = pF F k) (ec : EC F W) (b0 : ∀ k j, c < k → k < 4 → j < 4 → F k = true → sz (W k j) ≤ 10) (b1 : ∀ k m, c < k → k < m → m < 4 → F k = true → F m = true → sz (W k m) < sz (W m m)) (c0 : ∀ j, j < 4 → sz (W c j) ≤ M + 1) (f0 : ∀ k, k < c → F k = true → (∀ m, k < m → m < 4 → m ≠ c → F m = true → sz (W k m) < sz (W m m)) ∧ sz (W k c) ≤ Q + 1 ∧ ∀ j, j < 4 → sz (W k j) ≤ Y + 1) (i0 : ∀ j, j < 4 → sz (W 4 j) ≤ M + 1) (i1 : ∀ j, j ≤ c → W 4 j = pC 0) : ∃ (A' : Nat → Nat → Int32) (V : Nat → Nat → Po), fX8_settle N 645 (rfh h0 cd rw (nI C) A) = some (rfh h0 cd rw (nI C) A') ∧ MD (A' 8) V ∧ A' 9 = A 9 ∧ frH A A' ∧ HF F V ∧ (∀ v, Sl F V v ↔ Sl F W v) ∧ (∀ v, La F V v ↔ La F W v) ∧ (∀ k j, c < k → k < 4 → j < 4 → F k = true → sz (V k j) ≤ 10) ∧ (∀ j, j < 4 → sz (V c j) ≤ K) ∧ (∀ k j, k < c → j < 4 → F k = true → sz (V k j) ≤ U + 9 * (3 - c)) ∧ (∀ j, j < 4 → sz (V 4 j) ≤ K) ∧ (∀ j, j ≤ c → V 4 j = pC 0) ∧ (∀ a, a < 4 → F a = false → ∀ j, V a j = W a j) := by
  obtain ⟨A1, V1, t1, t2, t3, t4, t5, t6, t7, t8, t9⟩ := st1_l (N := N) (h0 := h0) (cd := cd) (rw := rw) (F := F) hN hC C N 0 A W (by omega) (by omega) hW h9 ec (fun k hk => absurd hk (Nat.not_lt_zero _))
  have h91 : ∀ k, k < 4 → A1 9 k = pF F k := fun k hk => by rw [t3]; exact h9 k hk
  have mn1 : ∀ k, k < 4 → F k = true → mnc (V1 k k) := fun k hk hFk => by
    by_cases q : k < C
    · exact t6 k q hFk
    · rw [hFC k (by omega) hk] at hFk
      cases hFk
  have so : SO F (Sl F W) c M K U Y Q V1 C := ⟨⟨t5, t7, fun k hk hk4 hFk => by rw [hFC k hk hk4] at hFk; cases hFk⟩, mn1, fun k j h1 h2 h3 h4 => by rw [t8 k j (by omega) h3]; exact b0 k j h1 h2 h3 h4, fun k m h1 h2 h3 h4 h5 => by rw [t8 k m (by omega) h3, t8 m m (by omega) h3]; exact b1 k m h1 h2 h3 h4 h5, fun q => by omega, fun _ j hj => by rw [t8 c j (by omega) hj]; exact c0 j hj, fun k h1 h2 h3 => by
      obtain ⟨k1, k2, k3⟩ := f0 k h1 h3
      exact ⟨fun m q1 q2 q3 q4 => by rw [t8 k m (by omega) q2, t8 m m (by omega) q2]; exact k1 m q1 q2 q3 q4, by rw [t8 k c (by omega) (by omega)]; exact k2, fun j hj => by rw [t8 k j (by omega) hj]; exact k3 j hj⟩, fun k j h1 h2 h3 h4 => by omega⟩
  obtain ⟨A2, V2, u1, u2, u3, u4, u5, u6⟩ := st2_l (N := N) (h0 := h0) (cd := cd) (rw := rw) hN hC hcC hFC hFc n1 n2 n3 n4 C N A1 V1 (Nat.le_refl _) (by omega) t2 h91 so
  have h92 : ∀ k, k < 4 → A2 9 k = pF F k := fun k hk => by rw [u3]; exact h91 k hk
  have e4 : ∀ j, V2 4 j = W 4 j := fun j => (u6 4 (fun z => by omega) j).trans (t9 4 (fun z => by omega) j)
  obtain ⟨s1, s2, s3, s4, s5, s6, s7, s8⟩ := u5
  obtain ⟨A3, V3, w1, w2, w3, w4, w5, w6, w7, w8⟩ := st3_l (N := N) (h0 := h0) (cd := cd) (rw := rw) (F := F) (c := c) (M := M) hN hC (by omega) C N 0 A2 V2 (by omega) (by omega) u2 h92 s1.1 s3 (fun j hj => by rw [e4]; exact i1 j hj) (fun j hj => by rw [e4]; have := i0 j hj; omega)
  have hf := rd_hf s1
  have sl3 : ∀ v, Sl F V3 v ↔ Sl F V2 v := fun v => ⟨fun h => h _ (sp_sub _ _) (fun a ha => (sp_sub _ _).1 _ _ (fun j _ => (w5 a j ha.1).symm) (sp_in ha)), fun h => h _ (sp_sub _ _) (fun a ha => (sp_sub _ _).1 _ _ (fun j _ => w5 a j ha.1) (sp_in ha))⟩
  refine ⟨A3, V3, ?_, w2, w3.trans (u3.trans t3), (t4.tr u4).tr w4, ⟨fun k hk hFk => ⟨fun j hj => by rw [w5 k j hk]; exact (hf.1 k hk hFk).1 j hj, by rw [w5 k k hk]; exact (hf.1 k hk hFk).2⟩, fun k hk hFk => by rw [w5 k k hk]; exact hf.2.1 k hk hFk, fun k m hkm hm hFk hFm => by rw [w5 k m (by omega), w5 m m hm]; exact hf.2.2 k m hkm hm hFk hFm⟩, fun v => (sl3 v).trans (s1.2.1 v), fun v => (w6 v).trans (la_of_sl s1.2.1 (fun j _ => e4 j) v), fun k j h1 h2 h3 h4 => by rw [w5 k j h2]; exact s3 k j h1 h2 h3 h4, fun j hj => by rw [w5 c j (by omega)]; exact s5 (by omega) j hj, fun k j h1 h2 h3 => by rw [w5 k j (by omega)]; exact s8 k j h1 (by omega) h2 h3, fun j hj => by have := w8 j hj; omega, w7, fun a ha hFa j => (w5 a j ha).trans ((u6 a (fun _ => hFa) j).trans (t9 a (fun _ => hFa) j))⟩
  unfold fX8_settle
  show lX8_settle_2 N 645 N (nI 0) (rfh h0 cd rw (nI C) A) _ = _
  rw [t1, rg_2, Option.bind_some]
  unfold nm
  show lX8_settle_114 N 645 N (dI C) _ _ = _
  rw [u1]
  show lX8_settle_150 N 645 N (nI 0) _ _ = _
  rw [w1]
end RST2
