/-! the reference's Hermite form: rows loaded, inserted, the form written -/
theorem hf_cg {F : Nat → Bool} {W V : Nat → Nat → Po} (h : HF F W) (e : ∀ a j, a < 4 → j < 4 → V a j = W a j) : HF F V := ⟨fun k hk hF => ⟨fun j hj => by rw [e k j hk (by omega)]; exact (h.1 k hk hF).1 j hj, by rw [e k k hk hk]; exact (h.1 k hk hF).2⟩, fun k hk hF => by rw [e k k hk hk]; exact h.2.1 k hk hF, fun k m hkm hm h1 h2 => by rw [e k m (by omega) hm, e m m hm hm]; exact h.2.2 k m hkm hm h1 h2⟩
theorem hf_rd {F : Nat → Bool} {W : Nat → Nat → Po} {T : (Nat → Po) → Prop} (h : HF F W) (hs : ∀ v, Sl F W v ↔ T v) (r : Nat) : RD F W T r := ⟨h.1, hs, fun k _ hk hF => ⟨h.2.1 k hk hF, fun m hm hm4 hFm => h.2.2 k m hm hm4 hF hFm⟩⟩
theorem rw_col {E : Nat → Nat → Po} {C i : Nat} (hE0 : ∀ i j, i < 4 → j < 4 → C ≤ j → E i j = pC 0) (hi : i ≤ 4) {v : Nat → Po} (h : Rw E i v) : ∀ j, C ≤ j → j < 4 → v j = pC 0 := by
  refine h (fun v => ∀ j, C ≤ j → j < 4 → v j = pC 0) ⟨fun u v e hu j h1 h2 => by rw [← e j h2]; exact hu j h1 h2, fun _ _ _ => rfl, fun u v hu hv j h1 h2 => ?_, fun c u hu j h1 h2 => ?_⟩ (fun a ha j h1 h2 => hE0 a j (by omega) h2 h1)
  · show pAdd (u j) (v j) = _
    rw [hu j h1 h2, hv j h1 h2, pAdd_zero]
  · show pMul c (u j) = _
    rw [hu j h1 h2, pMul_comm, pZero_mul]
theorem rw_row {E : Nat → Nat → Po} {R : Nat} (hR : R ≤ 4) (hE0 : ∀ i j, i < 4 → j < 4 → R ≤ i → E i j = pC 0) (v : Nat → Po) : Rw E R v ↔ Rw E 4 v := ⟨fun h => rw_le hR h, fun h => h _ (sp_sub _ _) (fun a ha => by
  by_cases q : a < R
  · exact sp_in q
  · exact sub_z (sp_sub _ _) (fun j hj => hE0 a j ha hj (by omega)))⟩
theorem fw_to4 {F : Nat → Bool} {W M : Nat → Nat → Po} : ∀ (d C : Nat), C + d = 4 → (∀ k, C ≤ k → k < 4 → F k = false) → FW F W C M → FW F W 4 M
  | 0, C, hd, _, h => by
    have e : C = 4 := by omega
    subst e
    exact h
  | d + 1, C, hd, hF, h => fw_to4 d (C + 1) (by omega) (fun k h1 h2 => hF k (by omega) h2) (fw_skip (hF C (Nat.le_refl _) (by omega)) h)
section RH2
variable {N : Nat} {h0 : Hp} {cd rw cl : Int32}
theorem mh68_l {i z : Nat} (hi : i < 4) (hz : z < 4) : ∀ (d n t : Nat) (A : Nat → Nat → Int32), t + d = 4 → d < n → ∀ κ, lX8_makeHermite_68 N 645 (nI i) (nI z) n (nI t) (rfh h0 cd rw cl A) κ = κ (nI 4) (rfh h0 cd rw cl (ua A 10 (wr (A 10) t 4 (fun s => A 3 (16 * i + 4 * z + s)))))
  | d, 0, t, A, _, hn, κ => absurd hn (Nat.not_lt_zero _)
  | 0, n + 1, t, A, ht, hn, κ => by
    have e : t = 4 := by omega
    subst e
    rw [wr_nil, ua_id, lX8_makeHermite_68, if_pos (by decide)]
  | d + 1, n + 1, t, A, ht, hn, κ => by
    have ih := mh68_l hi hz d n (t + 1) (ua A 10 (upd (A 10) t (A 3 (16 * i + 4 * z + t)))) (by omega) (by omega) κ
    rw [ua_s, ua_ua, ua_n _ _ (by decide), wr_step (x := A 3 (16 * i + 4 * z + t)) (A 10) (fun s => A 3 (16 * i + 4 * z + s)) rfl (by omega)] at ih
    rw [lX8_makeHermite_68]
    show (if nI 4 ≤ nI t then _ else _) = _
    rw [if_neg (fun y => by have := (le_n (by omega) (by omega)).mp y; omega), rg_10, Option.bind_some, rg_3, Option.bind_some]
    show (aI (rfh h0 cd rw cl A) 646 (nI 16 * nI i + nI 4 * nI z + nI t)).bind _ = _
    rw [pk_mul, pk_mul, nI_add, nI_add, ra_3 (by omega), Option.bind_some, rs_10 (by omega), Option.bind_some]
    unfold nm
    rw [nI_1]
    exact ih
theorem mh54_l (hN : 1000 ≤ N) {E : Nat → Nat → Po} (hE4 : ∀ i j, sz (E i j) ≤ 4) {i : Nat} (hi : i < 4) : ∀ (d n z : Nat) (A : Nat → Nat → Int32) (W : Nat → Nat → Po), z + d = 4 → d < n → MD (A 8) W → EN E (A 3) → ∃ A', (∀ κ, lX8_makeHermite_54 N 645 (nI i) n (nI z) (rfh h0 cd rw cl A) κ = κ (nI 4) (rfh h0 cd rw cl A')) ∧ MD (A' 8) (fun a b => if a = 4 ∧ z ≤ b then E i b else W a b) ∧ A' 9 = A 9 ∧ frH A A'
  | d, 0, z, A, W, _, hn, _, _ => absurd hn (Nat.not_lt_zero _)
  | 0, n + 1, z, A, W, hz, hn, hW, hE => by
    have e : z = 4 := by omega
    subst e
    refine ⟨A, fun κ => ?_, hW.cg (fun a b _ hb => if_neg (by omega)), rfl, frH.rf⟩
    rw [lX8_makeHermite_54, if_pos (by decide)]
  | d + 1, n + 1, z, A, W, hz, hn, hW, hE => by
    have hz4 : z < 4 := by omega
    obtain ⟨f0, e1, e2⟩ := empty_s (N := N) (h0 := h0) (cd := cd) (rw := rw) (cl := cl) (A := A) hN (k := 10) (by omega) (by omega)
    have e1' : fX8_empty N 653 (rfh h0 cd rw cl A) = some (rfh h0 cd rw cl (ua A 10 f0)) := e1
    have l1 := mh68_l (N := N) (h0 := h0) (cd := cd) (rw := rw) (cl := cl) hi hz4 4 N 0 (ua A 10 f0) rfl (by omega)
    rw [ua_s, ua_ua, ua_n _ _ (by decide)] at l1
    have pp : PP (wr f0 0 4 (fun s => A 3 (16 * i + 4 * z + s))) (E i z) := ⟨fun t ht => by
      by_cases q : t < 4
      · rw [wr_in ⟨Nat.zero_le _, q⟩]
        exact hE i z hi hz4 t q
      · rw [wr_out (by omega), e2.1 t ht]
        unfold vl
        rw [co_0, sz_hi (p := E i z) (by have := hE4 i z; omega)], by have := hE4 i z; omega⟩
    obtain ⟨f8, g1, g2⟩ := give_s (N := N) (h0 := h0) (cd := cd) (rw := rw) (cl := cl) (A := ua A 10 (wr f0 0 4 (fun s => A 3 (16 * i + 4 * z + s)))) hN (W := W) (by rw [ua_n _ _ (by decide)]; exact hW) (r := 4) (j := z) (by omega) hz4 (p := E i z) (by rw [ua_s]; exact pp)
    have g1' : fX8_give N 645 653 (4 : Int32) (nI z) (rfh h0 cd rw cl (ua A 10 (wr f0 0 4 (fun s => A 3 (16 * i + 4 * z + s))))) = some (rfh h0 cd rw cl (ua (ua A 10 (wr f0 0 4 (fun s => A 3 (16 * i + 4 * z + s)))) 8 f8)) := g1
    obtain ⟨A', t1, t2, t3, t4⟩ := mh54_l hN hE4 hi d n (z + 1) (ua (ua A 10 (wr f0 0 4 (fun s => A 3 (16 * i + 4 * z + s)))) 8 f8) (fun a b => if a = 4 ∧ b = z then E i z else W a b) (by omega) (by omega) (by rw [ua_s]; exact g2) (by rw [ua_n _ _ (by decide), ua_n _ _ (by decide)]; exact hE)
    refine ⟨A', fun κ => ?_, t2.cg (fun a b ha hb => ?_), ?_, ((frH.rf.u (by omega) _).u (by omega) _).tr t4⟩
    · rw [lX8_makeHermite_54]
      show (if nI 4 ≤ nI z then _ else _) = _
      rw [if_neg (fun y => by have := (le_n (by omega) (by omega)).mp y; omega), rg_10, Option.bind_some, e1', Option.bind_some]
      show lX8_makeHermite_68 N 645 (nI i) (nI z) N (nI 0) _ _ = _
      rw [l1, rg_10, Option.bind_some, rf_ck, Option.bind_some, g1', Option.bind_some]
      unfold nm
      rw [nI_1]
      exact t1 κ
    · by_cases q : a = 4 ∧ z ≤ b
      · rw [if_pos q]
        by_cases q2 : b = z
        · rw [if_neg (by omega), if_pos ⟨q.1, q2⟩, q2]
        · rw [if_pos ⟨q.1, by omega⟩]
      · rw [if_neg q, if_neg (by omega), if_neg (fun z' => q ⟨z'.1, by omega⟩)]
    · rw [t3, ua_n _ _ (by decide), ua_n _ _ (by decide)]
end RH2
def Xb (c : Nat) : Nat := if c = 0 then 3 else if c = 1 then 39 else if c = 2 then 66 else if c = 3 then 84 else 93
def Yb (c : Nat) : Nat := if c = 0 then 0 else if c = 1 then 75 else if c = 2 then 93 else 102
theorem xy_b : XY Xb Yb := by
  unfold XY
  decide
section RH3
variable {N : Nat} {h0 : Hp} {cd : Int32} {R C : Nat}
theorem mh44_l (hN : 33000 ≤ N) (hR : R ≤ 4) (hC : C ≤ 4) {E : Nat → Nat → Po} (hE4 : ∀ i j, sz (E i j) ≤ 4) (hE0 : ∀ i j, i < 4 → j < 4 → C ≤ j → E i j = pC 0) : ∀ (d n i : Nat) (A : Nat → Nat → Int32) (W : Nat → Nat → Po) (F : Nat → Bool) (s : Nat), i + d = R → d < n → MD (A 8) W → (∀ k, k < 4 → A 9 k = pF F k) → EN E (A 3) → HF F W → (∀ v, Sl F W v ↔ Rw E i v) → ZI s F (Rw E i) → s ≤ i → (∀ k, C ≤ k → k < 4 → F k = false) → (∀ a j, a < 4 → j < 4 → F a = false → W a j = pC 0) → ∃ (A' : Nat → Nat → Int32) (V : Nat → Nat → Po) (G : Nat → Bool), (∀ κ, lX8_makeHermite_44 N 645 n (nI i) (rfh h0 cd (nI R) (nI C) A) κ = κ (nI R) (rfh h0 cd (nI R) (nI C) A')) ∧ MD (A' 8) V ∧ (∀ k, k < 4 → A' 9 k = pF G k) ∧ frH A A' ∧ HF G V ∧ (∀ v, Sl G V v ↔ Rw E R v) ∧ (∀ k j, k < 4 → j < 4 → G k = true → sz (V k j) ≤ 13) ∧ (∀ k, C ≤ k → k < 4 → G k = false)
  | d, 0, i, A, W, F, s, _, hn, _, _, _, _, _, _, _, _, _ => absurd hn (Nat.not_lt_zero _)
  | 0, n + 1, i, A, W, F, s, hd, hn, hW, h9, hE, hf, hs, hZ, hsi, hFC, hnf => by
    have e : i = R := by omega
    subst e
    obtain ⟨D, hD⟩ := zi_zp (sp_sub _ _) hZ
    refine ⟨A, W, F, fun κ => ?_, hW, h9, frH.rf, hf, hs, fun k j hk hj hF => ?_, hFC⟩
    · rw [lX8_makeHermite_44, rg_1, Option.bind_some, if_pos ((le_n (by omega) (by omega)).mpr (Nat.le_refl _))]
    · have := rd_sz (hf_rd hf hs k) hD hk hF j hj
      omega
  | d + 1, n + 1, i, A, W, F, s, hd, hn, hW, h9, hE, hf, hs, hZ, hsi, hFC, hnf => by
    have hi : i < 4 := by omega
    obtain ⟨D, hD⟩ := zi_zp (sp_sub _ _) hZ
    obtain ⟨A1, t1, t2, t3, t4⟩ := mh54_l (N := N) (h0 := h0) (cd := cd) (rw := nI R) (cl := nI C) (by omega) hE4 hi 4 N 0 A W rfl (by omega) hW hE
    obtain ⟨W1, hW1⟩ : ∃ W1 : Nat → Nat → Po, W1 = fun a b => if a = 4 ∧ 0 ≤ b then E i b else W a b := ⟨_, rfl⟩
    rw [← hW1] at t2
    have w4 : ∀ j, W1 4 j = E i j := fun j => by rw [hW1]; exact if_pos ⟨rfl, Nat.zero_le _⟩
    have wo : ∀ a j, a < 4 → W1 a j = W a j := fun a j ha => by rw [hW1]; exact if_neg (by omega)
    obtain ⟨A2, V, G, u1, u2, u3, u4, u5, u6, u7, u8, u9⟩ := rins_l (N := N) (h0 := h0) (cd := cd) (rw := nI R) (C := C) (F := F) hN hC hFC xy_b (T := Rw E (i + 1)) (fun v hv => rw_col hE0 (by omega) hv) C N 0 A1 W1 (by omega) (by omega) t2 (fun k hk => by rw [t3]; exact h9 k hk) (hf_cg hf (fun a j ha _ => wo a j ha)) (fun v => rw_la hs (fun j _ => w4 j) (fun a j ha _ _ => wo a j ha) v) (fun k j _ hk hj hF => by
      rw [wo k j hk]
      have := rd_sz (hf_rd hf hs k) hD hk hF j hj
      omega) (fun k j hk => absurd hk (Nat.not_lt_zero _)) (fun j hj => by
      rw [w4]
      have := hE4 i j
      show _ ≤ 3 + 1
      omega) (fun j hj => absurd hj (Nat.not_lt_zero _)) (fun a j ha hj hF => by rw [wo a j ha]; exact hnf a j ha hj hF)
    obtain ⟨s', z1, z2, _⟩ := zi_up hE4 (by omega) hf.1 hs u5.1 u6 hZ u7
    have hE2 : EN E (A2 3) := by
      rw [u4 3 (by decide) (by decide) (by decide) (by decide) (by decide), t4 3 (by decide) (by decide) (by decide) (by decide) (by decide)]
      exact hE
    obtain ⟨A', V', G', r1, r2, r3, r4, r5⟩ := mh44_l hN hR hC hE4 hE0 d n (i + 1) A2 V G s' (by omega) (by omega) u2 u3 hE2 u5 u6 z1 (by omega) u8 u9
    refine ⟨A', V', G', fun κ => ?_, r2, r3, (t4.tr u4).tr r4, r5⟩
    rw [lX8_makeHermite_44, rg_1, Option.bind_some, if_neg (fun y => by have := (le_n (by omega) (by omega)).mp y; omega)]
    show lX8_makeHermite_54 N 645 (nI i) N (nI 0) _ _ = _
    rw [t1, rf_ck, Option.bind_some]
    unfold fX8_insert
    show (lX8_insert_2 N 645 N (nI 0) (rfh h0 cd (nI R) (nI C) A1) (fun _ h => some h)).bind _ = _
    rw [u1, Option.bind_some]
    unfold nm
    rw [nI_1]
    exact r1 κ
def FM0 (f : Nat → Int32) (M : Nat → Nat → Po) : Prop := ∀ a b, a < 4 → b < 4 → FMp f 0 a b (M a b)
theorem mh153_l (hN : 1000 ≤ N) (hC : C ≤ 4) {rw : Int32} {c nx : Nat} (hc : c < 4) (hnx : nx < 4) {W : Nat → Nat → Po} : ∀ (d n z : Nat) (A : Nat → Nat → Int32) (M : Nat → Nat → Po), z + d = C → d < n → MD (A 8) W → FM0 (A 5) M → ∃ A', (∀ κ, lX8_makeHermite_153 N 645 (nI nx) (nI c) n (nI z) (rfh h0 cd rw (nI C) A) κ = κ (nI C) (rfh h0 cd rw (nI C) A')) ∧ FM0 (A' 5) (fun a b => if a = nx ∧ z ≤ b ∧ b < C then W c b else M a b) ∧ (∀ k, k ≠ 5 → k ≠ 10 → A' k = A k) ∧ (∀ y, 640 ≤ y → A' 5 y = A 5 y)
  | d, 0, z, A, M, _, hn, _, _ => absurd hn (Nat.not_lt_zero _)
  | 0, n + 1, z, A, M, hz, hn, hW, hM => by
    have e : z = C := by omega
    subst e
    refine ⟨A, fun κ => ?_, fun a b ha hb => ?_, fun _ _ _ => rfl, fun _ _ => rfl⟩
    · rw [lX8_makeHermite_153, rg_2, Option.bind_some, if_pos ((le_n (by omega) (by omega)).mpr (Nat.le_refl _))]
    · show FMp (A 5) 0 a b (if _ then _ else _)
      rw [if_neg (by omega)]
      exact hM a b ha hb
  | d + 1, n + 1, z, A, M, hz, hn, hW, hM => by
    have hz4 : z < 4 := by omega
    obtain ⟨f, t1, t2⟩ := take_s (N := N) (h0 := h0) (cd := cd) (rw := rw) (cl := nI C) hN hW (k := 10) (by omega) (by omega) (r := c) (j := z) (by omega) hz4
    have t1' : fX8_take N 645 653 (nI c) (nI z) (rfh h0 cd rw (nI C) A) = some (rfh h0 cd rw (nI C) (ua A 10 f)) := t1
    have p1 := put0_s (N := N) (h0 := h0) (cd := cd) (rw := rw) (cl := nI C) hN (A := ua A 10 f) (k := 10) (f := 0) (i := nx) (j := z) (by omega) (by omega) (by omega) hnx hz4
    obtain ⟨f5, hf5⟩ : ∃ f5, f5 = wr (ua A 10 f 5) (40 * (16 * 0 + 4 * nx + z)) (40 * (16 * 0 + 4 * nx + z) + 40) (fun y => ua A 10 f 10 (y - (40 * (16 * 0 + 4 * nx + z)))) := ⟨_, rfl⟩
    rw [← hf5] at p1
    have p1' : fX8_put0 N 645 (0 : Int32) (nI nx) (nI z) 653 (rfh h0 cd rw (nI C) (ua A 10 f)) = some (rfh h0 cd rw (nI C) (ua (ua A 10 f) 5 f5)) := p1
    rw [ua_s, ua_n _ _ (by decide)] at hf5
    obtain ⟨A', r1, r2, r3, r4⟩ := mh153_l hN hC (rw := rw) hc hnx (W := W) d n (z + 1) (ua (ua A 10 f) 5 f5) (fun a b => if a = nx ∧ b = z then W c z else M a b) (by omega) (by omega) (by rw [ua_n _ _ (by decide), ua_n _ _ (by decide)]; exact hW) (fun a b ha hb t ht => by
      rw [ua_s, hf5]
      dsimp only
      by_cases q : a = nx ∧ b = z
      · rw [if_pos q, q.1, q.2, wr_in (by omega), Nat.add_sub_cancel_left]
        exact t2.1 t (by omega)
      · rw [if_neg q, wr_out (fun y => q (by omega))]
        exact hM a b ha hb t ht)
    refine ⟨A', fun κ => ?_, fun a b ha hb => ?_, fun k k1 k2 => by rw [r3 k k1 k2, ua_n _ _ k1, ua_n _ _ k2], fun y hy => by rw [r4 y hy, ua_s, hf5, wr_out (by omega)]⟩
    · rw [lX8_makeHermite_153, rg_2, Option.bind_some, if_neg (fun y => by have := (le_n (by omega) (by omega)).mp y; omega), rg_10, Option.bind_some, rf_ck, Option.bind_some, t1', Option.bind_some, rg_10, Option.bind_some, rf_ck, Option.bind_some, p1', Option.bind_some]
      unfold nm
      rw [nI_1]
      exact r1 κ
    · have k := r2 a b ha hb
      dsimp only at k ⊢
      by_cases q : a = nx ∧ z ≤ b ∧ b < C
      · rw [if_pos q]
        by_cases q2 : b = z
        · rw [if_neg (by omega), if_pos ⟨q.1, q2⟩] at k
          rw [q2] at k ⊢
          exact k
        · rw [if_pos ⟨q.1, by omega, q.2.2⟩] at k
          exact k
      · rw [if_neg q]
        rw [if_neg (by omega), if_neg (fun y => q ⟨y.1, by omega, by omega⟩)] at k
        exact k
theorem mh130_l (hN : 1000 ≤ N) (hC : C ≤ 4) {rw : Int32} {F : Nat → Bool} {W : Nat → Nat → Po} (hW0 : ∀ k j, k < 4 → j < 4 → F k = true → C ≤ j → W k j = pC 0) : ∀ (d n c : Nat) (A : Nat → Nat → Int32) (M : Nat → Nat → Po), c + d = C → d < n → MD (A 8) W → (∀ k, k < 4 → A 9 k = pF F k) → FM0 (A 5) M → FW F W c M → ∃ (A' : Nat → Nat → Int32) (M' : Nat → Nat → Po), lX8_makeHermite_130 N 645 n (nI (cn F c)) (nI c) (rfh h0 cd rw (nI C) A) (fun _ _ h => some h) = some (rfh h0 cd rw (nI C) A') ∧ FM0 (A' 5) M' ∧ FW F W C M' ∧ (∀ k, k ≠ 5 → k ≠ 10 → A' k = A k) ∧ (∀ y, 640 ≤ y → A' 5 y = A 5 y)
  | d, 0, c, A, M, _, hn, _, _, _, _ => absurd hn (Nat.not_lt_zero _)
  | 0, n + 1, c, A, M, hc, hn, hW, h9, hM, hf => by
    have e : c = C := by omega
    subst e
    refine ⟨A, M, ?_, hM, hf, fun _ _ _ => rfl, fun _ _ => rfl⟩
    rw [lX8_makeHermite_130, rg_2, Option.bind_some, if_pos ((le_n (by omega) (by omega)).mpr (Nat.le_refl _))]
  | d + 1, n + 1, c, A, M, hc, hn, hW, h9, hM, hf => by
    have hc4 : c < 4 := by omega
    have hcn : cn F c < 4 := by have := cn_b F c; omega
    have head : lX8_makeHermite_130 N 645 (n + 1) (nI (cn F c)) (nI c) (rfh h0 cd rw (nI C) A) (fun _ _ h => some h) = (if A 9 c = (-1 : Int32) then lX8_makeHermite_130 N 645 n (nI (cn F c)) (nI (c + 1)) (rfh h0 cd rw (nI C) A) (fun _ _ h => some h) else lX8_makeHermite_153 N 645 (nI (cn F c)) (nI c) N (nI 0) (rfh h0 cd rw (nI C) A) (fun _ h23 => lX8_makeHermite_130 N 645 n (nI (cn F c + 1)) (nI (c + 1)) h23 (fun _ _ h => some h))) := by
      rw [lX8_makeHermite_130, rg_2, Option.bind_some, if_neg (fun y => by have := (le_n (by omega) (by omega)).mp y; omega), rg_9, Option.bind_some, ra_9 hc4, Option.bind_some]
      unfold jn nm
      dsimp only
      rw [nI_1, nI_1]
      rfl
    cases hF : F c
    · obtain ⟨A', M', t1, t2⟩ := mh130_l hN hC (rw := rw) hW0 d n (c + 1) A M (by omega) (by omega) hW h9 hM (fw_skip hF hf)
      refine ⟨A', M', ?_, t2⟩
      rw [cn_0 hF] at t1
      rw [head, h9 c hc4, pF_n hF, if_pos rfl]
      exact t1
    · obtain ⟨A1, u1, u2, u3, u4⟩ := mh153_l (N := N) (h0 := h0) (cd := cd) hN hC (rw := rw) hc4 hcn (W := W) C N 0 A M (by omega) (by omega) hW hM
      obtain ⟨A', M', t1, t2, t3, t4, t5⟩ := mh130_l hN hC (rw := rw) hW0 d n (c + 1) A1 _ (by omega) (by omega) (by rw [u3 8 (by decide) (by decide)]; exact hW) (fun k hk => by rw [u3 9 (by decide) (by decide)]; exact h9 k hk) u2 (fw_step hF hf (fun m j hm hj => by
        by_cases q : m = cn F c
        · rw [if_pos q]
          by_cases q2 : j < C
          · rw [if_pos ⟨q, Nat.zero_le _, q2⟩]
          · rw [if_neg (by omega), hf.2 m j (by omega) hm hj, hW0 c j hc4 hj hF (by omega)]
        · rw [if_neg q, if_neg (by omega)]) hc4)
      refine ⟨A', M', ?_, t2, t3, fun k k1 k2 => (t4 k k1 k2).trans (u3 k k1 k2), fun y hy => (t5 y hy).trans (u4 y hy)⟩
      rw [cn_1 hF] at t1
      rw [head, h9 c hc4, pF_y hF, if_neg (nI_nm hc4), u1]
      exact t1
theorem mh2_l {rw cl : Int32} : ∀ (d n z : Nat) (A : Nat → Nat → Int32), z + d = 5120 → d < n → ∀ κ, lX8_makeHermite_2 N 645 n (nI z) (rfh h0 cd rw cl A) κ = κ (nI 5120) (rfh h0 cd rw cl (ua A 8 (wr (A 8) z 5120 (fun _ => 0))))
  | d, 0, z, A, _, hn, κ => absurd hn (Nat.not_lt_zero _)
  | 0, n + 1, z, A, hz, hn, κ => by
    have e : z = 5120 := by omega
    subst e
    rw [wr_nil, ua_id, lX8_makeHermite_2]
    show (if nI 5120 ≤ nI 5120 then _ else _) = _
    rw [if_pos ((le_n (by omega) (by omega)).mpr (Nat.le_refl _))]
  | d + 1, n + 1, z, A, hz, hn, κ => by
    have ih := mh2_l (rw := rw) (cl := cl) d n (z + 1) (ua A 8 (upd (A 8) z 0)) (by omega) (by omega) κ
    rw [ua_s, ua_ua, wr_step (x := 0) (A 8) (fun _ => 0) rfl (by omega)] at ih
    rw [lX8_makeHermite_2]
    show (if nI 5120 ≤ nI z then _ else _) = _
    rw [if_neg (fun y => by have := (le_n (by omega) (by omega)).mp y; omega), rg_8, Option.bind_some, rs_8 (by omega), Option.bind_some]
    unfold nm
    rw [nI_1]
    exact ih
theorem mh24_l {rw cl : Int32} : ∀ (d n z : Nat) (A : Nat → Nat → Int32), z + d = 4 → d < n → ∀ κ, lX8_makeHermite_24 N 645 n (nI z) (rfh h0 cd rw cl A) κ = κ (nI 4) (rfh h0 cd rw cl (ua A 9 (wr (A 9) z 4 (fun _ => -1))))
  | d, 0, z, A, _, hn, κ => absurd hn (Nat.not_lt_zero _)
  | 0, n + 1, z, A, hz, hn, κ => by
    have e : z = 4 := by omega
    subst e
    rw [wr_nil, ua_id, lX8_makeHermite_24, if_pos (by decide)]
  | d + 1, n + 1, z, A, hz, hn, κ => by
    have ih := mh24_l (rw := rw) (cl := cl) d n (z + 1) (ua A 9 (upd (A 9) z (-1))) (by omega) (by omega) κ
    rw [ua_s, ua_ua, wr_step (x := -1) (A 9) (fun _ => -1) rfl (by omega)] at ih
    rw [lX8_makeHermite_24]
    show (if nI 4 ≤ nI z then _ else _) = _
    rw [if_neg (fun y => by have := (le_n (by omega) (by omega)).mp y; omega), rg_9, Option.bind_some, rs_9 (by omega), Option.bind_some]
    unfold nm
    rw [nI_1]
    exact ih
theorem hermite_r (hN : 33000 ≤ N) (hR : R ≤ 4) (hC : C ≤ 4) {E : Nat → Nat → Po} (hE4 : ∀ i j, sz (E i j) ≤ 4) (hE0 : ∀ i j, i < 4 → j < 4 → C ≤ j → E i j = pC 0) (hE1 : ∀ i j, i < 4 → j < 4 → R ≤ i → E i j = pC 0) {A : Nat → Nat → Int32} (hE : EN E (A 3)) (h5 : ∀ y, y < 640 → A 5 y = 0) : ∃ (A' : Nat → Nat → Int32) (F : Nat → Bool) (W M : Nat → Nat → Po), fX8_makeHermite N 645 (rfh h0 cd (nI R) (nI C) A) = some (rfh h0 cd (nI R) (nI C) A') ∧ (∀ k, k ≠ 5 → k ≠ 8 → k ≠ 9 → k ≠ 10 → k ≠ 11 → k ≠ 12 → A' k = A k) ∧ HF F W ∧ (∀ v, Sl F W v ↔ Rw E 4 v) ∧ FW F W 4 M ∧ FM0 (A' 5) M ∧ (∀ y, 640 ≤ y → A' 5 y = A 5 y) := by
  obtain ⟨A1, hA1⟩ : ∃ A1, A1 = ua (ua A 8 (wr (A 8) 0 5120 (fun _ => 0))) 9 (wr (A 9) 0 4 (fun _ => -1)) := ⟨_, rfl⟩
  have k3 : A1 3 = A 3 := by rw [hA1, ua_n _ _ (by decide), ua_n _ _ (by decide)]
  have k8 : MD (A1 8) (fun _ _ => pC 0) := fun r j hr hj => ⟨fun t ht => by rw [hA1, ua_n _ _ (by decide), ua_s, wr_in (by omega), vl_C0]; rfl, by show sz (pC 0) ≤ _; rw [sz_z]; omega⟩
  obtain ⟨A2, V, G, t1, t2, t3, t4, t5, t6, t7, t8⟩ := mh44_l (N := N) (h0 := h0) (cd := cd) hN hR hC hE4 hE0 R N 0 A1 (fun _ _ => pC 0) (fun _ => false) 0 (by omega) (by omega) k8 (fun k hk => by
    rw [hA1, ua_s, wr_in ⟨Nat.zero_le _, hk⟩]
    rfl) (by rw [k3]; exact hE) ⟨fun r _ h => Bool.noConfusion h, fun r _ h => Bool.noConfusion h, fun r c _ _ h => Bool.noConfusion h⟩ (fun v => ⟨fun h => h _ (sp_sub _ _) (fun a ha => Bool.noConfusion ha.2), fun h => h _ (sp_sub _ _) (fun a ha => absurd ha (Nat.not_lt_zero _))⟩) zi_0 (Nat.le_refl _) (fun _ _ _ => rfl) (fun _ _ _ _ _ => rfl)
  have e5 : A2 5 = A 5 := by rw [t4 5 (by decide) (by decide) (by decide) (by decide) (by decide), hA1, ua_n _ _ (by decide), ua_n _ _ (by decide)]
  obtain ⟨A', M, u1, u2, u3, u4, u5⟩ := mh130_l (N := N) (h0 := h0) (cd := cd) (by omega) hC (rw := nI R) (F := G) (W := V) (fun k j hk hj hG hCj => rw_col hE0 hR ((t6 _).mp (sp_in ⟨hk, hG⟩)) j hCj hj) C N 0 A2 (fun _ _ => pC 0) (by omega) (by omega) t2 t3 (fun a b ha hb t ht => by
    rw [e5, h5 _ (by omega), vl_C0]
    rfl) ⟨fun c j hc => absurd hc (Nat.not_lt_zero _), fun _ _ _ _ _ => rfl⟩
  refine ⟨A', G, V, M, ?_, fun k k5 k8 k9 k10 k11 k12 => ?_, t5, fun v => (t6 v).trans (rw_row hR hE1 v), fw_to4 (4 - C) C (by omega) t8 u3, u2, fun y hy => by rw [u5 y hy, e5]⟩
  · unfold fX8_makeHermite
    show lX8_makeHermite_2 N 645 N (nI 0) _ _ = _
    rw [mh2_l 5120 N 0 A rfl (by omega)]
    show lX8_makeHermite_24 N 645 N (nI 0) _ _ = _
    rw [mh24_l 4 N 0 _ rfl (by omega), ua_n _ _ (by decide), ← hA1]
    show lX8_makeHermite_44 N 645 N (nI 0) _ _ = _
    rw [t1]
    exact u1
  · rw [u4 k k5 k10, t4 k k8 k9 k10 k11 k12, hA1, ua_n _ _ k9, ua_n _ _ k8]
/-- make of the reference: the Hermite form -/
theorem make_r3 (hN : 33000 ≤ N) (hR : R ≤ 4) (hC : C ≤ 4) {A : Nat → Nat → Int32} {E : Nat → Nat → Po} (hE4 : ∀ i j, sz (E i j) ≤ 4) (hE0 : ∀ i j, i < 4 → j < 4 → C ≤ j → E i j = pC 0) (hE1 : ∀ i j, i < 4 → j < 4 → R ≤ i → E i j = pC 0) (hE : EN E (A 3)) : ∃ (A' : Nat → Nat → Int32) (F : Nat → Bool) (W M : Nat → Nat → Po), fX8_make N 645 (nI 0) (rfh h0 cd (nI R) (nI C) A) = some (nI (ord E), rfh h0 0 (nI R) (nI C) A') ∧ A' 3 = A 3 ∧ A' 4 = upd (A 4) 0 1 ∧ HF F W ∧ (∀ v, Sl F W v ↔ Rw E 4 v) ∧ FW F W 4 M ∧ FM0 (A' 5) M ∧ (∀ y, 640 ≤ y → A' 5 y = A 5 y) := by
  obtain ⟨f6, f7, g1, g2⟩ := load_s (N := N) (h0 := h0) (cd := 0) (rw := nI R) (cl := nI C) hN hE4 hE
  have cf := clearF_s (N := N) (h0 := h0) (cd := 0) (rw := nI R) (cl := nI C) (by omega) (A := ua (ua A 7 f7) 6 f6) (f := 0) (by omega)
  obtain ⟨f5, hf5⟩ : ∃ f5, f5 = wr (ua (ua A 7 f7) 6 f6 5) (640 * 0) (640 * 0 + 640) (fun _ => 0) := ⟨_, rfl⟩
  rw [← hf5] at cf
  obtain ⟨A1, hA1⟩ : ∃ A1, A1 = ua (ua (ua (ua A 7 f7) 6 f6) 5 f5) 4 (upd (A 4) 0 1) := ⟨_, rfl⟩
  have M1 : MF E (A1 6) := by rw [hA1, ua_n _ _ (by decide), ua_n _ _ (by decide), ua_s]; exact g2
  have A15 : A1 5 = f5 := by rw [hA1, ua_n _ _ (by decide), ua_s]
  have A13 : A1 3 = A 3 := by rw [hA1, ua_n _ _ (by decide), ua_n _ _ (by decide), ua_n _ _ (by decide), ua_n _ _ (by decide)]
  obtain ⟨A', F, W, M, s1, s2, s3, s4, s5, s6, s7⟩ := hermite_r (N := N) (h0 := h0) (cd := 0) (A := A1) hN hR hC hE4 hE0 hE1 (by rw [A13]; exact hE) (fun y hy => by rw [A15, hf5, wr_in (by omega)])
  have M2 : MF E (A' 6) := by rw [s2 6 (by decide) (by decide) (by decide) (by decide) (by decide) (by decide)]; exact M1
  obtain ⟨n, k1, k2⟩ := rankNow_s (N := N) (h0 := h0) (cd := 0) (rw := nI R) (cl := nI C) (by omega) hE4 M2
  have en : n = ord E := RKf_un k2 (ord_rk E)
  refine ⟨A', F, W, M, ?_, ?_, ?_, s3, s4, s5, s6, fun y hy => ?_⟩
  · unfold fX8_make
    rw [in_k (n := 3) (by omega) (by decide), Option.bind_some]
    unfold jn
    dsimp only
    rw [if_neg (show ¬ (if 0 ≤ (nI 0).toInt ∧ (nI 0).toInt < ((3 : Nat) : Int) then (1 : Int32) else 0) = 0 by decide), rp_0, Option.bind_some, rg_0, Option.bind_some, if_pos (show (0 : Int32) ≤ 0 by decide), rf_ck, Option.bind_some, g1, Option.bind_some, rf_ck, Option.bind_some, cf, Option.bind_some, rg_4, Option.bind_some, rs_4 (by omega), Option.bind_some, nar1, ua_n _ _ (by decide), ua_n _ _ (by decide), ua_n _ _ (by decide), ← hA1, if_pos (show nI 0 = 0 from rfl), rf_ck, Option.bind_some, s1, Option.bind_some, if_neg (show ¬ nI 0 = 1 by decide), if_neg (by decide), rf_ck, Option.bind_some, k1, en]
    rfl
  · rw [s2 3 (by decide) (by decide) (by decide) (by decide) (by decide) (by decide)]; exact A13
  · rw [s2 4 (by decide) (by decide) (by decide) (by decide) (by decide) (by decide), hA1, ua_s]
  · rw [s7 y hy, A15, hf5, wr_out (by omega), ua_n _ _ (by decide), ua_n _ _ (by decide)]
end RH3
