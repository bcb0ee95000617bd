/-! the reference's Hermite form: settle -/
theorem la_of_sl {F : Nat → Bool} {W V : Nat → Nat → Po} (h : ∀ v, Sl F V v ↔ Sl F W v) (h4 : ∀ j, j < 4 → V 4 j = W 4 j) (v : Nat → Po) : La F V v ↔ La F W v := by
  have key : ∀ {X Y : Nat → Nat → Po}, (∀ v, Sl F X v → Sl F Y v) → (∀ j, j < 4 → X 4 j = Y 4 j) → La F X v → La F Y v := fun {X Y} k1 k2 hv => hv _ (sp_sub _ _) (fun a ha => by
    rcases ha with e | e
    · rw [e]
      exact (sp_sub _ _).1 _ _ (fun j hj => (k2 j hj).symm) (sp_in (Or.inl rfl))
    · exact k1 _ (sp_in e) _ (sp_sub _ _) (fun b hb => sp_in (Or.inr hb)))
  exact ⟨key (fun v => (h v).mp) h4, key (fun v => (h v).mpr) (fun j hj => (h4 j hj).symm)⟩
theorem la_low {F : Nat → Bool} {W : Nat → Nat → Po} {m : Nat} (hm : m < 4) (hF : F m = true) (v : Nat → Po) : La F (lV4 W 4 m) v ↔ La F W v := by
  have e4 : ∀ j, lV4 W 4 m 4 j = pAdd (W 4 j) (pNeg (pMul (pdv (W 4 m) (W m m)) (W m j))) := fun j => if_pos rfl
  have ea : ∀ a j, a < 4 → lV4 W 4 m a j = W a j := fun a j ha => if_neg (by omega)
  constructor
  · intro h
    refine h _ (sp_sub _ _) (fun a ha => ?_)
    rcases ha with e | e
    · rw [e]
      exact sub_off (sp_sub _ _) _ (sp_in (Or.inl rfl)) (sp_in (Or.inr ⟨hm, hF⟩)) (fun j _ => e4 j)
    · exact (sp_sub _ _).1 _ _ (fun j _ => (ea a j e.1).symm) (sp_in (Or.inr e))
  · intro h
    have sl : ∀ a, a < 4 ∧ F a = true → La F (lV4 W 4 m) (W a) := fun a e => (sp_sub _ _).1 _ _ (fun j _ => ea a j e.1) (sp_in (Or.inr e))
    refine h _ (sp_sub _ _) (fun a ha => ?_)
    rcases ha with e | e
    · rw [e]
      exact sub_on (sp_sub _ _) _ (sp_in (Or.inl rfl)) (sl m ⟨hm, hF⟩) (fun j _ => e4 j)
    · exact sl a e
def SJ (F : Nat → Bool) (T : (Nat → Po) → Prop) (c M K U Y Q : Nat) (W : Nat → Nat → Po) (r m : Nat) : Prop := RIV F W T r m ∧ (∀ k j, c < k → k < 4 → j < 4 → F k = true → sz (W k j) ≤ 10) ∧ (r < c → ∀ j, j < 4 → sz (W c j) ≤ K) ∧ (c < r → ∀ k, r < k → k < 4 → F k = true → sz (W r k) < sz (W k k)) ∧ (r = c → ∀ j, j < 4 → sz (W r j) ≤ M + 1 + 9 * (m - c - 1)) ∧ (r < c → m ≤ c → (∀ k, r < k → k < 4 → k ≠ c → F k = true → sz (W r k) < sz (W k k)) ∧ sz (W r c) ≤ Q + 1 ∧ ∀ j, j < 4 → sz (W r j) ≤ Y + 1) ∧ (r < c → c < m → ∀ j, j < 4 → sz (W r j) ≤ U + 9 * (m - c - 1))
section SJL
variable {F : Nat → Bool} {T : (Nat → Po) → Prop} {c M K U Y Q : Nat} {W : Nat → Nat → Po} {r m : Nat}
theorem lv_lo {j : Nat} (h : W m j = pC 0) : lV4 W r m r j = W r j := by
  unfold lV4
  rw [if_pos rfl, h, pMul_comm, pZero_mul, pn0, pAdd_zero]
theorem lv_sz {j b : Nat} (h1 : sz (W r j) ≤ b) (h2 : sz (pdv (W r m) (W m m)) + sz (W m j) ≤ b + 1) : sz (lV4 W r m r j) ≤ b := by
  unfold lV4
  rw [if_pos rfl]
  refine sz_add h1 ?_
  rw [sz_neg]
  have := sz_mul_le (pdv (W r m) (W m m)) (W m j)
  omega
theorem sj_step (hc : c < 4) (hrm : r < m) (hm : m < 4) (hFr : F r = true) (hFm : F m = true) (hM : ∀ a j, a < 5 → j < 4 → sz (W a j) ≤ 256) (n1 : Y + 1 ≤ U) (n2 : Q + K ≤ U) (n3 : M + 1 + 9 * (3 - c) ≤ K) (n4 : U + 9 * (3 - c) ≤ 256) (h : SJ F T c M K U Y Q W r m) : SJ F T c M K U Y Q (lV4 W r m) r (m + 1) ∧ (∀ j, j < 4 → sz (pdv (W r m) (W m m)) + sz (W m j) ≤ 257) := by
  obtain ⟨h1, h2, h3, h4, h5, h6, h7⟩ := h
  have hd := ne_sz (h1.1 m hm hFm).2
  have hri := ri_step hrm hm hFr hFm (V := lV4 W r m) (fun _ _ _ _ _ => rfl) h1
  have ot : ∀ a j, a ≠ r → lV4 W r m a j = W a j := fun a j q => if_neg q
  rcases pdv_cs (a := W r m) hd with e | e
  · have eV : lV4 W r m = W := funext (fun a => funext (fun j => lv_z e.1 a j))
    rw [eV] at hri ⊢
    refine ⟨⟨hri, h2, h3, h4, fun q j hj => by have := h5 q j hj; omega, fun q q2 => h6 q (by omega), fun q q2 j hj => ?_⟩, fun j hj => by
      rw [e.1, sz_z]
      have := hM m j (by omega) hj
      omega⟩
    by_cases q3 : c < m
    · have := h7 q q3 j hj; omega
    · have := (h6 q (by omega)).2.2 j hj
      omega
  · by_cases k1 : c < r
    · have := h4 k1 m hrm hm hFm
      omega
    · by_cases k2 : r = c
      · have b1 : ∀ j, j < 4 → sz (pdv (W r m) (W m m)) + sz (W m j) ≤ M + 1 + 9 * (m + 1 - c - 1) + 1 := fun j hj => by
          have a1 := h2 m j (by omega) hm hj hFm
          have a2 := h5 k2 m hm
          omega
        refine ⟨⟨hri, fun k j k3 k4 hj hF => by rw [ot k j (by omega)]; exact h2 k j k3 k4 hj hF, fun q => by omega, fun q => by omega, fun _ j hj => lv_sz (by have := h5 k2 j hj; omega) (b1 j hj), fun q => by omega, fun q => by omega⟩, fun j hj => by have := b1 j hj; omega⟩
      · have k3 : r < c := by omega
        by_cases k4 : m < c
        · have := (h6 k3 (by omega)).1 m hrm hm (by omega) hFm
          omega
        · have b1 : ∀ j, j < 4 → sz (W r j) ≤ U + 9 * (m + 1 - c - 1) ∧ sz (pdv (W r m) (W m m)) + sz (W m j) ≤ U + 9 * (m + 1 - c - 1) + 1 := fun j hj => by
            by_cases k5 : m = c
            · have a1 := h3 k3 j hj
              have a2 := (h6 k3 (by omega)).2.1
              have a3 := (h6 k3 (by omega)).2.2 j hj
              rw [← k5] at a1 a2
              omega
            · have a1 := h2 m j (by omega) hm hj hFm
              have a2 := h7 k3 (by omega) m hm
              have a3 := h7 k3 (by omega) j hj
              omega
          refine ⟨⟨hri, fun k j k3 k4 hj hF => by rw [ot k j (by omega)]; exact h2 k j k3 k4 hj hF, fun q j hj => by rw [ot c j (by omega)]; exact h3 q j hj, fun q => by omega, fun q => by omega, fun q => by omega, fun _ _ j hj => lv_sz (b1 j hj).1 (b1 j hj).2⟩, fun j hj => by have := (b1 j hj).2; omega⟩
theorem sj_skip (h : SJ F T c M K U Y Q W r m) (hF : F m = false) (hFc : F c = true) : SJ F T c M K U Y Q W r (m + 1) := by
  obtain ⟨h1, h2, h3, h4, h5, h6, h7⟩ := h
  have hmc : m ≠ c := fun e => by rw [e, hFc] at hF; cases hF
  exact ⟨ri_skip hF h1, h2, h3, h4, fun q j hj => by have := h5 q j hj; omega, fun q q2 => h6 q (by omega), fun q q2 j hj => by have := h7 q (by omega) j hj; omega⟩
end SJL
section RST
variable {N : Nat} {h0 : Hp} {cd rw : Int32} {C : Nat} {F : Nat → Bool}
theorem st1_l (hN : 33000 ≤ N) (hC : C ≤ 4) : ∀ (d n z : Nat) (A : Nat → Nat → Int32) (W : Nat → Nat → Po), z + d = C → d < n → MD (A 8) W → (∀ k, k < 4 → A 9 k = pF F k) → EC F W → (∀ k, k < z → F k = true → mnc (W k k)) → ∃ (A' : Nat → Nat → Int32) (V : Nat → Nat → Po), (∀ κ, lX8_settle_2 N 645 n (nI z) (rfh h0 cd rw (nI C) A) κ = κ (nI C) (rfh h0 cd rw (nI C) A')) ∧ MD (A' 8) V ∧ A' 9 = A 9 ∧ frH A A' ∧ EC F V ∧ (∀ k, k < C → F k = true → mnc (V k k)) ∧ (∀ v, Sl F V v ↔ Sl F W v) ∧ (∀ a j, a < 5 → j < 4 → sz (V a j) = sz (W a j)) ∧ (∀ a, (a < 4 → F a = false) → ∀ j, V a j = W a j)
  | d, 0, z, A, W, _, hn, _, _, _, _ => absurd hn (Nat.not_lt_zero _)
  | 0, n + 1, z, A, W, hz, hn, hW, h9, ec, hm => by
    have e : z = C := by omega
    subst e
    refine ⟨A, W, fun κ => ?_, hW, rfl, frH.rf, ec, hm, fun _ => Iff.rfl, fun _ _ _ _ => rfl, fun _ _ _ => rfl⟩
    rw [lX8_settle_2, rg_2, Option.bind_some, if_pos ((le_n (by omega) (by omega)).mpr (Nat.le_refl _))]
  | d + 1, n + 1, z, A, W, hz, hn, hW, h9, ec, hm => by
    have hz4 : z < 4 := by omega
    have head : ∀ κ, lX8_settle_2 N 645 (n + 1) (nI z) (rfh h0 cd rw (nI C) A) κ = (if A 9 z = (-1 : Int32) then lX8_settle_2 N 645 n (nI (z + 1)) (rfh h0 cd rw (nI C) A) κ else (fX8_take N 645 654 (nI z) (nI z) (rfh h0 cd rw (nI C) A)).bind fun h97 => (gR h97 645 10 11).bind fun v99 => (gR h97 645 10 11).bind fun v100 => (fX8_high N v100 h97).bind fun (v101, h102) => (aI h102 v99 v101).bind fun v103 => (fX8_inverse N v103 h102).bind fun (v104, h105) => lX8_settle_53 N 645 (nI z) (v104.toInt64) N (0 : Int32) h105 (fun y107 h108 => lX8_settle_2 N 645 n (nI (z + 1)) h108 κ)) := fun κ => by
      rw [lX8_settle_2, rg_2, Option.bind_some, if_neg (fun y => by have := (le_n (by omega) (by omega)).mp y; omega), rg_9, Option.bind_some, ra_9 hz4, Option.bind_some]
      unfold jn nm
      dsimp only
      rw [nI_1, rg_11, Option.bind_some, rf_ck, Option.bind_some]
    cases hF : F z
    · obtain ⟨A', V, t1, t2⟩ := st1_l hN hC d n (z + 1) A W (by omega) (by omega) hW h9 ec (fun k hk hFk => by
        by_cases q : k = z
        · rw [q, hF] at hFk; cases hFk
        · exact hm k (by omega) hFk)
      refine ⟨A', V, fun κ => ?_, t2⟩
      rw [head, h9 z hz4, pF_n hF, if_pos rfl]
      exact t1 κ
    · have e := ec z hz4 hF
      have e0 := ne_sz e.2
      have hl : lead (W z z) ≠ 0 := sz_top e0
      obtain ⟨fb, u1, u2⟩ := take_s (N := N) (h0 := h0) (cd := cd) (rw := rw) (cl := nI C) (by omega) hW (k := 11) (by omega) (by omega) (r := z) (j := z) (by omega) hz4
      have u1' : fX8_take N 645 654 (nI z) (nI z) (rfh h0 cd rw (nI C) A) = some (rfh h0 cd rw (nI C) (ua A 11 fb)) := u1
      have us := u2.2
      obtain ⟨f8, s1, s2⟩ := scale_s (N := N) (h0 := h0) (cd := cd) (rw := rw) (cl := nI C) (A := ua A 11 fb) hN (W := W) (by rw [ua_n _ _ (by decide)]; exact hW) hz4
      have ot : ∀ a j, a ≠ z → sV4 W z a j = W a j := fun a j q => if_neg q
      have at_ : ∀ j, sV4 W z z j = pMul (pC (finv (lead (W z z)))) (W z j) := fun j => if_pos rfl
      have ec1 : EC F (sV4 W z) := fun k hk hFk => by
        by_cases q : k = z
        · rw [q]
          exact ⟨fun j hj => by rw [at_, e.1 j hj, pMul_comm, pZero_mul], sz_ne (by rw [at_, sz_cm (finv_ne hl)]; exact e0)⟩
        · exact ⟨fun j hj => by rw [ot k j q]; exact (ec k hk hFk).1 j hj, by rw [ot k k q]; exact (ec k hk hFk).2⟩
      obtain ⟨A', V, t1, t2, t3, t4, t5, t6, t7, t8, t9⟩ := st1_l hN hC d n (z + 1) (ua (ua A 11 fb) 8 f8) (sV4 W z) (by omega) (by omega) (by rw [ua_s]; exact s2) (fun k hk => by rw [ua_n _ _ (by decide), ua_n _ _ (by decide)]; exact h9 k hk) ec1 (fun k hk hFk => by
        by_cases q : k = z
        · rw [q, at_]; exact mn_lead e0
        · rw [ot k k q]; exact hm k (by omega) hFk)
      refine ⟨A', V, fun κ => ?_, t2, ?_, ((frH.rf.u (by omega) _).u (by omega) _).tr t4, t5, t6, fun v => (t7 v).trans (mn_sl (finv_pc hl) (fun a j _ _ _ => rfl) v), fun a j ha hj => ?_, fun a ha j => ?_⟩
      · rw [head, h9 z hz4, pF_y hF, if_neg (nI_nm hz4), u1', Option.bind_some, rg_11, Option.bind_some, Option.bind_some]
        have hb : fX8_high N 654 (rfh h0 cd rw (nI C) (ua A 11 fb)) = some (dI (sz (W z z)), rfh h0 cd rw (nI C) (ua A 11 fb)) := high_s (by omega) (k := 11) (by omega) (by omega) (by rw [ua_s]; exact u2)
        rw [hb, Option.bind_some]
        dsimp only
        rw [show dI (sz (W z z)) = nI (sz (W z z) - 1) by rw [show sz (W z z) = (sz (W z z) - 1) + 1 by omega, dI_succ]; rfl, ra_11 (by omega), Option.bind_some, ua_s, u2.1 _ (by omega), vl_lead e0, inverse_s (by omega), Option.bind_some]
        dsimp only
        rw [lV]
        show lX8_settle_53 N 645 (nI z) (lN (finv (lead (W z z))).val) N (nI 0) _ _ = _
        rw [s1]
        exact t1 κ
      · rw [t3, ua_n _ _ (by decide), ua_n _ _ (by decide)]
      · rw [t8 a j ha hj]
        by_cases q : a = z
        · rw [q, at_, sz_cm (finv_ne hl)]
        · rw [ot a j q]
      · rw [t9 a ha j]
        exact ot a j (fun q => by rw [q, hF] at ha; exact absurd (ha hz4) (by decide))
theorem st2_no (hC : C ≤ 4) {r : Nat} (hr : r < 4) (hF : F r = false) {A : Nat → Nat → Int32} (h9 : ∀ k, k < 4 → A 9 k = pF F k) : ∀ (d n m : Nat), m + d = C → d < n → ∀ κ, lX8_settle_122 N 645 (nI r) n (nI m) (rfh h0 cd rw (nI C) A) κ = κ (nI C) (rfh h0 cd rw (nI C) A)
  | d, 0, m, _, hn => absurd hn (Nat.not_lt_zero _)
  | 0, n + 1, m, hm, hn => fun κ => by
    have e : m = C := by omega
    subst e
    rw [lX8_settle_122, rg_2, Option.bind_some, if_pos ((le_n (by omega) (by omega)).mpr (Nat.le_refl _))]
  | d + 1, n + 1, m, hm, hn => fun κ => by
    rw [lX8_settle_122, rg_2, Option.bind_some, if_neg (fun y => by have := (le_n (by omega) (by omega)).mp y; omega), rf_ck, Option.bind_some, lw_1 (show m < 4 by omega) h9 hr hF, Option.bind_some]
    unfold nm
    rw [nI_1]
    exact st2_no hC hr hF h9 d n (m + 1) (by omega) (by omega) κ
variable {T : (Nat → Po) → Prop} {c M K U Y Q : Nat}
theorem st2_in (hN : 33000 ≤ N) (hC : C ≤ 4) (hc : c < 4) (hFc : F c = true) (n1 : Y + 1 ≤ U) (n2 : Q + K ≤ U) (n3 : M + 1 + 9 * (3 - c) ≤ K) (n4 : U + 9 * (3 - c) ≤ 256) {r : Nat} (hr : r < 4) (hF : F r = true) : ∀ (d n m : Nat) (A : Nat → Nat → Int32) (W : Nat → Nat → Po), m + d = C → r < m → d < n → MD (A 8) W → (∀ k, k < 4 → A 9 k = pF F k) → SJ F T c M K U Y Q W r m → ∃ (A' : Nat → Nat → Int32) (V : Nat → Nat → Po), (∀ κ, lX8_settle_122 N 645 (nI r) n (nI m) (rfh h0 cd rw (nI C) A) κ = κ (nI C) (rfh h0 cd rw (nI C) A')) ∧ MD (A' 8) V ∧ A' 9 = A 9 ∧ frH A A' ∧ SJ F T c M K U Y Q V r C ∧ (∀ a j, a ≠ r → V a j = W a j) ∧ (∀ j, j ≤ r → V r j = W r j)
  | d, 0, m, A, W, _, _, hn, _, _, _ => absurd hn (Nat.not_lt_zero _)
  | 0, n + 1, m, A, W, hm, hrm, hn, hW, h9, hs => by
    have e : m = C := by omega
    subst e
    refine ⟨A, W, fun κ => ?_, hW, rfl, frH.rf, hs, fun _ _ _ => rfl, fun _ _ => rfl⟩
    rw [lX8_settle_122, rg_2, Option.bind_some, if_pos ((le_n (by omega) (by omega)).mpr (Nat.le_refl _))]
  | d + 1, n + 1, m, A, W, hm, hrm, hn, hW, h9, hs => by
    have hm4 : m < 4 := by omega
    have head : ∀ κ, lX8_settle_122 N 645 (nI r) (n + 1) (nI m) (rfh h0 cd rw (nI C) A) κ = (fX8_lower N 645 (nI r) (nI m) (rfh h0 cd rw (nI C) A)).bind fun h48 => lX8_settle_122 N 645 (nI r) n (nI (m + 1)) h48 κ := fun κ => by
      rw [lX8_settle_122, rg_2, Option.bind_some, if_neg (fun y => by have := (le_n (by omega) (by omega)).mp y; omega), rf_ck, Option.bind_some]
      unfold nm
      rw [nI_1]
    cases hFm : F m
    · obtain ⟨A', V, t1, t2⟩ := st2_in hN hC hc hFc n1 n2 n3 n4 hr hF d n (m + 1) A W (by omega) (by omega) (by omega) hW h9 (sj_skip hs hFm hFc)
      refine ⟨A', V, fun κ => ?_, t2⟩
      rw [head, lw_0 hm4 h9 hFm, Option.bind_some]
      exact t1 κ
    · obtain ⟨s1, s2⟩ := sj_step hc hrm hm4 hF hFm (fun a j ha hj => (hW a j ha hj).2) n1 n2 n3 n4 hs
      obtain ⟨A1, l1, l2, l3, l4⟩ := lower_s (N := N) (h0 := h0) (cd := cd) (rw := rw) (cl := nI C) (by omega) h9 hW (r := r) (c := m) (by omega) hm4 (by omega) hFm (Or.inr hF) (ne_sz (hs.1.1 m hm4 hFm).2) s2
      obtain ⟨A', V, t1, t2, t3, t4, t5, t6, t7⟩ := st2_in hN hC hc hFc n1 n2 n3 n4 hr hF d n (m + 1) A1 (lV4 W r m) (by omega) (by omega) (by omega) l2 (fun k hk => by rw [l3]; exact h9 k hk) s1
      refine ⟨A', V, fun κ => ?_, t2, t3.trans l3, l4.tr t4, t5, fun a j q => (t6 a j q).trans (if_neg q), fun j hj => (t7 j hj).trans (lv_lo ((hs.1.1 m hm4 hFm).1 j (by omega)))⟩
      rw [head, l1, Option.bind_some]
      exact t1 κ
end RST
