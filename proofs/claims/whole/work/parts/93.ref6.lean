/-! the reference: common, Smith form -/
section R6
variable {N : Nat} {h0 : Hp} {cd rw cl : Int32}
theorem PP.wr {f g : Nat → Int32} {p : Po} (h : PP g p) : PP (wr f 0 256 g) p := ⟨fun t ht => by rw [wr_in ⟨Nat.zero_le _, ht⟩]; exact h.1 t ht, h.2⟩
theorem swap_l {V W : Nat → Int32} : ∀ (d n z : Nat) (A : Nat → Nat → Int32), z + d = 256 → d < n → (∀ t, z ≤ t → t < 256 → A 10 t = V t ∧ A 11 t = W t) → ∀ κ, lX8_common_24 N 645 n (nI z) (rfh h0 cd rw cl A) κ = κ (nI 256) (rfh h0 cd rw cl (ua (ua A 10 (wr (A 10) z 256 W)) 11 (wr (A 11) z 256 V)))
  | d, 0, z, A, _, hn, _, κ => absurd hn (Nat.not_lt_zero _)
  | 0, n + 1, z, A, hz, hn, hV, κ => by
    have e : z = 256 := by omega
    subst e
    rw [wr_nil, wr_nil, ua_id, ua_id, lX8_common_24]
    show (if nI 256 ≤ nI 256 then _ else _) = _
    rw [if_pos (by decide)]
  | d + 1, n + 1, z, A, hz, hn, hV, κ => by
    have hVz := hV z (by omega) (by omega)
    have ih := swap_l (V := V) (W := W) d n (z + 1) (ua (ua A 10 (upd (A 10) z (W z))) 11 (upd (A 11) z (V z))) (by omega) (by omega) (fun t h1 h2 => by
      rw [ua_n _ _ (by decide), ua_s, ua_s]
      unfold upd
      rw [if_neg (by omega), if_neg (by omega)]
      exact hV t (by omega) h2) κ
    have e : ua (ua (ua (ua A 10 (upd (A 10) z (W z))) 11 (upd (A 11) z (V z))) 10 (wr (upd (A 10) z (W z)) (z + 1) 256 W)) 11 (wr (upd (A 11) z (V z)) (z + 1) 256 V) = ua (ua A 10 (wr (A 10) z 256 W)) 11 (wr (A 11) z 256 V) := by
      rw [wr_step _ _ rfl (by omega), wr_step _ _ rfl (by omega)]
      funext i
      unfold ua
      by_cases z1 : i = 11
      · simp only [if_pos z1]
      · by_cases z2 : i = 10
        · simp only [if_neg z1, if_pos z2]
        · simp only [if_neg z1, if_neg z2]
    rw [ua_n _ _ (by decide : (10 : Nat) ≠ 11), ua_s, ua_s, e] at ih
    rw [lX8_common_24]
    show (if nI 256 ≤ nI z then _ else _) = _
    rw [if_neg (fun y => by have := (le_n (by omega) (by omega)).mp y; omega), rg_10, Option.bind_some, ra_10 (by omega), Option.bind_some, Option.bind_some, rg_11, Option.bind_some, ra_11 (by omega), Option.bind_some, hVz.1, hVz.2, rs_10 (by omega), Option.bind_some, rg_11, Option.bind_some, rs_11 (by omega), Option.bind_some, ua_n _ _ (by decide)]
    unfold nm
    rw [nI_1]
    exact ih
/-- what a call may leave in the arrays a, b, c -/
def fr3 (A A' : Nat → Nat → Int32) : Prop := ∀ k, k ≠ 10 → k ≠ 11 → k ≠ 12 → A' k = A k
theorem fr3.tr {A B C : Nat → Nat → Int32} (h1 : fr3 A B) (h2 : fr3 B C) : fr3 A C := fun k a b c => (h2 k a b c).trans (h1 k a b c)
theorem common_l (hN : 1000 ≤ N) : ∀ (m n : Nat) (A : Nat → Nat → Int32) (a b : Po), m < n → sz b ≤ m → PP (A 10) a → PP (A 11) b → ∃ A', (∀ κ, lX8_common_0 N 645 n (rfh h0 cd rw cl A) κ = κ (rfh h0 cd rw cl A')) ∧ PP (A' 10) (eu m a b) ∧ fr3 A A'
  | m, 0, A, a, b, hn, _, _, _ => absurd hn (Nat.not_lt_zero _)
  | m, n + 1, A, a, b, hn, hm, ha, hb => by
    have hi := high_s (N := N) (h0 := h0) (cd := cd) (rw := rw) (cl := cl) hN (k := 11) (by omega) (by omega) hb
    have hbs := hb.2
    by_cases q : sz b = 0
    · refine ⟨A, fun κ => ?_, ?_, fun _ _ _ _ => rfl⟩
      · rw [lX8_common_0, rg_11, Option.bind_some]
        show (fX8_high N (643 + 11) (rfh h0 cd rw cl A)).bind _ = _
        rw [hi, Option.bind_some]
        dsimp only
        rw [if_pos ((dI_lt_0 (by omega)).mpr q)]
      · match m with
        | 0 => exact ha
        | m + 1 => rw [eu, if_pos q]; exact ha
    · match m, hm, hn with
      | 0, hm, _ => omega
      | m + 1, hm, hn =>
        obtain ⟨fx, fc, d1, d2, d3⟩ := divide_r (N := N) (h0 := h0) (cd := cd) (rw := rw) (cl := cl) hN (kx := 10) (ky := 11) (by omega) (by omega) (by omega) (by omega) (by omega) (by omega) (by omega) hb ha q
        have sw := swap_l (N := N) (h0 := h0) (cd := cd) (rw := rw) (cl := cl) (V := fx) (W := A 11) 256 N 0 (ua (ua A 12 fc) 10 fx) rfl (by omega) (fun t _ _ => by
          rw [ua_s, ua_n _ _ (by decide), ua_n _ _ (by decide)]
          exact ⟨rfl, rfl⟩)
        have hlt := (pdm a q).2
        obtain ⟨A', g1, g2, g3⟩ := common_l hN m n _ b (pmd a b) (by omega) (by omega) (show PP (ua (ua (ua (ua A 12 fc) 10 fx) 10 (wr (ua (ua A 12 fc) 10 fx 10) 0 256 (A 11))) 11 (wr (ua (ua A 12 fc) 10 fx 11) 0 256 fx) 10) b by
          rw [ua_n _ _ (by decide), ua_s]
          exact hb.wr) (by
          rw [ua_s]
          exact d2.wr)
        refine ⟨A', fun κ => ?_, by rw [eu, if_neg q]; exact g2, fun k k1 k2 k3 => ?_⟩
        · rw [lX8_common_0, rg_11, Option.bind_some]
          show (fX8_high N (643 + 11) (rfh h0 cd rw cl A)).bind _ = _
          rw [hi, Option.bind_some]
          dsimp only
          rw [if_neg (fun z => q ((dI_lt_0 (by omega)).mp z)), rg_10, Option.bind_some, rg_11, Option.bind_some, rf_ck, Option.bind_some]
          show (fX8_divide N 645 (643 + 10) (643 + 11) (rfh h0 cd rw cl A)).bind _ = _
          rw [d1, Option.bind_some]
          show lX8_common_24 N 645 N (nI 0) _ _ = _
          rw [sw]
          exact g1 κ
        · rw [g3 k k1 k2 k3, ua_n _ _ k2, ua_n _ _ k1, ua_n _ _ k1, ua_n _ _ k3]
/-- common: a becomes the common divisor -/
theorem common_s (hN : 1000 ≤ N) {A : Nat → Nat → Int32} {a b : Po} (ha : PP (A 10) a) (hb : PP (A 11) b) : ∃ A', fX8_common N 645 (rfh h0 cd rw cl A) = some (rfh h0 cd rw cl A') ∧ PP (A' 10) (pgcd a b) ∧ fr3 A A' := by
  have hbs := hb.2
  obtain ⟨A1, g1, g2, g3⟩ := common_l (N := N) (h0 := h0) (cd := cd) (rw := rw) (cl := cl) hN (sz b) N A a b (by omega) (Nat.le_refl _) ha hb
  obtain ⟨f, k1, k2⟩ := makeMonic_r (N := N) (h0 := h0) (cd := cd) (rw := rw) (cl := cl) hN (k := 10) (by omega) (by omega) g2
  refine ⟨ua A1 10 f, ?_, by rw [ua_s]; exact k2, fun k h1 h2 h3 => by rw [ua_n _ _ h1]; exact g3 k h1 h2 h3⟩
  unfold fX8_common
  rw [g1, rg_10, Option.bind_some]
  show (fX8_makeMonic N (643 + 10) (rfh h0 cd rw cl A1)).bind _ = _
  rw [k1]
  rfl
theorem put0_s (hN : 1000 ≤ N) {A : Nat → Nat → Int32} {k f i j : Nat} (hk : 10 ≤ k) (hk2 : k ≤ 13) (hf : f < 3) (hi : i < 4) (hj : j < 4) : fX8_put0 N 645 (nI f) (nI i) (nI j) (643 + k) (rfh h0 cd rw cl A) = some (rfh h0 cd rw cl (ua A 5 (wr (A 5) (40 * (16 * f + 4 * i + j)) (40 * (16 * f + 4 * i + j) + 40) (fun y => A k (y - (40 * (16 * f + 4 * i + j))))))) := by
  unfold fX8_put0
  show lX8_put0_3 N 645 (nI f) (nI i) (nI j) (643 + k) N (nI 0) (rfh h0 cd rw cl A) _ = _
  rw [put0_l hk hk2 hf hi hj (V := A k) 40 N 0 A rfl (by omega) (fun _ _ => rfl)]
  rfl
theorem clearF_s (hN : 1000 ≤ N) {A : Nat → Nat → Int32} {f : Nat} (hf : f < 3) : fX8_clearForm N 645 (nI f) (rfh h0 cd rw cl A) = some (rfh h0 cd rw cl (ua A 5 (wr (A 5) (640 * f) (640 * f + 640) (fun _ => 0)))) := by
  unfold fX8_clearForm
  show lX8_clearForm_2 N 645 (nI f) N (nI 0) (rfh h0 cd rw cl A) _ = _
  rw [clearF_l hf (V := fun _ => 0) 640 N 0 A rfl (by omega) (fun _ _ => rfl)]
  rfl
theorem pgcd_sz {a b : Po} {n : Nat} (h1 : sz a ≤ n) (h2 : sz b ≤ n) : sz (pgcd a b) ≤ n := by
  unfold pgcd
  rw [pMon_sz]
  have := eu_sz (sz b) a b
  omega
theorem sm44 (hN : 1000 ≤ N) {E : Nat → Nat → Po} (hE : ∀ i j, sz (E i j) ≤ 4) {r k : Nat} (hr : r < 16) (hk : k < 5) {a1 : Int32} : ∀ (d n s : Nat) (A : Nat → Nat → Int32) (g : Po), s + d = 16 → d < n → MF E (A 6) → PP (A 10) g → ∃ A', (∀ κ, lX8_makeSmith_44 N 645 a1 (nI k) (nI r) n (nI s) (rfh h0 cd rw cl A) κ = κ (nI 16) (rfh h0 cd rw cl A')) ∧ PP (A' 10) (gs E k r d s g) ∧ fr3 A A'
  | d, 0, s, A, g, _, hn, _, _ => absurd hn (Nat.not_lt_zero _)
  | 0, n + 1, s, A, g, hs, hn, hM, hg => by
    have e : s = 16 := by omega
    subst e
    refine ⟨A, fun κ => ?_, hg, fun _ _ _ _ => rfl⟩
    rw [lX8_makeSmith_44]
    show (if nI 16 ≤ nI 16 then _ else _) = _
    rw [if_pos (by decide)]
  | d + 1, n + 1, s, A, g, hs, hn, hM, hg => by
    have hs16 : s < 16 := by omega
    have br := bc_lt r hr
    have bs := bc_lt s hs16
    by_cases q : bc r = k ∧ bc s = k
    · obtain ⟨f0, e1, e2⟩ := empty_s (N := N) (h0 := h0) (cd := cd) (rw := rw) (cl := cl) (A := A) hN (k := 11) (by omega) (by omega)
      have e3 := sm81_l (N := N) (h0 := h0) (cd := cd) (rw := rw) (cl := cl) (a1 := a1) (a2 := nI k) hr hs16 (V := fun t => nI (vl (mi E r s) t)) 13 N 0 (ua A 11 f0) rfl (by omega) (fun t ht => by rw [ua_n _ _ (by decide)]; exact hM r s hr hs16 (by omega) t ht)
      have hb : PP (wr f0 0 13 (fun t => nI (vl (mi E r s) t))) (mi E r s) := by
        have hz := mi_sz hE hr (s := s)
        refine ⟨fun t ht => ?_, by omega⟩
        by_cases z : t < 13
        · exact wr_in ⟨Nat.zero_le _, z⟩
        · rw [wr_out (by omega), e2.1 t ht, vl_0.mpr (co_0 t), vl_0.mpr (sz_hi (by omega))]
      obtain ⟨A1, c1, c2, c3⟩ := common_s (N := N) (h0 := h0) (cd := cd) (rw := rw) (cl := cl) hN (A := ua A 11 (wr f0 0 13 (fun t => nI (vl (mi E r s) t)))) (by rw [ua_n _ _ (by decide)]; exact hg) (by rw [ua_s]; exact hb)
      obtain ⟨A', g1, g2, g3⟩ := sm44 hN hE hr hk (a1 := a1) d n (s + 1) A1 _ (by omega) (by omega) (by rw [c3 6 (by decide) (by decide) (by decide), ua_n _ _ (by decide)]; exact hM) c2
      refine ⟨A', fun κ => ?_, by rw [gs, if_pos q]; exact g2, fun k k1 k2 k3 => by rw [g3 k k1 k2 k3, c3 k k1 k2 k3, ua_n _ _ k2]⟩
      rw [lX8_makeSmith_44]
      show (if nI 16 ≤ nI s then _ else _) = _
      rw [if_neg (fun y => by have := (le_n (by omega) (by omega)).mp y; omega), bits_s _ hr, Option.bind_some]
      unfold jn
      dsimp only
      rw [if_pos (by rw [q.1]), bits_s _ hs16, Option.bind_some]
      dsimp only
      rw [if_pos (by rw [q.2]), rg_11, Option.bind_some]
      show (fX8_empty N (643 + 11) (rfh h0 cd rw cl A)).bind _ = _
      rw [e1, Option.bind_some]
      show lX8_makeSmith_81 N 645 a1 (nI k) (nI r) (nI s) N (nI 0) _ _ = _
      rw [e3, ua_s, ua_ua, rf_ck, Option.bind_some, c1, Option.bind_some]
      unfold nm
      rw [nI_1]
      exact g1 κ
    · obtain ⟨A', g1, g2, g3⟩ := sm44 hN hE hr hk (a1 := a1) d n (s + 1) A g (by omega) (by omega) hM hg
      refine ⟨A', fun κ => ?_, by rw [gs, if_neg q]; exact g2, g3⟩
      rw [lX8_makeSmith_44]
      show (if nI 16 ≤ nI s then _ else _) = _
      rw [if_neg (fun y => by have := (le_n (by omega) (by omega)).mp y; omega), bits_s _ hr, Option.bind_some]
      unfold jn nm
      dsimp only
      rw [nI_1]
      by_cases q1 : bc r = k
      · rw [if_pos (by rw [q1]), bits_s _ hs16, Option.bind_some]
        dsimp only
        rw [if_neg (fun z => q ⟨q1, (eq_n (by omega) (by omega)).mp z⟩)]
        exact g1 κ
      · rw [if_neg (fun z => q1 ((eq_n (by omega) (by omega)).mp z))]
        exact g1 κ
theorem sm35 (hN : 1000 ≤ N) {E : Nat → Nat → Po} (hE : ∀ i j, sz (E i j) ≤ 4) {k : Nat} (hk : k < 5) {a1 : Int32} : ∀ (d n r : Nat) (A : Nat → Nat → Int32) (g : Po), r + d = 16 → d < n → MF E (A 6) → PP (A 10) g → ∃ A', (∀ κ, lX8_makeSmith_35 N 645 a1 (nI k) n (nI r) (rfh h0 cd rw cl A) κ = κ (nI 16) (rfh h0 cd rw cl A')) ∧ PP (A' 10) (gr E k d r g) ∧ fr3 A A'
  | d, 0, r, A, g, _, hn, _, _ => absurd hn (Nat.not_lt_zero _)
  | 0, n + 1, r, A, g, hr, hn, hM, hg => by
    have e : r = 16 := by omega
    subst e
    refine ⟨A, fun κ => ?_, hg, fun _ _ _ _ => rfl⟩
    rw [lX8_makeSmith_35]
    show (if nI 16 ≤ nI 16 then _ else _) = _
    rw [if_pos (by decide)]
  | d + 1, n + 1, r, A, g, hr, hn, hM, hg => by
    obtain ⟨A1, c1, c2, c3⟩ := sm44 (N := N) (h0 := h0) (cd := cd) (rw := rw) (cl := cl) hN hE (r := r) (by omega) hk (a1 := a1) 16 N 0 A g rfl (by omega) hM hg
    obtain ⟨A', g1, g2, g3⟩ := sm35 hN hE hk (a1 := a1) d n (r + 1) A1 _ (by omega) (by omega) (by rw [c3 6 (by decide) (by decide) (by decide)]; exact hM) c2
    refine ⟨A', fun κ => ?_, by rw [gr]; exact g2, c3.tr g3⟩
    rw [lX8_makeSmith_35]
    show (if nI 16 ≤ nI r then _ else _) = _
    rw [if_neg (fun y => by have := (le_n (by omega) (by omega)).mp y; omega)]
    show lX8_makeSmith_44 N 645 a1 (nI k) (nI r) N (nI 0) _ _ = _
    rw [c1]
    unfold nm
    rw [nI_1]
    exact g1 κ
/-- what Smith's loop leaves of the arrays -/
def fr5 (A A' : Nat → Nat → Int32) : Prop := ∀ k, k ≠ 5 → k ≠ 10 → k ≠ 11 → k ≠ 12 → k ≠ 13 → A' k = A k
/-- a stretch of forms that holds a polynomial -/
abbrev FMp (f5 : Nat → Int32) (f i j : Nat) (p : Po) : Prop := RP f5 (40 * (16 * f + 4 * i + j)) 40 p
theorem gr_sz {E : Nat → Nat → Po} (hE : ∀ i j, sz (E i j) ≤ 4) (k : Nat) : ∀ (n r : Nat) (g : Po), r + n ≤ 16 → sz g ≤ 13 → sz (gr E k n r g) ≤ 13 := by
  have hs : ∀ (n s r : Nat) (g : Po), r < 16 → sz g ≤ 13 → sz (gs E k r n s g) ≤ 13 := by
    intro n
    induction n with
    | zero => intro s r g _ h; exact h
    | succ n ih =>
      intro s r g hr h
      rw [gs]
      refine ih _ _ _ hr ?_
      by_cases q : bc r = k ∧ bc s = k
      · rw [if_pos q]; exact pgcd_sz h (mi_sz hE hr)
      · rw [if_neg q]; exact h
  intro n
  induction n with
  | zero => intro r g _ h; exact h
  | succ n ih =>
    intro r g hr h
    rw [gr]
    exact ih _ _ (by omega) (hs _ _ _ _ (by omega) h)
theorem gd_sz {E : Nat → Nat → Po} (hE : ∀ i j, sz (E i j) ≤ 4) (k : Nat) : sz (gd E k) ≤ 13 := by
  by_cases q : k = 0
  · rw [q, gd_0]; have := sz_C 1; omega
  · rw [gd_gr E q]
    exact gr_sz hE k 16 0 _ (by omega) (by rw [sz_z]; omega)
theorem sm21 (hN : 1000 ≤ N) {E : Nat → Nat → Po} (hE : ∀ i j, sz (E i j) ≤ 4) : ∀ (d n k : Nat) (A : Nat → Nat → Int32), k + d = ord E + 1 → d < n → k ≠ 0 → MF E (A 6) → PP (A 13) (gd E (k - 1)) → ∃ A', (∀ κ, lX8_makeSmith_21 N 645 (nI (ord E)) n (nI k) (rfh h0 cd rw cl A) κ = κ (nI (ord E + 1)) (rfh h0 cd rw cl A')) ∧ fr5 A A' ∧ (∀ i, k - 1 ≤ i → i < ord E → FMp (A' 5) 1 i i (ivf (gd E) i)) ∧ (∀ y, (∀ i, k - 1 ≤ i → i < ord E → ¬ (40 * (16 * 1 + 4 * i + i) ≤ y ∧ y < 40 * (16 * 1 + 4 * i + i) + 40)) → A' 5 y = A 5 y)
  | d, 0, k, A, _, hn, _, _, _ => absurd hn (Nat.not_lt_zero _)
  | 0, n + 1, k, A, hk, hn, hk0, hM, hB => by
    have ho := (ord_rk E).1
    have e : k = ord E + 1 := by omega
    refine ⟨A, fun κ => ?_, fun _ _ _ _ _ _ => rfl, fun i h1 h2 => by omega, fun _ _ => rfl⟩
    rw [e, lX8_makeSmith_21, if_pos ((lt_n (by omega) (by omega)).mpr (by omega))]
  | d + 1, n + 1, k, A, hk, hn, hk0, hM, hB => by
    have ho := (ord_rk E).1
    have hk5 : k < 5 := by omega
    obtain ⟨f0, e1, e2⟩ := empty_s (N := N) (h0 := h0) (cd := cd) (rw := rw) (cl := cl) (A := A) hN (k := 10) (by omega) (by omega)
    obtain ⟨A1, c1, c2, c3⟩ := sm35 (N := N) (h0 := h0) (cd := cd) (rw := rw) (cl := cl) hN hE hk5 (a1 := nI (ord E)) 16 N 0 (ua A 10 f0) (pC 0) rfl (by omega) (by rw [ua_n _ _ (by decide)]; exact hM) (by rw [ua_s]; exact e2)
    rw [← gd_gr E hk0] at c2
    have c4 := sm137_l (N := N) (h0 := h0) (cd := cd) (rw := rw) (cl := cl) (a1 := nI (ord E)) (a2 := nI k) (V := A1 10) 256 N 0 A1 rfl (by omega) (fun _ _ => rfl)
    have hB1 : A1 13 = A 13 := by rw [c3 13 (by decide) (by decide) (by decide), ua_n _ _ (by decide)]
    obtain ⟨fx, fc, d1, d2, d3⟩ := divide_r (N := N) (h0 := h0) (cd := cd) (rw := rw) (cl := cl) hN (kx := 11) (ky := 13) (A := ua A1 11 (wr (A1 11) 0 256 (A1 10))) (by omega) (by omega) (by omega) (by omega) (by omega) (by omega) (by omega) (by rw [ua_n _ _ (by decide), hB1]; exact hB) (by rw [ua_s]; exact c2.wr) (gd_lt (by omega))
    -- after the division
    obtain ⟨A2, hA2⟩ : ∃ A2, A2 = ua (ua (ua A1 11 (wr (A1 11) 0 256 (A1 10))) 12 fc) 11 fx := ⟨_, rfl⟩
    have f2 : ∀ k, k ≠ 10 → k ≠ 11 → k ≠ 12 → A2 k = A k := fun k k1 k2 k3 => by
      rw [hA2, ua_n _ _ k2, ua_n _ _ k3, ua_n _ _ k2, c3 k k1 k2 k3, ua_n _ _ k1]
    have a10 : A2 10 = A1 10 := by rw [hA2, ua_n _ _ (by decide), ua_n _ _ (by decide), ua_n _ _ (by decide)]
    have a12 : A2 12 = fc := by rw [hA2, ua_n _ _ (by decide), ua_s]
    have p0 := put0_s (N := N) (h0 := h0) (cd := cd) (rw := rw) (cl := cl) hN (A := A2) (k := 12) (f := 1) (i := k - 1) (j := k - 1) (by omega) (by omega) (by omega) (by omega) (by omega)
    rw [a12] at p0
    obtain ⟨f5, hf5⟩ : ∃ f5, f5 = wr (A2 5) (40 * (16 * 1 + 4 * (k - 1) + (k - 1))) (40 * (16 * 1 + 4 * (k - 1) + (k - 1)) + 40) (fun y => fc (y - (40 * (16 * 1 + 4 * (k - 1) + (k - 1))))) := ⟨_, rfl⟩
    rw [← hf5] at p0
    have c5 := sm191_l (N := N) (h0 := h0) (cd := cd) (rw := rw) (cl := cl) (a1 := nI (ord E)) (a2 := nI k) (V := A2 10) 256 N 0 (ua A2 5 f5) rfl (by omega) (fun t _ => by rw [ua_n _ _ (by decide)])
    rw [ua_n _ _ (by decide : (13 : Nat) ≠ 5)] at c5
    obtain ⟨A', g1, g2, g3, g4⟩ := sm21 hN hE d n (k + 1) (ua (ua A2 5 f5) 13 (wr (A2 13) 0 256 (A2 10))) (by omega) (by omega) (by omega) (by
      rw [ua_n _ _ (by decide), ua_n _ _ (by decide), f2 6 (by decide) (by decide) (by decide)]; exact hM) (by
      rw [ua_s, a10, Nat.add_sub_cancel]
      exact c2.wr)
    have x5 : ua (ua A2 5 f5) 13 (wr (A2 13) 0 256 (A2 10)) 5 = f5 := by rw [ua_n _ _ (by decide), ua_s]
    rw [x5] at g4
    refine ⟨A', fun κ => ?_, fun j j1 j2 j3 j4 j5 => ?_, fun i h1 h2 => ?_, fun y hy => ?_⟩
    · rw [lX8_makeSmith_21, if_neg (fun y => by have := (lt_n (by omega) (by omega)).mp y; omega), rg_10, Option.bind_some]
      show (fX8_empty N (643 + 10) (rfh h0 cd rw cl A)).bind _ = _
      rw [e1, Option.bind_some]
      show lX8_makeSmith_35 N 645 (nI (ord E)) (nI k) N (nI 0) _ _ = _
      rw [c1]
      show lX8_makeSmith_137 N 645 (nI (ord E)) (nI k) N (nI 0) _ _ = _
      rw [c4, rg_11, Option.bind_some, rg_13, Option.bind_some, rf_ck, Option.bind_some]
      show (fX8_divide N 645 (643 + 11) (643 + 13) (rfh h0 cd rw cl (ua A1 11 (wr (A1 11) 0 256 (A1 10))))).bind _ = _
      rw [d1, Option.bind_some, rg_12, Option.bind_some, rf_ck, Option.bind_some, ← hA2]
      rw [show nI k - 1 = nI (k - 1) from pk_sub (b := 1) (by omega)]
      show (fX8_put0 N 645 (nI 1) (nI (k - 1)) (nI (k - 1)) (643 + 12) (rfh h0 cd rw cl A2)).bind _ = _
      rw [p0, Option.bind_some]
      show lX8_makeSmith_191 N 645 (nI (ord E)) (nI k) N (nI 0) _ _ = _
      rw [c5]
      unfold nm
      rw [nI_1]
      exact g1 κ
    · rw [g2 j j1 j2 j3 j4 j5, ua_n _ _ j5, ua_n _ _ j1, f2 j j2 j3 j4]
    · by_cases z : i = k - 1
      · intro t ht
        rw [g4 _ (fun i' h3 h4 => by omega), hf5, z, wr_in (by omega), Nat.add_sub_cancel_left, d3.1 t (by omega)]
        unfold ivf
        rw [if_neg (gd_lt (by omega)), show k - 1 + 1 = k by omega]
      · exact g3 i (by omega) h2
    · rw [g4 y (fun i h1 h2 => hy i (by omega) h2), hf5, wr_out (hy (k - 1) (Nat.le_refl _) (by omega)), f2 5 (by decide) (by decide) (by decide)]
/-- makeSmith of the reference -/
theorem smith_r (hN : 1000 ≤ N) {E : Nat → Nat → Po} (hE : ∀ i j, sz (E i j) ≤ 4) {A : Nat → Nat → Int32} (hM : MF E (A 6)) : ∃ A', fX8_makeSmith N 645 (rfh h0 cd rw cl A) = some (rfh h0 cd rw cl A') ∧ fr5 A A' ∧ (∀ i, i < ord E → FMp (A' 5) 1 i i (ivf (gd E) i)) ∧ (∀ y, (∀ i, i < ord E → ¬ (40 * (16 * 1 + 4 * i + i) ≤ y ∧ y < 40 * (16 * 1 + 4 * i + i) + 40)) → A' 5 y = A 5 y) := by
  obtain ⟨n, r1, r2⟩ := rankNow_s (N := N) (h0 := h0) (cd := cd) (rw := rw) (cl := cl) hN hE hM
  have en : n = ord E := RKf_un r2 (ord_rk E)
  subst en
  have ho := r2.1
  obtain ⟨f0, e1, e2⟩ := empty_s (N := N) (h0 := h0) (cd := cd) (rw := rw) (cl := cl) (A := A) hN (k := 13) (by omega) (by omega)
  obtain ⟨A', g1, g2, g3, g4⟩ := sm21 (N := N) (h0 := h0) (cd := cd) (rw := rw) (cl := cl) hN hE (ord E) N 1 (ua (ua A 13 f0) 13 (upd f0 0 1)) (by omega) (by omega) (by decide) (by rw [ua_n _ _ (by decide), ua_n _ _ (by decide)]; exact hM) (by
    rw [ua_s, show 1 - 1 = 0 from rfl, gd_0]
    refine ⟨fun t ht => ?_, by have := sz_C 1; omega⟩
    unfold upd vl
    rw [co_C]
    by_cases z : t = 0
    · rw [if_pos z, if_pos z]; rfl
    · rw [if_neg z, if_neg z, e2.1 t ht, vl_0.mpr (co_0 t)]; rfl)
  refine ⟨A', ?_, fun k k1 k2 k3 k4 k5 => by rw [g2 k k1 k2 k3 k4 k5, ua_n _ _ k5, ua_n _ _ k5], fun i hi => g3 i (by omega) hi, fun y hy => by rw [g4 y (fun i _ h2 => hy i h2), ua_n _ _ (by decide), ua_n _ _ (by decide)]⟩
  unfold fX8_makeSmith
  rw [rf_ck, Option.bind_some, r1, Option.bind_some]
  dsimp only
  rw [rg_13, Option.bind_some]
  show (fX8_empty N (643 + 13) (rfh h0 cd rw cl A)).bind _ = _
  rw [e1, Option.bind_some, rg_13, Option.bind_some]
  show (aIs (rfh h0 cd rw cl (ua A 13 f0)) 656 (nI 0) 1).bind _ = _
  rw [rs_13 (by omega), Option.bind_some, ua_s]
  show lX8_makeSmith_21 N 645 (nI (ord E)) N (nI 1) _ _ = _
  rw [g1]
end R6
