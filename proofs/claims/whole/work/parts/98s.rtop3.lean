section RT3
variable {N : Nat} {h0 : Hp} {cd rw cl : Int32} {A : Nat → Nat → Int32}
theorem rcnt_l {a1 : Int32} {ft : Nat → Nat} (hf : ∀ f, f < 3 → A 4 f = nI (ft f) ∧ ft f < 2) : ∀ (d n z s : Nat), z + d = 3 → d < n → s ≤ z → ∃ s', (∀ κ, lX8_count_9 N 645 a1 n (nI s) (nI z) (rfh h0 cd rw cl A) κ = κ (nI s') (nI 3) (rfh h0 cd rw cl A)) ∧ s' = s + (if z ≤ 0 then ft 0 else 0) + (if z ≤ 1 then ft 1 else 0) + (if z ≤ 2 then ft 2 else 0)
  | d, 0, z, s, _, hn, _ => absurd hn (Nat.not_lt_zero _)
  | 0, n + 1, z, s, hz, hn, hs => by
    have e : z = 3 := by omega
    subst e
    refine ⟨s, fun κ => ?_, by rw [if_neg (by omega), if_neg (by omega), if_neg (by omega)]; rfl⟩
    rw [lX8_count_9]
    show (if nI 3 ≤ nI 3 then _ else _) = _
    rw [if_pos (by decide)]
  | d + 1, n + 1, z, s, hz, hn, hs => by
    have h := hf z (by omega)
    obtain ⟨s', g1, g2⟩ := rcnt_l (a1 := a1) hf d n (z + 1) (s + ft z) (by omega) (by omega) (by omega)
    refine ⟨s', fun κ => ?_, ?_⟩
    · rw [lX8_count_9]
      show (if nI 3 ≤ nI z then _ else _) = _
      rw [if_neg (fun y => by have := (le_n (by omega) (by omega)).mp y; omega), rg_4, Option.bind_some, ra_4 (by omega), Option.bind_some, h.1]
      unfold jn nm
      dsimp only
      rw [nI_1]
      have w := g1 κ
      by_cases q : ft z = 0
      · rw [q, if_pos (show nI 0 = 0 from rfl)]
        show lX8_count_9 N 645 a1 n (nI s + nI 0) (nI (z + 1)) _ κ = _
        rw [nI_add]
        rw [q] at w
        exact w
      · rw [if_neg (nI_ne0 (by omega) (by omega))]
        show lX8_count_9 N 645 a1 n (nI s + nI 1) (nI (z + 1)) _ κ = _
        rw [nI_add]
        rw [show ft z = 1 by omega] at w
        exact w
    · rw [g2]
      rcases (show z = 0 ∨ z = 1 ∨ z = 2 by omega) with y | y | y <;> subst y <;> simp <;> omega
theorem count_r (hN : 1000 ≤ N) {ft : Nat → Nat} (hf : ∀ f, f < 3 → A 4 f = nI (ft f) ∧ ft f < 2) (a1 : Int32) : fX8_count N 645 a1 (rfh h0 cd rw cl A) = some (if a1 = 0 then rw else if a1 = 1 then cl else if a1 = 2 then nI (ft 0 + ft 1 + ft 2) else -1, rfh h0 0 rw cl A) := by
  obtain ⟨s, g1, g2⟩ := rcnt_l (N := N) (h0 := h0) (cd := 0) (rw := rw) (cl := cl) (a1 := a1) hf 3 N 0 0 rfl (by omega) (by omega)
  have es : s = ft 0 + ft 1 + ft 2 := by rw [g2]; simp
  unfold fX8_count
  rw [rp_0, Option.bind_some]
  show lX8_count_9 N 645 a1 N (nI 0) (nI 0) _ _ = _
  rw [g1, es]
  unfold jn
  dsimp only
  by_cases q0 : a1 = 0
  · rw [if_pos q0, if_pos q0, rg_1]; rfl
  · rw [if_neg q0, if_neg q0]
    by_cases q1 : a1 = 1
    · rw [if_pos q1, if_pos q1, rg_2]; rfl
    · rw [if_neg q1, if_neg q1]
      by_cases q2 : a1 = 2
      · rw [if_pos q2, if_pos q2]
      · rw [if_neg q2, if_neg q2]
/-- rank of the reference -/
theorem rank_r (hN : 33000 ≤ N) {E : Nat → Nat → Po} (hE4 : ∀ i j, sz (E i j) ≤ 4) (hE : EN E (A 3)) : ∃ f6 f7, fX8_rank N 645 (rfh h0 cd rw cl A) = some (nI (ord E), rfh h0 0 rw cl (ua (ua A 7 f7) 6 f6)) ∧ MF E f6 := by
  obtain ⟨f6, f7, g1, g2⟩ := load_s (N := N) (h0 := h0) (cd := 0) (rw := rw) (cl := cl) hN hE4 hE
  obtain ⟨n, k1, k2⟩ := rankNow_s (N := N) (h0 := h0) (cd := 0) (rw := rw) (cl := cl) (by omega) hE4 (A := ua (ua A 7 f7) 6 f6) (by rw [ua_s]; exact g2)
  have en : n = ord E := RKf_un k2 (ord_rk E)
  refine ⟨f6, f7, ?_, g2⟩
  unfold fX8_rank
  rw [rp_0, Option.bind_some, rf_ck, Option.bind_some, g1, Option.bind_some, rf_ck, Option.bind_some, k1, en]
  rfl
theorem lead_r {R : Nat} {C : Int32} (hR : R < 5) {w : Po} (hw : RP (A 6) (13 * (16 * (2 ^ R - 1) + (2 ^ R - 1))) 13 w) (hs : sz w ≤ 13) (a1 : Int32) : (fX8_in N (a1.toInt64) (0 : Int64) (12 : Int64) (rfh h0 cd (nI R) C A)).bind (fun (v8, h9) => jn (fun t12 h11 => some (t12, h11)) fun (j10 : Int32 → Hp → Option (Int32 × Hp)) => if v8 = 0 then j10 (0 : Int32) h9 else (gR h9 645 10 6).bind fun v14 => (cK h9 645 10).bind fun u17 => (fX8_whole N 645 h9).bind fun (v15, h16) => (aI h16 v14 (v15 + a1)).bind fun v18 => j10 v18 h16) = some (cfp w a1, rfh h0 cd (nI R) C A) := by
  have p := pw_lt R hR
  have e4 : inx a1 13 ↔ 0 ≤ a1.toInt ∧ a1.toInt < (13 : Nat) := inx_int (by omega)
  rw [in_k (n := 13) (by omega) (by decide), Option.bind_some]
  unfold jn
  dsimp only
  by_cases q : inx a1 13
  · rw [if_pos (e4.mp q), if_neg (by decide), rg_6, Option.bind_some, rf_ck, Option.bind_some, whole_s hR, Option.bind_some]
    dsimp only
    obtain ⟨x, hx, e⟩ := q
    rw [e, nI_add, ra_6 (by have := p.1; generalize 2 ^ R - 1 = u at this ⊢; omega), Option.bind_some, hw x hx, cfp_n _ (by omega)]
  · rw [if_neg (fun z => q (e4.mpr z)), if_pos rfl]
    congr 2
    unfold cfp
    by_cases z : a1 < 0
    · rw [if_pos z]
    · rw [if_neg z]
      obtain ⟨y, hy, rfl⟩ := nI_of z
      rw [nI_clamp hy, vl_0.mpr (sz_hi (p := w) (by
        by_cases v : y < 13
        · exact absurd ⟨y, v, rfl⟩ q
        · omega))]
      rfl
/-- determinant of the reference -/
theorem det_r (hN : 33000 ≤ N) {R C : Nat} (hR : R < 5) (hC : C < 5) {E : Nat → Nat → Po} (hE4 : ∀ i j, sz (E i j) ≤ 4) (hE : EN E (A 3)) (a1 : Int32) : (R ≠ C → fX8_determinant N 645 a1 (rfh h0 cd (nI R) (nI C) A) = some (0, rfh h0 1 (nI R) (nI C) A)) ∧ (R = C → ∃ f6 f7, fX8_determinant N 645 a1 (rfh h0 cd (nI R) (nI C) A) = some (cfp (mi E (2 ^ R - 1) (2 ^ R - 1)) a1, rfh h0 0 (nI R) (nI C) (ua (ua A 7 f7) 6 f6))) := by
  have is := isSquare_s (N := N) (h0 := h0) (cd := cd) (A := A) hR hC
  unfold fX8_determinant
  rw [rf_ck, Option.bind_some]
  refine ⟨fun h => by rw [is.2 h, Option.bind_some]; rfl, fun h => ?_⟩
  obtain ⟨f6, f7, g1, g2⟩ := load_s (N := N) (h0 := h0) (cd := 0) (rw := nI R) (cl := nI C) hN hE4 hE
  refine ⟨f6, f7, ?_⟩
  have p := pw_lt R hR
  rw [is.1 h, Option.bind_some]
  dsimp only
  rw [if_neg (by decide), rf_ck, Option.bind_some, g1, Option.bind_some]
  exact lead_r hR (by rw [ua_s]; exact g2 _ _ p.1 p.1 rfl) (mi_sz hE4 p.1) a1
/-- characteristic of the reference -/
theorem chr_r (hN : 33000 ≤ N) {R C : Nat} (hR : R < 5) (hC : C < 5) {E : Nat → Nat → Po} (hE : EN E (A 3)) (a1 : Int32) : (R ≠ C → fX8_characteristic N 645 a1 (rfh h0 cd (nI R) (nI C) A) = some (0, rfh h0 1 (nI R) (nI C) A)) ∧ (R = C → ∃ f6 f7, fX8_characteristic N 645 a1 (rfh h0 cd (nI R) (nI C) A) = some (cfp (chp E R) a1, rfh h0 0 (nI R) (nI C) (ua (ua A 7 f7) 6 f6))) := by
  have is := isSquare_s (N := N) (h0 := h0) (cd := cd) (A := A) hR hC
  unfold fX8_characteristic
  rw [rf_ck, Option.bind_some]
  refine ⟨fun h => by rw [is.2 h, Option.bind_some]; rfl, fun h => ?_⟩
  obtain ⟨f6, f7, g1, g2⟩ := loadN_s (N := N) (h0 := h0) (cd := 0) (cl := nI C) hN hR hE
  refine ⟨f6, f7, ?_⟩
  have p := pw_lt R hR
  rw [is.1 h, Option.bind_some]
  dsimp only
  rw [if_neg (by decide), rf_ck, Option.bind_some, g1, Option.bind_some]
  exact lead_r hR (by rw [ua_s]; exact g2 _ _ p.1 p.1 rfl) (by have := (chp_mn E hR).1; omega) a1
/-- minimal of the reference; the class's last invariant -/
theorem min_r (hN : 1000 ≤ N) {R C : Nat} (hR : R < 5) (hC : C < 5) {E : Nat → Nat → Po} (hE : EN E (A 3)) (a1 : Int32) : (R ≠ C → fX8_minimal N 645 a1 (rfh h0 cd (nI R) (nI C) A) = some (0, rfh h0 1 (nI R) (nI C) A)) ∧ (R = C → ∃ A', fX8_minimal N 645 a1 (rfh h0 cd (nI R) (nI C) A) = some (if R = 0 then (if a1 = 0 then 1 else 0) else cfp (ivf (gd (xE E R)) (R - 1)) a1, rfh h0 0 (nI R) (nI C) A') ∧ (∀ k, k ≠ 14 → k ≠ 15 → k ≠ 16 → k ≠ 17 → k ≠ 18 → A' k = A k)) := by
  have is := isSquare_s (N := N) (h0 := h0) (cd := cd) (A := A) hR hC
  unfold fX8_minimal
  rw [rf_ck, Option.bind_some]
  refine ⟨fun h => by rw [is.2 h, Option.bind_some]; rfl, fun h => ?_⟩
  -- some polynomial is annulled
  have ex : ∃ q : Po, (sz q ≠ 0 ∧ sz q ≤ 5) ∧ ∀ k, k < 16 → Phi (nuA E) R q k = 0 := by
    by_cases z : R = 0
    · refine ⟨pC 1, ?_, fun k _ => ?_⟩
      · have := lin_sz []
        have e : sz (pC 1) = 1 := this
        omega
      · refine sm_zero _ (fun m _ => ?_)
        unfold pwv
        rw [mpw_out _ _ _ _ _ (by omega)]
        grind
    · obtain ⟨m1, m2, m3, m4, m5⟩ := min_facts E hR (by omega)
      exact ⟨_, ⟨mnc_sz m1, m2⟩, m3⟩
  obtain ⟨q, hq, hq0⟩ := ex
  obtain ⟨n, A', f, g1, g2, g3, g4⟩ := least_s (N := N) (h0 := h0) (cd := 0) (cl := nI C) hN hR hq hq0 hE
  refine ⟨A', ?_, g4⟩
  have val : cfp f a1 = if R = 0 then (if a1 = 0 then 1 else 0) else cfp (ivf (gd (xE E R)) (R - 1)) a1 := by
    by_cases z : R = 0
    · rw [if_pos z]
      have f1 : f = pC 1 := by
        have n0 : n = 0 := by
          by_cases y : n = 0
          · exact y
          · have := g2.2.2.2.2 (pC 1) (by have := sz_C 1; omega) (fun k _ => sm_zero _ (fun m _ => by
              unfold pwv
              rw [mpw_out _ _ _ _ _ (by omega)]
              grind))
            have e := congrArg (fun p => co p 0) this
            exact absurd e (by decide)
        refine po_ext (fun j => ?_)
        rw [co_C]
        by_cases y : j = 0
        · have := g2.2.2.1
          rw [n0] at this
          rw [if_pos y, y]; exact this
        · rw [if_neg y]; exact sz_hi (by have := g2.2.1; omega)
      rw [f1]
      unfold cfp
      by_cases y : a1 < 0
      · rw [if_pos y, if_neg (fun w => by rw [w] at y; exact absurd y (by decide))]
      · rw [if_neg y]
        obtain ⟨t, ht, rfl⟩ := nI_of y
        rw [nI_clamp ht]
        unfold vl
        rw [co_C]
        by_cases w : t = 0
        · rw [if_pos w, w, if_pos (show nI 0 = 0 from rfl)]; rfl
        · rw [if_neg w, if_neg (nI_ne0 (by omega) ht)]; rfl
    · rw [if_neg z, min_tie E hR (by omega) g2]
  have n5 := g2.1
  have sf := g2.2.1
  have e4 : inx a1 (n + 1) ↔ 0 ≤ a1.toInt ∧ a1.toInt < ((n + 1 : Nat) : Int) := inx_int (by omega)
  rw [is.1 h, Option.bind_some]
  dsimp only
  rw [if_neg (by decide), rf_ck, Option.bind_some, g1, Option.bind_some]
  dsimp only
  rw [in_k (n := n + 1) (by omega) (by rw [t64, nI_toInt (by omega)]; omega), Option.bind_some, ← val]
  unfold jn
  dsimp only
  by_cases y : inx a1 (n + 1)
  · rw [if_pos (e4.mp y), if_neg (by decide), rg_17, Option.bind_some]
    obtain ⟨x, hx, e⟩ := y
    rw [e, ra_17 (by omega), Option.bind_some, g3 x (by omega), cfp_n _ (by omega)]
    rfl
  · rw [if_neg (fun z => y (e4.mpr z)), if_pos rfl]
    congr 2
    unfold cfp
    by_cases z : a1 < 0
    · rw [if_pos z]
    · rw [if_neg z]
      obtain ⟨t, ht, rfl⟩ := nI_of z
      rw [nI_clamp ht, vl_0.mpr (sz_hi (p := f) (by
        by_cases v : t < n + 1
        · exact absurd ⟨t, v, rfl⟩ y
        · omega))]
      rfl
/-- root of the reference -/
theorem root_r (hN : 33000 ≤ N) {R C : Nat} (hR : R < 5) (hC : C < 5) {E : Nat → Nat → Po} (hE : EN E (A 3)) (a1 : Int32) : (R ≠ C → fX8_root N 645 a1 (rfh h0 cd (nI R) (nI C) A) = some (0, rfh h0 1 (nI R) (nI C) A)) ∧ (R = C → ∃ r f6 f7, fX8_root N 645 a1 (rfh h0 cd (nI R) (nI C) A) = some (r, rfh h0 0 (nI R) (nI C) (ua (ua A 7 f7) 6 f6)) ∧ FRt (chp E R) a1 r) := by
  have is := isSquare_s (N := N) (h0 := h0) (cd := cd) (A := A) hR hC
  unfold fX8_root
  rw [rf_ck, Option.bind_some]
  refine ⟨fun h => by rw [is.2 h, Option.bind_some]; rfl, fun h => ?_⟩
  obtain ⟨r, f6, f7, g1, g2⟩ := findRoot_s (N := N) (h0 := h0) (cd := 0) (cl := nI C) hN hR hE (by have := (chp_mn E hR).1; omega) a1
  refine ⟨r, f6, f7, ?_, g2⟩
  rw [is.1 h, Option.bind_some]
  unfold jn
  dsimp only
  rw [if_neg (by decide), rf_ck, Option.bind_some, g1]
  rfl
end RT3
