section RT4
variable {N : Nat} {h0 : Hp} {cd rw cl : Int32} {A : Nat → Nat → Int32}
/-- the matrix of the numbers less a root, to a power, as constants -/
noncomputable def pwE (E : Nat → Nat → Po) (R : Nat) (ρ : Fp) (m : Nat) : Nat → Nat → Po := fun i j => pC (mpw (shA E ρ) R m i j)
/-- blocks of the reference -/
theorem blocks_r (hN : 33000 ≤ N) {R C : Nat} (hR : R < 5) (hC : C < 5) {E : Nat → Nat → Po} (hE : EN E (A 3)) (a1 a2 : Int32) : (R ≠ C → fX8_blocks N 645 a1 a2 (rfh h0 cd (nI R) (nI C) A) = some (0, rfh h0 1 (nI R) (nI C) A)) ∧ (R = C → ∃ r, FRt (chp E R) a1 r ∧ ((r = -1 ∨ ¬ 1 ≤ a2) → ∃ A', fX8_blocks N 645 a1 a2 (rfh h0 cd (nI R) (nI C) A) = some (0, rfh h0 2 (nI R) (nI C) A') ∧ (∀ k, k ≠ 6 → k ≠ 7 → k ≠ 19 → k ≠ 20 → A' k = A k)) ∧ (r ≠ -1 → 1 ≤ a2 → ¬ a2 ≤ 5 → ∃ A', fX8_blocks N 645 a1 a2 (rfh h0 cd (nI R) (nI C) A) = some (0, rfh h0 0 (nI R) (nI C) A') ∧ (∀ k, k ≠ 6 → k ≠ 7 → k ≠ 19 → k ≠ 20 → A' k = A k)) ∧ (∀ (ρ : Fp) (m : Nat), r = nI ρ.val → 1 ≤ m → m ≤ 5 → a2 = nI m → ∃ A' r0 r1 r2, fX8_blocks N 645 a1 a2 (rfh h0 cd (nI R) (nI C) A) = some ((nI r0 - ((2 : Int32) * nI r1)) + nI r2, rfh h0 0 (nI R) (nI C) A') ∧ RKf (pwE E R ρ (m - 1)) r0 ∧ RKf (pwE E R ρ m) r1 ∧ RKf (pwE E R ρ (m + 1)) r2 ∧ (∀ k, k ≠ 6 → k ≠ 7 → k ≠ 19 → k ≠ 20 → A' k = A k))) := by
  have is := isSquare_s (N := N) (h0 := h0) (cd := cd) (A := A) hR hC
  refine ⟨fun h => by unfold fX8_blocks; rw [rf_ck, Option.bind_some, is.2 h, Option.bind_some]; rfl, fun h => ?_⟩
  obtain ⟨r, f6, f7, g1, g2⟩ := findRoot_s (N := N) (h0 := h0) (cd := 0) (cl := nI C) hN hR hE (by have := (chp_mn E hR).1; omega) a1
  have fr : ∀ k, k ≠ 6 → k ≠ 7 → k ≠ 19 → k ≠ 20 → ua (ua A 7 f7) 6 f6 k = A k := fun k k1 k2 _ _ => by rw [ua_n _ _ k1, ua_n _ _ k2]
  have head : fX8_blocks N 645 a1 a2 (rfh h0 cd (nI R) (nI C) A) = (if r = (-1 : Int32) then (fX8_raise N 645 (2 : Int32) (rfh h0 0 (nI R) (nI C) (ua (ua A 7 f7) 6 f6))).bind (fun (v10, h11) => some (v10, h11)) else if (1 : Int32) ≤ a2 then (if a2 ≤ (5 : Int32) then (fX8_rankOf N 645 r (a2 - (1 : Int32)) (rfh h0 0 (nI R) (nI C) (ua (ua A 7 f7) 6 f6))).bind fun (v16, h17) => (cK h17 645 10).bind fun u21 => (fX8_rankOf N 645 r a2 h17).bind fun (v19, h20) => (cK h20 645 10).bind fun u24 => (fX8_rankOf N 645 r (a2 + (1 : Int32)) h20).bind fun (v22, h23) => some ((v16 - ((2 : Int32) * v19)) + v22, h23) else some ((0 : Int32), rfh h0 0 (nI R) (nI C) (ua (ua A 7 f7) 6 f6))) else (fX8_raise N 645 (2 : Int32) (rfh h0 0 (nI R) (nI C) (ua (ua A 7 f7) 6 f6))).bind (fun (v10, h11) => some (v10, h11))) := by
    unfold fX8_blocks
    rw [rf_ck, Option.bind_some, is.1 h, Option.bind_some]
    dsimp only
    rw [if_neg (by decide), rf_ck, Option.bind_some, g1, Option.bind_some]
    unfold jn
    dsimp only
    rw [rf_ck, Option.bind_some, Option.bind_some]
  have rz : (fX8_raise N 645 (2 : Int32) (rfh h0 0 (nI R) (nI C) (ua (ua A 7 f7) 6 f6))).bind (fun (v10, h11) => some (v10, h11)) = some (0, rfh h0 2 (nI R) (nI C) (ua (ua A 7 f7) 6 f6)) := by
    unfold fX8_raise
    rw [rp_0, Option.bind_some]
    rfl
  refine ⟨r, g2, fun hz => ⟨_, ?_, fr⟩, fun hr h1 h5 => ⟨_, ?_, fr⟩, fun ρ m er m1 m5 ea => ?_⟩
  · rw [head, rz]
    by_cases q : r = -1
    · rw [if_pos q]
    · rw [if_neg q, if_neg (Or.resolve_left hz q)]
  · rw [head, if_neg hr, if_pos h1, if_neg h5]
  · have hρ := ρ.isLt
    have hr : r ≠ -1 := fun z => by
      rw [er] at z
      have := congrArg Int32.toInt z
      rw [nI_toInt (by omega)] at this
      have e : (-1 : Int32).toInt = -1 := by decide
      omega
    obtain ⟨r0, A1, a1', a2', a3'⟩ := rankOf_s (N := N) (h0 := h0) (cd := 0) (cl := nI C) hN hR (A := ua (ua A 7 f7) 6 f6) (E := E) (by rw [fr 3 (by decide) (by decide) (by decide) (by decide)]; exact hE) ρ (m := m - 1) (by omega)
    have fr1 : ∀ k, k ≠ 6 → k ≠ 7 → k ≠ 19 → k ≠ 20 → A1 k = A k := fun k k1 k2 k3 k4 => (a3' k k1 k2 k3 k4).trans (fr k k1 k2 k3 k4)
    obtain ⟨r1, A2, b1, b2, b3⟩ := rankOf_s (N := N) (h0 := h0) (cd := 0) (cl := nI C) hN hR (A := A1) (E := E) (by rw [fr1 3 (by decide) (by decide) (by decide) (by decide)]; exact hE) ρ (m := m) (by omega)
    have fr2' : ∀ k, k ≠ 6 → k ≠ 7 → k ≠ 19 → k ≠ 20 → A2 k = A k := fun k k1 k2 k3 k4 => (b3 k k1 k2 k3 k4).trans (fr1 k k1 k2 k3 k4)
    obtain ⟨r2, A3, c1, c2, c3⟩ := rankOf_s (N := N) (h0 := h0) (cd := 0) (cl := nI C) hN hR (A := A2) (E := E) (by rw [fr2' 3 (by decide) (by decide) (by decide) (by decide)]; exact hE) ρ (m := m + 1) (by omega)
    refine ⟨A3, r0, r1, r2, ?_, a2', b2, c2, fun k k1 k2 k3 k4 => (c3 k k1 k2 k3 k4).trans (fr2' k k1 k2 k3 k4)⟩
    rw [head, if_neg hr, ea]
    show (if nI 1 ≤ nI m then (if nI m ≤ nI 5 then _ else _) else _) = _
    rw [if_pos ((le_n (by omega) (by omega)).mpr m1), if_pos ((le_n (by omega) (by omega)).mpr m5), er, show nI m - 1 = nI (m - 1) from pk_sub (b := 1) (by omega), a1', Option.bind_some]
    dsimp only
    rw [rf_ck, Option.bind_some, b1, Option.bind_some]
    dsimp only
    rw [rf_ck, Option.bind_some, nI_1, c1, Option.bind_some]
/-- make of the reference: forms 1 and 2 -/
theorem make_r0 (a1 : Int32) (h : ¬ inx a1 3) : fX8_make N 645 a1 (rfh h0 cd rw cl A) = some (0, rfh h0 1 rw cl A) := by
  have e1 : inx a1 3 ↔ 0 ≤ a1.toInt ∧ a1.toInt < (3 : Nat) := inx_int (by omega)
  unfold fX8_make
  rw [in_k (n := 3) (by omega) (by decide), Option.bind_some]
  unfold jn
  dsimp only
  rw [if_neg (fun z => h (e1.mpr z)), if_pos rfl, rp_0, Option.bind_some, rg_0, Option.bind_some, if_neg (by decide)]
theorem make_r1 (hN : 33000 ≤ N) {E : Nat → Nat → Po} (hE4 : ∀ i j, sz (E i j) ≤ 4) (hE : EN E (A 3)) : ∃ A', fX8_make N 645 (nI 1) (rfh h0 cd rw cl A) = some (nI (ord E), rfh h0 0 rw cl A') ∧ A' 3 = A 3 ∧ A' 4 = upd (A 4) 1 1 ∧ (∀ i, i < ord E → FMp (A' 5) 1 i i (ivf (gd E) i)) ∧ (∀ i j, i < 4 → j < 4 → ¬ (i = j ∧ i < ord E) → FMp (A' 5) 1 i j (pC 0)) ∧ (∀ y, y < 640 ∨ 1280 ≤ y → A' 5 y = A 5 y) := by
  have ho := (ord_rk E).1
  obtain ⟨f6, f7, g1, g2⟩ := load_s (N := N) (h0 := h0) (cd := 0) (rw := rw) (cl := cl) hN hE4 hE
  have cf := clearF_s (N := N) (h0 := h0) (cd := 0) (rw := rw) (cl := cl) (by omega) (A := ua (ua A 7 f7) 6 f6) (f := 1) (by omega)
  obtain ⟨f5, hf5⟩ : ∃ f5, f5 = wr (ua (ua A 7 f7) 6 f6 5) (640 * 1) (640 * 1 + 640) (fun _ => 0) := ⟨_, rfl⟩
  rw [← hf5] at cf
  obtain ⟨A1, hA1⟩ : ∃ A1, A1 = ua (ua (ua (ua A 7 f7) 6 f6) 5 f5) 4 (upd (A 4) 1 1) := ⟨_, rfl⟩
  have M1 : MF E (A1 6) := by rw [hA1, ua_n _ _ (by decide), ua_n _ _ (by decide), ua_s]; exact g2
  obtain ⟨A', s1, s2, s3, s4⟩ := smith_r (N := N) (h0 := h0) (cd := 0) (rw := rw) (cl := cl) (by omega) hE4 M1
  have M2 : MF E (A' 6) := by rw [s2 6 (by decide) (by decide) (by decide) (by decide) (by decide)]; exact M1
  obtain ⟨n, k1, k2⟩ := rankNow_s (N := N) (h0 := h0) (cd := 0) (rw := rw) (cl := cl) (by omega) hE4 M2
  have en : n = ord E := RKf_un k2 (ord_rk E)
  have A15 : A1 5 = f5 := by rw [hA1, ua_n _ _ (by decide), ua_s]
  refine ⟨A', ?_, ?_, ?_, s3, fun i j hi hj hn t ht => ?_, fun y hy => ?_⟩
  · unfold fX8_make
    rw [in_k (n := 3) (by omega) (by decide), Option.bind_some]
    unfold jn
    dsimp only
    rw [if_neg (show ¬ (if 0 ≤ (nI 1).toInt ∧ (nI 1).toInt < ((3 : Nat) : Int) then (1 : Int32) else 0) = 0 by decide), rp_0, Option.bind_some, rg_0, Option.bind_some, if_pos (show (0 : Int32) ≤ 0 by decide), rf_ck, Option.bind_some, g1, Option.bind_some, rf_ck, Option.bind_some, cf, Option.bind_some, rg_4, Option.bind_some, rs_4 (by omega), Option.bind_some, nar1, ua_n _ _ (by decide), ua_n _ _ (by decide), ua_n _ _ (by decide), ← hA1, if_neg (show ¬ nI 1 = 0 by decide), if_pos (show nI 1 = 1 from rfl), rf_ck, Option.bind_some, s1, Option.bind_some, if_neg (by decide), rf_ck, Option.bind_some, k1, en]
    rfl
  · rw [s2 3 (by decide) (by decide) (by decide) (by decide) (by decide), hA1, ua_n _ _ (by decide), ua_n _ _ (by decide), ua_n _ _ (by decide), ua_n _ _ (by decide)]
  · rw [s2 4 (by decide) (by decide) (by decide) (by decide) (by decide), hA1, ua_s]
  · rw [s4 _ (fun k hk => by omega), A15, hf5, wr_in (by omega), vl_C0]
    rfl
  · rw [s4 y (fun k hk => by omega), A15, hf5, wr_out (by omega), ua_n _ _ (by decide), ua_n _ _ (by decide)]
end RT4
