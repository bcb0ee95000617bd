section RT5
variable {N : Nat} {h0 : Hp} {cd rw cl : Int32} {A : Nat → Nat → Int32}
theorem upd_upd (f : Nat → Int32) (k : Nat) (x y : Int32) : upd (upd f k x) k y = upd f k y := by
  funext i
  unfold upd
  split <;> rfl
/-- make of the reference: the inverse -/
theorem make_r2 (hN : 33000 ≤ N) {R C : Nat} (hR : R < 5) (hC : C < 5) {E : Nat → Nat → Po} (hE4 : ∀ i j, sz (E i j) ≤ 4) (hE : EN E (A 3)) : (¬ (R = C ∧ sz (mi E (2 ^ R - 1) (2 ^ R - 1)) = 1) → ∃ A', fX8_make N 645 (nI 2) (rfh h0 cd (nI R) (nI C) A) = some (-1, rfh h0 0 (nI R) (nI C) A') ∧ A' 3 = A 3 ∧ A' 4 = upd (A 4) 2 0 ∧ (∀ y, y < 1280 → A' 5 y = A 5 y)) ∧ (R = C ∧ sz (mi E (2 ^ R - 1) (2 ^ R - 1)) = 1 → ∃ A', fX8_make N 645 (nI 2) (rfh h0 cd (nI R) (nI C) A) = some (nI R, rfh h0 0 (nI R) (nI C) A') ∧ A' 3 = A 3 ∧ A' 4 = upd (A 4) 2 1 ∧ (∀ i j, i < R → j < R → FMp (A' 5) 2 i j (ivE E R i j)) ∧ (∀ y, y < 1280 → A' 5 y = A 5 y)) := by
  obtain ⟨f6, f7, g1, g2⟩ := load_s (N := N) (h0 := h0) (cd := 0) (rw := nI R) (cl := nI C) hN hE4 hE
  have cf := clearF_s (N := N) (h0 := h0) (cd := 0) (rw := nI R) (cl := nI C) (by omega) (A := ua (ua A 7 f7) 6 f6) (f := 2) (by omega)
  obtain ⟨f5, hf5⟩ : ∃ f5, f5 = wr (ua (ua A 7 f7) 6 f6 5) (640 * 2) (640 * 2 + 640) (fun _ => 0) := ⟨_, rfl⟩
  rw [← hf5] at cf
  obtain ⟨A1, hA1⟩ : ∃ A1, A1 = ua (ua (ua (ua A 7 f7) 6 f6) 5 f5) 4 (upd (A 4) 2 1) := ⟨_, rfl⟩
  have M1 : MF E (A1 6) := by rw [hA1, ua_n _ _ (by decide), ua_n _ _ (by decide), ua_s]; exact g2
  have A15 : A1 5 = f5 := by rw [hA1, ua_n _ _ (by decide), ua_s]
  have A13 : A1 3 = A 3 := by rw [hA1, ua_n _ _ (by decide), ua_n _ _ (by decide), ua_n _ _ (by decide), ua_n _ _ (by decide)]
  have A14 : A1 4 = upd (A 4) 2 1 := by rw [hA1, ua_s]
  have lo5 : ∀ y, y < 1280 → A1 5 y = A 5 y := fun y hy => by rw [A15, hf5, wr_out (by omega), ua_n _ _ (by decide), ua_n _ _ (by decide)]
  have head : fX8_make N 645 (nI 2) (rfh h0 cd (nI R) (nI C) A) = (if nI R = nI C then (fX8_makeInverse N 645 (rfh h0 0 (nI R) (nI C) A1)).bind fun (v39, h40) => (if v39 = 0 then (aZs h40 647 (2 : Int32) 0).bind fun h28 => (gR h28 645 10 4).bind fun v29 => (aZ h28 v29 (2 : Int32)).bind fun v30 => (if v30 = 0 then some ((-1 : Int32), h28) else (gI h28 645 10 1).bind fun v35 => some (v35, h28)) else (aZs h40 647 (2 : Int32) 1).bind fun h28 => (gR h28 645 10 4).bind fun v29 => (aZ h28 v29 (2 : Int32)).bind fun v30 => (if v30 = 0 then some ((-1 : Int32), h28) else (gI h28 645 10 1).bind fun v35 => some (v35, h28))) else (aZs (rfh h0 0 (nI R) (nI C) A1) 647 (2 : Int32) 0).bind fun h28 => (gR h28 645 10 4).bind fun v29 => (aZ h28 v29 (2 : Int32)).bind fun v30 => (if v30 = 0 then some ((-1 : Int32), h28) else (gI h28 645 10 1).bind fun v35 => some (v35, h28))) := by
    unfold fX8_make
    rw [in_k (n := 3) (by omega) (by decide), Option.bind_some]
    unfold jn
    dsimp only
    rw [if_neg (show ¬ (if 0 ≤ (nI 2).toInt ∧ (nI 2).toInt < ((3 : Nat) : Int) then (1 : Int32) else 0) = 0 by decide), rp_0, Option.bind_some, rg_0, Option.bind_some, if_pos (show (0 : Int32) ≤ 0 by decide), rf_ck, Option.bind_some, g1, Option.bind_some, rf_ck, Option.bind_some, cf, Option.bind_some, rg_4, Option.bind_some, rs_4 (by omega), Option.bind_some, nar1, ua_n _ _ (by decide), ua_n _ _ (by decide), ua_n _ _ (by decide), ← hA1, if_neg (show ¬ nI 2 = 0 by decide), if_neg (show ¬ nI 2 = 1 by decide), if_pos (show (2 : Int32) ≤ nI 2 by decide), rg_4, Option.bind_some, rg_1, Option.bind_some, rg_2, Option.bind_some, rf_ck, Option.bind_some]
  have fin0 : ∀ A2 : Nat → Nat → Int32, (aZs (rfh h0 0 (nI R) (nI C) A2) 647 (2 : Int32) 0).bind (fun h28 => (gR h28 645 10 4).bind fun v29 => (aZ h28 v29 (2 : Int32)).bind fun v30 => (if v30 = 0 then some ((-1 : Int32), h28) else (gI h28 645 10 1).bind fun v35 => some (v35, h28))) = some (-1, rfh h0 0 (nI R) (nI C) (ua A2 4 (upd (A2 4) 2 0))) := fun A2 => by
    have e : aZs (rfh h0 0 (nI R) (nI C) A2) 647 (2 : Int32) 0 = some (rfh h0 0 (nI R) (nI C) (ua A2 4 (upd (A2 4) 2 0))) := by
      have := rs_4 (h0 := h0) (cd := 0) (rw := nI R) (cl := nI C) (A := A2) (j := 2) (by omega) 0
      rw [nar0] at this
      exact this
    rw [e, Option.bind_some, rg_4, Option.bind_some]
    show (aZ (rfh h0 0 (nI R) (nI C) (ua A2 4 (upd (A2 4) 2 0))) 647 (nI 2)).bind _ = _
    rw [ra_4 (by omega), Option.bind_some, ua_s, show upd (A2 4) 2 0 2 = 0 from if_pos rfl, if_pos rfl]
  have fin1 : ∀ A2 : Nat → Nat → Int32, (aZs (rfh h0 0 (nI R) (nI C) A2) 647 (2 : Int32) 1).bind (fun h28 => (gR h28 645 10 4).bind fun v29 => (aZ h28 v29 (2 : Int32)).bind fun v30 => (if v30 = 0 then some ((-1 : Int32), h28) else (gI h28 645 10 1).bind fun v35 => some (v35, h28))) = some (nI R, rfh h0 0 (nI R) (nI C) (ua A2 4 (upd (A2 4) 2 1))) := fun A2 => by
    have e : aZs (rfh h0 0 (nI R) (nI C) A2) 647 (2 : Int32) 1 = some (rfh h0 0 (nI R) (nI C) (ua A2 4 (upd (A2 4) 2 1))) := by
      have := rs_4 (h0 := h0) (cd := 0) (rw := nI R) (cl := nI C) (A := A2) (j := 2) (by omega) 1
      rw [nar1] at this
      exact this
    rw [e, Option.bind_some, rg_4, Option.bind_some]
    show (aZ (rfh h0 0 (nI R) (nI C) (ua A2 4 (upd (A2 4) 2 1))) 647 (nI 2)).bind _ = _
    rw [ra_4 (by omega), Option.bind_some, ua_s, show upd (A2 4) 2 1 2 = 1 from if_pos rfl, if_neg (by decide), rg_1, Option.bind_some]
  have iv := inverse_r (N := N) (h0 := h0) (cd := 0) (cl := nI C) (A := A1) (by omega) hE4 hR M1
  refine ⟨fun hn => ?_, fun ⟨h1, h2⟩ => ?_⟩
  · refine ⟨ua A1 4 (upd (A1 4) 2 0), ?_, by rw [ua_n _ _ (by decide)]; exact A13, by rw [ua_s, A14, upd_upd], fun y hy => by rw [ua_n _ _ (by decide)]; exact lo5 y hy⟩
    rw [head]
    by_cases q : R = C
    · rw [if_pos (by rw [q]), iv.1 (fun z => hn ⟨q, z⟩), Option.bind_some]
      dsimp only
      rw [if_pos rfl]
      exact fin0 A1
    · rw [if_neg (fun z => q ((eq_n (by omega) (by omega)).mp z))]
      exact fin0 A1
  · obtain ⟨A2, k1, k2, k3, k4⟩ := iv.2 h2
    refine ⟨ua A2 4 (upd (A2 4) 2 1), ?_, ?_, ?_, fun i j hi hj => ?_, fun y hy => ?_⟩
    · rw [head, if_pos (by rw [h1]), k1, Option.bind_some]
      dsimp only
      rw [if_neg (by decide)]
      exact fin1 A2
    · rw [ua_n _ _ (by decide), k2 3 (by decide) (by decide), A13]
    · rw [ua_s, k2 4 (by decide) (by decide), A14, upd_upd]
    · rw [ua_n _ _ (by decide)]; exact k3 i j hi hj
    · rw [ua_n _ _ (by decide), k4 y (fun i j hi hj => by omega)]; exact lo5 y hy
end RT5
section NM7
variable {N : Nat} {P : Nat → Po} {I : Nat → Int32} {B : Nat → Nat → Int32} {inc : Nat} {sl : Nat → Option Nat} {h0 : Hp}
/-- make of the class: refused, the Smith form, the inverse -/
theorem make_c0 (a1 : Int32) (h : ¬ inx a1 3) : fX7_make N 0 a1 (HH P I B inc sl h0) = some (.inl 1, HH P I B inc sl h0) := by
  unfold fX7_make
  rw [nf_ck, Option.bind_some, (needForm_s (N := N) (P := P) (I := I) (B := B) (inc := inc) (sl := sl) (h0 := h0) a1).2 h, Option.bind_some]
  rfl
theorem make_c1 (hN : 1000 ≤ N) (wf : FT P) {E : Nat → Nat → Po} (hA : ∀ i j, i < 4 → j < 4 → P (ce 1 i j) = E i j) (hE : ∀ i j, sz (E i j) ≤ 4) (h1 : sz (P 47) ≤ 1) (hk : I 2 = 0 ∨ I 2 = 1 ∧ MR E 43 P ∧ I 5 = nI (ord E)) : ∃ P' I', fX7_make N 0 (nI 1) (HH P I B inc sl h0) = some (.inr (nI (ord E)), HH P' I' (ua B 2 (upd (B 2) 1 1)) inc sl h0) ∧ FT P' ∧ MR E 43 P' ∧ I' 2 = 1 ∧ I' 5 = nI (ord E) ∧ (∀ k, k ≠ 2 → k ≠ 5 → I' k = I k) ∧ (∀ i j, i < 4 → j < 4 → P' (ce 551 i j) = if i = j ∧ i < ord E then ivf (gd E) i else pC 0) ∧ (∀ x, x < 43 ∨ 214 ≤ x ∧ (x < 551 ∨ 593 ≤ x) → P' x = P x) := by
  obtain ⟨P1, I', g1, g2, g3, g4, g5, g6, g7⟩ := knowM_c (N := N) (B := B) (inc := inc) (sl := sl) (h0 := h0) hN wf hA hE h1 hk
  obtain ⟨P', s1, s2, s3, s4⟩ := makeS_c (N := N) (B := B) (inc := inc) (sl := sl) (h0 := h0) hN g2 hE g5 g3
  refine ⟨P', I', ?_, s2, ⟨fun r s hr hs hb => ?_, fun k hk => ?_⟩, g4, g5, g6, s3, fun x hx => ?_⟩
  · unfold fX7_make
    rw [nf_ck, Option.bind_some, (needForm_s (N := N) (P := P) (I := I) (B := B) (inc := inc) (sl := sl) (h0 := h0) (nI 1)).1 ⟨1, by omega, rfl⟩, Option.bind_some]
    unfold thr jn
    dsimp only
    rw [nf_ck, Option.bind_some, g1, Option.bind_some, if_neg (show ¬ nI 1 = 2 by decide), if_neg (show ¬ nI 1 = 0 by decide), nf_ck, Option.bind_some, s1, Option.bind_some, nf_12, Option.bind_some, th_s (by omega), Option.bind_some, nar1, nf_3, Option.bind_some, or_43, Option.bind_some, g5]
  · obtain ⟨y, hy, ey⟩ := mo_sq (i := 16 * r + s) (by omega) (sq_of hs hb)
    rw [s4 _ (by omega)]
    exact g3.1 r s hr hs hb
  · rw [s4 _ (by omega)]
    exact g3.2 k hk
  · rw [s4 x (by omega), g7 x (by omega)]
theorem make_c2 (hN : 1000 ≤ N) (wf : FT P) {R C : Nat} (hR : R < 5) (hC : C < 5) (hI0 : I 0 = nI R) (hI1 : I 1 = nI C) {E : Nat → Nat → Po} (hA : ∀ i j, i < 4 → j < 4 → P (ce 1 i j) = E i j) (hE : ∀ i j, sz (E i j) ≤ 4) (h1 : sz (P 47) ≤ 1) (hk : I 2 = 0 ∨ I 2 = 1 ∧ MR E 43 P ∧ I 5 = nI (ord E)) : (¬ (R = C ∧ sz (mi E (2 ^ R - 1) (2 ^ R - 1)) = 1) → ∃ P' I', fX7_make N 0 (nI 2) (HH P I B inc sl h0) = some (.inr (-1), HH P' I' B inc sl h0) ∧ FT P' ∧ MR E 43 P' ∧ I' 2 = 1 ∧ I' 5 = nI (ord E) ∧ (∀ k, k ≠ 2 → k ≠ 5 → I' k = I k) ∧ (∀ x, x < 43 ∨ 214 ≤ x → P' x = P x)) ∧ (R = C ∧ sz (mi E (2 ^ R - 1) (2 ^ R - 1)) = 1 → ∃ P' I', fX7_make N 0 (nI 2) (HH P I B inc sl h0) = some (.inr (nI R), HH P' I' (ua B 2 (upd (B 2) 2 1)) inc sl h0) ∧ FT P' ∧ MR E 43 P' ∧ I' 2 = 1 ∧ I' 5 = nI (ord E) ∧ (∀ k, k ≠ 2 → k ≠ 5 → I' k = I k) ∧ (∀ i j, i < R → j < R → P' (ce 593 i j) = ivE E R i j) ∧ (∀ x, x < 43 ∨ 214 ≤ x ∧ (x < 593 ∨ 635 ≤ x) → P' x = P x)) := by
  obtain ⟨P1, I', g1, g2, g3, g4, g5, g6, g7⟩ := knowM_c (N := N) (B := B) (inc := inc) (sl := sl) (h0 := h0) hN wf hA hE h1 hk
  have mi' := makeI_c (N := N) (I := I') (B := B) (inc := inc) (sl := sl) (h0 := h0) hN g2 hE hR hC (by rw [g6 0 (by decide) (by decide)]; exact hI0) (by rw [g6 1 (by decide) (by decide)]; exact hI1) g3
  have head : fX7_make N 0 (nI 2) (HH P I B inc sl h0) = (fX7_makeInverse N 0 (HH P1 I' B inc sl h0)).bind fun (v31, h32) => some (Sum.inr v31, h32) := by
    unfold fX7_make
    rw [nf_ck, Option.bind_some, (needForm_s (N := N) (P := P) (I := I) (B := B) (inc := inc) (sl := sl) (h0 := h0) (nI 2)).1 ⟨2, by omega, rfl⟩, Option.bind_some]
    unfold thr jn
    dsimp only
    rw [nf_ck, Option.bind_some, g1, Option.bind_some, if_pos (show nI 2 = 2 from rfl), nf_ck, Option.bind_some]
  refine ⟨fun hn => ⟨P1, I', ?_, g2, g3, g4, g5, g6, g7⟩, fun hy => ?_⟩
  · rw [head, mi'.1 hn]
    rfl
  · obtain ⟨P', s1, s2, s3, s4⟩ := mi'.2 hy
    refine ⟨P', I', ?_, s2, ⟨fun r s hr hs hb => ?_, fun k hk => ?_⟩, g4, g5, g6, s3, fun x hx => ?_⟩
    · rw [head, s1]
      rfl
    · obtain ⟨y, hy, ey⟩ := mo_sq (i := 16 * r + s) (by omega) (sq_of hs hb)
      rw [s4 _ (by omega)]
      exact g3.1 r s hr hs hb
    · rw [s4 _ (by omega)]
      exact g3.2 k hk
    · rw [s4 x (by omega), g7 x (by omega)]
end NM7
