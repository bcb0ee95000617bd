/-! what class and reference have in common between two calls -/
def LI (P : Nat → Po) (I : Nat → Int32) (B : Nat → Nat → Int32) (inc : Nat) (sl : Nat → Option Nat) (R C : Nat) (A : Nat → Nat → Int32) (E : Nat → Nat → Po) (ft : Nat → Nat) (gE : Nat → Nat) : Prop := (FT P ∧ EH gE inc sl ∧ R ≤ 4 ∧ C ≤ 4 ∧ I 0 = nI R ∧ I 1 = nI C) ∧ ((∀ i j, i < 4 → j < 4 → P (ce 1 i j) = E i j) ∧ (∀ i j, sz (E i j) ≤ 4) ∧ EN E (A 3) ∧ (∀ i j, i < 4 → j < 4 → R ≤ i ∨ C ≤ j → E i j = pC 0)) ∧ (sz (P 47) ≤ 1 ∧ sz (P 260) ≤ 1 ∧ sz (P 438) ≤ 2 ∧ sz (P 643) ≤ 2) ∧ ((I 2 = 0 ∨ I 2 = 1 ∧ MR E 43 P ∧ I 5 = nI (ord E)) ∧ (R = C → I 3 = 0 ∨ I 3 = 1 ∧ MR (xE E R) 256 P) ∧ (R = C → I 4 = 0 ∨ I 4 = 1 ∧ RS E R I B)) ∧ ((∀ f, f < 3 → B 2 f = nI (ft f) ∧ ft f < 2) ∧ (∀ f, f < 3 → A 4 f = nI (ft f) ∧ ft f < 2) ∧ (ft 2 = 1 → R = C ∧ sz (mi E (2 ^ R - 1) (2 ^ R - 1)) = 1) ∧ (∀ f i j, f < 3 → ft f = 1 → i < R → j < C → FMp (A 5) f i j (P (ce (509 + 42 * f) i j))))
def LK (h : Hp) : Prop := ∃ P I B inc sl cd R C A g E ft gE, h = LH P I B inc sl cd (nI R) (nI C) A g ∧ LI P I B inc sl R C A E ft gE
def RES (N : Nat) (F : Option (Int32 × Hp)) (G : Hp → Option (Int32 × Hp)) : Prop := ∃ v h1 w h2, F = some (v, h1) ∧ cK h1 645 10 = some () ∧ G h1 = some (w, h2) ∧ cK h2 645 10 = some () ∧ fX8_thrown N 645 h2 = some (v, h2) ∧ (v = 0 → aJ h2 664 (0 : Int32) = some w.toInt64) ∧ LK h2
section LIS
variable {P : Nat → Po} {I : Nat → Int32} {B : Nat → Nat → Int32} {inc : Nat} {sl : Nat → Option Nat} {R C : Nat} {A : Nat → Nat → Int32} {E : Nat → Nat → Po} {ft gE : Nat → Nat}
theorem res_of {N : Nat} {F : Option (Int32 × Hp)} {G : Hp → Option (Int32 × Hp)} {cd k w : Int32} {A' : Nat → Nat → Int32} {g g1 : Nat → Int64} (hF : F = some (k, LH P I B inc sl cd (nI R) (nI C) A g1)) (hG : G (LH P I B inc sl cd (nI R) (nI C) A g1) = some (w, LH P I B inc sl k (nI R) (nI C) A' g1)) (hg : k = 0 → g1 = vp_updL g 0 w.toInt64) (hL : LI P I B inc sl R C A' E ft gE) : RES N F G := ⟨k, _, w, _, hF, lh_ck, hG, lh_ck, lh_th, fun e => by rw [hg e]; exact lh_j _, _, _, _, _, _, _, _, _, _, _, _, _, _, rfl, hL⟩
theorem li_A {A' : Nat → Nat → Int32} (h : LI P I B inc sl R C A E ft gE) (h3 : A' 3 = A 3) (h4 : A' 4 = A 4) (h5 : A' 5 = A 5) : LI P I B inc sl R C A' E ft gE := by
  obtain ⟨a, ⟨b1, b2, b3, b4⟩, c, d, e1, e2, e3, e4⟩ := h
  exact ⟨a, ⟨b1, b2, by rw [h3]; exact b3, b4⟩, c, d, e1, fun f hf => by rw [h4]; exact e2 f hf, e3, fun f i j hf h hi hj => by rw [h5]; exact e4 f i j hf h hi hj⟩
theorem mo_00 : mo 0 = 4 := by decide
theorem mr_sz {B0 : Nat} (h : MR E B0 P) : sz (P (B0 + 4)) ≤ 1 := by
  have := h.1 0 0 (by omega) (by omega) rfl
  rw [show 16 * 0 + 0 = 0 from rfl, mo_00] at this
  rw [this]
  show sz (pC 1) ≤ 1
  exact sz_one
theorem ce_lo {i j : Nat} (hi : i < 4) (hj : j < 4) : ce 1 i j < 43 ∧ 1 ≤ ce 1 i j := by
  unfold ce
  omega
theorem ce_f {f i j : Nat} (hi : i < 4) (hj : j < 4) : 509 + 42 * f ≤ ce (509 + 42 * f) i j ∧ ce (509 + 42 * f) i j < 509 + 42 * f + 42 := by
  unfold ce
  omega
/-- the class has reckoned its minors -/
theorem li_M {P' : Nat → Po} {I' : Nat → Int32} (h : LI P I B inc sl R C A E ft gE) (h1 : FT P') (h2 : MR E 43 P') (h3 : I' 2 = 1) (h4 : I' 5 = nI (ord E)) (h5 : ∀ k, k ≠ 2 → k ≠ 5 → I' k = I k) (h6 : ∀ x, x < 43 ∨ 214 ≤ x → P' x = P x) : LI P' I' B inc sl R C A E ft gE := by
  obtain ⟨⟨a1, a2, a3, a4, a5, a6⟩, ⟨b1, b2, b3, b4⟩, ⟨c1, c2, c3, c4⟩, ⟨d1, d2, d3⟩, e1, e2, e3, e4⟩ := h
  refine ⟨⟨h1, a2, a3, a4, by rw [h5 0 (by decide) (by decide)]; exact a5, by rw [h5 1 (by decide) (by decide)]; exact a6⟩, ⟨fun i j hi hj => by rw [h6 _ (Or.inl (ce_lo hi hj).1)]; exact b1 i j hi hj, b2, b3, b4⟩, ⟨mr_sz h2, by rw [h6 260 (by omega)]; exact c2, by rw [h6 438 (by omega)]; exact c3, by rw [h6 643 (by omega)]; exact c4⟩, ⟨Or.inr ⟨h3, h2, h4⟩, fun q => ?_, fun q => ?_⟩, e1, e2, e3, fun f i j hf h hi hj => by rw [h6 _ (Or.inr (by have := ce_f (f := f) (i := i) (j := j) (by omega) (by omega); omega))]; exact e4 f i j hf h hi hj⟩
  · rcases d2 q with z | z
    · exact Or.inl (by rw [h5 3 (by decide) (by decide)]; exact z)
    · refine Or.inr ⟨by rw [h5 3 (by decide) (by decide)]; exact z.1, fun r s hr hs hb => ?_, fun k hk => ?_⟩
      · rw [h6 _ (by omega)]; exact z.2.1 r s hr hs hb
      · rw [h6 _ (by omega)]; exact z.2.2 k hk
  · rcases d3 q with z | z
    · exact Or.inl (by rw [h5 4 (by decide) (by decide)]; exact z)
    · obtain ⟨n, g, y⟩ := z.2
      refine Or.inr ⟨by rw [h5 4 (by decide) (by decide)]; exact z.1, n, g, ?_⟩
      rw [h5 7 (by decide) (by decide)]
      exact y
theorem mr_43 {P' : Nat → Po} (z : MR E 43 P) (h6 : ∀ x, x < 214 → P' x = P x) : MR E 43 P' := by
  refine ⟨fun r s hr hs hb => ?_, fun k hk => ?_⟩
  · obtain ⟨y, hy, ey⟩ := mo_sq (i := 16 * r + s) (by omega) (sq_of hs hb)
    rw [h6 _ (by omega)]
    exact z.1 r s hr hs hb
  · rw [h6 _ (by omega)]
    exact z.2 k hk
/-- the class has reckoned with the numbers -/
theorem li_N {P' : Nat → Po} {I' : Nat → Int32} {B' : Nat → Nat → Int32} (h : LI P I B inc sl R C A E ft gE) (h1 : FT P') (h2 : MR (xE E R) 256 P') (h3 : I' 3 = 1) (h4 : R = C → I' 4 = 0 ∨ I' 4 = 1 ∧ RS E R I' B') (h5 : ∀ k, k ≠ 3 → k ≠ 4 → k ≠ 6 → k ≠ 7 → k ≠ 8 → I' k = I k) (hB : B' 2 = B 2) (h6 : ∀ x, x < 214 ∨ 453 ≤ x → x ≠ 637 → x ≠ 641 → x ≠ 643 → P' x = P x) (h7 : sz (P' 438) ≤ 2) (h8 : sz (P' 643) ≤ 2) : LI P' I' B' inc sl R C A E ft gE := by
  obtain ⟨⟨a1, a2, a3, a4, a5, a6⟩, ⟨b1, b2, b3, b4⟩, ⟨c1, c2, c3, c4⟩, ⟨d1, d2, d3⟩, e1, e2, e3, e4⟩ := h
  refine ⟨⟨h1, a2, a3, a4, by rw [h5 0 (by decide) (by decide) (by decide) (by decide) (by decide)]; exact a5, by rw [h5 1 (by decide) (by decide) (by decide) (by decide) (by decide)]; exact a6⟩, ⟨fun i j hi hj => by rw [h6 _ (by have := ce_lo hi hj; omega) (by have := ce_lo hi hj; omega) (by have := ce_lo hi hj; omega) (by have := ce_lo hi hj; omega)]; exact b1 i j hi hj, b2, b3, b4⟩, ⟨by rw [h6 47 (by omega) (by omega) (by omega) (by omega)]; exact c1, mr_sz h2, h7, h8⟩, ⟨?_, fun _ => Or.inr ⟨h3, h2⟩, h4⟩, fun f hf => by rw [hB]; exact e1 f hf, e2, e3, fun f i j hf h hi hj => by
    have := ce_f (f := f) (i := i) (j := j) (by omega) (by omega)
    rw [h6 _ (by omega) (by omega) (by omega) (by omega)]
    exact e4 f i j hf h hi hj⟩
  rcases d1 with z | z
  · exact Or.inl (by rw [h5 2 (by decide) (by decide) (by decide) (by decide) (by decide)]; exact z)
  · exact Or.inr ⟨by rw [h5 2 (by decide) (by decide) (by decide) (by decide) (by decide)]; exact z.1, mr_43 z.2.1 (fun x hx => h6 x (by omega) (by omega) (by omega) (by omega)), by rw [h5 5 (by decide) (by decide) (by decide) (by decide) (by decide)]; exact z.2.2⟩
end LIS
section OPS
variable {N : Nat}
theorem op_entry {h : Hp} (k : LK h) (a1 a2 a3 : Int32) : RES N (fL_entry N 0 a1 a2 a3 664 h) (fun h1 => fX8_entry N 645 a1 a2 a3 h1) := by
  obtain ⟨P, I, B, inc, sl, cd, R, C, A, g, E, ft, gE, rfl, li⟩ := k
  obtain ⟨⟨w1, w2, w3, w4, w5, w6⟩, ⟨b1, b2, b3, b4⟩, c, d, e⟩ := id li
  have ec := entry_c (N := N) (P := P) (I := I) (B := B) (inc := inc) (sl := sl) (h0 := rfh (og g) cd (nI R) (nI C) A) w1 (by omega) (by omega) w5 w6 b1 a1 a2 a3
  by_cases q : (inx a1 R ∧ inx a2 C) ∧ inx a3 4
  · obtain ⟨⟨⟨i, hi, e1⟩, ⟨j, hj, e2⟩⟩, ⟨x, hx, e3⟩⟩ := q
    refine res_of (k := 0) (g := g) (w := nI (vl (E i j) x)) (cd := cd) (P := P) (I := I) (B := B) (inc := inc) (sl := sl) (A := A) (g1 := vp_updL g 0 (nI (vl (E i j) x)).toInt64) ?_ ((entry_r (by omega) (by omega) b3 a1 a2 a3).2 i j x hi hj hx e1 e2 e3) (fun _ => rfl) li
    unfold fL_entry
    rw [lh_ck0, Option.bind_some, lh_c, ec.2 i j x hi hj hx e1 e2 e3, Option.bind_some]
    unfold hnd
    dsimp only
    rw [← lh_c, lh_js, Option.bind_some]
  · refine res_of (k := 1) (g := g) (w := 0) (cd := cd) (P := P) (I := I) (B := B) (inc := inc) (sl := sl) (A := A) (g1 := g) ?_ ((entry_r (by omega) (by omega) b3 a1 a2 a3).1 q) (fun z => absurd z (by decide)) li
    unfold fL_entry
    rw [lh_ck0, Option.bind_some, lh_c, ec.1 q, Option.bind_some]
    unfold hnd
    dsimp only
    rw [if_pos rfl]
end OPS
