section RT2
variable {N : Nat} {h0 : Hp} {cd rw cl : Int32} {A : Nat → Nat → Int32}
theorem rsz72 {R C : Int32} {a1 a2 : Int32} : ∀ (d n z : Nat) (A : Nat → Nat → Int32), z + d = 3 → d < n → (∀ f, f < z → A 4 f = 0) → ∃ w, lX8_size_72 N 645 a1 a2 n (nI z) (rfh h0 cd R C A) (fun _ h => some h) = some (rfh h0 cd R C (ua A 4 w)) ∧ ∀ f, f < 3 → w f = 0
  | d, 0, z, A, _, hn, _ => absurd hn (Nat.not_lt_zero _)
  | 0, n + 1, z, A, hz, hn, hb => by
    refine ⟨A 4, ?_, fun f hf => hb f (by omega)⟩
    rw [lX8_size_72, ua_id]
    show (if nI 3 ≤ nI z then _ else _) = _
    rw [if_pos ((le_n (by omega) (by omega)).mpr (by omega))]
  | d + 1, n + 1, z, A, hz, hn, hb => by
    obtain ⟨w, g1, g2⟩ := rsz72 (a1 := a1) (a2 := a2) d n (z + 1) (ua A 4 (upd (A 4) z 0)) (by omega) (by omega) (fun f hf => by
      rw [ua_s]
      unfold upd
      by_cases q : f = z
      · rw [if_pos q]
      · rw [if_neg q]; exact hb f (by omega))
    refine ⟨w, ?_, g2⟩
    rw [lX8_size_72]
    show (if nI 3 ≤ nI z then _ else _) = _
    rw [if_neg (fun y => by have := (le_n (by omega) (by omega)).mp y; omega), rg_4, Option.bind_some, rs_4 (by omega), Option.bind_some, nar0]
    unfold nm
    rw [nI_1]
    rw [ua_ua] at g1
    exact g1
theorem rsz51 {R C : Int32} {a1 a2 : Int32} : ∀ (d n z : Nat) (A : Nat → Nat → Int32), z + d = 64 → d < n → (∀ f, f < z → A 3 f = 0) → ∃ w, (∀ κ, lX8_size_51 N 645 a1 a2 n (nI z) (rfh h0 cd R C A) κ = κ (nI 64) (rfh h0 cd R C (ua A 3 w))) ∧ ∀ f, f < 64 → w f = 0
  | d, 0, z, A, _, hn, _ => absurd hn (Nat.not_lt_zero _)
  | 0, n + 1, z, A, hz, hn, hb => by
    have e : z = 64 := by omega
    subst e
    refine ⟨A 3, fun κ => ?_, fun f hf => hb f (by omega)⟩
    rw [lX8_size_51, ua_id]
    show (if nI 64 ≤ nI 64 then _ else _) = _
    rw [if_pos (by decide)]
  | d + 1, n + 1, z, A, hz, hn, hb => by
    obtain ⟨w, g1, g2⟩ := rsz51 (a1 := a1) (a2 := a2) d n (z + 1) (ua A 3 (upd (A 3) z 0)) (by omega) (by omega) (fun f hf => by
      rw [ua_s]
      unfold upd
      by_cases q : f = z
      · rw [if_pos q]
      · rw [if_neg q]; exact hb f (by omega))
    refine ⟨w, fun κ => ?_, g2⟩
    rw [lX8_size_51]
    show (if nI 64 ≤ nI z then _ else _) = _
    rw [if_neg (fun y => by have := (le_n (by omega) (by omega)).mp y; omega), rg_3, Option.bind_some, rs_3 (by omega), Option.bind_some]
    unfold nm
    rw [nI_1]
    have := g1 κ
    rw [ua_ua] at this
    exact this
/-- size of the reference -/
theorem size_r (hN : 1000 ≤ N) (a1 a2 : Int32) : ((a1 < 0 ∨ a2 < 0) → fX8_size N 645 a1 a2 (rfh h0 cd rw cl A) = some (rfh h0 1 rw cl A)) ∧ (¬ (a1 < 0 ∨ a2 < 0) → (4 < a1 ∨ 4 < a2) → fX8_size N 645 a1 a2 (rfh h0 cd rw cl A) = some (rfh h0 2 rw cl A)) ∧ (∀ r s, r ≤ 4 → s ≤ 4 → a1 = nI r → a2 = nI s → ∃ w3 w4, fX8_size N 645 a1 a2 (rfh h0 cd rw cl A) = some (rfh h0 0 (nI r) (nI s) (ua (ua A 3 w3) 4 w4)) ∧ (∀ y, y < 64 → w3 y = 0) ∧ (∀ f, f < 3 → w4 f = 0)) := by
  have nn : ∀ a : Int32, 0 ≤ a ↔ ¬ a < 0 := fun a => by rw [Int32.le_iff_toInt_le, Int32.lt_iff_toInt_lt]; omega
  have n4 : ∀ a : Int32, a ≤ 4 ↔ ¬ 4 < a := fun a => by rw [Int32.le_iff_toInt_le, Int32.lt_iff_toInt_lt]; omega
  unfold fX8_size jn
  dsimp only
  refine ⟨fun h => ?_, fun h h4 => ?_, fun r s hr hs e1 e2 => ?_⟩
  · by_cases q : a1 < 0
    · rw [if_pos q, rp_0, Option.bind_some, rg_0, Option.bind_some, if_neg (by decide)]
    · rw [if_neg q, if_neg (fun z => (nn a2).mp z (Or.resolve_left h q)), rp_0, Option.bind_some, rg_0, Option.bind_some, if_neg (by decide)]
  · rw [if_neg (fun z => h (Or.inl z)), if_pos ((nn a2).mpr (fun z => h (Or.inr z)))]
    by_cases q : 4 < a1
    · rw [if_pos q, rp_0, Option.bind_some, rg_0, Option.bind_some, if_neg (by decide)]
    · rw [if_neg q, if_neg (fun z => (n4 a2).mp z (Or.resolve_left h4 q)), rp_0, Option.bind_some, rg_0, Option.bind_some, if_neg (by decide)]
  · obtain ⟨w3, u1, u2⟩ := rsz51 (N := N) (h0 := h0) (cd := 0) (R := nI r) (C := nI s) (a1 := a1) (a2 := a2) 64 N 0 A rfl (by omega) (fun f hf => by omega)
    obtain ⟨w4, v1, v2⟩ := rsz72 (N := N) (h0 := h0) (cd := 0) (R := nI r) (C := nI s) (a1 := a1) (a2 := a2) 3 N 0 (ua A 3 w3) rfl (by omega) (fun f hf => by omega)
    refine ⟨w3, w4, ?_, u2, v2⟩
    have x1 : ¬ a1 < 0 := by rw [e1]; exact nI_pos (by omega)
    have x2 : 0 ≤ a2 := by rw [e2]; exact nI_pos' (by omega)
    have x3 : ¬ 4 < a1 := by rw [e1]; exact fun y => by have := (lt_n (a := 4) (by omega) (by omega)).mp y; omega
    have x4 : a2 ≤ 4 := by rw [e2]; exact (le_n (b := 4) (by omega) (by omega)).mpr hs
    rw [if_neg x1, if_pos x2, if_neg x3, if_pos x4, rp_0, Option.bind_some, rg_0, Option.bind_some, if_pos (by decide), rp_1, Option.bind_some, rp_2, Option.bind_some, e1, e2]
    rw [e1, e2] at u1 v1
    show lX8_size_51 N 645 (nI r) (nI s) N (nI 0) _ _ = _
    rw [u1]
    exact v1
/-- isThere -/
theorem isThere_s {R C : Nat} (hR : R < 5) (hC : C < 5) {ft : Nat → Nat} (hf : ∀ f, f < 3 → A 4 f = nI (ft f) ∧ ft f < 2) (a1 a2 a3 : Int32) : (¬ inx a1 3 → fX8_isThere N 645 a1 a2 a3 (rfh h0 cd (nI R) (nI C) A) = some (0, rfh h0 1 (nI R) (nI C) A)) ∧ (∀ f, f < 3 → a1 = nI f → (ft f = 0 → fX8_isThere N 645 a1 a2 a3 (rfh h0 cd (nI R) (nI C) A) = some (0, rfh h0 2 (nI R) (nI C) A)) ∧ (ft f = 1 → ¬ (inx a2 R ∧ inx a3 C) → fX8_isThere N 645 a1 a2 a3 (rfh h0 cd (nI R) (nI C) A) = some (0, rfh h0 3 (nI R) (nI C) A)) ∧ (ft f = 1 → inx a2 R ∧ inx a3 C → fX8_isThere N 645 a1 a2 a3 (rfh h0 cd (nI R) (nI C) A) = some (1, rfh h0 0 (nI R) (nI C) A))) := by
  have e1 : inx a1 3 ↔ 0 ≤ a1.toInt ∧ a1.toInt < (3 : Nat) := inx_int (by omega)
  have e2 : inx a2 R ↔ 0 ≤ a2.toInt ∧ a2.toInt < R := inx_int (by omega)
  have e3 : inx a3 C ↔ 0 ≤ a3.toInt ∧ a3.toInt < C := inx_int (by omega)
  have tl : ∀ k : Int32, (pV (rfh h0 cd (nI R) (nI C) A) 645 10 0 (.int k)) = some (rfh h0 k (nI R) (nI C) A) := fun k => rp_0 k
  unfold fX8_isThere
  rw [in_k (n := 3) (by omega) (by decide), Option.bind_some]
  unfold jn
  dsimp only
  refine ⟨fun h => ?_, fun f hf3 ha => ?_⟩
  · rw [if_neg (fun z => h (e1.mpr z)), if_pos rfl, tl, Option.bind_some, rg_0, Option.bind_some, if_neg (by decide), if_pos (Or.inl rfl)]
  · have g := hf f hf3
    rw [if_pos (e1.mp ⟨f, hf3, ha⟩), if_neg (show ¬ (1 : Int32) = 0 by decide), rg_4, Option.bind_some, ha, ra_4 hf3, Option.bind_some, g.1]
    refine ⟨fun h => ?_, fun h hn => ?_, fun h hn => ?_⟩
    · rw [h, if_pos (show nI 0 = 0 from rfl), tl, Option.bind_some, rg_0, Option.bind_some, if_neg (by decide), if_pos (Or.inl rfl)]
    · rw [h, if_neg (show ¬ nI 1 = 0 by decide), rg_1, Option.bind_some, in_k (n := R) (by omega) (hiR hR), Option.bind_some]
      dsimp only
      by_cases q2 : inx a2 R
      · rw [if_pos (e2.mp q2), if_neg (show ¬ (1 : Int32) = 0 by decide), rg_2, Option.bind_some, in_k (n := C) (by omega) (hiR hC), Option.bind_some]
        dsimp only
        rw [if_neg (fun z => hn ⟨q2, e3.mpr z⟩), if_pos rfl, tl, Option.bind_some, rg_0, Option.bind_some, if_neg (by decide), if_pos (Or.inl rfl)]
      · rw [if_neg (fun z => q2 (e2.mpr z)), if_pos rfl, tl, Option.bind_some, rg_0, Option.bind_some, if_neg (by decide), if_pos (Or.inl rfl)]
    · rw [h, if_neg (show ¬ nI 1 = 0 by decide), rg_1, Option.bind_some, in_k (n := R) (by omega) (hiR hR), Option.bind_some]
      dsimp only
      rw [if_pos (e2.mp hn.1), if_neg (show ¬ (1 : Int32) = 0 by decide), rg_2, Option.bind_some, in_k (n := C) (by omega) (hiR hC), Option.bind_some]
      dsimp only
      rw [if_pos (e3.mp hn.2), if_neg (show ¬ (1 : Int32) = 0 by decide), tl, Option.bind_some, rg_0, Option.bind_some, if_pos rfl, if_pos (Or.inr rfl)]
theorem ix_f {f i j x : Nat} : ((40 : Int32) * ((((16 : Int32) * nI f) + ((4 : Int32) * nI i)) + nI j)) + nI x = nI (40 * (16 * f + 4 * i + j) + x) := by
  show (nI 40 * (((nI 16 * nI f) + (nI 4 * nI i)) + nI j)) + nI x = _
  rw [pk_mul, pk_mul, nI_add, nI_add, pk_mul, nI_add]
theorem dg16 {R C : Int32} {f i j : Nat} (hf : f < 3) (hi : i < 4) (hj : j < 4) {p : Po} (hp : FMp (A 5) f i j p) : ∀ (t n : Nat), t ≤ 40 → t < n → sz p ≤ t → lX8_degree_16 N 645 (nI f) (nI i) (nI j) n (dI t) (rfh h0 cd R C A) (fun y h => some (y, h)) = some (dI (sz p), rfh h0 cd R C A)
  | t, 0, _, hn, _ => absurd hn (Nat.not_lt_zero _)
  | 0, n + 1, ht, hn, hs => by
    rw [lX8_degree_16, if_pos (by decide), show sz p = 0 by omega]
  | t + 1, n + 1, ht, hn, hs => by
    have hvl := vl_lt p t
    rw [lX8_degree_16, if_neg (fun z => by have := (dI_lt_0 (by omega)).mp z; omega), dI_succ, rg_5, Option.bind_some, ix_f, ra_5 (by omega), Option.bind_some, hp t (by omega)]
    by_cases q : vl p t = 0
    · have hs2 : sz p ≤ t := by
        by_cases z : sz p = t + 1
        · have := sz_top (p := p) (by omega)
          rw [z, Nat.add_sub_cancel] at this
          exact absurd (vl_0.mp q) this
        · omega
      rw [q, if_pos (show nI 0 = 0 from rfl)]
      unfold nm
      rw [show nI t + -1 = dI t from (Int32.sub_eq_add_neg (a := nI t) (b := 1)).symm]
      exact dg16 hf hi hj hp t n (by omega) (by omega) hs2
    · rw [if_neg (nI_ne0 (by omega) (by omega))]
      have : t < sz p := sz_lt (fun z => q (vl_0.mpr z))
      rw [show sz p = t + 1 by omega, dI_succ]
/-- degree and at of the reference, where the form is there -/
theorem degree_r (hN : 1000 ≤ N) {R C : Nat} (hR : R < 5) (hC : C < 5) {ft : Nat → Nat} (hf : ∀ f, f < 3 → A 4 f = nI (ft f) ∧ ft f < 2) {f i j : Nat} (hf3 : f < 3) (h1 : ft f = 1) (hi : i < R) (hj : j < C) {p : Po} (hp : FMp (A 5) f i j p) (hs : sz p ≤ 40) : fX8_degree N 645 (nI f) (nI i) (nI j) (rfh h0 cd (nI R) (nI C) A) = some (dI (sz p), rfh h0 0 (nI R) (nI C) A) := by
  have it := ((isThere_s (N := N) (h0 := h0) (cd := cd) hR hC hf (nI f) (nI i) (nI j)).2 f hf3 rfl).2.2 h1 ⟨⟨i, hi, rfl⟩, ⟨j, hj, rfl⟩⟩
  unfold fX8_degree
  rw [rf_ck, Option.bind_some, it, Option.bind_some]
  dsimp only
  rw [if_neg (by decide)]
  exact dg16 hf3 (by omega) (by omega) hp 40 N (by omega) (by omega) hs
theorem at_r {R C : Nat} (hR : R < 5) (hC : C < 5) {ft : Nat → Nat} (hf : ∀ f, f < 3 → A 4 f = nI (ft f) ∧ ft f < 2) {f i j : Nat} (hf3 : f < 3) (h1 : ft f = 1) (hi : i < R) (hj : j < C) {p : Po} (hp : FMp (A 5) f i j p) (hs : sz p ≤ 40) (a4 : Int32) : fX8_at N 645 (nI f) (nI i) (nI j) a4 (rfh h0 cd (nI R) (nI C) A) = some (cfp p a4, rfh h0 0 (nI R) (nI C) A) := by
  have it := ((isThere_s (N := N) (h0 := h0) (cd := cd) hR hC hf (nI f) (nI i) (nI j)).2 f hf3 rfl).2.2 h1 ⟨⟨i, hi, rfl⟩, ⟨j, hj, rfl⟩⟩
  have e4 : inx a4 40 ↔ 0 ≤ a4.toInt ∧ a4.toInt < (40 : Nat) := inx_int (by omega)
  unfold fX8_at
  rw [rf_ck, Option.bind_some, it, Option.bind_some]
  dsimp only
  rw [if_neg (by decide), in_k (n := 40) (by omega) (by decide), Option.bind_some]
  unfold jn
  dsimp only
  by_cases q : inx a4 40
  · rw [if_pos (e4.mp q), if_neg (by decide), rg_5, Option.bind_some]
    obtain ⟨x, hx, e⟩ := q
    rw [e, ix_f, ra_5 (by omega), Option.bind_some, hp x hx, cfp_n _ (by omega)]
  · rw [if_neg (fun z => q (e4.mpr z)), if_pos rfl]
    congr 2
    unfold cfp
    by_cases z : a4 < 0
    · rw [if_pos z]
    · rw [if_neg z]
      obtain ⟨y, hy, rfl⟩ := nI_of z
      rw [nI_clamp hy, vl_0.mpr (sz_hi (p := p) (by
        by_cases w : y < 40
        · exact absurd ⟨y, w, rfl⟩ q
        · omega))]
      rfl
end RT2
