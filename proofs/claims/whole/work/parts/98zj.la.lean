/-! rows of four numbers: spaces, and the places where their rows begin -/
def vsp (S : (Nat → Fp) → Prop) : Prop := (∀ u v : Nat → Fp, (∀ j, j < 4 → u j = v j) → S u → S v) ∧ S (fun _ => 0) ∧ (∀ u v : Nat → Fp, S u → S v → S (fun j => u j + v j)) ∧ (∀ (c : Fp) (u : Nat → Fp), S u → S (fun j => c * u j))
theorem vs_c {S : (Nat → Fp) → Prop} (hS : vsp S) {u v w : Nat → Fp} (a : Fp) (hu : S u) (hv : S v) (hw : ∀ j, j < 4 → w j = u j + a * v j) : S w := hS.1 _ _ (fun j hj => (hw j hj).symm) (hS.2.2.1 _ _ hu (hS.2.2.2 a v hv))
def ldp (S : (Nat → Fp) → Prop) (c : Nat) : Prop := ∃ v, S v ∧ (∀ j, j < c → v j = 0) ∧ v c ≠ 0
noncomputable def ldb (S : (Nat → Fp) → Prop) (c : Nat) : Bool := @decide (ldp S c) (Classical.propDecidable _)
theorem ldb_t {S : (Nat → Fp) → Prop} {c : Nat} : ldb S c = true ↔ ldp S c := @decide_eq_true_iff (ldp S c) (Classical.propDecidable _)
theorem ldb_f {S : (Nat → Fp) → Prop} {c : Nat} (h : ldb S c = false) : ¬ ldp S c := fun y => by
  rw [ldb_t.mpr y] at h
  cases h
noncomputable def ldim (S : (Nat → Fp) → Prop) : Nat := cn (ldb S) 4
theorem cn_mono {F G : Nat → Bool} : ∀ n, (∀ k, k < n → F k = true → G k = true) → cn F n ≤ cn G n
  | 0, _ => Nat.le_refl _
  | n + 1, h => by
    have ih := cn_mono n (fun k hk => h k (by omega))
    cases hF : F n
    · rw [cn_0 hF]
      have := cn_le G n (n + 1) (by omega)
      omega
    · rw [cn_1 hF, cn_1 (h n (by omega) hF)]
      omega
theorem cn_same {F G : Nat → Bool} : ∀ n, (∀ k, k < n → F k = true → G k = true) → cn G n ≤ cn F n → ∀ k, k < n → G k = true → F k = true
  | 0, _, _, k, hk, _ => absurd hk (Nat.not_lt_zero _)
  | n + 1, h, hc, k, hk, hG => by
    have m := cn_mono n (fun k hk => h k (by omega))
    cases hF : F n
    · cases hGn : G n
      · rw [cn_0 hF, cn_0 hGn] at hc
        by_cases q : k = n
        · rw [q, hGn] at hG
          cases hG
        · exact cn_same n (fun k hk => h k (by omega)) hc k (by omega) hG
      · rw [cn_0 hF, cn_1 hGn] at hc
        omega
    · have hGn := h n (by omega) hF
      rw [cn_1 hF, cn_1 hGn] at hc
      by_cases q : k = n
      · rw [q]; exact hF
      · exact cn_same n (fun k hk => h k (by omega)) (by omega) k (by omega) hG
theorem cn_one {F G : Nat → Bool} : ∀ n, (∀ a b, a < b → b < n → G a = true → F a = false → G b = true → F b = false → False) → cn G n ≤ cn F n + 1
  | 0, _ => Nat.zero_le _
  | n + 1, h => by
    have ih := cn_one n (fun a b h1 h2 => h a b h1 (by omega))
    cases hG : G n
    · rw [cn_0 hG]
      have := cn_le F n (n + 1) (by omega)
      omega
    · cases hF : F n
      · rw [cn_1 hG, cn_0 hF]
        have := cn_mono (F := G) (G := F) n (fun k hk hk2 => by
          cases hFk : F k
          · exact absurd (h k n hk (by omega) hk2 hFk hG hF) (fun z => z)
          · rfl)
        omega
      · rw [cn_1 hG, cn_1 hF]
        omega
theorem ld_mono {S T : (Nat → Fp) → Prop} (h : ∀ v, S v → T v) : ldim S ≤ ldim T := cn_mono 4 (fun k _ hk => ldb_t.mpr (by
  obtain ⟨v, a, b⟩ := ldb_t.mp hk
  exact ⟨v, h v a, b⟩))
theorem ld_eq {S T : (Nat → Fp) → Prop} (hS : vsp S) (hT : vsp T) (h : ∀ v, S v → T v) (hc : ldim T ≤ ldim S) : ∀ v, T v → S v := by
  have key := cn_same (F := ldb S) (G := ldb T) 4 (fun k _ hk => ldb_t.mpr (by
    obtain ⟨v, a, b⟩ := ldb_t.mp hk
    exact ⟨v, h v a, b⟩)) hc
  intro v hv
  have red : ∀ c, c ≤ 4 → ∃ s, S s ∧ ∀ j, j < c → v j = s j := by
    intro c
    induction c with
    | zero => exact fun _ => ⟨_, hS.2.1, fun j hj => absurd hj (Nat.not_lt_zero _)⟩
    | succ c ih =>
      intro hc4
      obtain ⟨s, s1, s2⟩ := ih (by omega)
      by_cases q : v c = s c
      · refine ⟨s, s1, fun j hj => ?_⟩
        by_cases e : j = c
        · rw [e]; exact q
        · exact s2 j (by omega)
      · have lt : ldp T c := ⟨fun j => v j + (-1) * s j, vs_c hT (-1) hv (h s s1) (fun _ _ => rfl), fun j hj => by
          show v j + (-1) * s j = 0
          rw [s2 j hj]
          grind, fun z => q (by
          have z : v c + (-1) * s c = 0 := z
          grind)⟩
        obtain ⟨u, u1, u2, u3⟩ := ldb_t.mp (key c (by omega) (ldb_t.mpr lt))
        refine ⟨fun j => s j + ((v c + - s c) * finv (u c)) * u j, vs_c hS _ s1 u1 (fun _ _ => rfl), fun j hj => ?_⟩
        show v j = s j + ((v c + - s c) * finv (u c)) * u j
        by_cases e : j = c
        · rw [e]
          have := finv_mul u3
          generalize finv (u c) = f at this ⊢
          grind
        · rw [u2 j (by omega), s2 j (by omega)]
          grind
  obtain ⟨s, s1, s2⟩ := red 4 (Nat.le_refl _)
  exact hS.1 _ _ (fun j hj => (s2 j hj).symm) s1
theorem ld_lt {S T : (Nat → Fp) → Prop} (hS : vsp S) (hT : vsp T) (h : ∀ v, S v → T v) {v : Nat → Fp} (hv : T v) (hn : ¬ S v) : ldim S + 1 ≤ ldim T := Classical.byContradiction (fun z => hn (ld_eq hS hT h (by omega) v hv))
theorem ld_one {S T : (Nat → Fp) → Prop} (hS : vsp S) {z : Nat → Fp} (h : ∀ v, T v → ∃ (s : Nat → Fp) (a : Fp), S s ∧ ∀ j, j < 4 → v j = s j + a * z j) : ldim T ≤ ldim S + 1 := cn_one 4 (fun a b hab hb g1 f1 g2 f2 => by
  obtain ⟨v1, p1, p2, p3⟩ := ldb_t.mp g1
  obtain ⟨v2, q1, q2, q3⟩ := ldb_t.mp g2
  obtain ⟨s1, α, x1, x2⟩ := h v1 p1
  obtain ⟨s2, β, y1, y2⟩ := h v2 q1
  by_cases q : β = 0
  · refine ldb_f f2 ⟨s2, y1, fun j hj => ?_, ?_⟩
    · have := y2 j (by omega)
      rw [q2 j hj, q] at this
      grind
    · have := y2 b hb
      rw [q] at this
      intro z
      exact q3 (by grind)
  · have f := finv_mul q
    generalize finv β = f' at f
    have e : ∀ j, j < 4 → s1 j + (- (α * f')) * s2 j = v1 j + (- (α * f')) * v2 j := fun j hj => by
      have k1 := x2 j hj
      have k2 := y2 j hj
      grind
    refine ldb_f f1 ⟨fun j => s1 j + (- (α * f')) * s2 j, vs_c hS _ x1 y1 (fun _ _ => rfl), fun j hj => ?_, ?_⟩
    · show s1 j + (- (α * f')) * s2 j = 0
      rw [e j (by omega), p2 j hj, q2 j (by omega)]
      grind
    · show s1 a + (- (α * f')) * s2 a ≠ 0
      rw [e a (by omega), q2 a hab]
      intro z
      exact p3 (by grind))
def Z0 (v : Nat → Fp) : Prop := ∀ j, j < 4 → v j = 0
def Z1 (b : Nat → Fp) (v : Nat → Fp) : Prop := ∃ a : Fp, ∀ j, j < 4 → v j = a * b j
def Z2 (b d : Nat → Fp) (v : Nat → Fp) : Prop := ∃ a c : Fp, ∀ j, j < 4 → v j = a * b j + c * d j
def Z3 (b d e : Nat → Fp) (v : Nat → Fp) : Prop := ∃ a c f : Fp, ∀ j, j < 4 → v j = a * b j + c * d j + f * e j
def Rs (A : Nat → Nat → Fp) (v : Nat → Fp) : Prop := ∃ a c f g : Fp, ∀ j, j < 4 → v j = a * A 0 j + c * A 1 j + f * A 2 j + g * A 3 j
theorem z0_v : vsp Z0 := ⟨fun u v e h j hj => by rw [← e j hj]; exact h j hj, fun _ _ => rfl, fun u v h k j hj => by show u j + v j = 0; rw [h j hj, k j hj]; rfl, fun c u h j hj => by show c * u j = 0; rw [h j hj]; grind⟩
theorem z1_v (b : Nat → Fp) : vsp (Z1 b) := ⟨fun u v e ⟨a, h⟩ => ⟨a, fun j hj => by rw [← e j hj]; exact h j hj⟩, ⟨0, fun j _ => by grind⟩, fun u v ⟨a, h⟩ ⟨a', k⟩ => ⟨a + a', fun j hj => by show u j + v j = _; rw [h j hj, k j hj]; grind⟩, fun c u ⟨a, h⟩ => ⟨c * a, fun j hj => by show c * u j = _; rw [h j hj]; grind⟩⟩
theorem z2_v (b d : Nat → Fp) : vsp (Z2 b d) := ⟨fun u v e ⟨a, c, h⟩ => ⟨a, c, fun j hj => by rw [← e j hj]; exact h j hj⟩, ⟨0, 0, fun j _ => by grind⟩, fun u v ⟨a, c, h⟩ ⟨a', c', k⟩ => ⟨a + a', c + c', fun j hj => by show u j + v j = _; rw [h j hj, k j hj]; grind⟩, fun x u ⟨a, c, h⟩ => ⟨x * a, x * c, fun j hj => by show x * u j = _; rw [h j hj]; grind⟩⟩
theorem z3_v (b d e : Nat → Fp) : vsp (Z3 b d e) := ⟨fun u v q ⟨a, c, f, h⟩ => ⟨a, c, f, fun j hj => by rw [← q j hj]; exact h j hj⟩, ⟨0, 0, 0, fun j _ => by grind⟩, fun u v ⟨a, c, f, h⟩ ⟨a', c', f', k⟩ => ⟨a + a', c + c', f + f', fun j hj => by show u j + v j = _; rw [h j hj, k j hj]; grind⟩, fun x u ⟨a, c, f, h⟩ => ⟨x * a, x * c, x * f, fun j hj => by show x * u j = _; rw [h j hj]; grind⟩⟩
theorem rs_v (A : Nat → Nat → Fp) : vsp (Rs A) := ⟨fun u v q ⟨a, c, f, g, h⟩ => ⟨a, c, f, g, fun j hj => by rw [← q j hj]; exact h j hj⟩, ⟨0, 0, 0, 0, fun j _ => by grind⟩, fun u v ⟨a, c, f, g, h⟩ ⟨a', c', f', g', k⟩ => ⟨a + a', c + c', f + f', g + g', fun j hj => by show u j + v j = _; rw [h j hj, k j hj]; grind⟩, fun x u ⟨a, c, f, g, h⟩ => ⟨x * a, x * c, x * f, x * g, fun j hj => by show x * u j = _; rw [h j hj]; grind⟩⟩
theorem rs_row (A : Nat → Nat → Fp) {a : Nat} (ha : a < 4) : Rs A (A a) := by
  have : a = 0 ∨ a = 1 ∨ a = 2 ∨ a = 3 := by omega
  rcases this with e | e | e | e <;> subst e
  · exact ⟨1, 0, 0, 0, fun j _ => by grind⟩
  · exact ⟨0, 1, 0, 0, fun j _ => by grind⟩
  · exact ⟨0, 0, 1, 0, fun j _ => by grind⟩
  · exact ⟨0, 0, 0, 1, fun j _ => by grind⟩
theorem rs_sub {A : Nat → Nat → Fp} {T : (Nat → Fp) → Prop} (hT : vsp T) (h : ∀ a, a < 4 → T (A a)) (v : Nat → Fp) (hv : Rs A v) : T v := by
  obtain ⟨a, c, f, g, e⟩ := hv
  refine hT.1 _ _ (fun j hj => (e j hj).symm) ?_
  exact hT.2.2.1 _ _ (hT.2.2.1 _ _ (hT.2.2.1 _ _ (hT.2.2.2 a _ (h 0 (by omega))) (hT.2.2.2 c _ (h 1 (by omega)))) (hT.2.2.2 f _ (h 2 (by omega)))) (hT.2.2.2 g _ (h 3 (by omega)))
theorem ld_0 : ldim Z0 = 0 := by
  have h : ∀ c, c < 4 → ldb Z0 c = false := fun c hc => by
    cases e : ldb Z0 c
    · rfl
    · obtain ⟨v, a, _, b⟩ := ldb_t.mp e
      exact absurd (a c hc) b
  unfold ldim
  rw [cn_0 (h 3 (by omega)), cn_0 (h 2 (by omega)), cn_0 (h 1 (by omega)), cn_0 (h 0 (by omega))]
  rfl
theorem ld_1 {T : (Nat → Fp) → Prop} {b : Nat → Fp} (h : ∀ v, T v → Z1 b v) : ldim T ≤ 1 := by
  have := ld_one z0_v (z := b) (T := T) (fun v hv => by
    obtain ⟨a, e⟩ := h v hv
    exact ⟨fun _ => 0, a, fun _ _ => rfl, fun j hj => by rw [e j hj]; grind⟩)
  rw [ld_0] at this
  exact this
theorem ld_2 {T : (Nat → Fp) → Prop} {b d : Nat → Fp} (h : ∀ v, T v → Z2 b d v) : ldim T ≤ 2 := by
  have h1 := ld_one (z1_v b) (z := d) (T := T) (fun v hv => by
    obtain ⟨a, c, e⟩ := h v hv
    exact ⟨fun j => a * b j, c, ⟨a, fun _ _ => rfl⟩, fun j hj => e j hj⟩)
  have h2 := ld_1 (T := Z1 b) (b := b) (fun v hv => hv)
  omega
theorem ld_3 {T : (Nat → Fp) → Prop} {b d f : Nat → Fp} (h : ∀ v, T v → Z3 b d f v) : ldim T ≤ 3 := by
  have h1 := ld_one (z2_v b d) (z := f) (T := T) (fun v hv => by
    obtain ⟨a, c, x, e⟩ := h v hv
    exact ⟨fun j => a * b j + c * d j, x, ⟨a, c, fun _ _ => rfl⟩, fun j hj => e j hj⟩)
  have h2 := ld_2 (T := Z2 b d) (b := b) (d := d) (fun v hv => hv)
  omega
theorem ld_le4 (T : (Nat → Fp) → Prop) : ldim T ≤ 4 := cn_b _ 4
theorem up1 {T : (Nat → Fp) → Prop} (hT : vsp T) {b : Nat → Fp} (h1 : T b) (n1 : ¬ Z0 b) : 1 ≤ ldim T := by
  have := ld_lt z0_v hT (fun v hv => hT.1 _ _ (fun j hj => (hv j hj).symm) hT.2.1) h1 n1
  rw [ld_0] at this
  exact this
theorem up2 {T : (Nat → Fp) → Prop} (hT : vsp T) {b d : Nat → Fp} (h1 : T b) (h2 : T d) (n1 : ¬ Z0 b) (n2 : ¬ Z1 b d) : 2 ≤ ldim T := by
  have a := up1 (z1_v b) (b := b) ⟨1, fun j _ => by grind⟩ n1
  have := ld_lt (z1_v b) hT (fun v ⟨a, e⟩ => hT.1 _ _ (fun j hj => (e j hj).symm) (hT.2.2.2 a b h1)) h2 n2
  omega
theorem up3 {T : (Nat → Fp) → Prop} (hT : vsp T) {b d e : Nat → Fp} (h1 : T b) (h2 : T d) (h3 : T e) (n1 : ¬ Z0 b) (n2 : ¬ Z1 b d) (n3 : ¬ Z2 b d e) : 3 ≤ ldim T := by
  have a := up2 (z2_v b d) (b := b) (d := d) ⟨1, 0, fun j _ => by grind⟩ ⟨0, 1, fun j _ => by grind⟩ n1 n2
  have := ld_lt (z2_v b d) hT (fun v ⟨a, c, e⟩ => hT.1 _ _ (fun j hj => (e j hj).symm) (hT.2.2.1 _ _ (hT.2.2.2 a b h1) (hT.2.2.2 c d h2))) h3 n3
  omega
theorem up4 {T : (Nat → Fp) → Prop} (hT : vsp T) {b d e f : Nat → Fp} (h1 : T b) (h2 : T d) (h3 : T e) (h4 : T f) (n1 : ¬ Z0 b) (n2 : ¬ Z1 b d) (n3 : ¬ Z2 b d e) (n4 : ¬ Z3 b d e f) : 4 ≤ ldim T := by
  have a := up3 (z3_v b d e) (b := b) (d := d) (e := e) ⟨1, 0, 0, fun j _ => by grind⟩ ⟨0, 1, 0, fun j _ => by grind⟩ ⟨0, 0, 1, fun j _ => by grind⟩ n1 n2 n3
  have := ld_lt (z3_v b d e) hT (fun v ⟨a, c, x, q⟩ => hT.1 _ _ (fun j hj => (q j hj).symm) (hT.2.2.1 _ _ (hT.2.2.1 _ _ (hT.2.2.2 a b h1) (hT.2.2.2 c d h2)) (hT.2.2.2 x e h3))) h4 n4
  omega
