/-! the constructors of Minors, Roots, Echelon -/
section CJ
variable {N : Nat} {tgt h : Hp} {a : Nat}
theorem poly_1 (e : h a = some (.inr (6, [.null, .int 0]))) (w : PT tgt a 1) : fX4_init N a (1 : Int32) h (a + 1) = some (up tgt a 2 h, a + 2) := poly_i (len := 1) (by omega) e w
theorem poly_2 (e : h a = some (.inr (6, [.null, .int 0]))) (w : PT tgt a 2) : fX4_init N a (2 : Int32) h (a + 1) = some (up tgt a 2 h, a + 2) := poly_i (len := 2) (by omega) e w
theorem poly_7 (e : h a = some (.inr (6, [.null, .int 0]))) (w : PT tgt a 7) : fX4_init N a (7 : Int32) h (a + 1) = some (up tgt a 2 h, a + 2) := poly_i (len := 7) (by omega) e w
theorem poly_13 (e : h a = some (.inr (6, [.null, .int 0]))) (w : PT tgt a 13) : fX4_init N a (13 : Int32) h (a + 1) = some (up tgt a 2 h, a + 2) := poly_i (len := 13) (by omega) e w
theorem poly_67 (e : h a = some (.inr (6, [.null, .int 0]))) (w : PT tgt a 67) : fX4_init N a (67 : Int32) h (a + 1) = some (up tgt a 2 h, a + 2) := poly_i (len := 67) (by omega) e w
theorem row_67 (hN : 1000 ≤ N) (e : h a = some (.inr (8, [.null]))) (w : WT tgt a 67) : fX6_init N a (67 : Int32) h (a + 1) = some (up tgt a 10 h, a + 10) := row_i (len := 67) hN (by omega) e w
theorem mat_4 (hN : 1000 ≤ N) (e : h a = some (.inr (4, [.null]))) (w : MT tgt a 4) : fX2_init N a (4 : Int32) h (a + 1) = some (up tgt a 42 h, a + 42) := mat_i (len := 4) hN (by omega) e w
theorem mat_2 (hN : 1000 ≤ N) (e : h a = some (.inr (4, [.null]))) (w : MT tgt a 2) : fX2_init N a (2 : Int32) h (a + 1) = some (up tgt a 42 h, a + 42) := mat_i (len := 2) hN (by omega) e w
theorem mat_13 (hN : 1000 ≤ N) (e : h a = some (.inr (4, [.null]))) (w : MT tgt a 13) : fX2_init N a (13 : Int32) h (a + 1) = some (up tgt a 42 h, a + 42) := mat_i (len := 13) hN (by omega) e w
theorem lX3_init_135_s {p1 : Nat} {p : Nat} {fs : List Value} (hp : a < p) (hx : p1 < p) (hq : fs[2]? = some (.ref p)) (w : ∀ j, j < 4 → PT tgt (p + 1 + 2 * j) 13) : ∀ (d n j m kr sr : Nat), j + d = 4 → d < n → m = p + 1 + 2 * j → ∀ κ, lX3_init_135 N a p1 n (nI j) (hset (sv tgt a m (.inr (5, fs)) h) p (arv 4 4 p 2 j)) m (2 * d + kr) (69 * d + sr) κ = κ (nI 4) (hset (sv tgt a (p + 1 + 2 * 4) (.inr (5, fs)) h) p (arv 4 4 p 2 4)) (p + 1 + 2 * 4) kr sr
  | d, 0, j, m, kr, sr, _, hn, _, κ => absurd hn (Nat.not_lt_zero _)
  | 0, n + 1, j, m, kr, sr, hj, hn, hm, κ => by
    have e : j = 4 := by omega
    subst e
    rw [lX3_init_135]
    show (if nI 4 ≤ nI 4 then _ else _) = _
    rw [if_pos (by decide), hm]
    simp only [Nat.mul_zero, Nat.zero_add]
  | d + 1, n + 1, j, m, kr, sr, hj, hn, hm, κ => by
    have wj := w j (by omega)
    rw [← hm] at wj
    have ih := lX3_init_135_s hp hx hq w d n (j + 1) (m + 2) kr sr (by omega) (by omega) (by omega) κ
    rw [lX3_init_135]
    show (if nI 4 ≤ nI j then _ else _) = _
    rw [if_neg (fun y => by have := (le_n (by omega) (by omega)).mp y; omega), sw_g hp hq, Option.bind_some, lR_ok (by omega), Option.bind_some, lR_ok (by omega), Option.bind_some, lR_ok (by omega), Option.bind_some, nO_ok ⟨by omega, by omega⟩, Option.bind_some]
    dsimp only
    rw [lR_ok (by omega), Option.bind_some, lR_ok (by omega), Option.bind_some, lR_ok (by omega), Option.bind_some, lR_ok (by omega), Option.bind_some, bC_ok ⟨by omega, by omega⟩, Option.bind_some]
    dsimp only
    rw [poly_13 (by rw [hset_self]) wj, Option.bind_some]
    dsimp only
    rw [up_sw (by omega) (by omega) (by omega), lR_ok (by omega), Option.bind_some, sw_s (ci := 6) hp (by omega) wj.1 (by omega) (by omega) hm, Option.bind_some]
    unfold nm
    rw [nI_1, show 2 * (d + 1) + kr - 1 - 1 = 2 * d + kr by omega, show 69 * (d + 1) + sr - 2 - 67 = 69 * d + sr by omega]
    exact ih
theorem lX3_init_99_s {p1 : Nat} {p : Nat} {fs : List Value} (hp : a < p) (hx : p1 < p) (hq : fs[1]? = some (.ref p)) (w : ∀ j, j < 5 → PT tgt (p + 1 + 2 * j) 13) : ∀ (d n j m kr sr : Nat), j + d = 5 → d < n → m = p + 1 + 2 * j → ∀ κ, lX3_init_99 N a p1 n (nI j) (hset (sv tgt a m (.inr (5, fs)) h) p (arv 4 5 p 2 j)) m (2 * d + kr) (69 * d + sr) κ = κ (nI 5) (hset (sv tgt a (p + 1 + 2 * 5) (.inr (5, fs)) h) p (arv 4 5 p 2 5)) (p + 1 + 2 * 5) kr sr
  | d, 0, j, m, kr, sr, _, hn, _, κ => absurd hn (Nat.not_lt_zero _)
  | 0, n + 1, j, m, kr, sr, hj, hn, hm, κ => by
    have e : j = 5 := by omega
    subst e
    rw [lX3_init_99]
    show (if nI 4 < nI 5 then _ else _) = _
    rw [if_pos (by decide), hm]
    simp only [Nat.mul_zero, Nat.zero_add]
  | d + 1, n + 1, j, m, kr, sr, hj, hn, hm, κ => by
    have wj := w j (by omega)
    rw [← hm] at wj
    have ih := lX3_init_99_s hp hx hq w d n (j + 1) (m + 2) kr sr (by omega) (by omega) (by omega) κ
    rw [lX3_init_99]
    show (if nI 4 < nI j then _ else _) = _
    rw [if_neg (fun y => absurd ((le_n (by omega) (by omega)).mpr (by omega)) (Int32.not_le.mpr y)), sw_g hp hq, Option.bind_some, lR_ok (by omega), Option.bind_some, lR_ok (by omega), Option.bind_some, lR_ok (by omega), Option.bind_some, nO_ok ⟨by omega, by omega⟩, Option.bind_some]
    dsimp only
    rw [lR_ok (by omega), Option.bind_some, lR_ok (by omega), Option.bind_some, lR_ok (by omega), Option.bind_some, lR_ok (by omega), Option.bind_some, bC_ok ⟨by omega, by omega⟩, Option.bind_some]
    dsimp only
    rw [poly_13 (by rw [hset_self]) wj, Option.bind_some]
    dsimp only
    rw [up_sw (by omega) (by omega) (by omega), lR_ok (by omega), Option.bind_some, sw_s (ci := 6) hp (by omega) wj.1 (by omega) (by omega) hm, Option.bind_some]
    unfold nm
    rw [nI_1, show 2 * (d + 1) + kr - 1 - 1 = 2 * d + kr by omega, show 69 * (d + 1) + sr - 2 - 67 = 69 * d + sr by omega]
    exact ih
theorem lX1_init_14_s  {p : Nat} {fs : List Value} (hp : a < p) (hx : 1000 ≤ N) (hq : fs[0]? = some (.ref p)) (w : ∀ j, j < 4 → WT tgt (p + 1 + 10 * j) 67) : ∀ (d n j m kr sr : Nat), j + d = 4 → d < n → m = p + 1 + 10 * j → ∀ κ, lX1_init_14 N a n (nI j) (hset (sv tgt a m (.inr (3, fs)) h) p (arv 5 4 p 10 j)) m (10 * d + kr) (281 * d + sr) κ = κ (nI 4) (hset (sv tgt a (p + 1 + 10 * 4) (.inr (3, fs)) h) p (arv 5 4 p 10 4)) (p + 1 + 10 * 4) kr sr
  | d, 0, j, m, kr, sr, _, hn, _, κ => absurd hn (Nat.not_lt_zero _)
  | 0, n + 1, j, m, kr, sr, hj, hn, hm, κ => by
    have e : j = 4 := by omega
    subst e
    rw [lX1_init_14]
    show (if nI 4 ≤ nI 4 then _ else _) = _
    rw [if_pos (by decide), hm]
    simp only [Nat.mul_zero, Nat.zero_add]
  | d + 1, n + 1, j, m, kr, sr, hj, hn, hm, κ => by
    have wj := w j (by omega)
    rw [← hm] at wj
    have ih := lX1_init_14_s hp hx hq w d n (j + 1) (m + 10) kr sr (by omega) (by omega) (by omega) κ
    rw [lX1_init_14]
    show (if nI 4 ≤ nI j then _ else _) = _
    rw [if_neg (fun y => by have := (le_n (by omega) (by omega)).mp y; omega), sw_g hp hq, Option.bind_some, lR_ok (by omega), Option.bind_some, lR_ok (by omega), Option.bind_some, nO_ok ⟨by omega, by omega⟩, Option.bind_some]
    dsimp only
    rw [lR_ok (by omega), Option.bind_some, lR_ok (by omega), Option.bind_some, lR_ok (by omega), Option.bind_some, bC_ok ⟨by omega, by omega⟩, Option.bind_some]
    dsimp only
    rw [row_67 hx (by rw [hset_self]) wj, Option.bind_some]
    dsimp only
    rw [up_sw (by omega) (by omega) (by omega), lR_ok (by omega), Option.bind_some, sw_s (ci := 8) hp (by omega) wj.1 (by omega) (by omega) hm, Option.bind_some]
    unfold nm
    rw [nI_1, show 10 * (d + 1) + kr - 1 - 9 = 10 * d + kr by omega, show 281 * (d + 1) + sr - 1 - 280 = 281 * d + sr by omega]
    exact ih
theorem lX5_init_21_s  {p : Nat} {fs : List Value} (hp : a < p)  (hq : fs[2]? = some (.ref p)) (w : ∀ j, j < 4 → PT tgt (p + 1 + 2 * j) 7) : ∀ (d n j m kr sr : Nat), j + d = 4 → d < n → m = p + 1 + 2 * j → ∀ κ, lX5_init_21 N a n (nI j) (hset (sv tgt a m (.inr (7, fs)) h) p (arv 4 4 p 2 j)) m (2 * d + kr) (69 * d + sr) κ = κ (nI 4) (hset (sv tgt a (p + 1 + 2 * 4) (.inr (7, fs)) h) p (arv 4 4 p 2 4)) (p + 1 + 2 * 4) kr sr
  | d, 0, j, m, kr, sr, _, hn, _, κ => absurd hn (Nat.not_lt_zero _)
  | 0, n + 1, j, m, kr, sr, hj, hn, hm, κ => by
    have e : j = 4 := by omega
    subst e
    rw [lX5_init_21]
    show (if nI 4 ≤ nI 4 then _ else _) = _
    rw [if_pos (by decide), hm]
    simp only [Nat.mul_zero, Nat.zero_add]
  | d + 1, n + 1, j, m, kr, sr, hj, hn, hm, κ => by
    have wj := w j (by omega)
    rw [← hm] at wj
    have ih := lX5_init_21_s hp hq w d n (j + 1) (m + 2) kr sr (by omega) (by omega) (by omega) κ
    rw [lX5_init_21]
    show (if nI 4 ≤ nI j then _ else _) = _
    rw [if_neg (fun y => by have := (le_n (by omega) (by omega)).mp y; omega), sw_g hp hq, Option.bind_some, lR_ok (by omega), Option.bind_some, lR_ok (by omega), Option.bind_some, nO_ok ⟨by omega, by omega⟩, Option.bind_some]
    dsimp only
    rw [lR_ok (by omega), Option.bind_some, lR_ok (by omega), Option.bind_some, lR_ok (by omega), Option.bind_some, bC_ok ⟨by omega, by omega⟩, Option.bind_some]
    dsimp only
    rw [poly_7 (by rw [hset_self]) wj, Option.bind_some]
    dsimp only
    rw [up_sw (by omega) (by omega) (by omega), lR_ok (by omega), Option.bind_some, sw_s (ci := 6) hp (by omega) wj.1 (by omega) (by omega) hm, Option.bind_some]
    unfold nm
    rw [nI_1, show 2 * (d + 1) + kr - 1 - 1 = 2 * d + kr by omega, show 69 * (d + 1) + sr - 2 - 67 = 69 * d + sr by omega]
    exact ih
theorem lX7_init_82_s  {p : Nat} {fs : List Value} (hp : a < p) (hx : 1000 ≤ N) (hq : fs[11]? = some (.ref p)) (w : ∀ j, j < 3 → MT tgt (p + 1 + 42 * j) 13) : ∀ (d n j m kr sr : Nat), j + d = 3 → d < n → m = p + 1 + 42 * j → ∀ κ, lX7_init_82 N a n (nI j) (hset (sv tgt a m (.inr (9, fs)) h) p (arv 3 3 p 42 j)) m (42 * d + kr) (1129 * d + sr) κ = κ (nI 3) (hset (sv tgt a (p + 1 + 42 * 3) (.inr (9, fs)) h) p (arv 3 3 p 42 3)) (p + 1 + 42 * 3) kr sr
  | d, 0, j, m, kr, sr, _, hn, _, κ => absurd hn (Nat.not_lt_zero _)
  | 0, n + 1, j, m, kr, sr, hj, hn, hm, κ => by
    have e : j = 3 := by omega
    subst e
    rw [lX7_init_82]
    show (if nI 3 ≤ nI 3 then _ else _) = _
    rw [if_pos (by decide), hm]
    simp only [Nat.mul_zero, Nat.zero_add]
  | d + 1, n + 1, j, m, kr, sr, hj, hn, hm, κ => by
    have wj := w j (by omega)
    rw [← hm] at wj
    have ih := lX7_init_82_s hp hx hq w d n (j + 1) (m + 42) kr sr (by omega) (by omega) (by omega) κ
    rw [lX7_init_82]
    show (if nI 3 ≤ nI j then _ else _) = _
    rw [if_neg (fun y => by have := (le_n (by omega) (by omega)).mp y; omega), sw_g hp hq, Option.bind_some, lR_ok (by omega), Option.bind_some, lR_ok (by omega), Option.bind_some, nO_ok ⟨by omega, by omega⟩, Option.bind_some]
    dsimp only
    rw [lR_ok (by omega), Option.bind_some, lR_ok (by omega), Option.bind_some, lR_ok (by omega), Option.bind_some, bC_ok ⟨by omega, by omega⟩, Option.bind_some]
    dsimp only
    rw [mat_13 hx (by rw [hset_self]) wj, Option.bind_some]
    dsimp only
    rw [up_sw (by omega) (by omega) (by omega), lR_ok (by omega), Option.bind_some, sw_s (ci := 4) hp (by omega) wj.1 (by omega) (by omega) hm, Option.bind_some]
    unfold nm
    rw [nI_1, show 42 * (d + 1) + kr - 1 - 41 = 42 * d + kr by omega, show 1129 * (d + 1) + sr - 1 - 1128 = 1129 * d + sr by omega]
    exact ih
def amo (a i : Nat) : hE := .inl (4, 256, .inr (.inr (.inr (.inr (fun j => if j < i then some (a + mo j) else none)))))
theorem amo_0 (a : Nat) : amo a 0 = .inl (4, 256, .inr (.inr (.inr (.inr (fun _ => none))))) := by
  unfold amo
  congr 1
theorem shr4 : ∀ i, i < 256 → nI i >>> ((4 : Int32) &&& 31) = nI (i / 16) ∧ nI i &&& (15 : Int32) = nI (i % 16) := by decide +kernel
theorem am_s {O : hE} {m x i : Nat} {fs : List Value} (hx1 : a + 1 < x) (hx : x < m) (ht : tgt x = some (.inr (6, fs))) (hi : i < 256) (e : x = a + mo i) : aRs (hset (sv tgt a m O h) (a + 1) (amo a i)) (a + 1) 4 6 (nI i) x = some (hset (sv tgt a m O h) (a + 1) (amo a (i + 1))) := by
  rw [aRs_of (n := 256) (f := fun j => if j < i then some (a + mo j) else none) (by rw [hset_self]; rfl) (by rw [hset_ne _ _ (by omega), sv_t (by omega) hx]; exact ht) hi (by decide), hset2]
  have e : va_up (fun j => if j < i then some (a + mo j) else none) i (some x) = fun j => if j < i + 1 then some (a + mo j) else none := by
    funext j
    unfold va_up
    by_cases z : j = i
    · rw [if_pos z, z, if_pos (by omega), e]
    · rw [if_neg z]
      show (if j < i then some (a + mo j) else none) = _
      by_cases y : j < i
      · rw [if_pos y, if_pos (by omega)]
      · rw [if_neg y, if_neg (by omega)]
  rw [e]
  rfl
theorem m25_s {fs : List Value} (hq : fs[0]? = some (.ref (a + 1))) (w2 : PT tgt (a + 2) 1) (w : ∀ i, i < 70 → PT tgt (a + 4 + 2 * i) 13) : ∀ (d n i m kr sr : Nat), i + d = 256 → d < n → m = a + 4 + 2 * sqc i → ∀ κ, lX3_init_25 N a (a + 2) n (nI i) (hset (sv tgt a m (.inr (5, fs)) h) (a + 1) (amo a i)) m (2 * (70 - sqc i) + kr) (69 * (70 - sqc i) + sr) κ = κ (nI 256) (hset (sv tgt a (a + 144) (.inr (5, fs)) h) (a + 1) (amo a 256)) (a + 144) kr sr
  | d, 0, i, m, kr, sr, _, hn, _, κ => absurd hn (Nat.not_lt_zero _)
  | 0, n + 1, i, m, kr, sr, hi, hn, hm, κ => by
    have e : i = 256 := by omega
    subst e
    rw [sqc_256] at hm ⊢
    rw [lX3_init_25, sw_g (by omega) hq, Option.bind_some, aLen_of (x := (256, .inr (.inr (.inr (.inr (fun j => if j < 256 then some (a + mo j) else none)))))) (by rw [hset_self]; rfl), Option.bind_some]
    show (if nI 256 ≤ nI 256 then _ else _) = _
    rw [if_pos (by decide), hm]
    simp only [Nat.sub_self, Nat.mul_zero, Nat.zero_add]
  | d + 1, n + 1, i, m, kr, sr, hi, hn, hm, κ => by
    have sh := shr4 i (by omega)
    have s70 : sqc i ≤ 70 := by
      have := sqc_le (i := i) (j := 256) (by omega)
      rw [sqc_256] at this
      exact this
    have head : lX3_init_25 N a (a + 2) (n + 1) (nI i) (hset (sv tgt a m (.inr (5, fs)) h) (a + 1) (amo a i)) m (2 * (70 - sqc i) + kr) (69 * (70 - sqc i) + sr) κ = (if sq i = true then (nO (hset (sv tgt a m (.inr (5, fs)) h) (a + 1) (amo a i)) m (2 * (70 - sqc i) + kr) (69 * (70 - sqc i) + sr) 2 (.inr (6, [.null, .int 0]))).bind (fun (h167, sz168, kc168, ks168) => (lR sz168 a).bind fun u171 => (lR sz168 (a + 2)).bind fun u172 => (lR sz168 (a + 1)).bind fun u173 => (lR sz168 m).bind fun u174 => (bC kc168 ks168 1 67).bind fun (kc175, ks175) => (fX4_init N m (13 : Int32) h167 sz168).bind fun (h175, sz175) => (lR sz175 m).bind fun u161 => (aRs h175 (a + 1) 4 6 (nI i) m).bind fun h160 => lX3_init_25 N a (a + 2) n (nI (i + 1)) h160 sz175 kc175 ks175 κ) else (aRs (hset (sv tgt a m (.inr (5, fs)) h) (a + 1) (amo a i)) (a + 1) 4 6 (nI i) (a + 2)).bind fun h160 => lX3_init_25 N a (a + 2) n (nI (i + 1)) h160 m (2 * (70 - sqc i) + kr) (69 * (70 - sqc i) + sr) κ) := by
      rw [lX3_init_25, sw_g (by omega) hq, Option.bind_some, aLen_of (x := (256, .inr (.inr (.inr (.inr (fun j => if j < i then some (a + mo j) else none)))))) (by rw [hset_self]; rfl), Option.bind_some]
      show (if nI 256 ≤ nI i then _ else _) = _
      rw [if_neg (fun y => by have := (le_n (by omega) (by omega)).mp y; omega), sh.1, sh.2, ix5 (i / 16) (by omega), Option.bind_some]
      dsimp only
      rw [ix5 (i % 16) (by omega), Option.bind_some]
      unfold jn nm
      dsimp only
      rw [nI_1]
      unfold sq
      by_cases q : bc (i / 16) = bc (i % 16)
      · rw [if_pos (by rw [q]), if_pos (by rw [q]; exact beq_self_eq_true _), sw_g (by omega) hq, Option.bind_some, if_neg (by decide), lR_ok (by omega), Option.bind_some, lR_ok (by omega), Option.bind_some, lR_ok (by omega), Option.bind_some]
      · have b1 := bc_lt (i / 16) (by omega)
        have b2 := bc_lt (i % 16) (by omega)
        rw [if_neg (fun z => q ((eq_n (by omega) (by omega)).mp z)), if_neg (fun z => q (beq_iff_eq.mp z)), sw_g (by omega) hq, Option.bind_some, if_pos rfl, lR_ok (by omega), Option.bind_some]
    rw [head]
    have st : sqc (i + 1) = sqc i + (if sq i = true then 1 else 0) := rfl
    by_cases q : sq i = true
    · rw [if_pos q] at st ⊢
      have lt : sqc i < 70 := by
        have := sqc_lt (i := i) (j := 256) (by omega) q
        rw [sqc_256] at this
        exact this
      have wi := w (sqc i) lt
      rw [← hm] at wi
      have ih := m25_s hq w2 w d n (i + 1) (m + 2) kr sr (by omega) (by omega) (by omega) κ
      have em : m = a + mo i := by
        unfold mo
        rw [if_pos q]
        omega
      rw [nO_ok ⟨by omega, by omega⟩, Option.bind_some]
      dsimp only
      rw [lR_ok (by omega), Option.bind_some, lR_ok (by omega), Option.bind_some, lR_ok (by omega), Option.bind_some, lR_ok (by omega), Option.bind_some, bC_ok ⟨by omega, by omega⟩, Option.bind_some]
      dsimp only
      rw [poly_13 (by rw [hset_self]) wi, Option.bind_some]
      dsimp only
      rw [up_sw (by omega) (by omega) (by omega), lR_ok (by omega), Option.bind_some, am_s (by omega) (by omega) wi.1 (by omega) em, Option.bind_some]
      rw [show 2 * (70 - sqc i) + kr - 1 - 1 = 2 * (70 - sqc (i + 1)) + kr by omega, show 69 * (70 - sqc i) + sr - 2 - 67 = 69 * (70 - sqc (i + 1)) + sr by omega]
      exact ih
    · rw [if_neg q] at st ⊢
      have ih := m25_s hq w2 w d n (i + 1) m kr sr (by omega) (by omega) (by omega) κ
      rw [am_s (by omega) (by omega) w2.1 (by omega) (by unfold mo; rw [if_neg q]), Option.bind_some]
      rw [show sqc (i + 1) = sqc i by omega] at ih
      exact ih
def NT (tgt : Hp) (a : Nat) : Prop := tgt a = some (mnO a 0) ∧ tgt (a + 1) = some (amo a 256) ∧ PT tgt (a + 2) 1 ∧ (∀ i, i < 70 → PT tgt (a + 4 + 2 * i) 13) ∧ tgt (a + 144) = some (arv 4 5 (a + 144) 2 5) ∧ (∀ j, j < 5 → PT tgt (a + 144 + 1 + 2 * j) 13) ∧ tgt (a + 155) = some (arv 4 4 (a + 155) 2 4) ∧ (∀ j, j < 4 → PT tgt (a + 155 + 1 + 2 * j) 13) ∧ DT tgt (a + 164)
theorem min_i (hN : 1000 ≤ N) (e : h a = some (.inr (5, [.null, .null, .null, .null, .int 0]))) (w : NT tgt a) : fX3_init N a h (a + 1) = some (up tgt a 171 h, a + 171) := by
  obtain ⟨w0, w1, w2, w3, w4, w5, w6, w7, w8⟩ := w
  have key : fX3_init N a (sv tgt a (a + 1) (.inr (5, [.null, .null, .null, .null, .int 0])) h) (a + 1) = some (sv tgt a (a + 171) (.inr (5, [.ref (a + 1), .ref (a + 144), .ref (a + 155), .ref (a + 164), .int 0])) h, a + 171) := by
    unfold fX3_init nm
    dsimp only
    rw [lR_ok (by omega), Option.bind_some, nO_ok ⟨by omega, by omega⟩, Option.bind_some]
    try dsimp only
    rw [sv_n (by omega), lR_ok (by omega), Option.bind_some, sw_p (by omega) (by simp), Option.bind_some, lR_ok (by omega), Option.bind_some, nO_ok ⟨by omega, by omega⟩, Option.bind_some]
    try dsimp only
    rw [lR_ok (by omega), Option.bind_some, lR_ok (by omega), Option.bind_some, bC_ok ⟨by omega, by omega⟩, Option.bind_some]
    try dsimp only
    rw [poly_1 (by rw [hset_self]) w2, Option.bind_some]
    try dsimp only
    rw [up_sw (by omega) (by omega) (by omega)]
    rw [← amo_0 a]
    have l1 := m25_s (N := N) (h := h) (tgt := tgt) (a := a) (fs := [Value.null, Value.null, Value.null, Value.null, Value.int 0].set 0 (Value.ref (a + 1))) rfl w2 w3 256 N 0 (a + 1 + 1 + 2) 27 840 rfl (by omega) rfl
    refine Eq.trans (l1 _) ?_
    try dsimp only
    rw [sw_e (by omega) (by omega) w1]
    rw [lR_ok (by omega), Option.bind_some, lR_ok (by omega), Option.bind_some, nO_ok ⟨by omega, by omega⟩, Option.bind_some]
    try dsimp only
    rw [sv_n (by omega), lR_ok (by omega), Option.bind_some, sw_p (by omega) (by simp), Option.bind_some]
    rw [← arv_0 4 5 (a + 144) 2]
    have l2 := lX3_init_99_s (N := N) (h := h) (tgt := tgt) (a := a) (p1 := a + 2) (p := a + 144) (fs := ([Value.null, Value.null, Value.null, Value.null, Value.int 0].set 0 (Value.ref (a + 1))).set 1 (Value.ref (a + 144))) (by omega) (by omega) rfl w5 5 N 0 (a + 144 + 1) 16 490 rfl (by omega) rfl
    refine Eq.trans (l2 _) ?_
    try dsimp only
    rw [sw_e (by omega) (by omega) w4]
    rw [lR_ok (by omega), Option.bind_some, lR_ok (by omega), Option.bind_some, nO_ok ⟨by omega, by omega⟩, Option.bind_some]
    try dsimp only
    rw [sv_n (by omega), lR_ok (by omega), Option.bind_some, sw_p (by omega) (by simp), Option.bind_some]
    rw [← arv_0 4 4 (a + 155) 2]
    have l3 := lX3_init_135_s (N := N) (h := h) (tgt := tgt) (a := a) (p1 := a + 2) (p := a + 155) (fs := (([Value.null, Value.null, Value.null, Value.null, Value.int 0].set 0 (Value.ref (a + 1))).set 1 (Value.ref (a + 144))).set 2 (Value.ref (a + 155))) (by omega) (by omega) rfl w7 4 N 0 (a + 155 + 1) 7 210 rfl (by omega) rfl
    refine Eq.trans (l3 _) ?_
    try dsimp only
    rw [sw_e (by omega) (by omega) w6]
    rw [lR_ok (by omega), Option.bind_some, lR_ok (by omega), Option.bind_some, nO_ok ⟨by omega, by omega⟩, Option.bind_some]
    try dsimp only
    rw [lR_ok (by omega), Option.bind_some, lR_ok (by omega), Option.bind_some, lR_ok (by omega), Option.bind_some, bC_ok ⟨by omega, by omega⟩, Option.bind_some]
    try dsimp only
    rw [div_i (by rw [hset_self]) w8, Option.bind_some]
    try dsimp only
    rw [up_sv (by omega) (by omega), lR_ok (by omega), Option.bind_some, sv_p (by simp), Option.bind_some, sv_p (by simp), Option.bind_some]
    rfl
  have w0' : tgt a = some (.inr (5, [.ref (a + 1), .ref (a + 144), .ref (a + 155), .ref (a + 164), .int 0])) := w0
  rw [sv_0 e, sv_e (k := 171) (by omega) w0'] at key
  exact key
end CJ
