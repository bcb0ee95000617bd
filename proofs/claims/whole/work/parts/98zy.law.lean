/-! the law's loop -/
theorem sx_ok {xs : Nat → Int32} {L i : Nat} (hL : L ≤ 2560) (hi : i < L) : sX xs L (nI i) = some (xs i) := by
  unfold sX
  rw [nI_clamp (by omega), if_pos (fun z => by
    rcases z with z | z
    · exact nI_pos (by omega) z
    · omega)]
theorem stop_y {L k : Nat} (hL : L ≤ 2560) (hk : 5 * k ≤ 2560) (h : L < 5 * k + 5) : nI L - (5 : Int32) < nI (5 * k) := by
  by_cases q : 5 ≤ L
  · rw [show nI L - (5 : Int32) = nI (L - 5) from pk_sub (b := 5) q]
    exact nI_lt (by omega) (by omega)
  · have d : nI L - (5 : Int32) < 0 := by
      rcases (show L = 0 ∨ L = 1 ∨ L = 2 ∨ L = 3 ∨ L = 4 by omega) with e | e | e | e | e <;> subst e <;> decide
    exact Int32.lt_of_lt_of_le d (Int32.not_lt.mp (nI_pos (by omega)))
theorem stop_n {L k : Nat} (hL : L ≤ 2560) (h : 5 * k + 5 ≤ L) : ¬ nI L - (5 : Int32) < nI (5 * k) := by
  rw [show nI L - (5 : Int32) = nI (L - 5) from pk_sub (b := 5) (by omega)]
  exact Int32.not_lt.mpr ((le_n (by omega) (by omega)).mpr (by omega))
theorem lg_0 (x : Int64) : lg_cmp x x = 0 := (lg_cmp_eq x x).mpr rfl
section LAW
variable {N : Nat} {xs : Nat → Int32} {L : Nat}
theorem law_l (hN : 33000 ≤ N) (hL : L ≤ 2560) : ∀ (d n k kc ks : Nat) (h : Hp), d < n → L < 5 * (k + d) + 5 → 5 * k ≤ 2560 → d ≤ kc → 6 * d ≤ ks → LK h → lL_law N xs L 0 645 664 n (nI (5 * k)) h kc ks = some (1 : Int32)
  | d, 0, k, kc, ks, h, hn, _, _, _, _, _ => absurd hn (Nat.not_lt_zero _)
  | 0, n + 1, k, kc, ks, h, hn, h1, h2, h3, h4, lk => by
    rw [lL_law, if_pos (stop_y hL h2 (by omega))]
  | d + 1, n + 1, k, kc, ks, h, hn, h1, h2, h3, h4, lk => by
    by_cases q : L < 5 * k + 5
    · rw [lL_law, if_pos (stop_y hL h2 q)]
    have ih : ∀ (h' : Hp) (kc' ks' : Nat), LK h' → d ≤ kc' → 6 * d ≤ ks' → lL_law N xs L 0 645 664 n (nI (5 * (k + 1))) h' kc' ks' = some (1 : Int32) := fun h' kc' ks' l a b => law_l hN hL d n (k + 1) kc' ks' h' (by omega) (by omega) (by omega) a b l
    have s0 : sX xs L (nI (5 * k)) = some (xs (5 * k)) := sx_ok hL (by omega)
    have s1 : sX xs L (nI (5 * k) + (1 : Int32)) = some (xs (5 * k + 1)) := by rw [nI_1]; exact sx_ok hL (by omega)
    have s2 : sX xs L (nI (5 * k) + (2 : Int32)) = some (xs (5 * k + 2)) := by rw [show nI (5 * k) + (2 : Int32) = nI (5 * k + 2) from nI_add (5 * k) 2]; exact sx_ok hL (by omega)
    have s3 : sX xs L (nI (5 * k) + (3 : Int32)) = some (xs (5 * k + 3)) := by rw [show nI (5 * k) + (3 : Int32) = nI (5 * k + 3) from nI_add (5 * k) 3]; exact sx_ok hL (by omega)
    have s4 : sX xs L (nI (5 * k) + (4 : Int32)) = some (xs (5 * k + 4)) := by rw [show nI (5 * k) + (4 : Int32) = nI (5 * k + 4) from nI_add (5 * k) 4]; exact sx_ok hL (by omega)
    have s5 : nI (5 * k) + (5 : Int32) = nI (5 * (k + 1)) := nI_add (5 * k) 5
    have ck0 : cK h 0 9 = some () := by
      obtain ⟨P, I, B, inc, sl, cd, R, C, A, g, E, ft, gE, rfl, li⟩ := lk
      exact lh_ck0
    rw [lL_law, if_neg (stop_n hL (by omega)), s0, Option.bind_some, s1, s2, s3, s4]
    unfold jn nm
    dsimp only
    rw [s5]
    generalize xs (5 * k) &&& (15 : Int32) = x7
    generalize xs (5 * k + 1) = y1
    generalize xs (5 * k + 2) = y2
    generalize xs (5 * k + 3) = y3
    generalize xs (5 * k + 4) = y4
    clear s0 s1 s2 s3 s4 s5
    by_cases c0 : x7 = 0
    · rw [if_pos c0]
      obtain ⟨v, g1, g2, f1, t1, f2, t2, th, lk2⟩ := op_size hN lk y1 y2
      rw [Option.bind_some, Option.bind_some, bC_ok ⟨by omega, by omega⟩, Option.bind_some]
      dsimp only
      rw [f1, Option.bind_some]
      dsimp only
      rw [Option.bind_some, Option.bind_some, t1, Option.bind_some, f2, Option.bind_some, t2, Option.bind_some, th, Option.bind_some]
      dsimp only
      rw [if_pos rfl]
      exact ih _ _ _ lk2 (by omega) (by omega)
    rw [if_neg c0]
    by_cases c1 : x7 = 1
    · rw [if_pos c1]
      obtain ⟨v, g1, w, g2, f1, t1, f2, t2, th, aj, lk2⟩ := op_put hN lk y1 y2 y3 y4
      rw [Option.bind_some, Option.bind_some, Option.bind_some, Option.bind_some, bC_ok ⟨by omega, by omega⟩, Option.bind_some]
      dsimp only
      rw [f1, Option.bind_some]
      dsimp only
      rw [Option.bind_some, Option.bind_some, Option.bind_some, Option.bind_some, t1, Option.bind_some, f2, Option.bind_some]
      dsimp only
      rw [t2, Option.bind_some, th, Option.bind_some]
      dsimp only
      rw [if_pos rfl]
      by_cases v0 : v = 0
      · rw [if_pos v0, aj v0, Option.bind_some]
        by_cases w0 : w = 0
        · rw [if_pos w0, if_pos w0, if_pos (lg_0 _)]
          exact ih _ _ _ lk2 (by omega) (by omega)
        · rw [if_neg w0, if_neg w0, if_pos (lg_0 _)]
          exact ih _ _ _ lk2 (by omega) (by omega)
      · rw [if_neg v0]
        exact ih _ _ _ lk2 (by omega) (by omega)
    rw [if_neg c1]
    by_cases c2 : x7 = 2
    · rw [if_pos c2]
      obtain ⟨v, g1, w, g2, f1, t1, f2, t2, th, aj, lk2⟩ := op_entry lk y1 y2 y3
      dsimp only at f2
      rw [Option.bind_some, Option.bind_some, Option.bind_some, bC_ok ⟨by omega, by omega⟩, Option.bind_some]
      dsimp only
      rw [f1, Option.bind_some]
      dsimp only
      rw [Option.bind_some, Option.bind_some, Option.bind_some, t1, Option.bind_some, f2, Option.bind_some]
      dsimp only
      rw [t2, Option.bind_some, th, Option.bind_some]
      dsimp only
      rw [if_pos rfl]
      by_cases v0 : v = 0
      · rw [if_pos v0, aj v0, Option.bind_some, if_pos (lg_0 _)]
        exact ih _ _ _ lk2 (by omega) (by omega)
      · rw [if_neg v0]
        exact ih _ _ _ lk2 (by omega) (by omega)
    rw [if_neg c2]
    by_cases c3 : x7 = 3
    · rw [if_pos c3]
      obtain ⟨v, g1, w, g2, f1, t1, f2, t2, th, aj, lk2⟩ := op_make hN lk y1
      dsimp only at f2
      rw [Option.bind_some, bC_ok ⟨by omega, by omega⟩, Option.bind_some]
      dsimp only
      rw [f1, Option.bind_some]
      dsimp only
      rw [Option.bind_some, t1, Option.bind_some, f2, Option.bind_some]
      dsimp only
      rw [t2, Option.bind_some, th, Option.bind_some]
      dsimp only
      rw [if_pos rfl]
      by_cases v0 : v = 0
      · rw [if_pos v0, aj v0, Option.bind_some, if_pos (lg_0 _)]
        exact ih _ _ _ lk2 (by omega) (by omega)
      · rw [if_neg v0]
        exact ih _ _ _ lk2 (by omega) (by omega)
    rw [if_neg c3]
    by_cases c4 : x7 = 4
    · rw [if_pos c4]
      obtain ⟨v, g1, w, g2, f1, t1, f2, t2, th, aj, lk2⟩ := op_deg hN lk y1 y2 y3
      dsimp only at f2
      rw [Option.bind_some, Option.bind_some, Option.bind_some, bC_ok ⟨by omega, by omega⟩, Option.bind_some]
      dsimp only
      rw [f1, Option.bind_some]
      dsimp only
      rw [Option.bind_some, Option.bind_some, Option.bind_some, t1, Option.bind_some, f2, Option.bind_some]
      dsimp only
      rw [t2, Option.bind_some, th, Option.bind_some]
      dsimp only
      rw [if_pos rfl]
      by_cases v0 : v = 0
      · rw [if_pos v0, aj v0, Option.bind_some, if_pos (lg_0 _)]
        exact ih _ _ _ lk2 (by omega) (by omega)
      · rw [if_neg v0]
        exact ih _ _ _ lk2 (by omega) (by omega)
    rw [if_neg c4]
    by_cases c5 : x7 = 5
    · rw [if_pos c5]
      obtain ⟨v, g1, w, g2, f1, t1, f2, t2, th, aj, lk2⟩ := op_at hN lk y1 y2 y3 y4
      dsimp only at f2
      rw [Option.bind_some, Option.bind_some, Option.bind_some, Option.bind_some, bC_ok ⟨by omega, by omega⟩, Option.bind_some]
      dsimp only
      rw [f1, Option.bind_some]
      dsimp only
      rw [Option.bind_some, Option.bind_some, Option.bind_some, Option.bind_some, t1, Option.bind_some, f2, Option.bind_some]
      dsimp only
      rw [t2, Option.bind_some, th, Option.bind_some]
      dsimp only
      rw [if_pos rfl]
      by_cases v0 : v = 0
      · rw [if_pos v0, aj v0, Option.bind_some, if_pos (lg_0 _)]
        exact ih _ _ _ lk2 (by omega) (by omega)
      · rw [if_neg v0]
        exact ih _ _ _ lk2 (by omega) (by omega)
    rw [if_neg c5]
    by_cases c6 : x7 = 6
    · rw [if_pos c6]
      obtain ⟨v, g1, g2, f0, f1, t1, f2, lk2⟩ := op_rank hN lk 
      rw [f0, Option.bind_some, f1, Option.bind_some]
      dsimp only
      rw [t1, Option.bind_some, f2, Option.bind_some]
      dsimp only
      rw [if_pos rfl]
      exact ih _ _ _ lk2 (by omega) (by omega)
    rw [if_neg c6]
    by_cases c7 : x7 = 7
    · rw [if_pos c7]
      obtain ⟨v, g1, w, g2, f1, t1, f2, t2, th, aj, lk2⟩ := op_det hN lk y1
      dsimp only at f2
      rw [Option.bind_some, bC_ok ⟨by omega, by omega⟩, Option.bind_some]
      dsimp only
      rw [f1, Option.bind_some]
      dsimp only
      rw [Option.bind_some, t1, Option.bind_some, f2, Option.bind_some]
      dsimp only
      rw [t2, Option.bind_some, th, Option.bind_some]
      dsimp only
      rw [if_pos rfl]
      by_cases v0 : v = 0
      · rw [if_pos v0, aj v0, Option.bind_some, if_pos (lg_0 _)]
        exact ih _ _ _ lk2 (by omega) (by omega)
      · rw [if_neg v0]
        exact ih _ _ _ lk2 (by omega) (by omega)
    rw [if_neg c7]
    by_cases c8 : x7 = 8
    · rw [if_pos c8]
      obtain ⟨v, g1, w, g2, f1, t1, f2, t2, th, aj, lk2⟩ := op_chr hN lk y1
      dsimp only at f2
      rw [Option.bind_some, bC_ok ⟨by omega, by omega⟩, Option.bind_some]
      dsimp only
      rw [f1, Option.bind_some]
      dsimp only
      rw [Option.bind_some, t1, Option.bind_some, f2, Option.bind_some]
      dsimp only
      rw [t2, Option.bind_some, th, Option.bind_some]
      dsimp only
      rw [if_pos rfl]
      by_cases v0 : v = 0
      · rw [if_pos v0, aj v0, Option.bind_some, if_pos (lg_0 _)]
        exact ih _ _ _ lk2 (by omega) (by omega)
      · rw [if_neg v0]
        exact ih _ _ _ lk2 (by omega) (by omega)
    rw [if_neg c8]
    by_cases c9 : x7 = 9
    · rw [if_pos c9]
      obtain ⟨v, g1, w, g2, f1, t1, f2, t2, th, aj, lk2⟩ := op_min hN lk y1
      dsimp only at f2
      rw [Option.bind_some, bC_ok ⟨by omega, by omega⟩, Option.bind_some]
      dsimp only
      rw [f1, Option.bind_some]
      dsimp only
      rw [Option.bind_some, t1, Option.bind_some, f2, Option.bind_some]
      dsimp only
      rw [t2, Option.bind_some, th, Option.bind_some]
      dsimp only
      rw [if_pos rfl]
      by_cases v0 : v = 0
      · rw [if_pos v0, aj v0, Option.bind_some, if_pos (lg_0 _)]
        exact ih _ _ _ lk2 (by omega) (by omega)
      · rw [if_neg v0]
        exact ih _ _ _ lk2 (by omega) (by omega)
    rw [if_neg c9]
    by_cases c10 : x7 = 10
    · rw [if_pos c10]
      obtain ⟨v, g1, w, g2, f1, t1, f2, t2, th, aj, lk2⟩ := op_root hN lk y1
      dsimp only at f2
      rw [Option.bind_some, bC_ok ⟨by omega, by omega⟩, Option.bind_some]
      dsimp only
      rw [f1, Option.bind_some]
      dsimp only
      rw [Option.bind_some, t1, Option.bind_some, f2, Option.bind_some]
      dsimp only
      rw [t2, Option.bind_some, th, Option.bind_some]
      dsimp only
      rw [if_pos rfl]
      by_cases v0 : v = 0
      · rw [if_pos v0, aj v0, Option.bind_some, if_pos (lg_0 _)]
        exact ih _ _ _ lk2 (by omega) (by omega)
      · rw [if_neg v0]
        exact ih _ _ _ lk2 (by omega) (by omega)
    rw [if_neg c10]
    by_cases c11 : x7 = 11
    · rw [if_pos c11]
      obtain ⟨v, g1, w, g2, f1, t1, f2, t2, th, aj, lk2⟩ := op_blocks hN lk y1 y2
      dsimp only at f2
      rw [Option.bind_some, Option.bind_some, bC_ok ⟨by omega, by omega⟩, Option.bind_some]
      dsimp only
      rw [f1, Option.bind_some]
      dsimp only
      rw [Option.bind_some, Option.bind_some, t1, Option.bind_some, f2, Option.bind_some]
      dsimp only
      rw [t2, Option.bind_some, th, Option.bind_some]
      dsimp only
      rw [if_pos rfl]
      by_cases v0 : v = 0
      · rw [if_pos v0, aj v0, Option.bind_some, if_pos (lg_0 _)]
        exact ih _ _ _ lk2 (by omega) (by omega)
      · rw [if_neg v0]
        exact ih _ _ _ lk2 (by omega) (by omega)
    rw [if_neg c11]
    by_cases c12 : x7 = 12
    · rw [if_pos c12]
      obtain ⟨v, g1, g2, f0, f1, t1, f2, lk2⟩ := op_count hN lk y1
      rw [Option.bind_some, f0, Option.bind_some, f1, Option.bind_some]
      dsimp only
      rw [Option.bind_some, t1, Option.bind_some, f2, Option.bind_some]
      dsimp only
      rw [if_pos rfl]
      exact ih _ _ _ lk2 (by omega) (by omega)
    rw [if_neg c12]
    exact ih _ _ _ lk (by omega) (by omega)
end LAW
theorem lk_0 : LK (LH (fun _ => pC 0) (fun _ => 0) (fun _ _ => 0) 498 sl00 0 0 0 (fun _ _ => 0) (fun _ => 0)) := by
  have z0 : sz (pC 0) = 0 := sz_z
  refine ⟨_, _, _, _, _, _, 0, 0, _, _, fun _ _ => pC 0, fun _ => 0, fun a => if a = 4 then 498 else 455 + 10 * a, rfl, ⟨fun a _ => by show sz (pC 0) ≤ _; rw [z0]; exact Nat.zero_le _, ⟨rfl, fun a ha => ?_, fun a ha => ?_, fun a b ha hb e => ?_⟩, by omega, by omega, rfl, rfl⟩, ⟨fun _ _ _ _ => rfl, fun _ _ => by show sz (pC 0) ≤ 4; rw [z0]; omega, fun i j hi hj t ht => ?_, fun _ _ _ _ _ => rfl⟩, ⟨by show sz (pC 0) ≤ 1; rw [z0]; omega, by show sz (pC 0) ≤ 1; rw [z0]; omega, by show sz (pC 0) ≤ 2; rw [z0]; omega, by show sz (pC 0) ≤ 2; rw [z0]; omega⟩, ⟨Or.inl rfl, fun _ => Or.inl rfl, fun _ => Or.inl rfl⟩, fun f _ => ⟨rfl, show (0 : Nat) < 2 by omega⟩, fun f _ => ⟨rfl, show (0 : Nat) < 2 by omega⟩, fun z => absurd z (show ¬ (0 : Nat) = 1 by decide), fun f i j _ z => absurd z (show ¬ (0 : Nat) = 1 by decide)⟩
  · show sl00 a = some (if a = 4 then 498 else 455 + 10 * a)
    unfold sl00
    rw [if_pos ha, if_neg (by omega)]
  · dsimp only
    by_cases q : a = 4
    · rw [if_pos q]; omega
    · rw [if_neg q]; omega
  · dsimp only at e
    by_cases q : a = 4
    · by_cases q2 : b = 4
      · omega
      · rw [if_pos q, if_neg q2] at e; omega
    · by_cases q2 : b = 4
      · rw [if_neg q, if_pos q2] at e; omega
      · rw [if_neg q, if_neg q2] at e; omega
  · rw [vl_C0]
    rfl
/-- the law says 1 -/
theorem pure_law (xs : Nat → Int32) (L : Nat) (hL : L ≤ 2560) : ∃ N, pL N xs L = some (1 : Int32) := by
  refine ⟨33000, ?_⟩
  rw [first_h (by omega)]
  exact law_l (N := 33000) (by omega) hL 513 33000 0 600359 7261037 _ (by omega) (by omega) (by omega) (by omega) (by omega) lk_0
