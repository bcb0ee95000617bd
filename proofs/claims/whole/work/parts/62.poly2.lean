/-- multiply's loop -/
theorem mult_l {N a len s k : Nat} {c : Nat → Nat} (hk : k < 32003) (hc : ∀ j, c j < 32003) : ∀ (n i : Nat) (h : Hp) (f : Nat → Int32), RW h a len s f → (∀ j, f j = nI (if j < i then c j * k % 32003 else c j)) → i ≤ s → s - i < n → ∃ h' f', (∀ κ, lX4_multiply_2 N a (nI k) n (nI i) h κ = κ (nI s) h') ∧ RW h' a len s f' ∧ fr2 h h' a ∧ ∀ j, f' j = nI (if j < s then c j * k % 32003 else c j)
  | 0, i, h, f, _, _, _, hn => absurd hn (Nat.not_lt_zero _)
  | n + 1, i, h, f, w, hf, hi, hn => by
    have hlen := w.2.2.1
    have hsl := w.2.2.2
    by_cases he : i = s
    · subst he
      refine ⟨h, f, fun κ => ?_, w, fr2.rf, hf⟩
      rw [lX4_multiply_2, w.deg]
      show (if dI i < nI i then _ else _) = _
      rw [if_pos ((dI_lt_nI (by omega) (by omega)).mpr (Nat.le_refl _))]
    · obtain ⟨h1, e1, w1, r1⟩ := w.put (j := i) (by omega) (nI (c i * k % 32003))
      obtain ⟨h', f', g1, g2, g3, g4⟩ := mult_l hk hc n (i + 1) h1 _ w1 (fun j => by
        unfold upd
        by_cases q : j = i
        · subst q; rw [if_pos rfl, if_pos (by omega)]
        · rw [if_neg q, hf j]
          by_cases q2 : j < i
          · rw [if_pos q2, if_pos (by omega)]
          · rw [if_neg q2, if_neg (by omega)]) (by omega) (by omega)
      refine ⟨h', f', fun κ => ?_, g2, r1.tr g3, g4⟩
      rw [lX4_multiply_2, w.deg]
      show (if dI s < nI i then _ else _) = _
      rw [if_neg (fun q => by have := (dI_lt_nI (by omega) (by omega)).mp q; omega), w.row]
      show (aI h (a + 1) (nI i)).bind _ = _
      rw [w.at (by omega), hf i, if_neg (by omega)]
      show (aIs h (a + 1) (nI i) (irm (nI (c i) * nI k) (32003 : Int32))).bind _ = _
      rw [mul_mod_nI (hc i) hk, e1]
      show lX4_multiply_2 N a (nI k) n (nI i + 1) h1 κ = _
      rw [nI_1]
      exact g1 κ
theorem dgs_same {c d : Nat → Nat} : ∀ n, (∀ j, j < n → (c j = 0 ↔ d j = 0)) → dgs c n = dgs d n
  | 0, _ => rfl
  | n + 1, h => by
    unfold dgs
    by_cases q : c n = 0
    · rw [if_pos q, if_pos ((h n (Nat.lt_succ_self n)).mp q)]
      exact dgs_same n (fun j hj => h j (by omega))
    · rw [if_neg q, if_neg (fun z => q ((h n (Nat.lt_succ_self n)).mpr z))]
/-- multiply by a number that takes nothing to 0 -/
theorem mult_s {N : Nat} (hN : 1000 ≤ N) {h : Hp} {a len k : Nat} {c : Nat → Nat} (w : PA h a len c) (hk : k < 32003) (hne : ∀ x, x < 32003 → x ≠ 0 → x * k % 32003 ≠ 0) : ∃ h', fX4_multiply N a (nI k) h = some h' ∧ PA h' a len (fun j => c j * k % 32003) ∧ fr2 h h' a := by
  obtain ⟨f, w1, hf⟩ := w.raw
  have hl := w.lt
  have hd := dgs_le c len
  obtain ⟨h1, f1, g1, g2, g3, g4⟩ := mult_l (N := N) hk w.bd N 0 h f w1 (fun j => by rw [if_neg (by omega)]; exact hf j) (Nat.zero_le _) (by omega)
  refine ⟨h1, ?_, g2.pa (fun j => ?_) (dgs_same len (fun j _ => ?_)) (fun j => Nat.mod_lt _ (by decide)) (fun j hj => ?_), g3⟩
  · unfold fX4_multiply
    rw [show (0 : Int32) = nI 0 from rfl, g1]
  · rw [g4 j]
    by_cases q : j < dgs c len
    · rw [if_pos q]
    · rw [if_neg q, w.hi (Nat.le_of_not_lt q), Nat.zero_mul]
  · constructor
    · intro q; rw [q, Nat.zero_mul]
    · intro q
      by_cases z : c j = 0
      · exact z
      · exact absurd q (hne _ (w.bd j) z)
  · rw [w.hi (by omega), Nat.zero_mul]
