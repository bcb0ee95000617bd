theorem RW.apart {h : Hp} {a b la lb s : Nat} {f : Nat → Int32} {cb : Nat → Nat} (w : RW h a la s f) (wb : PA h b lb cb) : a ≠ b + 1 ∧ a + 1 ≠ b := by
  obtain ⟨g, g1, g2, -⟩ := wb
  refine ⟨fun q => ?_, fun q => ?_⟩
  · have h1 := w.1; rw [q, g2] at h1; cases h1
  · have h2 := w.2.1; rw [q, g1] at h2; cases h2
theorem PA.off {h h' : Hp} {a b la lb s : Nat} {f : Nat → Int32} {cb : Nat → Nat} (wb : PA h b lb cb) (w : RW h a la s f) (hab : a ≠ b) (r : fr2 h h' a) : PA h' b lb cb := by
  have ap := w.apart wb
  exact wb.keep (r b (Ne.symm hab) (Ne.symm ap.2)) (r (b + 1) (Ne.symm ap.1) (by omega))
/-- addProduct's inner loop -/
theorem addp_in {N a b d la ld s i num t : Nat} {k : Int32} {cd : Nat → Nat} (had : a ≠ d) (hnum : num < 32003) (hit : i + t ≤ la) (htd : t ≤ ld) : ∀ (n j : Nat) (h : Hp) (f : Nat → Int32) (c : Nat → Nat), RW h a la s f → PA h d ld cd → (∀ x, f x = nI (c x)) → (∀ x, c x < 32003) → j ≤ t → t - j < n → ∃ (h' : Hp) (f' : Nat → Int32) (c' : Nat → Nat), (∀ κ, lX4_addProduct_49 N a k b d (nI i) (nI num) (dI t) n (nI j) h κ = κ (nI t) h') ∧ RW h' a la s f' ∧ (∀ x, f' x = nI (c' x)) ∧ fr2 h h' a ∧ ∀ x, c' x = if i + j ≤ x ∧ x < i + t then (c x + num * cd (x - i)) % 32003 else c x
  | 0, j, h, f, c, _, _, _, _, _, hn => absurd hn (Nat.not_lt_zero _)
  | n + 1, j, h, f, c, w, wd, hf, hc, hj, hn => by
    have hla := w.2.2.1
    have hld := wd.lt
    by_cases he : j = t
    · subst he
      refine ⟨h, f, c, fun κ => ?_, w, hf, fr2.rf, fun x => by rw [if_neg (by omega)]⟩
      rw [lX4_addProduct_49, if_pos ((dI_lt_nI (by omega) (by omega)).mpr (Nat.le_refl _))]
    · obtain ⟨h1, e1, w1, r1⟩ := w.put (j := i + j) (by omega) (nI ((c (i + j) + num * cd j) % 32003))
      have wd1 := wd.off w had r1
      obtain ⟨h', f', c', g1, g2, g3, g4, g5⟩ := addp_in had hnum hit htd n (j + 1) h1 _ (updN c (i + j) ((c (i + j) + num * cd j) % 32003)) w1 wd1 (fun x => by
        unfold upd updN
        by_cases q : x = i + j
        · rw [if_pos q, if_pos q]
        · rw [if_neg q, if_neg q]; exact hf x) (fun x => by
        unfold updN
        split
        · exact Nat.mod_lt _ (by decide)
        · exact hc x) (by omega) (by omega)
      refine ⟨h', f', c', fun κ => ?_, g2, g3, r1.tr g4, fun x => ?_⟩
      · rw [lX4_addProduct_49, if_neg (fun q => by have := (dI_lt_nI (by omega) (by omega)).mp q; omega), w.row]
        show (aI h (a + 1) (nI i + nI j)).bind _ = _
        rw [nI_add, w.at (by omega), hf _]
        show (gR h d 6 0).bind _ = _
        rw [wd.row]
        show (aI h (d + 1) (nI j)).bind _ = _
        rw [wd.at (by omega)]
        show (aIs h (a + 1) (nI (i + j)) (irm (nI (c (i + j)) + nI num * nI (cd j)) (32003 : Int32))).bind _ = _
        rw [mad_mod_nI (hc _) (by omega) (wd.bd j), e1]
        show lX4_addProduct_49 N a k b d (nI i) (nI num) (dI t) n (nI j + 1) h1 κ = _
        rw [nI_1]
        exact g1 κ
      · rw [g5 x]
        unfold updN
        by_cases q : x = i + j
        · subst q
          rw [if_neg (by omega), if_pos rfl, if_pos (by omega), Nat.add_sub_cancel_left]
        · rw [if_neg q]
          by_cases q2 : i + (j + 1) ≤ x ∧ x < i + t
          · rw [if_pos q2, if_pos (by omega)]
          · rw [if_neg q2, if_neg (by omega)]
