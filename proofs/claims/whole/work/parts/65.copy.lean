theorem imn_dI {s l : Nat} (hs : s < 2 ^ 29) (hl : l < 2 ^ 29) : imn (dI s) (nI l - 1) = dI (min s l) := by
  show imn (dI s) (dI l) = _
  unfold imn
  by_cases q : l < s
  · rw [if_pos (by rw [Int32.lt_iff_toInt_lt, dI_toInt (by omega), dI_toInt (by omega)]; omega), show min s l = l by omega]
  · rw [if_neg (by rw [Int32.lt_iff_toInt_lt, dI_toInt (by omega), dI_toInt (by omega)]; omega), show min s l = s by omega]
/-- copyFrom's loop: the places i .. t - 1 of b's row into a's -/
theorem copy_l {N a b la lb s t : Nat} {cb : Nat → Nat} (hab : a ≠ b) : ∀ (n i : Nat) (h : Hp) (f : Nat → Int32), RW h a la s f → PA h b lb cb → t ≤ la → t ≤ lb → i ≤ t → t - i < n → ∃ h' f', (∀ κ, lX4_copyFrom_21 N a b (dI t) n (nI i) h κ = κ (nI t) h') ∧ RW h' a la s f' ∧ PA h' b lb cb ∧ fr2 h h' a ∧ ∀ j, f' j = if i ≤ j ∧ j < t then nI (cb j) else f j
  | 0, i, h, f, _, _, _, _, _, hn => absurd hn (Nat.not_lt_zero _)
  | n + 1, i, h, f, w, wb, hta, htb, hi, hn => by
    have hlen := w.2.2.1
    have hlb := wb.lt
    by_cases he : i = t
    · subst he
      refine ⟨h, f, fun κ => ?_, w, wb, fr2.rf, fun j => by rw [if_neg (by omega)]⟩
      rw [lX4_copyFrom_21, if_pos ((dI_lt_nI (by omega) (by omega)).mpr (Nat.le_refl _))]
    · obtain ⟨h1, e1, w1, r1⟩ := w.put (j := i) (by omega) (nI (cb i))
      have ha2 : a ≠ b + 1 ∧ a + 1 ≠ b := by
        obtain ⟨g, g1, g2, -⟩ := wb
        refine ⟨fun q => ?_, fun q => ?_⟩
        · have h1 := w.1; rw [q, g2] at h1; cases h1
        · have h2 := w.2.1; rw [q, g1] at h2; cases h2
      have wb1 : PA h1 b lb cb := wb.keep (r1 b (Ne.symm hab) (Ne.symm ha2.2)) (r1 (b + 1) (Ne.symm ha2.1) (by omega))
      obtain ⟨h', f', g1, g2, g3, g4, g5⟩ := copy_l hab n (i + 1) h1 _ w1 wb1 hta htb (by omega) (by omega)
      refine ⟨h', f', fun κ => ?_, g2, g3, r1.tr g4, fun j => ?_⟩
      · rw [lX4_copyFrom_21, if_neg (fun q => by have := (dI_lt_nI (by omega) (by omega)).mp q; omega), w.row]
        show (gR h b 6 0).bind _ = _
        rw [wb.row]
        show (aI h (b + 1) (nI i)).bind _ = _
        rw [wb.at (by omega)]
        show (aIs h (a + 1) (nI i) (nI (cb i))).bind _ = _
        rw [e1]
        show lX4_copyFrom_21 N a b (dI t) n (nI i + 1) h1 κ = _
        rw [nI_1]
        exact g1 κ
      · rw [g5 j]
        unfold upd
        by_cases q : j = i
        · subst q; rw [if_neg (by omega), if_pos rfl, if_pos (by omega)]
        · rw [if_neg q]
          by_cases q2 : i + 1 ≤ j ∧ j < t
          · rw [if_pos q2, if_pos (by omega)]
          · rw [if_neg q2, if_neg (by omega)]
/-- copyFrom: b's coefficients, as far as there is room -/
theorem copyFrom_s {N : Nat} (hN : 1000 ≤ N) {h : Hp} {a b la lb : Nat} {ca cb : Nat → Nat} (wa : PA h a la ca) (wb : PA h b lb cb) (hab : a ≠ b) : ∃ h', fX4_copyFrom N a b h = some h' ∧ PA h' a la (fun j => if j < la then cb j else 0) ∧ PA h' b lb cb ∧ fr2 h h' a := by
  obtain ⟨h1, e1, w1, r1⟩ := clear_s hN wa
  have ap := wa.apart wb hab
  have wb1 : PA h1 b lb cb := wb.keep (r1 b (Ne.symm hab) (Ne.symm ap.2)) (r1 (b + 1) (Ne.symm ap.1) (by omega))
  have hla := wa.lt
  have hlb := wb.lt
  have hd := dgs_le cb lb
  obtain ⟨f, wr, hf⟩ := w1.raw
  obtain ⟨h2, f2, g1, g2, g3, g4, g5⟩ := copy_l (N := N) (t := min (dgs cb lb) la) hab N 0 h1 f wr wb1 (by omega) (by omega) (Nat.zero_le _) (by omega)
  obtain ⟨h3, e3, w3, r3⟩ := findD_s hN (c := fun j => if j < la then cb j else 0) (t := min (dgs cb lb) la) g2 (by omega) (fun j => by
    rw [g5 j]
    by_cases q : j < dgs cb lb ∧ j < la
    · rw [if_pos (by omega), if_pos q.2]
    · rw [if_neg (by omega), hf j]
      by_cases q2 : j < la
      · rw [if_pos q2, wb.hi (by omega)]
      · rw [if_neg q2]) (fun j => by
      show (if j < la then cb j else 0) < 32003
      split
      · exact wb.bd j
      · decide) (fun j hj => by
      show (if j < la then cb j else 0) = 0
      split
      · exact wb.hi (by omega)
      · rfl)
  refine ⟨h3, ?_, w3, g3.keep (r3 b (Ne.symm hab) (Ne.symm ap.2)) (r3 (b + 1) (Ne.symm ap.1) (by omega)), (r1.tr g4).tr r3⟩
  unfold fX4_copyFrom
  rw [wa.ck]
  show (fX4_clear N a h).bind _ = _
  rw [e1]
  show (gI h1 b 6 1).bind _ = _
  rw [wb1.deg]
  show (gR h1 a 6 0).bind _ = _
  rw [w1.row]
  show (aLen h1 (a + 1) 0).bind _ = _
  rw [w1.alen]
  show lX4_copyFrom_21 N a b (imn (dI (dgs cb lb)) (nI la - 1)) N (nI 0) h1 _ = _
  rw [imn_dI (by omega) (by omega), g1]
  show (cK h2 a 6).bind _ = _
  rw [g2.ck]
  show (fX4_findDegree N a (dI (min (dgs cb lb) la)) h2).bind _ = _
  rw [e3]
  rfl
