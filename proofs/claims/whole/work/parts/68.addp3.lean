theorem apR_0 {la k sd : Nat} {cb cd : Nat → Nat} (hd : ∀ y, sd ≤ y → cd y = 0) : ∀ (n i : Nat) (c : Nat → Nat) (x : Nat), (∀ x, c x < 32003) → c x = 0 → i + n + sd ≤ x + 1 → apR la k cb cd n i c x = 0
  | 0, i, c, x, _, hx, _ => hx
  | n + 1, i, c, x, hc, hx, h => by
    unfold apR
    refine apR_0 hd n (i + 1) _ x (fun y => ?_) ?_ (by omega)
    · unfold apS
      split
      · exact Nat.mod_lt _ (by decide)
      · exact hc y
    · unfold apS
      split
      · rw [hx, hd _ (by omega), Nat.mul_zero]
      · exact hx
theorem imx_sum {s sb sd : Nat} (h1 : s < 2 ^ 20) (h2 : sb < 2 ^ 20) (h3 : sd < 2 ^ 20) : imx (dI s) (dI sb + dI sd) = dI (max s (sb + sd - 1)) := by
  have e : (dI sb + dI sd).toInt = (sb : Int) + sd - 2 := by
    rw [Int32.toInt_add, dI_toInt (by omega), dI_toInt (by omega)]
    rw [show ((sb : Int) - 1 + ((sd : Int) - 1)) = (sb : Int) + sd - 2 by omega]
    exact Int.bmod_eq_of_le (by omega) (by omega)
  unfold imx
  by_cases q : s < sb + sd - 1
  · rw [if_pos (by rw [Int32.lt_iff_toInt_lt, dI_toInt (by omega), e]; omega), show max s (sb + sd - 1) = sb + sd - 1 by omega]
    apply Int32.toInt_inj.mp
    rw [e, dI_toInt (by omega)]; omega
  · rw [if_neg (by rw [Int32.lt_iff_toInt_lt, dI_toInt (by omega), e]; omega), show max s (sb + sd - 1) = s by omega]
/-- addProduct: factor times one times other is put on -/
theorem addProduct_s {N : Nat} (hN : 1000 ≤ N) {h : Hp} {a b d la lb ld k : Nat} {ca cb cd : Nat → Nat} (wa : PA h a la ca) (wb : PA h b lb cb) (wd : PA h d ld cd) (hab : a ≠ b) (had : a ≠ d) (hk : k < 32003) (hsb : dgs cb lb ≤ la) : ∃ h', fX4_addProduct N a (nI k) b d h = some h' ∧ PA h' a la (apR la k cb cd (dgs cb lb) 0 ca) ∧ fr2 h h' a := by
  obtain ⟨f, w, hf⟩ := wa.raw
  have hla := wa.lt
  have hlb := wb.lt
  have hld := wd.lt
  have hda := dgs_le ca la
  have hdb := dgs_le cb lb
  have hdd := dgs_le cd ld
  obtain ⟨h1, f1, g1, g2, g3, g4, g5⟩ := addp_out (N := N) hab had hk hN hsb N 0 h f ca w wb wd hf wa.bd (Nat.zero_le _) (by omega)
  rw [Nat.sub_zero] at g4 g5
  have wb1 := wb.off w hab g3
  have wd1 := wd.off w had g3
  obtain ⟨h2, e2, w2, r2⟩ := findD_s hN (c := apR la k cb cd (dgs cb lb) 0 ca) (t := min (max (dgs ca la) (dgs cb lb + dgs cd ld - 1)) la) g2 (by omega) g4 g5 (fun j hj => by
    by_cases q : j < la
    · exact apR_0 (sd := dgs cd ld) (fun y hy => wd.hi hy) _ _ _ _ wa.bd (wa.hi (by omega)) (by omega)
    · have : ∀ (n i : Nat) (c : Nat → Nat), c j = 0 → apR la k cb cd n i c j = 0 := by
        intro n
        induction n with
        | zero => exact fun i c hc => hc
        | succ n ih => intro i c hc; unfold apR; exact ih _ _ (by unfold apS; rw [if_neg (by omega)]; exact hc)
      exact this _ _ _ (wa.hi (by omega)))
  refine ⟨h2, ?_, w2, g3.tr r2⟩
  unfold fX4_addProduct
  rw [show (0 : Int32) = nI 0 from rfl, g1, g2.deg]
  show (gI h1 b 6 1).bind _ = _
  rw [wb1.deg]
  show (gI h1 d 6 1).bind _ = _
  rw [wd1.deg]
  show (gR h1 a 6 0).bind _ = _
  rw [g2.row]
  show (aLen h1 (a + 1) 0).bind _ = _
  rw [g2.alen]
  show (cK h1 a 6).bind _ = _
  rw [g2.ck]
  show (fX4_findDegree N a (imn (imx (dI (dgs ca la)) (dI (dgs cb lb) + dI (dgs cd ld))) (nI la - 1)) h1).bind _ = _
  rw [imx_sum (by omega) (by omega) (by omega), imn_dI (by omega) (by omega), e2]
  rfl
