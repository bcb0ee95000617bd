theorem last_dI {s la i : Nat} (hs : s < 2 ^ 20) (hla : la < 2 ^ 20) (hi : i ≤ la) : imn (dI s) ((nI la - (1 : Int32)) - nI i) = dI (min s (la - i)) := by
  have e : (nI la - (1 : Int32)) - nI i = dI (la - i) := by
    apply Int32.toInt_inj.mp
    rw [dI_toInt (by omega)]
    by_cases q : la = 0
    · subst q; rw [show i = 0 by omega]; decide
    · have e1 : nI la - (1 : Int32) = nI (la - 1) := pk_sub (a := la) (b := 1) (by omega)
      rw [e1, pk_sub_toInt (by omega) (by omega)]
      omega
  rw [e]
  unfold imn
  by_cases q : la - i < s
  · rw [if_pos (by rw [Int32.lt_iff_toInt_lt, dI_toInt (by omega), dI_toInt (by omega)]; omega), show min s (la - i) = la - i by omega]
  · rw [if_neg (by rw [Int32.lt_iff_toInt_lt, dI_toInt (by omega), dI_toInt (by omega)]; omega), show min s (la - i) = s by omega]
/-- one step of a product: i's coefficient times the other, put on at i -/
def apS (la k : Nat) (cb cd : Nat → Nat) (i : Nat) (c : Nat → Nat) : Nat → Nat := fun x => if i ≤ x ∧ x < la then (c x + cb i * k % 32003 * cd (x - i)) % 32003 else c x
def apR (la k : Nat) (cb cd : Nat → Nat) : Nat → Nat → (Nat → Nat) → Nat → Nat
  | 0, _, c => c
  | n + 1, i, c => apR la k cb cd n (i + 1) (apS la k cb cd i c)
theorem addp_out {N a b d la lb ld s k : Nat} {cb cd : Nat → Nat} (hab : a ≠ b) (had : a ≠ d) (hk : k < 32003) (hN : 1000 ≤ N) (hsb : dgs cb lb ≤ la) : ∀ (n i : Nat) (h : Hp) (f : Nat → Int32) (c : Nat → Nat), RW h a la s f → PA h b lb cb → PA h d ld cd → (∀ x, f x = nI (c x)) → (∀ x, c x < 32003) → i ≤ dgs cb lb → dgs cb lb - i < n → ∃ (h' : Hp) (f' : Nat → Int32), (∀ κ, lX4_addProduct_3 N a (nI k) b d n (nI i) h κ = κ (nI (dgs cb lb)) h') ∧ RW h' a la s f' ∧ fr2 h h' a ∧ (∀ x, f' x = nI (apR la k cb cd (dgs cb lb - i) i c x)) ∧ ∀ x, apR la k cb cd (dgs cb lb - i) i c x < 32003
  | 0, i, h, f, c, _, _, _, _, _, _, hn => absurd hn (Nat.not_lt_zero _)
  | n + 1, i, h, f, c, w, wb, wd, hf, hc, hi, hn => by
    have hla := w.2.2.1
    have hlb := wb.lt
    have hld := wd.lt
    have hdb := dgs_le cb lb
    have hdd := dgs_le cd ld
    by_cases he : i = dgs cb lb
    · refine ⟨h, f, fun κ => ?_, w, fr2.rf, ?_, ?_⟩
      · rw [lX4_addProduct_3, wb.deg]
        show (if dI (dgs cb lb) < nI i then _ else _) = _
        rw [if_pos ((dI_lt_nI (by omega) (by omega)).mpr (by omega)), he]
      · rw [he, Nat.sub_self]; exact hf
      · rw [he, Nat.sub_self]; exact hc
    · obtain ⟨h1, f1, c1, g1, g2, g3, g4, g5⟩ := addp_in (N := N) (b := b) (k := nI k) (t := min (dgs cd ld) (la - i)) (i := i) had (Nat.mod_lt (cb i * k) (by decide : 0 < 32003)) (by omega) (by omega) N 0 h f c w wd hf hc (Nat.zero_le _) (by omega)
      have ec : c1 = apS la k cb cd i c := by
        funext x
        rw [g5 x]
        unfold apS
        by_cases q : i ≤ x ∧ x < la
        · rw [if_pos q]
          by_cases q2 : x < i + min (dgs cd ld) (la - i)
          · rw [if_pos (by omega)]
          · rw [if_neg (by omega), wd.hi (by omega), Nat.mul_zero, Nat.add_zero, Nat.mod_eq_of_lt (hc x)]
        · rw [if_neg q, if_neg (by omega)]
      rw [ec] at g3
      have hc1 : ∀ x, apS la k cb cd i c x < 32003 := fun x => by
        unfold apS
        split
        · exact Nat.mod_lt _ (by decide)
        · exact hc x
      obtain ⟨h', f', k1, k2, k3, k4, k5⟩ := addp_out hab had hk hN hsb n (i + 1) h1 f1 _ g2 (wb.off w hab g4) (wd.off w had g4) g3 hc1 (by omega) (by omega)
      have es : dgs cb lb - i = (dgs cb lb - (i + 1)) + 1 := by omega
      refine ⟨h', f', fun κ => ?_, k2, g4.tr k3, ?_, ?_⟩
      · rw [lX4_addProduct_3, wb.deg]
        show (if dI (dgs cb lb) < nI i then _ else _) = _
        rw [if_neg (fun q => by have := (dI_lt_nI (by omega) (by omega)).mp q; omega), wb.row]
        show (aI h (b + 1) (nI i)).bind _ = _
        rw [wb.at (by omega)]
        unfold nm
        show (gI h d 6 1).bind _ = _
        rw [wd.deg]
        show (gR h a 6 0).bind _ = _
        rw [w.row]
        show (aLen h (a + 1) 0).bind _ = _
        rw [w.alen]
        show lX4_addProduct_49 N a (nI k) b d (nI i) (irm (nI (cb i) * nI k) (32003 : Int32)) (imn (dI (dgs cd ld)) ((nI la - (1 : Int32)) - nI i)) N (nI 0) h _ = _
        rw [mul_mod_nI (wb.bd i) hk, last_dI (by omega) (by omega) (by omega), g1]
        show lX4_addProduct_3 N a (nI k) b d n (nI i + 1) h1 κ = _
        rw [nI_1]
        exact k1 κ
      · rw [es]; exact k4
      · rw [es]; exact k5
