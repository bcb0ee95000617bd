/-! a Polynomial's cells while a method works on them: the field degree is dI s, the row holds f -/
def RW (h : Hp) (a len s : Nat) (f : Nat → Int32) : Prop := h a = some (.inr (6, [.ref (a + 1), .int (dI s)])) ∧ h (a + 1) = some (.inl (0, len, .inl f)) ∧ len < 1000 ∧ s ≤ len
def fr2 (h h' : Hp) (a : Nat) : Prop := ∀ x, x ≠ a → x ≠ a + 1 → h' x = h x
theorem fr2.rf {h : Hp} {a : Nat} : fr2 h h a := fun _ _ _ => rfl
theorem fr2.tr {h h1 h2 : Hp} {a : Nat} (p : fr2 h h1 a) (q : fr2 h1 h2 a) : fr2 h h2 a := fun x u v => (q x u v).trans (p x u v)
theorem RW.deg {h : Hp} {a len s : Nat} {f : Nat → Int32} (w : RW h a len s f) : gI h a 6 1 = some (dI s) := gI_of w.1 rfl
theorem RW.row {h : Hp} {a len s : Nat} {f : Nat → Int32} (w : RW h a len s f) : gR h a 6 0 = some (a + 1) := gR_of w.1 rfl
theorem RW.ck {h : Hp} {a len s : Nat} {f : Nat → Int32} (w : RW h a len s f) : cK h a 6 = some () := cK_of w.1
theorem RW.at {h : Hp} {a len s j : Nat} {f : Nat → Int32} (w : RW h a len s f) (hj : j < len) : aI h (a + 1) (nI j) = some (f j) := aI_of w.2.1 hj (by have := w.2.2.1; omega)
theorem RW.alen {h : Hp} {a len s : Nat} {f : Nat → Int32} (w : RW h a len s f) : aLen h (a + 1) 0 = some (nI len) := aLen_of w.2.1
theorem RW.put {h : Hp} {a len s j : Nat} {f : Nat → Int32} (w : RW h a len s f) (hj : j < len) (x : Int32) : ∃ h', aIs h (a + 1) (nI j) x = some h' ∧ RW h' a len s (upd f j x) ∧ fr2 h h' a := by
  refine ⟨_, aIs_of w.2.1 hj (by have := w.2.2.1; omega), ⟨?_, hset_self _ _ _, w.2.2⟩, fun y u v => hset_ne _ _ v⟩
  rw [hset_ne _ _ (by omega)]; exact w.1
theorem RW.setd {h : Hp} {a len s : Nat} {f : Nat → Int32} (w : RW h a len s f) {t : Nat} (ht : t ≤ len) : ∃ h', pV h a 6 1 (.int (dI t)) = some h' ∧ RW h' a len t f ∧ fr2 h h' a := by
  refine ⟨_, pV_of w.1 (by simp), ⟨hset_self _ _ _, ?_, w.2.2.1, ht⟩, fun y u v => hset_ne _ _ u⟩
  rw [hset_ne _ _ (by omega)]; exact w.2.1
theorem PA.raw {h : Hp} {a len : Nat} {c : Nat → Nat} (w : PA h a len c) : ∃ f, RW h a len (dgs c len) f ∧ ∀ j, f j = nI (c j) := by
  obtain ⟨f, h1, h2, h3, h4, h5, h6⟩ := w
  exact ⟨f, ⟨h1, h2, h6, dgs_le c len⟩, h3⟩
theorem RW.pa {h : Hp} {a len s : Nat} {f : Nat → Int32} {c : Nat → Nat} (w : RW h a len s f) (hf : ∀ j, f j = nI (c j)) (hs : s = dgs c len) (hb : ∀ j, c j < 32003) (hz : ∀ j, len ≤ j → c j = 0) : PA h a len c := ⟨f, by rw [← hs]; exact w.1, w.2.1, hf, hb, hz, w.2.2.1⟩
/-- clear's loop -/
theorem clear_l {N a len s : Nat} : ∀ (n i : Nat) (h : Hp) (f : Nat → Int32), RW h a len s f → i ≤ s → s - i < n → ∃ h' f', (∀ κ, lX4_clear_2 N a n (nI i) h κ = κ (nI s) h') ∧ RW h' a len s f' ∧ fr2 h h' a ∧ ∀ j, f' j = if i ≤ j ∧ j < s then 0 else f j
  | 0, i, h, f, _, _, hn => absurd hn (Nat.not_lt_zero _)
  | n + 1, i, h, f, w, hi, hn => by
    have hlen := w.2.2.1
    have hsl := w.2.2.2
    by_cases he : i = s
    · subst he
      refine ⟨h, f, fun κ => ?_, w, fr2.rf, fun j => by rw [if_neg (by omega)]⟩
      rw [lX4_clear_2, w.deg]
      show (if dI i < nI i then _ else _) = _
      rw [if_pos ((dI_lt_nI (by omega) (by omega)).mpr (Nat.le_refl _))]
    · obtain ⟨h1, e1, w1, r1⟩ := w.put (j := i) (by omega) 0
      obtain ⟨h', f', g1, g2, g3, g4⟩ := clear_l n (i + 1) h1 _ w1 (by omega) (by omega)
      refine ⟨h', f', fun κ => ?_, g2, r1.tr g3, fun j => ?_⟩
      · rw [lX4_clear_2, w.deg]
        show (if dI s < nI i then _ else _) = _
        rw [if_neg (fun q => by have := (dI_lt_nI (by omega) (by omega)).mp q; omega), w.row]
        show (aIs h (a + 1) (nI i) 0).bind _ = _
        rw [e1]
        show lX4_clear_2 N a n (nI i + 1) h1 κ = _
        rw [nI_1]
        exact g1 κ
      · rw [g4 j]
        unfold upd
        by_cases q : j = i
        · subst q; rw [if_neg (by omega), if_pos rfl, if_pos (by omega)]
        · rw [if_neg q]
          by_cases q2 : i + 1 ≤ j ∧ j < s
          · rw [if_pos q2, if_pos (by omega)]
          · rw [if_neg q2, if_neg (by omega)]
theorem dgs_0 : ∀ n, dgs (fun _ => 0) n = 0
  | 0 => rfl
  | n + 1 => by unfold dgs; rw [if_pos rfl]; exact dgs_0 n
/-- clear: all coefficients 0 -/
theorem clear_s {N : Nat} (hN : 1000 ≤ N) {h : Hp} {a len : Nat} {c : Nat → Nat} (w : PA h a len c) : ∃ h', fX4_clear N a h = some h' ∧ PA h' a len (fun _ => 0) ∧ fr2 h h' a := by
  obtain ⟨f, w1, hf⟩ := w.raw
  have hl := w.lt
  have hd := dgs_le c len
  obtain ⟨h1, f1, g1, g2, g3, g4⟩ := clear_l (N := N) N 0 h f w1 (Nat.zero_le _) (by omega)
  obtain ⟨h2, e2, w2, r2⟩ := g2.setd (t := 0) (Nat.zero_le _)
  refine ⟨h2, ?_, w2.pa (c := fun _ => 0) (fun j => ?_) (dgs_0 len).symm (fun _ => by decide) (fun _ _ => rfl), g3.tr r2⟩
  · unfold fX4_clear
    rw [show (0 : Int32) = nI 0 from rfl, g1]
    rw [dI_0] at e2
    rw [e2]
    rfl
  · rw [g4 j]
    by_cases q : j < dgs c len
    · rw [if_pos ⟨Nat.zero_le _, q⟩]; rfl
    · rw [if_neg (by omega), hf j, w.hi (by omega)]
theorem dI_pred {t : Nat} : dI (t + 1) - 1 = dI t := by rw [dI_succ]; rfl
/-- findDegree's loop: down from t to the highest that isn't 0 -/
theorem findD_l {N a len : Nat} {x : Int32} {c : Nat → Nat} (hc : ∀ j, c j < 32003) : ∀ (t n : Nat) (h : Hp) (f : Nat → Int32), RW h a len t f → (∀ j, f j = nI (c j)) → t < n → ∃ h', (∀ κ, lX4_findDegree_5 N a x n h κ = κ h') ∧ RW h' a len (dgs c t) f ∧ fr2 h h' a
  | t, 0, h, f, _, _, hn => absurd hn (Nat.not_lt_zero _)
  | 0, n + 1, h, f, w, hf, hn => by
    refine ⟨h, fun κ => ?_, w, fr2.rf⟩
    rw [lX4_findDegree_5, w.deg]
    rfl
  | t + 1, n + 1, h, f, w, hf, hn => by
    have hlen := w.2.2.1
    have hsl := w.2.2.2
    by_cases hz : c t = 0
    · obtain ⟨h1, e1, w1, r1⟩ := w.setd (t := t) (by omega)
      obtain ⟨h', g1, g2, g3⟩ := findD_l hc t n h1 f w1 hf (by omega)
      refine ⟨h', fun κ => ?_, by unfold dgs; rw [if_pos hz]; exact g2, r1.tr g3⟩
      rw [lX4_findDegree_5, w.deg]
      show (if dI (t + 1) < 0 then _ else _) = _
      rw [if_neg (fun q => by have := (dI_lt_0 (by omega)).mp q; omega), w.row]
      show (aI h (a + 1) (dI (t + 1))).bind _ = _
      rw [dI_succ, w.at (by omega), hf t, hz]
      show (pV h a 6 1 (.int (nI t - 1))).bind _ = _
      rw [show nI t - 1 = dI t from rfl, e1]
      exact g1 κ
    · refine ⟨h, fun κ => ?_, by unfold dgs; rw [if_neg hz]; exact w, fr2.rf⟩
      rw [lX4_findDegree_5, w.deg]
      show (if dI (t + 1) < 0 then _ else _) = _
      rw [if_neg (fun q => by have := (dI_lt_0 (by omega)).mp q; omega), w.row]
      show (aI h (a + 1) (dI (t + 1))).bind _ = _
      rw [dI_succ, w.at (by omega), hf t]
      show (if nI (c t) = 0 then _ else _) = _
      rw [if_neg (nI_ne0 (by omega) (by have := hc t; omega))]
theorem dgs_cut (c : Nat → Nat) : ∀ n t, t ≤ n → (∀ j, t ≤ j → j < n → c j = 0) → dgs c n = dgs c t
  | 0, t, h, _ => by rw [show t = 0 by omega]
  | n + 1, t, h, hz => by
    by_cases q : t = n + 1
    · rw [q]
    · rw [dgs, if_pos (hz n (by omega) (by omega))]
      exact dgs_cut c n t (by omega) (fun j h1 h2 => hz j h1 (by omega))
/-- findDegree from t on, where all above is 0 -/
theorem findD_s {N : Nat} (hN : 1000 ≤ N) {h : Hp} {a len s t : Nat} {f : Nat → Int32} {c : Nat → Nat} (w : RW h a len s f) (ht : t ≤ len) (hf : ∀ j, f j = nI (c j)) (hc : ∀ j, c j < 32003) (hz : ∀ j, t ≤ j → c j = 0) : ∃ h', fX4_findDegree N a (dI t) h = some h' ∧ PA h' a len c ∧ fr2 h h' a := by
  have hlen := w.2.2.1
  obtain ⟨h1, e1, w1, r1⟩ := w.setd ht
  obtain ⟨h2, g1, g2, g3⟩ := findD_l (N := N) (x := dI t) hc t N h1 f w1 hf (by omega)
  refine ⟨h2, ?_, g2.pa hf (dgs_cut c len t ht (fun j h1 _ => hz j h1)).symm hc (fun j hj => hz j (by omega)), r1.tr g3⟩
  unfold fX4_findDegree
  rw [e1]
  exact g1 _
theorem imx_dI {s j : Nat} (hs : s < 2 ^ 30) (hj : j < 2 ^ 29) : imx (dI s) (nI j) = dI (max s (j + 1)) := by
  unfold imx
  by_cases q : s ≤ j
  · rw [if_pos ((dI_lt_nI hs (by omega)).mpr q), show max s (j + 1) = j + 1 by omega, dI_succ]
  · rw [if_neg (fun z => q ((dI_lt_nI hs (by omega)).mp z)), show max s (j + 1) = s by omega]
def updN (c : Nat → Nat) (k v : Nat) : Nat → Nat := fun j => if j = k then v else c j
/-- setNumber inside the row -/
theorem setNumber_s {N : Nat} (hN : 1000 ≤ N) {h : Hp} {a len : Nat} {c : Nat → Nat} (w : PA h a len c) {j v : Nat} (hj : j < len) (hv : v < 32003) : ∃ h', fX4_setNumber N a (nI j) (nI v) h = some h' ∧ PA h' a len (updN c j v) ∧ fr2 h h' a := by
  obtain ⟨f, w1, hf⟩ := w.raw
  have hl := w.lt
  have hd := dgs_le c len
  obtain ⟨h1, e1, w2, r1⟩ := w1.put hj (nI v)
  obtain ⟨h2, e2, w3, r2⟩ := findD_s hN (c := updN c j v) (t := max (dgs c len) (j + 1)) w2 (by omega) (fun i => by
    unfold upd updN
    by_cases q : i = j
    · rw [if_pos q, if_pos q]
    · rw [if_neg q, if_neg q]; exact hf i) (fun i => by unfold updN; split; exact hv; exact w.bd i) (fun i hi => by
    unfold updN
    rw [if_neg (by omega)]
    exact w.hi (by omega))
  refine ⟨h2, ?_, w3, r1.tr r2⟩
  unfold fX4_setNumber jn
  dsimp only
  rw [if_neg (nI_pos (by omega)), w.row]
  show (aLen h (a + 1) 0).bind _ = _
  rw [w.alen]
  show (if nI j < nI len then _ else _) = _
  rw [if_pos (nI_lt hj (by omega))]
  show (aIs h (a + 1) (nI j) (nI v)).bind _ = _
  rw [e1]
  show (gI h1 a 6 1).bind _ = _
  rw [w2.deg]
  show (cK h1 a 6).bind _ = _
  rw [w2.ck]
  show (fX4_findDegree N a (imx (dI (dgs c len)) (nI j)) h1).bind _ = _
  rw [imx_dI (by omega) (by omega), e2]
  rfl
