/-! Roots: split -/
def rset (m : Hp) (f c : Int32) (v : Nat → Int32) : Hp := hset (hset m 428 (.inl (0, 4, .inl v))) 427 (rtO f c)
theorem rset_ne {m : Hp} {f c : Int32} {v : Nat → Int32} {x : Nat} (h1 : x ≠ 427) (h2 : x ≠ 428) : rset m f c v x = m x := by
  unfold rset
  rw [hset_ne _ _ h1, hset_ne _ _ h2]
theorem rset_rset {m : Hp} {f c f' c' : Int32} {v v' : Nat → Int32} : rset (rset m f c v) f' c' v' = rset m f' c' v' := by
  funext x
  unfold rset hset
  by_cases h1 : x = 427
  · simp only [if_pos h1]
  · by_cases h2 : x = 428
    · simp only [if_neg h1, if_pos h2]
    · simp only [if_neg h2, if_neg h1]
/-- what never changes of a Roots -/
def RB (m : Hp) : Prop := (∃ g, m 429 = some (.inl (4, 4, .inr (.inr (.inr (.inr g))))) ∧ ∀ j, j < 4 → g j = some (430 + 2 * j)) ∧ DV m 446
theorem RB.rt {m : Hp} (w : RB m) (f c : Int32) (v : Nat → Int32) : RT (rset m f c v) f c v := by
  refine ⟨hset_self _ _ _, ?_, ?_, ?_, w.2.2⟩
  · unfold rset
    rw [hset_ne _ _ (by decide), hset_self]
  · rw [rset_ne (by decide) (by decide)]; exact w.1
  · rw [rset_ne (by decide) (by decide)]; exact w.2.1
theorem rset_pf {m : Hp} (P : Nat → Po) (f c f' : Int32) (v : Nat → Int32) : pV (conc P (rset m f c v)) 427 7 1 (.int f') = some (conc P (rset m f' c v)) := by
  rw [cm_pV (m := rset m f c v) (fs := [.ref 428, .int f, .ref 429, .int c, .ref 438, .ref 440, .ref 442, .ref 444, .ref 446]) np_427 (hset_self _ _ _) (by simp)]
  congr 2
  funext x
  unfold rset hset
  split
  · rfl
  · rfl
theorem rset_pc {m : Hp} (P : Nat → Po) (f c c' : Int32) (v : Nat → Int32) : pV (conc P (rset m f c v)) 427 7 3 (.int c') = some (conc P (rset m f c' v)) := by
  rw [cm_pV (m := rset m f c v) (fs := [.ref 428, .int f, .ref 429, .int c, .ref 438, .ref 440, .ref 442, .ref 444, .ref 446]) np_427 (hset_self _ _ _) (by simp)]
  congr 2
  funext x
  unfold rset hset
  split
  · rfl
  · rfl
theorem bit_h : ∀ j, j < 15 → (nI 16001 >>> (nI j &&& 31)) &&& (1 : Int32) = nI (16001 / 2 ^ j % 2) := by decide +kernel
theorem bit_p : ∀ j, j < 15 → (nI 32003 >>> (nI j &&& 31)) &&& (1 : Int32) = nI (32003 / 2 ^ j % 2) := by decide +kernel
theorem pSet_m1 (p : Po) : pSet p 0 (co p 0 + -1) = pAdd p (pNeg (pC 1)) := po_ext (fun j => by
  rw [co_set, co_add, co_neg, co_C]
  by_cases q : j = 0
  · rw [if_pos q, if_pos q, q]
  · rw [if_neg q, if_neg q]; grind)
theorem fil_len (χ : Fp → Bool) (l : List Fp) : (l.filter χ).length + (l.filter (fun x => !χ x)).length = l.length := by
  have := (List.filter_append_perm χ l).length_eq
  rw [List.length_append] at this
  exact this
theorem dI_lin (l : List Fp) : dI (sz (lin l)) = nI l.length := by rw [lin_sz, dI_succ]
/-- split -/
theorem split_c {N : Nat} (hN : 1000 ≤ N) {P : Nat → Po} {m : Hp} (wf : FT P) (rb : RB m) {f : Int32} {v : Nat → Int32} {pc k : Nat} (hk : k < pc) (hpc : pc ≤ 4) {l : List Fp} (hl : P (430 + 2 * k) = lin l) (hn : l.Nodup) (hl2 : 1 ≤ l.length ∧ l.length ≤ 4) (hb2 : sz (P 438) ≤ 2) (s : Fp) : ∃ P' c', fX5_split N 427 (430 + 2 * k) (nI s.val) (conc P (rset m f (nI pc) v)) = some (conc P' (rset m f c' v)) ∧ FT P' ∧ sz (P' 438) ≤ 2 ∧ (((l.filter (chi s) = [] ∨ l.filter (fun x => !chi s x) = [] ∨ 4 ≤ pc) ∧ c' = nI pc ∧ (∀ x, x < 438 ∨ 453 ≤ x → P' x = P x)) ∨ (l.filter (chi s) ≠ [] ∧ l.filter (fun x => !chi s x) ≠ [] ∧ pc < 4 ∧ c' = nI (pc + 1) ∧ P' (430 + 2 * k) = lin (l.filter (fun x => !chi s x)) ∧ P' (430 + 2 * pc) = lin (l.filter (chi s)) ∧ (∀ x, x < 438 ∨ 453 ≤ x → x ≠ 430 + 2 * k → x ≠ 430 + 2 * pc → P' x = P x))) := by
  obtain ⟨p1, p2, p3, p4, p5⟩ := pl_rt
  have rt := rb.rt f (nI pc) v
  have pk := p5 k (by omega)
  have zl := lin_sz l
  obtain ⟨P1, a1, a2, a3, a4, a5, a6⟩ := raise_c (md := 430 + 2 * k) (e := 16001) (s := s) hN wf rt (by omega) (by omega) (by decide) bit_h hb2 (by rw [hl]; omega)
  rw [hl] at a3 a4
  have c1 := setNumber_c hN (m := rset m f (nI pc) v) a2 (a := 440) (by omega) (j := 0) (by omega) (co (P1 440) 0 + -1)
  rw [pSet_m1] at c1
  have w1 := a2.st c1.2
  have nA := numberAt_c (N := N) (m := rset m f (nI pc) v) a2 (a := 440) (by omega) (nI 0)
  rw [cfp_n _ (by decide)] at nA
  have x1 : st P1 440 (pAdd (P1 440) (pNeg (pC 1))) (430 + 2 * k) = lin l := by rw [st_ne _ _ (by omega), a6 _ (by omega) (by omega) (by omega) (by omega), hl]
  have dv : DV (rset m f (nI pc) v) 446 := rt.2.2.2
  obtain ⟨P2, b1, b2, b3, b4⟩ := shrink_c hN (m := rset m f (nI pc) v) w1 (D := 446) (one := 440) (other := 430 + 2 * k) dv (by omega) (by omega) (by omega) (by omega) (by omega) (by rw [st_same]; omega) (by rw [x1]; omega) (by rw [x1]; omega)
  rw [st_same, x1, split_gcd hn a3] at b3
  have fr2' : ∀ x, x < 438 ∨ 453 ≤ x → P2 x = P x := fun x hx => by
    rw [b4 x (by omega) (by omega) (by omega) (by omega), st_ne _ _ (by omega), a6 x (by omega) (by omega) (by omega) (by omega)]
  have y438 : sz (P2 438) ≤ 2 := by rw [b4 438 (by omega) (by omega) (by omega) (by omega), st_ne _ _ (by omega)]; exact a5
  have yk : P2 (430 + 2 * k) = lin l := by rw [fr2' _ (by omega), hl]
  obtain ⟨n1, hn1⟩ : ∃ n, n = (l.filter (chi s)).length := ⟨_, rfl⟩
  have d1 : dI (sz (P2 440)) = nI n1 := by rw [b3, dI_lin, hn1]
  have dk : dI (sz (P2 (430 + 2 * k))) = nI l.length := by rw [yk, dI_lin]
  have zz := fil_len (chi s) l
  rw [← hn1] at zz
  have head : fX5_split N 427 (430 + 2 * k) (nI s.val) (conc P (rset m f (nI pc) v)) = (if nI n1 ≤ 0 then some (conc P2 (rset m f (nI pc) v)) else if nI l.length ≤ nI n1 then some (conc P2 (rset m f (nI pc) v)) else if (4 : Int32) ≤ nI pc then some (conc P2 (rset m f (nI pc) v)) else (aR (conc P2 (rset m f (nI pc) v)) 429 4 (nI pc)).bind fun v32 => (cK (conc P2 (rset m f (nI pc) v)) v32 6).bind fun _ => (fX4_copyFrom N v32 440 (conc P2 (rset m f (nI pc) v))).bind fun h35 => (gI h35 427 7 3).bind fun v37 => (pV h35 427 7 3 (.int (v37 + (1 : Int32)))).bind fun h38 => (gR h38 427 7 8).bind fun v39 => (gR h38 427 7 5).bind fun v40 => (cK h38 v39 2).bind fun _ => (fX0_writeQuotient N v39 (430 + 2 * k) (430 + 2 * k) v40 h38).bind fun h42 => some h42) := by
    unfold fX5_split
    simp only [rt.ck, Option.bind_some]
    show (fX5_raise N 427 (nI s.val) (nI 16001) (430 + 2 * k) (conc P (rset m f (nI pc) v))).bind _ = _
    rw [a1]
    simp only [rt.g5, Option.bind_some, po_ck (show pl 440 ≠ 0 by omega)]
    show (fX4_numberAt N 440 (nI 0) (conc P1 (rset m f (nI pc) v))).bind _ = _
    rw [nA]
    simp only [Option.bind_some]
    rw [show vl (P1 440) 0 = (co (P1 440) 0).val from rfl, floorMod_s, fmI_m1]
    simp only [Option.bind_some, po_ck (show pl 440 ≠ 0 by omega)]
    show (fX4_setNumber N 440 (nI 0) (nI (co (P1 440) 0 + -1).val) (conc P1 (rset m f (nI pc) v))).bind _ = _
    rw [c1.1]
    rw [Option.bind_some, rt.g8, Option.bind_some, rt.g5, Option.bind_some, cm_cK dv.2.1 dv.1, Option.bind_some, b1, Option.bind_some, rt.g5, Option.bind_some, po_dg (show pl 440 ≠ 0 by omega), Option.bind_some, d1]
    unfold jn
    show (if nI n1 ≤ 0 then _ else _) = _
    congr 1
    rw [Option.bind_some, po_dg (show pl 440 ≠ 0 by omega), Option.bind_some, d1, po_dg (show pl (430 + 2 * k) ≠ 0 by omega), Option.bind_some, dk]
    rw [rt.g3, Option.bind_some, rt.g2, Option.bind_some, Option.bind_some]
    rfl
  rw [head]
  by_cases q1 : n1 = 0
  · refine ⟨P2, nI pc, ?_, b2, y438, Or.inl ⟨Or.inl (List.eq_nil_of_length_eq_zero (hn1.symm.trans q1)), rfl, fr2'⟩⟩
    rw [if_pos (by rw [q1]; decide)]
  · rw [if_neg (nI_nle (by omega) (by omega))]
    by_cases q2 : (l.filter (fun x => !chi s x)).length = 0
    · refine ⟨P2, nI pc, ?_, b2, y438, Or.inl ⟨Or.inr (Or.inl (List.eq_nil_of_length_eq_zero q2)), rfl, fr2'⟩⟩
      rw [if_pos ((le_n (by omega) (by omega)).mpr (by omega))]
    · rw [if_neg (fun z => by have := (le_n (by omega) (by omega)).mp z; omega)]
      by_cases q3 : 4 ≤ pc
      · refine ⟨P2, nI pc, ?_, b2, y438, Or.inl ⟨Or.inr (Or.inr q3), rfl, fr2'⟩⟩
        show (if nI 4 ≤ nI pc then _ else _) = _
        rw [if_pos ((le_n (by omega) (by omega)).mpr (by omega))]
      · have pp := p5 pc (by omega)
        have zl1 := lin_sz (l.filter (chi s))
        have c3 := copyFrom_c hN (m := rset m f (nI pc) v) b2 (a := 430 + 2 * pc) (b := 440) (by omega) (by omega) (by omega) (by rw [b3]; omega)
        rw [b3] at c3
        have w3 := b2.st (a := 430 + 2 * pc) (p := lin (l.filter (chi s))) (by omega)
        have rt2 := rb.rt f (nI (pc + 1)) v
        have dv2 : DV (rset m f (nI (pc + 1)) v) 446 := rt2.2.2.2
        have u1 : st P2 (430 + 2 * pc) (lin (l.filter (chi s))) (430 + 2 * k) = lin l := by rw [st_ne _ _ (by omega), yk]
        have u2 : st P2 (430 + 2 * pc) (lin (l.filter (chi s))) 440 = lin (l.filter (chi s)) := by rw [st_ne _ _ (by omega), b3]
        obtain ⟨P4, e1, e2, e3, e4⟩ := writeQ_c hN (m := rset m f (nI (pc + 1)) v) w3 (D := 446) (res := 430 + 2 * k) (who := 430 + 2 * k) (dsr := 440) dv2 (by omega) (by omega) (by omega) (by omega) (by omega) (by omega) (by rw [u1]; omega) (by rw [u1, u2, lin_quot, lin_sz]; omega)
        rw [u1, u2, lin_quot] at e3
        refine ⟨P4, nI (pc + 1), ?_, e2, ?_, Or.inr ⟨fun z => q1 (by rw [hn1, z]; rfl), fun z => q2 (by rw [z]; rfl), by omega, rfl, e3, ?_, fun x h1 h2 h3 => ?_⟩⟩
        · show (if nI 4 ≤ nI pc then _ else _) = _
          rw [if_neg (fun z => by have := (le_n (by omega) (by omega)).mp z; omega), rt.a _ (by omega)]
          simp only [Option.bind_some, po_ck (show pl (430 + 2 * pc) ≠ 0 by omega), c3, rt.g3, nI_1, rset_pc, rt2.g8, rt2.g5, cm_cK dv2.2.1 dv2.1, e1]
        · rw [e4 438 (by omega) (by omega) (by omega), st_ne _ _ (by omega)]; exact y438
        · rw [e4 _ (by omega) (by omega) (by omega), st_same]
        · rw [e4 x h2 (by omega) (by omega), st_ne _ _ h3]; exact fr2' x h1
