section NM6
variable {N : Nat} {P : Nat → Po} {I : Nat → Int32} {B : Nat → Nat → Int32} {inc : Nat} {sl : Nat → Option Nat} {h0 : Hp}
/-- the roots n, g as the class keeps them -/
def RG (E : Nat → Nat → Po) (R : Nat) (n : Nat) (g : Nat → Fp) : Prop := n ≤ 4 ∧ asc g n ∧ ∀ x, (∃ j, j < n ∧ g j = x) ↔ ev (chp E R) x = 0
theorem root_c (hN : 33000 ≤ N) (wf : FT P) {R C : Nat} (hR : R < 5) (hC : C < 5) (hI0 : I 0 = nI R) (hI1 : I 1 = nI C) {E : Nat → Nat → Po} (hA : ∀ i j, i < 4 → j < 4 → P (ce 1 i j) = E i j) (h1 : sz (P 260) ≤ 1) (hk : R = C → I 3 = 0 ∨ I 3 = 1 ∧ MR (xE E R) 256 P) (h2 : sz (P 438) ≤ 2) (hr : R = C → I 4 = 0 ∨ I 4 = 1 ∧ RS E R I B) (a1 : Int32) : (R ≠ C → fX7_root N 0 a1 (HH P I B inc sl h0) = some (.inl 2, HH P I B inc sl h0)) ∧ (R = C → ∃ r P' I' B' n g, fX7_root N 0 a1 (HH P I B inc sl h0) = some (.inr r, HH P' I' B' inc sl h0) ∧ RG E R n g ∧ ((∃ j, j < n ∧ a1 = nI j ∧ r = nI (g j).val) ∨ ((∀ j, j < n → a1 ≠ nI j) ∧ r = -1)) ∧ FT P' ∧ MR (xE E R) 256 P' ∧ I' 3 = 1 ∧ I' 4 = 1 ∧ RS E R I' B' ∧ sz (P' 438) ≤ 2 ∧ (∀ k, k ≠ 3 → k ≠ 4 → k ≠ 6 → k ≠ 7 → k ≠ 8 → I' k = I k) ∧ (∀ k, k ≠ 0 → B' k = B k) ∧ (∀ x, x < 214 ∨ 453 ≤ x → P' x = P x)) := by
  have ns := needSquare_s (N := N) (P := P) (I := I) (B := B) (inc := inc) (sl := sl) (h0 := h0) hR hC hI0 hI1
  refine ⟨fun h => ?_, fun h => ?_⟩
  · unfold fX7_root
    rw [nf_ck, Option.bind_some, ns.2 h, Option.bind_some]
    rfl
  · obtain ⟨P', I', B', g1, g2, g3, g4, g5, g6, g7, g8, g9, g10⟩ := knowR_c (N := N) (inc := inc) (sl := sl) (h0 := h0) hN wf hR hI0 (by rw [hI1, h]) hA h1 (hk h) h2 (hr h)
    obtain ⟨n, g, s1, s2, s3, s4, s5⟩ := id g6
    have rt : RT (cls (muf I' B' inc sl) h0) (I' 7) (I' 8) (B' 0) := ⟨rfl, rfl, rb_c.1, rb_c.2⟩
    have head : fX7_root N 0 a1 (HH P I B inc sl h0) = (if a1 < 0 then some (.inr (-1), HH P' I' B' inc sl h0) else if a1 < nI n then (aI (HH P' I' B' inc sl h0) 428 a1).bind fun v20 => some (Sum.inr v20, HH P' I' B' inc sl h0) else some (.inr (-1), HH P' I' B' inc sl h0)) := by
      unfold fX7_root
      rw [nf_ck, Option.bind_some, ns.1 h, Option.bind_some]
      unfold thr jn
      dsimp only
      rw [nf_ck, Option.bind_some, g1, Option.bind_some, nf_8]
      have q1 : gI (HH P' I' B' inc sl h0) 427 7 1 = some (nI n) := by rw [← s1]; exact rt.g1 P'
      have q0 : gR (HH P' I' B' inc sl h0) 427 7 0 = some 428 := rt.g0 P'
      rw [Option.bind_some, q1, Option.bind_some, Option.bind_some, q0, Option.bind_some]
    by_cases q : inx a1 n
    · obtain ⟨j, hj, e⟩ := q
      refine ⟨nI (g j).val, P', I', B', n, g, ?_, ⟨s2, s4, s5⟩, Or.inl ⟨j, hj, e, rfl⟩, g2, g3, g4, g5, g6, g7, g8, g9, g10⟩
      rw [head, e, if_neg (nI_pos (by omega)), if_pos (nI_lt hj (by omega))]
      show (aI (conc P' (cls (muf I' B' inc sl) h0)) 428 (nI j)).bind _ = _
      rw [cm_aI (m := cls (muf I' B' inc sl) h0) (n := 4) (f := B' 0) np_428 rfl (by omega) (by decide), Option.bind_some, s3 j hj]
    · refine ⟨-1, P', I', B', n, g, ?_, ⟨s2, s4, s5⟩, Or.inr ⟨fun j hj e => q ⟨j, hj, e⟩, rfl⟩, g2, g3, g4, g5, g6, g7, g8, g9, g10⟩
      rw [head]
      rcases inx_no (by omega) q with z | z
      · rw [if_pos z]
      · rw [if_neg z.1, if_neg (fun y => by rw [Int32.lt_iff_toInt_lt] at y; have := z.2; rw [Int32.le_iff_toInt_le] at this; omega)]
/-- how many of the invariants the linear polynomial divides just so often -/
noncomputable def bcnt (D : Nat → Po) (l : Po) (a : Int32) : Nat → Nat
  | 0 => 0
  | n + 1 => bcnt D l a n + (if nI (ho 13 (D n) l) = a then 1 else 0)
theorem bcnt_le (D : Nat → Po) (l : Po) (a : Int32) : ∀ n, bcnt D l a n ≤ n
  | 0 => Nat.le_refl _
  | n + 1 => by
    have := bcnt_le D l a n
    rw [bcnt]
    split <;> omega
theorem blk_l (hN : 1000 ≤ N) {E : Nat → Nat → Po} {R : Nat} (hR : R < 5) (hI0 : I 0 = nI R) {a1 a2 : Int32} {l : Po} (hl : sz l ≠ 0) : ∀ (d n i : Nat) (P : Nat → Po), i + d = R → d < n → FT P → MR (xE E R) 256 P → P 643 = l → ∃ P', lX7_blocks_82 N 0 a1 a2 n (nI (bcnt (ivf (gd (xE E R))) l a2 i)) (nI i) (HH P I B inc sl h0) (fun y _ h => some (Sum.inr y, h)) = some (.inr (nI (bcnt (ivf (gd (xE E R))) l a2 R)), HH P' I B inc sl h0) ∧ FT P' ∧ (∀ x, x ≠ 637 → x ≠ 641 → P' x = P x)
  | d, 0, i, P, _, hn, _, _, _ => absurd hn (Nat.not_lt_zero _)
  | 0, n + 1, i, P, hi, hn, wf, hm, hP => by
    have e : i = R := by omega
    subst e
    refine ⟨P, ?_, wf, fun _ _ _ => rfl⟩
    rw [lX7_blocks_82, nf_0, Option.bind_some, hI0, if_pos ((le_n (by omega) (by omega)).mpr (Nat.le_refl _))]
  | d + 1, n + 1, i, P, hi, hn, wf, hm, hP => by
    have mn : MN (cls (muf I B inc sl) h0) 256 := mn_256 (o := I 6) rfl
    have dv : DV (cls (muf I B inc sl) h0) 636 := dv_636
    have p1 := mn.pi (k := i) (by omega)
    have p2 : pl 643 = 2 := by decide
    have ei : P (256 + 156 + 2 * i) = ivf (gd (xE E R)) i := hm.2 i (by omega)
    have hs := ivf_sz (E := xE E R) (fun a b => by have := xE_sz E R a b; omega) i
    obtain ⟨P1, c1, c2, c3⟩ := howOften_c hN (m := cls (muf I B inc sl) h0) wf (D := 636) (who := 256 + 156 + 2 * i) (dsr := 643) dv (by omega) (by omega) (by omega) (by omega) (by rw [ei]; omega) (by rw [hP]; exact hl)
    rw [ei, hP] at c1
    obtain ⟨P', g1, g2, g3⟩ := blk_l hN hR hI0 (a1 := a1) (a2 := a2) hl d n (i + 1) P1 (by omega) (by omega) c2 ⟨fun r s hr hs hbb => by
      obtain ⟨y, hy, ey⟩ := mo_sq (i := 16 * r + s) (by omega) (sq_of hs hbb)
      rw [c3 _ (by omega) (by omega)]
      exact hm.1 r s hr hs hbb, fun k hk => by rw [c3 _ (by omega) (by omega)]; exact hm.2 k hk⟩ (by rw [c3 _ (by omega) (by omega)]; exact hP)
    refine ⟨P', ?_, g2, fun x x1 x2 => by rw [g3 x x1 x2, c3 x x1 x2]⟩
    rw [lX7_blocks_82, nf_0, Option.bind_some, hI0, if_neg (fun y => by have := (le_n (by omega) (by omega)).mp y; omega), nf_13, Option.bind_some, nf_14, Option.bind_some, nf_6, Option.bind_some]
    unfold HH
    rw [mn.g2, Option.bind_some, mn.a2 _ (by omega), Option.bind_some, cm_cK dv.2.1 dv.1, Option.bind_some, c1, Option.bind_some]
    unfold jn nm
    dsimp only
    rw [nI_1, nI_1]
    rw [bcnt] at g1
    by_cases q : nI (ho 13 (ivf (gd (xE E R)) i) l) = a2
    · rw [if_pos q] at g1 ⊢
      exact g1
    · rw [if_neg q] at g1 ⊢
      exact g1
theorem pSet_lin {p : Po} (h : sz p ≤ 2) (s : Fp) : pSet (pSet p 1 1) 0 s = xs s := by
  rw [← pSet_xs h s]
  refine po_ext (fun j => ?_)
  rw [co_set, co_set, co_set, co_set]
  by_cases q : j = 0
  · rw [if_pos q, if_neg (by omega), if_pos q]
  · rw [if_neg q, if_neg q]
/-- blocks -/
theorem blocks_c (hN : 33000 ≤ N) (wf : FT P) {R C : Nat} (hR : R < 5) (hC : C < 5) (hI0 : I 0 = nI R) (hI1 : I 1 = nI C) {E : Nat → Nat → Po} (hA : ∀ i j, i < 4 → j < 4 → P (ce 1 i j) = E i j) (h1 : sz (P 260) ≤ 1) (hk : R = C → I 3 = 0 ∨ I 3 = 1 ∧ MR (xE E R) 256 P) (h2 : sz (P 438) ≤ 2) (hr : R = C → I 4 = 0 ∨ I 4 = 1 ∧ RS E R I B) (hl : sz (P 643) ≤ 2) (a1 a2 : Int32) : (R ≠ C → fX7_blocks N 0 a1 a2 (HH P I B inc sl h0) = some (.inl 2, HH P I B inc sl h0)) ∧ (R = C → ∃ q P' I' B' n g, fX7_blocks N 0 a1 a2 (HH P I B inc sl h0) = some (q, HH P' I' B' inc sl h0) ∧ RG E R n g ∧ (¬ (inx a1 n ∧ 1 ≤ a2) → q = .inl 1) ∧ (∀ j, j < n → a1 = nI j → 1 ≤ a2 → q = .inr (nI (bcnt (ivf (gd (xE E R))) (xs (- g j)) a2 R))) ∧ FT P' ∧ MR (xE E R) 256 P' ∧ I' 3 = 1 ∧ I' 4 = 1 ∧ RS E R I' B' ∧ sz (P' 438) ≤ 2 ∧ sz (P' 643) ≤ 2 ∧ (∀ k, k ≠ 3 → k ≠ 4 → k ≠ 6 → k ≠ 7 → k ≠ 8 → I' k = I k) ∧ (∀ k, k ≠ 0 → B' k = B k) ∧ (∀ x, x < 214 ∨ 453 ≤ x → x ≠ 637 → x ≠ 641 → x ≠ 643 → P' x = P x)) := by
  have ns := needSquare_s (N := N) (P := P) (I := I) (B := B) (inc := inc) (sl := sl) (h0 := h0) hR hC hI0 hI1
  refine ⟨fun h => ?_, fun h => ?_⟩
  · unfold fX7_blocks
    rw [nf_ck, Option.bind_some, ns.2 h, Option.bind_some]
    rfl
  · obtain ⟨P1, I', B', g1, g2, g3, g4, g5, g6, g7, g8, g9, g10⟩ := knowR_c (N := N) (inc := inc) (sl := sl) (h0 := h0) hN wf hR hI0 (by rw [hI1, h]) hA h1 (hk h) h2 (hr h)
    obtain ⟨n, g, s1, s2, s3, s4, s5⟩ := id g6
    have rt : RT (cls (muf I' B' inc sl) h0) (I' 7) (I' 8) (B' 0) := ⟨rfl, rfl, rb_c.1, rb_c.2⟩
    have p2 : pl 643 = 2 := by decide
    have l1 : sz (P1 643) ≤ 2 := by rw [g10 643 (by omega)]; exact hl
    have head : fX7_blocks N 0 a1 a2 (HH P I B inc sl h0) = (if a1 < 0 then some (.inl 1, HH P1 I' B' inc sl h0) else if a1 < nI n then (if (1 : Int32) ≤ a2 then (cK (HH P1 I' B' inc sl h0) 643 6).bind fun _ => (fX4_setNumber N 643 (1 : Int32) (1 : Int32) (HH P1 I' B' inc sl h0)).bind fun h18 => (gR h18 0 9 14).bind fun v20 => (gR h18 0 9 8).bind fun v21 => (gR h18 v21 7 0).bind fun v22 => (aI h18 v22 a1).bind fun v23 => (fX7_negative N v23 h18).bind fun (v24, h25) => (cK h25 v20 6).bind fun u28 => (fX4_setNumber N v20 (0 : Int32) v24 h25).bind fun h27 => lX7_blocks_82 N 0 a1 a2 N (0 : Int32) (0 : Int32) h27 (fun y29 y30 h31 => some (Sum.inr y29, h31)) else some (.inl 1, HH P1 I' B' inc sl h0)) else some (.inl 1, HH P1 I' B' inc sl h0)) := by
      unfold fX7_blocks
      rw [nf_ck, Option.bind_some, ns.1 h, Option.bind_some]
      unfold thr jn
      dsimp only
      rw [nf_ck, Option.bind_some, g1, Option.bind_some, nf_8]
      have q1 : gI (HH P1 I' B' inc sl h0) 427 7 1 = some (nI n) := by rw [← s1]; exact rt.g1 P1
      rw [Option.bind_some, q1, Option.bind_some, nf_14, Option.bind_some]
    by_cases q : inx a1 n ∧ 1 ≤ a2
    · obtain ⟨j, hj, e⟩ := q.1
      have c1 := setNumber_c (N := N) (by omega) (m := cls (muf I' B' inc sl) h0) g2 (a := 643) (by omega) (j := 1) (by omega) 1
      have w1 := g2.st c1.2
      have c2 := setNumber_c (N := N) (by omega) (m := cls (muf I' B' inc sl) h0) w1 (a := 643) (by omega) (j := 0) (by omega) (- g j)
      rw [st_same, st_st, pSet_lin l1] at c2
      have w2 : FT (st P1 643 (xs (- g j))) := g2.st c2.2
      obtain ⟨P', b1, b2, b3⟩ := blk_l (N := N) (I := I') (B := B') (inc := inc) (sl := sl) (h0 := h0) (by omega) (E := E) hR (by rw [g8 0 (by decide) (by decide) (by decide) (by decide) (by decide)]; exact hI0) (a1 := a1) (a2 := a2) (l := xs (- g j)) (by rw [xs_sz]; decide) R N 0 (st P1 643 (xs (- g j))) (by omega) (by omega) w2 ⟨fun r s hr hs hbb => by
        obtain ⟨y, hy, ey⟩ := mo_sq (i := 16 * r + s) (by omega) (sq_of hs hbb)
        rw [st_ne _ _ (by omega)]
        exact g3.1 r s hr hs hbb, fun k hk => by rw [st_ne _ _ (by omega)]; exact g3.2 k hk⟩ (st_same _ _ _)
      have lo : ∀ x, x ≠ 637 → x ≠ 641 → x ≠ 643 → P' x = P1 x := fun x x1 x2 x3 => by rw [b3 x x1 x2, st_ne _ _ x3]
      refine ⟨.inr (nI (bcnt (ivf (gd (xE E R))) (xs (- g j)) a2 R)), P', I', B', n, g, ?_, ⟨s2, s4, s5⟩, fun z => absurd q z, fun j' hj' e' _ => ?_, b2, ⟨fun r s hr hs hbb => ?_, fun k hk => ?_⟩, g4, g5, g6, ?_, ?_, g8, g9, fun x hx x1 x2 x3 => ?_⟩
      · rw [head, e, if_neg (nI_pos (by omega)), if_pos (nI_lt hj (by omega)), if_pos q.2]
        show (cK (conc P1 (cls (muf I' B' inc sl) h0)) 643 6).bind _ = _
        rw [po_ck (by omega), Option.bind_some]
        show (fX4_setNumber N 643 (nI 1) (nI (1 : Fp).val) (conc P1 (cls (muf I' B' inc sl) h0))).bind _ = _
        rw [c1.1, Option.bind_some]
        show (gR (HH (st P1 643 (pSet (P1 643) 1 1)) I' B' inc sl h0) 0 9 14).bind _ = _
        rw [nf_14, Option.bind_some]
        show (gR (HH (st P1 643 (pSet (P1 643) 1 1)) I' B' inc sl h0) 0 9 8).bind _ = _
        rw [nf_8, Option.bind_some, rt.g0, Option.bind_some, cm_aI (m := cls (muf I' B' inc sl) h0) (n := 4) (f := B' 0) np_428 rfl (by omega) (by decide), Option.bind_some, s3 j hj, negative_s (Fin.isLt _), negv, Option.bind_some]
        dsimp only
        rw [po_ck (by omega), Option.bind_some]
        show (fX4_setNumber N 643 (nI 0) (nI (- g j).val) (conc _ (cls (muf I' B' inc sl) h0))).bind _ = _
        rw [c2.1, Option.bind_some, ← e]
        exact b1
      · have : j' = j := (eq_n (by omega) (by omega)).mp (e'.symm.trans e)
        rw [this]
      · obtain ⟨y, hy, ey⟩ := mo_sq (i := 16 * r + s) (by omega) (sq_of hs hbb)
        rw [lo _ (by omega) (by omega) (by omega)]
        exact g3.1 r s hr hs hbb
      · rw [lo _ (by omega) (by omega) (by omega)]
        exact g3.2 k hk
      · rw [lo 438 (by omega) (by omega) (by omega)]; exact g7
      · rw [b3 643 (by omega) (by omega), st_same, xs_sz]; omega
      · rw [lo x x1 x2 x3, g10 x hx]
    · refine ⟨.inl 1, P1, I', B', n, g, ?_, ⟨s2, s4, s5⟩, fun _ => rfl, fun j hj e y => absurd ⟨⟨j, hj, e⟩, y⟩ q, g2, g3, g4, g5, g6, g7, l1, g8, g9, fun x hx _ _ _ => g10 x hx⟩
      rw [head]
      by_cases z : inx a1 n
      · have x := inx_yes (by omega) z
        rw [if_neg x.1, if_pos x.2.2, if_neg (fun y => q ⟨z, y⟩)]
      · rcases inx_no (by omega) z with y | y
        · rw [if_pos y]
        · rw [if_neg y.1, if_neg (fun w => by rw [Int32.lt_iff_toInt_lt] at w; have := y.2; rw [Int32.le_iff_toInt_le] at this; omega)]
end NM6
