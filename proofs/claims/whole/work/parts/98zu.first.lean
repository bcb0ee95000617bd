/-! the law's first heap -/
def og (g : Nat → Int64) : Hp := hset (fun _ => none) 664 (.inl (1, 1, .inr (.inl g)))
noncomputable def LH (P : Nat → Po) (I : Nat → Int32) (B : Nat → Nat → Int32) (inc : Nat) (sl : Nat → Option Nat) (cd rw cl : Int32) (A : Nat → Nat → Int32) (g : Nat → Int64) : Hp := rfh (HH P I B inc sl (og g)) cd rw cl A
section LHS
variable {P : Nat → Po} {I : Nat → Int32} {B : Nat → Nat → Int32} {inc : Nat} {sl : Nat → Option Nat} {h0 h1 : Hp} {cd rw cl : Int32} {A : Nat → Nat → Int32} {g : Nat → Int64}
theorem hh_big {x : Nat} (hx : 645 ≤ x) : HH P I B inc sl h0 x = h0 x := by
  have p0 : pl x = 0 := pl_big hx
  have p1 : pl (x - 1) = 0 := by
    by_cases q : x = 645
    · rw [q]; decide
    · exact pl_big (by omega)
  have m0 : mtb x = false := by
    unfold mtb
    simp
    omega
  unfold HH conc cls
  rw [if_neg (fun z => z p0), if_neg (fun z => z.2 p1), if_neg (by rw [m0]; decide), if_neg (by omega)]
theorem hh_low {x : Nat} (hx : x < 645) : HH P I B inc sl h0 x = HH P I B inc sl h1 x := by
  unfold HH conc cls
  by_cases a : pl x ≠ 0
  · rw [if_pos a, if_pos a]
  · rw [if_neg a, if_neg a]
    by_cases b : x ≠ 0 ∧ pl (x - 1) ≠ 0
    · rw [if_pos b, if_pos b]
    · rw [if_neg b, if_neg b]
      by_cases c : mtb x = true
      · rw [if_pos c, if_pos c]
      · rw [if_neg c, if_neg c, if_pos hx, if_pos hx]
theorem lh_c : LH P I B inc sl cd rw cl A g = HH P I B inc sl (rfh (og g) cd rw cl A) := funext (fun x => by
  unfold LH
  by_cases q : x < 645
  · rw [hh_low (h1 := og g) q]
    unfold rfh
    rw [if_neg (by omega), if_neg (by omega)]
  · rw [hh_big (by omega)]
    unfold rfh
    by_cases a : x = 645
    · rw [if_pos a, if_pos a]
    · rw [if_neg a, if_neg a]
      by_cases b : 646 ≤ x ∧ x ≤ 663
      · rw [if_pos b, if_pos b]
      · rw [if_neg b, if_neg b, hh_big (by omega)])
theorem lh_664 : LH P I B inc sl cd rw cl A g 664 = some (.inl (1, 1, .inr (.inl g))) := by
  unfold LH rfh
  rw [if_neg (by omega), if_neg (by omega), hh_big (by omega)]
  exact hset_self _ _ _
theorem lh_s (g' : Nat → Int64) : hset (LH P I B inc sl cd rw cl A g) 664 (.inl (1, 1, .inr (.inl g'))) = LH P I B inc sl cd rw cl A g' := funext (fun x => by
  unfold hset
  by_cases q : x = 664
  · rw [if_pos q, q, lh_664]
  · rw [if_neg q]
    unfold LH rfh
    by_cases a : x = 645
    · rw [if_pos a, if_pos a]
    · rw [if_neg a, if_neg a]
      by_cases b : 646 ≤ x ∧ x ≤ 663
      · rw [if_pos b, if_pos b]
      · rw [if_neg b, if_neg b]
        by_cases c : x < 645
        · rw [hh_low (h1 := og g') c]
        · rw [hh_big (by omega), hh_big (by omega)]
          unfold og hset
          rw [if_neg q, if_neg q])
theorem lh_js (v : Int64) : aJs (LH P I B inc sl cd rw cl A g) 664 (0 : Int32) v = some (LH P I B inc sl cd rw cl A (vp_updL g 0 v)) := by
  unfold aJs
  rw [lh_664]
  show (if 1 = 1 ∧ ¬ ((0 : Int32) < 0 ∨ 1 ≤ (0 : Int32).toNatClampNeg) then _ else _) = _
  rw [if_pos (by decide), lh_s]
  rfl
theorem lh_j (v : Int64) : aJ (LH P I B inc sl cd rw cl A (vp_updL g 0 v)) 664 (0 : Int32) = some v := by
  unfold aJ
  rw [lh_664]
  show (if 1 = 1 ∧ ¬ ((0 : Int32) < 0 ∨ 1 ≤ (0 : Int32).toNatClampNeg) then _ else _) = _
  rw [if_pos (by decide)]
  show some (vp_updL g 0 v 0) = _
  unfold vp_updL
  simp
theorem lh_ck : cK (LH P I B inc sl cd rw cl A g) 645 10 = some () := rf_ck
theorem lh_ck0 : cK (LH P I B inc sl cd rw cl A g) 0 9 = some () := by
  rw [lh_c]
  exact nf_ck
theorem lh_th {N : Nat} : fX8_thrown N 645 (LH P I B inc sl cd rw cl A g) = some (cd, LH P I B inc sl cd rw cl A g) := by
  unfold fX8_thrown LH
  rw [rg_0, Option.bind_some]
end LHS
section TGT
variable {mu h0 : Hp}
theorem pt_of {m : Hp} {x len : Nat} (h : pl x = len) (hl : len ≠ 0) : PT (conc (fun _ => pC 0) m) x len := by
  have hx : pl x ≠ 0 := by rw [h]; exact hl
  constructor
  · unfold conc
    rw [if_pos hx, sz_z]
    rfl
  · unfold conc
    have n := pl_next hx
    rw [if_neg (fun z => z n), if_pos ⟨by omega, by rw [Nat.add_sub_cancel]; exact hx⟩, Nat.add_sub_cancel, h, vl_C0]
    rfl
theorem wt_of {r len : Nat} (h1 : cls mu h0 r = some (.inr (8, [.ref (r + 1)]))) (h2 : cls mu h0 (r + 1) = some (.inl (4, rfs 4 (r + 2) 2))) (h3 : np r) (h4 : np (r + 1)) (h5 : len ≠ 0) (h6 : ∀ j, j < 4 → pl (r + 2 + 2 * j) = len) : WT (conc (fun _ => pC 0) (cls mu h0)) r len := ⟨(cm_at h3).trans h1, (cm_at h4).trans h2, fun j hj => pt_of (h6 j hj) h5⟩
theorem mt_of {M len : Nat} (h1 : cls mu h0 M = some (.inr (4, [.ref (M + 1)]))) (h2 : cls mu h0 (M + 1) = some (.inl (5, rfs 4 (M + 2) 10))) (h3 : np M) (h4 : np (M + 1)) (h5 : ∀ i, i < 4 → cls mu h0 (M + 2 + 10 * i) = some (.inr (8, [.ref (M + 2 + 10 * i + 1)])) ∧ cls mu h0 (M + 2 + 10 * i + 1) = some (.inl (4, rfs 4 (M + 2 + 10 * i + 2) 2))) (h6 : ∀ i, i < 4 → (pl (M + 2 + 10 * i) = 0 ∧ pl (M + 2 + 10 * i - 1) = 0) ∧ pl (M + 2 + 10 * i + 1) = 0) (h7 : ∀ i, i < 4 → ∀ j, j < 4 → pl (M + 2 + 10 * i + 2 + 2 * j) = len) (h8 : len ≠ 0) : MT (conc (fun _ => pC 0) (cls mu h0)) M len := ⟨(cm_at h3).trans h1, (cm_at h4).trans h2, fun i hi => wt_of (h5 i hi).1 (h5 i hi).2 (npd (h6 i hi).1.1 (h6 i hi).1.2) (npd (h6 i hi).2 (by rw [Nat.add_sub_cancel]; exact (h6 i hi).1.1)) h8 (h7 i hi)⟩
theorem mt_1 : MT (conc (fun _ => pC 0) (cls mu h0)) 1 4 := mt_of rfl rfl (npd (by decide) (by decide)) (npd (by decide) (by decide)) (c4 ⟨rfl, rfl⟩ ⟨rfl, rfl⟩ ⟨rfl, rfl⟩ ⟨rfl, rfl⟩) (by decide) (by decide) (by decide)
theorem mt_214 : MT (conc (fun _ => pC 0) (cls mu h0)) 214 2 := mt_of rfl rfl (npd (by decide) (by decide)) (npd (by decide) (by decide)) (c4 ⟨rfl, rfl⟩ ⟨rfl, rfl⟩ ⟨rfl, rfl⟩ ⟨rfl, rfl⟩) (by decide) (by decide) (by decide)
theorem mt_509 : MT (conc (fun _ => pC 0) (cls mu h0)) 509 13 := mt_of rfl rfl (npd (by decide) (by decide)) (npd (by decide) (by decide)) (c4 ⟨rfl, rfl⟩ ⟨rfl, rfl⟩ ⟨rfl, rfl⟩ ⟨rfl, rfl⟩) (by decide) (by decide) (by decide)
theorem mt_551 : MT (conc (fun _ => pC 0) (cls mu h0)) 551 13 := mt_of rfl rfl (npd (by decide) (by decide)) (npd (by decide) (by decide)) (c4 ⟨rfl, rfl⟩ ⟨rfl, rfl⟩ ⟨rfl, rfl⟩ ⟨rfl, rfl⟩) (by decide) (by decide) (by decide)
theorem mt_593 : MT (conc (fun _ => pC 0) (cls mu h0)) 593 13 := mt_of rfl rfl (npd (by decide) (by decide)) (npd (by decide) (by decide)) (c4 ⟨rfl, rfl⟩ ⟨rfl, rfl⟩ ⟨rfl, rfl⟩ ⟨rfl, rfl⟩) (by decide) (by decide) (by decide)
theorem wt_455 : WT (conc (fun _ => pC 0) (cls mu h0)) 455 67 := wt_of rfl rfl (npd (by decide) (by decide)) (npd (by decide) (by decide)) (by decide) (by decide)
theorem wt_465 : WT (conc (fun _ => pC 0) (cls mu h0)) 465 67 := wt_of rfl rfl (npd (by decide) (by decide)) (npd (by decide) (by decide)) (by decide) (by decide)
theorem wt_475 : WT (conc (fun _ => pC 0) (cls mu h0)) 475 67 := wt_of rfl rfl (npd (by decide) (by decide)) (npd (by decide) (by decide)) (by decide) (by decide)
theorem wt_485 : WT (conc (fun _ => pC 0) (cls mu h0)) 485 67 := wt_of rfl rfl (npd (by decide) (by decide)) (npd (by decide) (by decide)) (by decide) (by decide)
theorem wt_498 : WT (conc (fun _ => pC 0) (cls mu h0)) 498 67 := wt_of rfl rfl (npd (by decide) (by decide)) (npd (by decide) (by decide)) (by decide) (by decide)
theorem dt_of {D : Nat} (h1 : cls mu h0 D = some (.inr (2, [.ref (D + 1), .ref (D + 3), .ref (D + 5)]))) (h2 : np D) (h3 : pl (D + 1) = 13) (h4 : pl (D + 3) = 13) (h5 : pl (D + 5) = 13) : DT (conc (fun _ => pC 0) (cls mu h0)) D := ⟨(cm_at h2).trans h1, pt_of h3 (by decide), pt_of h4 (by decide), pt_of h5 (by decide)⟩
theorem nt_43 (h : mu 43 = some (mnO 43 0)) : NT (conc (fun _ => pC 0) (cls mu h0)) 43 := ⟨(cm_at (npd (by decide) (by decide))).trans h, (cm_at (npd (by decide) (by decide))).trans rfl, pt_of (by decide) (by decide), fun i hi => pt_of ((by decide : ∀ i, i < 70 → pl (43 + 4 + 2 * i) = 13) i hi) (by decide), (cm_at (npd (by decide) (by decide))).trans rfl, fun j hj => pt_of ((by decide : ∀ j, j < 5 → pl (43 + 144 + 1 + 2 * j) = 13) j hj) (by decide), (cm_at (npd (by decide) (by decide))).trans rfl, fun j hj => pt_of ((by decide : ∀ j, j < 4 → pl (43 + 155 + 1 + 2 * j) = 13) j hj) (by decide), dt_of rfl (npd (by decide) (by decide)) (by decide) (by decide) (by decide)⟩
theorem nt_256 (h : mu 256 = some (mnO 256 0)) : NT (conc (fun _ => pC 0) (cls mu h0)) 256 := ⟨(cm_at (npd (by decide) (by decide))).trans h, (cm_at (npd (by decide) (by decide))).trans rfl, pt_of (by decide) (by decide), fun i hi => pt_of ((by decide : ∀ i, i < 70 → pl (256 + 4 + 2 * i) = 13) i hi) (by decide), (cm_at (npd (by decide) (by decide))).trans rfl, fun j hj => pt_of ((by decide : ∀ j, j < 5 → pl (256 + 144 + 1 + 2 * j) = 13) j hj) (by decide), (cm_at (npd (by decide) (by decide))).trans rfl, fun j hj => pt_of ((by decide : ∀ j, j < 4 → pl (256 + 155 + 1 + 2 * j) = 13) j hj) (by decide), dt_of rfl (npd (by decide) (by decide)) (by decide) (by decide) (by decide)⟩
def sl00 : Nat → Option Nat := fun j => if j < 4 then some (455 + 10 * j) else none
theorem ft_7 : FT7 (HH (fun _ => pC 0) (fun _ => 0) (fun _ _ => 0) 498 sl00 h0) := ⟨(cm_at np_0).trans rfl, mt_1, nt_43 rfl, mt_214, nt_256 rfl, ⟨(cm_at (npd (by decide) (by decide))).trans rfl, (cm_at (npd (by decide) (by decide))).trans rfl, (cm_at (npd (by decide) (by decide))).trans rfl, fun j hj => pt_of ((by decide : ∀ j, j < 4 → pl (427 + 2 + 1 + 2 * j) = 7) j hj) (by decide), pt_of (by decide) (by decide), pt_of (by decide) (by decide), pt_of (by decide) (by decide), pt_of (by decide) (by decide), dt_of rfl (npd (by decide) (by decide)) (by decide) (by decide) (by decide)⟩, ⟨(cm_at (npd (by decide) (by decide))).trans rfl, (cm_at (npd (by decide) (by decide))).trans rfl, c4 wt_455 wt_465 wt_475 wt_485, (cm_at (npd (by decide) (by decide))).trans rfl, pt_of (by decide) (by decide), wt_498⟩, (cm_at (npd (by decide) (by decide))).trans rfl, fun j hj => by
  rcases (show j = 0 ∨ j = 1 ∨ j = 2 by omega) with y | y | y <;> subst y
  · exact mt_509
  · exact mt_551
  · exact mt_593, (cm_at (npd (by decide) (by decide))).trans rfl, dt_of rfl (npd (by decide) (by decide)) (by decide) (by decide) (by decide), pt_of (by decide) (by decide)⟩
end TGT
/-- what the law begins with -/
theorem first_h {N : Nat} (hN : 1000 ≤ N) (xs : Nat → Int32) (L : Nat) : pL N xs L = lL_law N xs L 0 645 664 N (0 : Int32) (LH (fun _ => pC 0) (fun _ => 0) (fun _ _ => 0) 498 sl00 0 0 0 (fun _ _ => 0) (fun _ => 0)) 600359 7261037 := by
  have u1 : ∀ e : hE, up (HH (fun _ => pC 0) (fun _ => 0) (fun _ _ => 0) 498 sl00 (fun _ => none)) 0 645 (hset (fun _ => none) 0 e) = HH (fun _ => pC 0) (fun _ => 0) (fun _ _ => 0) 498 sl00 (fun _ => none) := fun e => funext (fun x => by
    unfold up
    by_cases q : x < 645
    · rw [if_pos (by omega)]
    · rw [if_neg (by omega), hh_big (by omega), hset_ne _ _ (by omega)])
  have u2 : ∀ e : hE, up (rfh (HH (fun _ => pC 0) (fun _ => 0) (fun _ _ => 0) 498 sl00 (fun _ => none)) 0 0 0 (fun _ _ => 0)) 645 19 (hset (HH (fun _ => pC 0) (fun _ => 0) (fun _ _ => 0) 498 sl00 (fun _ => none)) 645 e) = rfh (HH (fun _ => pC 0) (fun _ => 0) (fun _ _ => 0) 498 sl00 (fun _ => none)) 0 0 0 (fun _ _ => 0) := fun e => funext (fun x => by
    unfold up
    by_cases q : 645 ≤ x ∧ x < 645 + 19
    · rw [if_pos q]
    · rw [if_neg q, hset_ne _ _ (by omega)]
      unfold rfh
      rw [if_neg (by omega), if_neg (by omega)])
  have u3 : hset (rfh (HH (fun _ => pC 0) (fun _ => 0) (fun _ _ => 0) 498 sl00 (fun _ => none)) 0 0 0 (fun _ _ => 0)) 664 (.inl (1, 1, .inr (.inl (fun _ => 0)))) = LH (fun _ => pC 0) (fun _ => 0) (fun _ _ => 0) 498 sl00 0 0 0 (fun _ _ => 0) (fun _ => 0) := funext (fun x => by
    by_cases q : x = 664
    · rw [q, hset_self, lh_664]
    · rw [hset_ne _ _ q]
      unfold LH rfh
      by_cases a : x = 645
      · rw [if_pos a, if_pos a]
      · rw [if_neg a, if_neg a]
        by_cases b : 646 ≤ x ∧ x ≤ 663
        · rw [if_pos b, if_pos b]
        · rw [if_neg b, if_neg b]
          by_cases c : x < 645
          · exact hh_low c
          · rw [hh_big (by omega), hh_big (by omega)]
            unfold og
            rw [hset_ne _ _ q])
  have i7 := nf_i (N := N) (h := hset (fun _ => none) 0 (.inr (9, [.int 0, .int 0, .null, .null, .int 0, .null, .null, .int 0, .null, .int 0, .null, .null, .null, .null, .null]))) (tgt := HH (fun _ => pC 0) (fun _ => 0) (fun _ _ => 0) 498 sl00 (fun _ => none)) hN (hset_self _ _ _) ft_7
  rw [u1] at i7
  have i8 := mo_i (N := N) (h := hset (HH (fun _ => pC 0) (fun _ => 0) (fun _ _ => 0) 498 sl00 (fun _ => none)) 645 (.inr (10, [.int 0, .int 0, .int 0, .null, .null, .null, .null, .null, .null, .null, .null, .null, .null, .null, .null, .null, .null, .null, .null, .null, .null]))) (tgt := rfh (HH (fun _ => pC 0) (fun _ => 0) (fun _ _ => 0) 498 sl00 (fun _ => none)) 0 0 0 (fun _ _ => 0)) (hset_self _ _ _) rfl rfl rfl rfl rfl rfl rfl rfl rfl rfl rfl rfl rfl rfl rfl rfl rfl rfl rfl
  rw [u2] at i8
  unfold pL nm
  dsimp only
  rw [nO_ok ⟨by omega, by omega⟩, Option.bind_some]
  dsimp only
  rw [lR_ok (by omega), Option.bind_some, bC_ok ⟨by omega, by omega⟩, Option.bind_some]
  dsimp only
  rw [show (0 + 1 : Nat) = 1 from rfl, i7, Option.bind_some]
  dsimp only
  rw [lR_ok (by omega), Option.bind_some, nO_ok ⟨by omega, by omega⟩, Option.bind_some]
  dsimp only
  rw [lR_ok (by omega), Option.bind_some, lR_ok (by omega), Option.bind_some, bC_ok ⟨by omega, by omega⟩, Option.bind_some]
  dsimp only
  rw [show (645 + 1 : Nat) = 646 from rfl, i8, Option.bind_some]
  dsimp only
  rw [lR_ok (by omega), Option.bind_some, lR_ok (by omega), Option.bind_some, nO_ok ⟨by omega, by omega⟩, Option.bind_some]
  dsimp only
  rw [u3]
