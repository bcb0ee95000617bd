section NM4
variable {N : Nat} {P : Nat → Po} {I : Nat → Int32} {B : Nat → Nat → Int32} {inc : Nat} {sl : Nat → Option Nat} {h0 : Hp}
/-- a number that names one of n places -/
def inx (a : Int32) (n : Nat) : Prop := ∃ i, i < n ∧ a = nI i
theorem inx_no {a : Int32} {n : Nat} (hn : n < 2 ^ 31) (h : ¬ inx a n) : a < 0 ∨ (¬ a < 0 ∧ nI n ≤ a) := by
  rcases pk_ix a hn with z | z | z
  · exact Or.inl z
  · by_cases y : a < 0
    · exact Or.inl y
    · exact Or.inr ⟨y, z⟩
  · exact absurd z h
theorem inx_yes {a : Int32} {n : Nat} (hn : n < 2 ^ 31) (h : inx a n) : ¬ a < 0 ∧ ¬ nI n ≤ a ∧ a < nI n := by
  obtain ⟨i, hi, rfl⟩ := h
  exact ⟨nI_pos (by omega), nI_ge hi hn, nI_lt hi hn⟩
theorem needCell_s {R C : Nat} (hR : R < 5) (hC : C < 5) (hI0 : I 0 = nI R) (hI1 : I 1 = nI C) (a1 a2 : Int32) : (inx a1 R ∧ inx a2 C → fX7_needCell N 0 a1 a2 (HH P I B inc sl h0) = some (.inr (), HH P I B inc sl h0)) ∧ (¬ (inx a1 R ∧ inx a2 C) → fX7_needCell N 0 a1 a2 (HH P I B inc sl h0) = some (.inl 3, HH P I B inc sl h0)) := by
  have head : fX7_needCell N 0 a1 a2 (HH P I B inc sl h0) = (if a1 < 0 then some (.inl 3, HH P I B inc sl h0) else if nI R ≤ a1 then some (.inl 3, HH P I B inc sl h0) else if a2 < 0 then some (.inl 3, HH P I B inc sl h0) else if a2 < nI C then some (.inr (), HH P I B inc sl h0) else some (.inl 3, HH P I B inc sl h0)) := by
    unfold fX7_needCell jn
    rw [nf_0, nf_1, hI0, hI1]
    rfl
  rw [head]
  refine ⟨fun ⟨h1, h2⟩ => ?_, fun h => ?_⟩
  · have x1 := inx_yes (by omega) h1
    have x2 := inx_yes (by omega) h2
    rw [if_neg x1.1, if_neg x1.2.1, if_neg x2.1, if_pos x2.2.2]
  · by_cases q : inx a1 R
    · have x1 := inx_yes (by omega) q
      rw [if_neg x1.1, if_neg x1.2.1]
      rcases inx_no (by omega) (fun z => h ⟨q, z⟩) with z | z
      · rw [if_pos z]
      · rw [if_neg z.1, if_neg (fun y => by rw [Int32.lt_iff_toInt_lt] at y; have := z.2; rw [Int32.le_iff_toInt_le] at this; omega)]
    · rcases inx_no (by omega) q with z | z
      · rw [if_pos z]
      · rw [if_neg z.1, if_pos z.2]
theorem needEntry_s {R C : Nat} (hR : R < 5) (hC : C < 5) (hI0 : I 0 = nI R) (hI1 : I 1 = nI C) (a1 a2 a3 : Int32) : ((inx a1 R ∧ inx a2 C) ∧ inx a3 4 → fX7_needEntry N 0 a1 a2 a3 (HH P I B inc sl h0) = some (.inr (), HH P I B inc sl h0)) ∧ (¬ ((inx a1 R ∧ inx a2 C) ∧ inx a3 4) → fX7_needEntry N 0 a1 a2 a3 (HH P I B inc sl h0) = some (.inl 3, HH P I B inc sl h0)) := by
  have nc := needCell_s (N := N) (P := P) (I := I) (B := B) (inc := inc) (sl := sl) (h0 := h0) hR hC hI0 hI1 a1 a2
  unfold fX7_needEntry
  rw [nf_ck, Option.bind_some]
  refine ⟨fun ⟨h1, h3⟩ => ?_, fun h => ?_⟩
  · have x3 := inx_yes (by omega) h3
    rw [nc.1 h1, Option.bind_some]
    unfold thr jn
    dsimp only
    rw [if_neg x3.1]
    show (if a3 < nI 4 then _ else _) = _
    rw [if_pos x3.2.2]
  · by_cases q : inx a1 R ∧ inx a2 C
    · rw [nc.1 q, Option.bind_some]
      unfold thr jn
      dsimp only
      rcases inx_no (by omega) (fun z => h ⟨q, z⟩) with z | z
      · rw [if_pos z]
      · rw [if_neg z.1]
        show (if a3 < nI 4 then _ else _) = _
        rw [if_neg (fun y => by rw [Int32.lt_iff_toInt_lt] at y; have := z.2; rw [Int32.le_iff_toInt_le] at this; omega)]
    · rw [nc.2 q, Option.bind_some]
      rfl
theorem needForm_s (a1 : Int32) : (inx a1 3 → fX7_needForm N 0 a1 (HH P I B inc sl h0) = some (.inr (), HH P I B inc sl h0)) ∧ (¬ inx a1 3 → fX7_needForm N 0 a1 (HH P I B inc sl h0) = some (.inl 1, HH P I B inc sl h0)) := by
  unfold fX7_needForm jn
  dsimp only
  refine ⟨fun h => ?_, fun h => ?_⟩
  · have x := inx_yes (by omega) h
    rw [if_neg x.1]
    show (if a1 < nI 3 then _ else _) = _
    rw [if_pos x.2.2]
  · rcases inx_no (by omega) h with z | z
    · rw [if_pos z]
    · rw [if_neg z.1]
      show (if a1 < nI 3 then _ else _) = _
      rw [if_neg (fun y => by rw [Int32.lt_iff_toInt_lt] at y; have := z.2; rw [Int32.le_iff_toInt_le] at this; omega)]
theorem needSquare_s {R C : Nat} (hR : R < 5) (hC : C < 5) (hI0 : I 0 = nI R) (hI1 : I 1 = nI C) : (R = C → fX7_needSquare N 0 (HH P I B inc sl h0) = some (.inr (), HH P I B inc sl h0)) ∧ (R ≠ C → fX7_needSquare N 0 (HH P I B inc sl h0) = some (.inl 2, HH P I B inc sl h0)) := by
  unfold fX7_needSquare
  rw [nf_0, Option.bind_some, nf_1, Option.bind_some, hI0, hI1]
  exact ⟨fun h => if_pos (by rw [h]), fun h => if_neg (fun z => h ((eq_n (by omega) (by omega)).mp z))⟩
theorem mx_f {f : Nat} (hf : f < 3) : MX (cls (muf I B inc sl) h0) (509 + 42 * f) 13 := by
  rcases (show f = 0 ∨ f = 1 ∨ f = 2 by omega) with y | y | y <;> subst y
  · exact mx_509
  · exact mx_551
  · exact mx_593
/-- formCell -/
theorem formCell_s {R C : Nat} (hR : R < 5) (hC : C < 5) (hI0 : I 0 = nI R) (hI1 : I 1 = nI C) {ft : Nat → Nat} (hf : ∀ f, f < 3 → B 2 f = nI (ft f) ∧ ft f < 2) (a1 a2 a3 : Int32) : (¬ inx a1 3 → fX7_formCell N 0 a1 a2 a3 (HH P I B inc sl h0) = some (.inl 1, HH P I B inc sl h0)) ∧ (∀ f, f < 3 → a1 = nI f → (ft f = 0 → fX7_formCell N 0 a1 a2 a3 (HH P I B inc sl h0) = some (.inl 2, HH P I B inc sl h0)) ∧ (ft f = 1 → ¬ (inx a2 R ∧ inx a3 C) → fX7_formCell N 0 a1 a2 a3 (HH P I B inc sl h0) = some (.inl 3, HH P I B inc sl h0)) ∧ (ft f = 1 → ∀ i j, i < R → j < C → a2 = nI i → a3 = nI j → fX7_formCell N 0 a1 a2 a3 (HH P I B inc sl h0) = some (.inr (ce (509 + 42 * f) i j), HH P I B inc sl h0))) := by
  have nf := needForm_s (N := N) (P := P) (I := I) (B := B) (inc := inc) (sl := sl) (h0 := h0) a1
  have nc := needCell_s (N := N) (P := P) (I := I) (B := B) (inc := inc) (sl := sl) (h0 := h0) hR hC hI0 hI1 a2 a3
  refine ⟨fun h => ?_, fun f hf3 ha => ?_⟩
  · unfold fX7_formCell
    rw [nf_ck, Option.bind_some, nf.2 h, Option.bind_some]
    rfl
  · have g := hf f hf3
    have head : fX7_formCell N 0 a1 a2 a3 (HH P I B inc sl h0) = (if nI (ft f) = 0 then some (.inl 2, HH P I B inc sl h0) else (fX7_needCell N 0 a2 a3 (HH P I B inc sl h0)).bind fun (q12, h11) => thr q12 h11 fun _ => (gR h11 0 9 11).bind fun v14 => (aR h11 v14 3 a1).bind fun v15 => (cK h11 v15 4).bind fun u18 => (fX2_cell N v15 a2 a3 h11).bind fun (v16, h17) => some (Sum.inr v16, h17)) := by
      unfold fX7_formCell
      rw [nf_ck, Option.bind_some, nf.1 ⟨f, hf3, ha⟩, Option.bind_some]
      unfold thr
      dsimp only
      rw [nf_12, Option.bind_some, ha, th_g hf3, Option.bind_some, g.1]
      rfl
    refine ⟨fun h0 => ?_, fun h1 hn => ?_, fun h1 i j hi hj e2 e3 => ?_⟩
    · rw [head, h0, if_pos (show nI 0 = 0 from rfl)]
    · rw [head, h1, if_neg (show ¬ nI 1 = 0 by decide), nc.2 hn, Option.bind_some]
      rfl
    · rw [head, h1, if_neg (show ¬ nI 1 = 0 by decide), nc.1 ⟨⟨i, hi, e2⟩, ⟨j, hj, e3⟩⟩, Option.bind_some]
      unfold thr
      dsimp only
      have m := mx_f (I := I) (B := B) (inc := inc) (sl := sl) (h0 := h0) hf3
      rw [nf_11, Option.bind_some, ha, fo_a hf3, Option.bind_some]
      show (cK (conc P (cls (muf I B inc sl) h0)) (509 + 42 * f) 4).bind _ = _
      rw [m.ck, Option.bind_some, e2, e3]
      show (fX2_cell N (509 + 42 * f) (nI i) (nI j) (conc P (cls (muf I B inc sl) h0))).bind _ = _
      rw [cell_c m (by omega) (by omega), Option.bind_some]
      rfl
/-- size, where it is taken -/
theorem size_c (hN : 1000 ≤ N) (wf : FT P) {r s : Nat} (hr : r ≤ 4) (hs : s ≤ 4) : ∃ P' w, fX7_size N 0 (nI r) (nI s) (HH P I B inc sl h0) = some (.inr (), HH P' (ui (ui (ui (ui (ui I 0 (nI r)) 1 (nI s)) 2 0) 3 0) 4 0) (ua B 2 w) inc sl h0) ∧ FT P' ∧ (∀ f, f < 3 → w f = 0) ∧ (∀ i j, i < 4 → j < 4 → P' (ce 1 i j) = pC 0) ∧ (∀ x, x = 0 ∨ 43 ≤ x → P' x = P x) := by
  have m1 : ∀ I' : Nat → Int32, MX (cls (muf I' B inc sl) h0) 1 4 := fun _ => mx_1
  obtain ⟨P1, c1, c2, c3, c4⟩ := mclear_c hN wf (m1 (ui (ui I 0 (nI r)) 1 (nI s)))
  obtain ⟨w, d1, d2⟩ := forgetE_c (N := N) (P := P1) (I := ui (ui I 0 (nI r)) 1 (nI s)) (B := B) (inc := inc) (sl := sl) (h0 := h0) hN
  refine ⟨P1, w, ?_, c2, d2, c3, fun x hx => c4 x (fun a b ha hb => by show x ≠ 1 + 2 + 10 * a + 2 + 2 * b; omega)⟩
  unfold fX7_size jn
  dsimp only
  rw [if_neg (nI_pos (by omega)), if_pos (nI_pos' (by omega))]
  show (if nI 4 < nI r then _ else _) = _
  rw [if_neg (fun y => by have := (lt_n (by omega) (by omega)).mp y; omega)]
  show (if nI s ≤ nI 4 then _ else _) = _
  rw [if_pos ((le_n (by omega) (by omega)).mpr (by omega)), np_f0, Option.bind_some, np_f1, Option.bind_some, nf_2, Option.bind_some]
  show (cK (conc P (cls (muf (ui (ui I 0 (nI r)) 1 (nI s)) B inc sl) h0)) 1 4).bind _ = _
  rw [(m1 _).ck, Option.bind_some]
  show (fX2_clear N 1 (conc P (cls (muf (ui (ui I 0 (nI r)) 1 (nI s)) B inc sl) h0))).bind _ = _
  rw [c1, Option.bind_some]
  show (cK (HH P1 (ui (ui I 0 (nI r)) 1 (nI s)) B inc sl h0) 0 9).bind _ = _
  rw [nf_ck, Option.bind_some]
  show (fX7_forgetEntries N 0 (HH P1 (ui (ui I 0 (nI r)) 1 (nI s)) B inc sl h0)).bind _ = _
  rw [d1, Option.bind_some, nf_ck, Option.bind_some, forgetN_c]
  rfl
/-- size, where it is refused -/
theorem size_x (a1 a2 : Int32) : ((a1 < 0 ∨ a2 < 0) → fX7_size N 0 a1 a2 (HH P I B inc sl h0) = some (.inl 0, HH P I B inc sl h0)) ∧ (¬ (a1 < 0 ∨ a2 < 0) → (4 < a1 ∨ 4 < a2) → fX7_size N 0 a1 a2 (HH P I B inc sl h0) = some (.inl 1, HH P I B inc sl h0)) := by
  have nn : ∀ a : Int32, 0 ≤ a ↔ ¬ a < 0 := fun a => by rw [Int32.le_iff_toInt_le, Int32.lt_iff_toInt_lt]; omega
  have n4 : ∀ a : Int32, a ≤ 4 ↔ ¬ 4 < a := fun a => by rw [Int32.le_iff_toInt_le, Int32.lt_iff_toInt_lt]; omega
  unfold fX7_size jn
  dsimp only
  refine ⟨fun h => ?_, fun h h4 => ?_⟩
  · by_cases q : a1 < 0
    · rw [if_pos q]
    · rw [if_neg q, if_neg (fun z => (nn a2).mp z (Or.resolve_left h q))]
  · rw [if_neg (fun z => h (Or.inl z)), if_pos ((nn a2).mpr (fun z => h (Or.inr z)))]
    by_cases q : 4 < a1
    · rw [if_pos q]
    · rw [if_neg q, if_neg (fun z => (n4 a2).mp z (Or.resolve_left h4 q))]
end NM4
