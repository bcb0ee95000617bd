/-! the calls that change something -/
section OPU
variable {N : Nat}
theorem in5 {a : Int32} (h1 : ¬ a < 0) (h2 : ¬ (4 : Int32) < a) : ∃ r, r ≤ 4 ∧ a = nI r := by
  have : inx a 5 := (inx_int (by omega)).mpr (by
    rw [Int32.lt_iff_toInt_lt] at h1 h2
    have e0 : (0 : Int32).toInt = 0 := rfl
    have e4 : (4 : Int32).toInt = 4 := rfl
    omega)
  obtain ⟨r, hr, e⟩ := this
  exact ⟨r, by omega, e⟩
theorem op_size (hN : 33000 ≤ N) {h : Hp} (k : LK h) (a1 a2 : Int32) : ∃ v h1 h2, fL_size N 0 a1 a2 h = some (v, h1) ∧ cK h1 645 10 = some () ∧ fX8_size N 645 a1 a2 h1 = some h2 ∧ cK h2 645 10 = some () ∧ fX8_thrown N 645 h2 = some (v, h2) ∧ LK h2 := by
  obtain ⟨P, I, B, inc, sl, cd, R, C, A, g, E, ft, gE, rfl, li⟩ := k
  have sr := size_r (N := N) (h0 := HH P I B inc sl (og g)) (cd := cd) (rw := nI R) (cl := nI C) (A := A) (by omega) a1 a2
  by_cases q : a1 < 0 ∨ a2 < 0
  · refine ⟨1, LH P I B inc sl cd (nI R) (nI C) A g, LH P I B inc sl 1 (nI R) (nI C) A g, ?_, lh_ck, sr.1 q, lh_ck, lh_th, _, _, _, _, _, _, _, _, _, _, _, _, _, rfl, li⟩
    have : fX7_size N 0 a1 a2 (LH P I B inc sl cd (nI R) (nI C) A g) = some (.inl 0, LH P I B inc sl cd (nI R) (nI C) A g) := by
      unfold fX7_size jn
      dsimp only
      by_cases z : a1 < 0
      · rw [if_pos z]
      · rw [if_neg z, if_neg (fun y => Int32.not_le.mpr (q.resolve_left z) y)]
    unfold fL_size
    rw [lh_ck0, Option.bind_some, this, Option.bind_some]
    rfl
  · by_cases q2 : (4 : Int32) < a1 ∨ (4 : Int32) < a2
    · refine ⟨2, LH P I B inc sl cd (nI R) (nI C) A g, LH P I B inc sl 2 (nI R) (nI C) A g, ?_, lh_ck, sr.2.1 q q2, lh_ck, lh_th, _, _, _, _, _, _, _, _, _, _, _, _, _, rfl, li⟩
      have : fX7_size N 0 a1 a2 (LH P I B inc sl cd (nI R) (nI C) A g) = some (.inl 1, LH P I B inc sl cd (nI R) (nI C) A g) := by
        unfold fX7_size jn
        dsimp only
        rw [if_neg (fun z => q (Or.inl z)), if_pos (Int32.not_lt.mp (fun z => q (Or.inr z)))]
        by_cases z : (4 : Int32) < a1
        · rw [if_pos z]
        · rw [if_neg z, if_neg (fun y => Int32.not_le.mpr (q2.resolve_left z) y)]
      unfold fL_size
      rw [lh_ck0, Option.bind_some, this, Option.bind_some]
      rfl
    · obtain ⟨r, hr, er⟩ := in5 (fun z => q (Or.inl z)) (fun z => q2 (Or.inl z))
      obtain ⟨s, hs, es⟩ := in5 (fun z => q (Or.inr z)) (fun z => q2 (Or.inr z))
      obtain ⟨⟨w1, w2, w3, w4, w5, w6⟩, ⟨b1, b2, b3, b4⟩, ⟨c1, c2, c3, c4⟩, ⟨d1, d2, d3⟩, e1, e2, e3, e4⟩ := li
      obtain ⟨P', w, t1, t2, t3, t4, t5⟩ := size_c (N := N) (P := P) (I := I) (B := B) (inc := inc) (sl := sl) (h0 := rfh (og g) cd (nI R) (nI C) A) (by omega) w1 hr hs
      obtain ⟨I', hI'⟩ : ∃ I', I' = ui (ui (ui (ui (ui I 0 (nI r)) 1 (nI s)) 2 0) 3 0) 4 0 := ⟨_, rfl⟩
      rw [← hI'] at t1
      obtain ⟨v3, v4, r1, r2, r3⟩ := (size_r (N := N) (h0 := HH P' I' (ua B 2 w) inc sl (og g)) (cd := cd) (rw := nI R) (cl := nI C) (A := A) (by omega) a1 a2).2.2 r s hr hs er es
      refine ⟨0, LH P' I' (ua B 2 w) inc sl cd (nI R) (nI C) A g, LH P' I' (ua B 2 w) inc sl 0 (nI r) (nI s) (ua (ua A 3 v3) 4 v4) g, ?_, lh_ck, r1, lh_ck, lh_th, P', I', ua B 2 w, inc, sl, 0, r, s, ua (ua A 3 v3) 4 v4, g, fun _ _ => pC 0, fun _ => 0, gE, rfl, ⟨⟨t2, w2, hr, hs, by rw [hI', ui_n _ _ (by decide), ui_n _ _ (by decide), ui_n _ _ (by decide), ui_n _ _ (by decide), ui_s], by rw [hI', ui_n _ _ (by decide), ui_n _ _ (by decide), ui_n _ _ (by decide), ui_s]⟩, ⟨t4, fun i j => by show sz (pC 0) ≤ 4; rw [sz_z]; omega, fun i j hi hj t ht => ?_, fun i j _ _ _ => rfl⟩, ⟨by rw [t5 47 (by omega)]; exact c1, by rw [t5 260 (by omega)]; exact c2, by rw [t5 438 (by omega)]; exact c3, by rw [t5 643 (by omega)]; exact c4⟩, ⟨Or.inl (by rw [hI', ui_n _ _ (by decide), ui_n _ _ (by decide), ui_s]), fun _ => Or.inl (by rw [hI', ui_n _ _ (by decide), ui_s]), fun _ => Or.inl (by rw [hI', ui_s])⟩, fun f hf => ⟨by rw [ua_s, t3 f hf]; rfl, show (0 : Nat) < 2 by omega⟩, fun f hf => ⟨by rw [ua_s, r3 f hf]; rfl, show (0 : Nat) < 2 by omega⟩, fun z => absurd z (show ¬ (0 : Nat) = 1 by decide), fun f i j _ z => absurd z (show ¬ (0 : Nat) = 1 by decide)⟩⟩
      · unfold fL_size
        rw [lh_ck0, Option.bind_some, lh_c, er, es, t1, Option.bind_some, lh_c]
        rfl
      · rw [ua_n _ _ (by decide), ua_s, r2 _ (by omega), vl_C0]
        rfl
theorem co_ps (p : Po) (x : Nat) (v : Fp) (t : Nat) : co (pSet p x v) t = if t = x then v else co p t := rfl
theorem xE_cg {E E' : Nat → Nat → Po} (h : ∀ a b, co (E' a b) 0 = co (E a b) 0) (R : Nat) : xE E' R = xE E R := by
  funext i j
  unfold xE
  rw [h i j]
theorem op_put (hN : 33000 ≤ N) {h : Hp} (k : LK h) (a1 a2 a3 a4 : Int32) : ∃ v h1 w h2, fL_put N 0 a1 a2 a3 a4 664 h = some (v, h1) ∧ cK h1 645 10 = some () ∧ fX8_put N 645 a1 a2 a3 a4 h1 = some (w, h2) ∧ cK h2 645 10 = some () ∧ fX8_thrown N 645 h2 = some (v, h2) ∧ (v = 0 → aJ h2 664 (0 : Int32) = some (if w = 0 then (0 : Int64) else 1)) ∧ LK h2 := by
  obtain ⟨P, I, B, inc, sl, cd, R, C, A, g, E, ft, gE, rfl, li⟩ := k
  obtain ⟨⟨w1, w2, w3, w4, w5, w6⟩, ⟨b1, b2, b3, b4⟩, ⟨c1, c2, c3, c4⟩, ⟨d1, d2, d3⟩, e1, e2, e3, e4⟩ := id li
  have ec := put_c (N := N) (P := P) (I := I) (B := B) (inc := inc) (sl := sl) (h0 := rfh (og g) cd (nI R) (nI C) A) (by omega) w1 (by omega) (by omega) w5 w6 b1 a1 a2 a3 a4
  by_cases q : (inx a1 R ∧ inx a2 C) ∧ inx a3 4
  · obtain ⟨⟨⟨i, hi, f1⟩, ⟨j, hj, f2⟩⟩, ⟨x, hx, f3⟩⟩ := q
    have e := ec.2 i j x hi hj hx f1 f2 f3
    by_cases z : co (E i j) x = fmI a4
    · have r := ((put_r (N := N) (h0 := HH P I B inc sl (og (vp_updL g 0 0))) (cd := cd) (A := A) (by omega) (by omega) (by omega) b3 a1 a2 a3 a4).2 i j x hi hj hx f1 f2 f3).1 z
      refine ⟨0, LH P I B inc sl cd (nI R) (nI C) A (vp_updL g 0 0), 0, LH P I B inc sl 0 (nI R) (nI C) A (vp_updL g 0 0), ?_, lh_ck, r, lh_ck, lh_th, fun _ => by rw [if_pos rfl]; exact lh_j _, _, _, _, _, _, _, _, _, _, _, _, _, _, rfl, li⟩
      unfold fL_put
      rw [lh_ck0, Option.bind_some, lh_c, e.1 z, Option.bind_some]
      unfold hnd jn
      dsimp only
      rw [if_pos rfl, ← lh_c, lh_js, Option.bind_some]
    · obtain ⟨w, I', t1, t2, t3, t4, t5, t6, t7, t8⟩ := e.2 z
      obtain ⟨w', r1, r2⟩ := ((put_r (N := N) (h0 := HH (st P (ce 1 i j) (pSet (E i j) x (fmI a4))) I' (ua B 2 w) inc sl (og (vp_updL g 0 1))) (cd := cd) (A := A) (by omega) (by omega) (by omega) b3 a1 a2 a3 a4).2 i j x hi hj hx f1 f2 f3).2 z
      obtain ⟨P', hP'⟩ : ∃ P', P' = st P (ce 1 i j) (pSet (E i j) x (fmI a4)) := ⟨_, rfl⟩
      obtain ⟨E', hE'⟩ : ∃ E' : Nat → Nat → Po, E' = fun a b => if a = i ∧ b = j then pSet (E i j) x (fmI a4) else E a b := ⟨_, rfl⟩
      have cl := ce_lo (i := i) (j := j) (by omega) (by omega)
      have Po : ∀ y, 43 ≤ y → P' y = P y := fun y hy => by rw [hP']; exact st_ne _ _ (by omega)
      have Ea : ∀ a b, ¬ (a = i ∧ b = j) → E' a b = E a b := fun a b n => by rw [hE']; exact if_neg n
      have Ei : E' i j = pSet (E i j) x (fmI a4) := by rw [hE']; exact if_pos ⟨rfl, rfl⟩
      have X0 : x ≠ 0 → ∀ a b, co (E' a b) 0 = co (E a b) 0 := fun hx0 a b => by
        by_cases y : a = i ∧ b = j
        · rw [y.1, y.2, Ei, co_ps, if_neg (Ne.symm hx0)]
        · rw [Ea a b y]
      rw [← hP'] at t1 t2
      rw [← hP'] at r1
      refine ⟨0, LH P' I' (ua B 2 w) inc sl cd (nI R) (nI C) A (vp_updL g 0 1), 1, LH P' I' (ua B 2 w) inc sl 0 (nI R) (nI C) (ua (ua A 3 (upd (A 3) (16 * i + 4 * j + x) (nI (fmI a4).val))) 4 w') (vp_updL g 0 1), ?_, lh_ck, r1, lh_ck, lh_th, fun _ => by rw [if_neg (by decide)]; exact lh_j _, P', I', ua B 2 w, inc, sl, 0, R, C, ua (ua A 3 (upd (A 3) (16 * i + 4 * j + x) (nI (fmI a4).val))) 4 w', vp_updL g 0 1, E', fun _ => 0, gE, rfl, ⟨⟨t2, w2, w3, w4, by rw [t8 0 (by decide) (by decide) (by decide)]; exact w5, by rw [t8 1 (by decide) (by decide) (by decide)]; exact w6⟩, ⟨fun a b ha hb => ?_, fun a b => ?_, fun a b ha hb t ht => ?_, fun a b ha hb n => ?_⟩, ⟨by rw [Po 47 (by omega)]; exact c1, by rw [Po 260 (by omega)]; exact c2, by rw [Po 438 (by omega)]; exact c3, by rw [Po 643 (by omega)]; exact c4⟩, ⟨Or.inl t5, fun s => ?_, fun s => ?_⟩, fun f hf => ⟨by rw [ua_s, t4 f hf]; rfl, show (0 : Nat) < 2 by omega⟩, fun f hf => ⟨by rw [ua_s, r2 f hf]; rfl, show (0 : Nat) < 2 by omega⟩, fun z => absurd z (show ¬ (0 : Nat) = 1 by decide), fun f i j _ z => absurd z (show ¬ (0 : Nat) = 1 by decide)⟩⟩
      · unfold fL_put
        rw [lh_ck0, Option.bind_some, lh_c, t1, Option.bind_some]
        unfold hnd jn
        dsimp only
        rw [if_neg (by decide), ← lh_c, lh_js, Option.bind_some]
      · by_cases y : a = i ∧ b = j
        · rw [y.1, y.2, Ei, hP']
          exact st_same _ _ _
        · rw [Ea a b y, hP', st_ne _ _ (fun e => y (by unfold ce at e; omega))]
          exact b1 a b ha hb
      · by_cases y : a = i ∧ b = j
        · rw [y.1, y.2, Ei]; exact t3
        · rw [Ea a b y]; exact b2 a b
      · rw [ua_n _ _ (by decide), ua_s]
        unfold upd
        by_cases y : a = i ∧ b = j
        · rw [y.1, y.2, Ei]
          unfold vl
          rw [co_ps]
          by_cases u : t = x
          · rw [if_pos (by omega), if_pos u]
          · rw [if_neg (by omega), if_neg u]
            exact b3 i j (by omega) (by omega) t ht
        · rw [if_neg (by omega), Ea a b y]
          exact b3 a b ha hb t ht
      · rw [Ea a b (by omega)]
        exact b4 a b ha hb n
      · by_cases x0 : x = 0
        · exact Or.inl (t6 x0).1
        · rw [(t7 x0).1, xE_cg (X0 x0) R]
          rcases d2 s with y | y
          · exact Or.inl y
          · exact Or.inr ⟨y.1, fun r s hr hs hb => by rw [Po _ (by omega)]; exact y.2.1 r s hr hs hb, fun k hk => by rw [Po _ (by omega)]; exact y.2.2 k hk⟩
      · by_cases x0 : x = 0
        · exact Or.inl (t6 x0).2
        · rw [(t7 x0).2]
          rcases d3 s with y | y
          · exact Or.inl y
          · obtain ⟨n, gg, n1, n2, n3, n4, n5⟩ := y.2
            refine Or.inr ⟨y.1, n, gg, by rw [t8 7 (by decide) (by decide) (by decide)]; exact n1, n2, fun j hj => by rw [ua_n _ _ (by decide)]; exact n3 j hj, n4, ?_⟩
            have ce : chp E' R = chp E R := by
              unfold chp
              rw [xE_cg (X0 x0) R]
            rw [ce]
            exact n5
  · have r := (put_r (N := N) (h0 := HH P I B inc sl (og g)) (cd := cd) (A := A) (by omega) (by omega) (by omega) b3 a1 a2 a3 a4).1 q
    refine ⟨1, LH P I B inc sl cd (nI R) (nI C) A g, 0, LH P I B inc sl 1 (nI R) (nI C) A g, ?_, lh_ck, r, lh_ck, lh_th, fun z => absurd z (by decide), _, _, _, _, _, _, _, _, _, _, _, _, _, rfl, li⟩
    unfold fL_put
    rw [lh_ck0, Option.bind_some, lh_c, ec.1 q, Option.bind_some]
    unfold hnd
    dsimp only
    rw [if_pos rfl]
/-- a form has been made -/
theorem li_F {P P' : Nat → Po} {I I' : Nat → Int32} {B B' : Nat → Nat → Int32} {inc inc' : Nat} {sl sl' : Nat → Option Nat} {R C : Nat} {A A' : Nat → Nat → Int32} {E : Nat → Nat → Po} {ft gE gE' : Nat → Nat} {f0 : Nat} (hf0 : f0 < 3) (h : LI P I B inc sl R C A E ft gE) (h1 : FT P') (he : EH gE' inc' sl') (h2 : MR E 43 P') (h3 : I' 2 = 1) (h4 : I' 5 = nI (ord E)) (h5 : ∀ k, k ≠ 2 → k ≠ 5 → I' k = I k) (hB : B' 2 = upd (B 2) f0 1) (hB0 : B' 0 = B 0) (h6 : ∀ x, x < 43 ∨ 214 ≤ x ∧ x < 453 ∨ 509 ≤ x ∧ (x < 509 + 42 * f0 ∨ 509 + 42 * f0 + 42 ≤ x) → P' x = P x) (a3 : A' 3 = A 3) (a4 : A' 4 = upd (A 4) f0 1) (a5 : ∀ y, y < 640 * f0 ∨ 640 * f0 + 640 ≤ y ∧ y < 1920 → A' 5 y = A 5 y) (hn : ∀ i j, i < R → j < C → FMp (A' 5) f0 i j (P' (ce (509 + 42 * f0) i j))) (h22 : f0 = 2 → R = C ∧ sz (mi E (2 ^ R - 1) (2 ^ R - 1)) = 1) : LI P' I' B' inc' sl' R C A' E (fun f => if f = f0 then 1 else ft f) gE' := by
  obtain ⟨⟨w1, w2, w3, w4, w5, w6⟩, ⟨b1, b2, b3, b4⟩, ⟨c1, c2, c3, c4⟩, ⟨d1, d2, d3⟩, e1, e2, e3, e4⟩ := h
  refine ⟨⟨h1, he, w3, w4, by rw [h5 0 (by decide) (by decide)]; exact w5, by rw [h5 1 (by decide) (by decide)]; exact w6⟩, ⟨fun i j hi hj => by rw [h6 _ (Or.inl (ce_lo hi hj).1)]; exact b1 i j hi hj, b2, by rw [a3]; exact b3, b4⟩, ⟨mr_sz h2, by rw [h6 260 (by omega)]; exact c2, by rw [h6 438 (by omega)]; exact c3, by rw [h6 643 (by omega)]; exact c4⟩, ⟨Or.inr ⟨h3, h2, h4⟩, fun q => ?_, fun q => ?_⟩, fun f hf => ?_, fun f hf => ?_, fun q => ?_, fun f i j hf q hi hj => ?_⟩
  · rcases d2 q with z | z
    · exact Or.inl (by rw [h5 3 (by decide) (by decide)]; exact z)
    · refine Or.inr ⟨by rw [h5 3 (by decide) (by decide)]; exact z.1, fun r s hr hs hb => ?_, fun k hk => ?_⟩
      · obtain ⟨y, hy, ey⟩ := mo_sq (i := 16 * r + s) (by omega) (sq_of hs hb)
        rw [h6 _ (by omega)]; exact z.2.1 r s hr hs hb
      · rw [h6 _ (by omega)]; exact z.2.2 k hk
  · rcases d3 q with z | z
    · exact Or.inl (by rw [h5 4 (by decide) (by decide)]; exact z)
    · obtain ⟨n, g, n1, n2, n3, n4⟩ := z.2
      exact Or.inr ⟨by rw [h5 4 (by decide) (by decide)]; exact z.1, n, g, by rw [h5 7 (by decide) (by decide)]; exact n1, n2, fun j hj => by rw [hB0]; exact n3 j hj, n4⟩
  · dsimp only
    rw [hB]
    unfold upd
    by_cases z : f = f0
    · rw [if_pos z, if_pos z]; exact ⟨rfl, by omega⟩
    · rw [if_neg z, if_neg z]; exact e1 f hf
  · dsimp only
    rw [a4]
    unfold upd
    by_cases z : f = f0
    · rw [if_pos z, if_pos z]; exact ⟨rfl, by omega⟩
    · rw [if_neg z, if_neg z]; exact e2 f hf
  · dsimp only at q
    by_cases z : 2 = f0
    · exact h22 z.symm
    · rw [if_neg z] at q; exact e3 q
  · dsimp only at q
    by_cases z : f = f0
    · rw [z]; exact hn i j hi hj
    · rw [if_neg z] at q
      have ce := ce_f (f := f) (i := i) (j := j) (by omega) (by omega)
      rw [h6 _ (by omega)]
      exact (e4 f i j hf q hi hj).ext (fun t ht => a5 _ (by omega))
theorem fl_mk {P P' : Nat → Po} {I I' : Nat → Int32} {B B' : Nat → Nat → Int32} {inc inc' : Nat} {sl sl' : Nat → Option Nat} {cd rw cl : Int32} {A : Nat → Nat → Int32} {g : Nat → Int64} {a1 v : Int32} (h : fX7_make N 0 a1 (HH P I B inc sl (rfh (og g) cd rw cl A)) = some (.inr v, HH P' I' B' inc' sl' (rfh (og g) cd rw cl A))) : fL_make N 0 a1 664 (LH P I B inc sl cd rw cl A g) = some (0, LH P' I' B' inc' sl' cd rw cl A (vp_updL g 0 v.toInt64)) := by
  unfold fL_make
  rw [lh_ck0, Option.bind_some, lh_c, h, Option.bind_some]
  unfold hnd
  dsimp only
  rw [← lh_c, lh_js, Option.bind_some]
theorem op_make (hN : 33000 ≤ N) {h : Hp} (k : LK h) (a1 : Int32) : RES N (fL_make N 0 a1 664 h) (fun h1 => fX8_make N 645 a1 h1) := by
  obtain ⟨P, I, B, inc, sl, cd, R, C, A, g, E, ft, gE, rfl, li⟩ := k
  obtain ⟨⟨w1, w2, w3, w4, w5, w6⟩, ⟨b1, b2, b3, b4⟩, ⟨c1, c2, c3, c4⟩, ⟨d1, d2, d3⟩, e1, e2, e3, e4⟩ := id li
  by_cases q : inx a1 3
  · obtain ⟨f, hf, ef⟩ := q
    rcases (show f = 0 ∨ f = 1 ∨ f = 2 by omega) with y | y | y <;> subst y <;> subst ef
    · obtain ⟨P', I', B', inc', sl', g', F, W, t1, t2, t3, t4, t5, t6, t7, t8, t9, t10, t11, t12, t13, t14⟩ := make_c3 (N := N) (P := P) (I := I) (B := B) (inc := inc) (sl := sl) (h0 := rfh (og g) cd (nI R) (nI C) A) (by omega) w1 w2 b1 b2 c1 d1
      obtain ⟨A', F', W', M, r1, r2, r3, r4, r5, r6, r7, r8⟩ := make_r3 (N := N) (h0 := HH P' I' B' inc' sl' (og (vp_updL g 0 (nI (ord E)).toInt64))) (cd := cd) hN w3 w4 (A := A) b2 (fun i j hi hj z => b4 i j hi hj (Or.inr z)) (fun i j hi hj z => b4 i j hi hj (Or.inl z)) b3
      have un := hf_un t10 r4 (fun v => (t11 v).trans (r5 v).symm)
      have fm := fw_un un.1 un.2 t13 r6
      exact res_of (k := 0) (g := g) (w := nI (ord E)) (cd := cd) (A := A) (A' := A') (fl_mk t1) r1 (fun _ => rfl) (li_F (f0 := 0) (by omega) li t2 t3 t4 t5 t6 t7 t8 (t9 0 (by decide) (by decide)) (fun x hx => t14 x (by omega)) r2 r3 (fun y hy => r8 y (by omega)) (fun i j hi hj => by
        have := fm i j (by omega) (by omega)
        show FMp (A' 5) 0 i j (P' (ce 509 i j))
        rw [this]
        exact r7 i j (by omega) (by omega)) (fun z => absurd z (by decide)))
    · obtain ⟨P', I', t1, t2, t3, t4, t5, t6, t7, t8⟩ := make_c1 (N := N) (P := P) (I := I) (B := B) (inc := inc) (sl := sl) (h0 := rfh (og g) cd (nI R) (nI C) A) (by omega) w1 b1 b2 c1 d1
      obtain ⟨A', r1, r2, r3, r4, r5, r6⟩ := make_r1 (N := N) (h0 := HH P' I' (ua B 2 (upd (B 2) 1 1)) inc sl (og (vp_updL g 0 (nI (ord E)).toInt64))) (cd := cd) (rw := nI R) (cl := nI C) (A := A) hN b2 b3
      exact res_of (k := 0) (g := g) (w := nI (ord E)) (cd := cd) (A := A) (A' := A') (fl_mk t1) r1 (fun _ => rfl) (li_F (f0 := 1) (by omega) li t2 w2 t3 t4 t5 t6 (ua_s _ _ _) (ua_n _ _ (by decide)) (fun x hx => t8 x (by omega)) r2 r3 (fun y hy => r6 y (by omega)) (fun i j hi hj => by
        show FMp (A' 5) 1 i j (P' (ce 551 i j))
        rw [t7 i j (by omega) (by omega)]
        by_cases z : i = j ∧ i < ord E
        · rw [if_pos z, ← z.1]
          exact r4 i z.2
        · rw [if_neg z]
          exact r5 i j (by omega) (by omega) z) (fun z => absurd z (by decide)))
    · have mc := make_c2 (N := N) (P := P) (I := I) (B := B) (inc := inc) (sl := sl) (h0 := rfh (og g) cd (nI R) (nI C) A) (by omega) w1 (by omega) (by omega) w5 w6 b1 b2 c1 d1
      by_cases z : R = C ∧ sz (mi E (2 ^ R - 1) (2 ^ R - 1)) = 1
      · obtain ⟨P', I', t1, t2, t3, t4, t5, t6, t7, t8⟩ := mc.2 z
        obtain ⟨A', r1, r2, r3, r4, r5⟩ := (make_r2 (N := N) (h0 := HH P' I' (ua B 2 (upd (B 2) 2 1)) inc sl (og (vp_updL g 0 (nI R).toInt64))) (cd := cd) (A := A) hN (by omega) (by omega) b2 b3).2 z
        exact res_of (k := 0) (g := g) (w := nI R) (cd := cd) (A := A) (A' := A') (fl_mk t1) r1 (fun _ => rfl) (li_F (f0 := 2) (by omega) li t2 w2 t3 t4 t5 t6 (ua_s _ _ _) (ua_n _ _ (by decide)) (fun x hx => t8 x (by omega)) r2 r3 (fun y hy => r5 y (by omega)) (fun i j hi hj => by
          show FMp (A' 5) 2 i j (P' (ce 593 i j))
          rw [t7 i j hi (by omega)]
          exact r4 i j hi (by omega)) (fun _ => z))
      · obtain ⟨P', I', t1, t2, t3, t4, t5, t6, t7⟩ := mc.1 z
        obtain ⟨A', r1, r2, r3, r4⟩ := (make_r2 (N := N) (h0 := HH P' I' B inc sl (og (vp_updL g 0 (-1 : Int32).toInt64))) (cd := cd) (A := A) hN (by omega) (by omega) b2 b3).1 z
        have f20 : ft 2 = 0 := by
          have := (e1 2 (by omega)).2
          have : ft 2 ≠ 1 := fun y => z (e3 y)
          omega
        have lm := li_M li t2 t3 t4 t5 t6 t7
        refine res_of (k := 0) (g := g) (w := -1) (cd := cd) (A := A) (A' := A') (fl_mk t1) r1 (fun _ => rfl) (E := E) (ft := ft) (gE := gE) ?_
        obtain ⟨x1, ⟨y1, y2, y3, y4⟩, x3, x4, u1, u2, u3, u4⟩ := lm
        refine ⟨x1, ⟨y1, y2, by rw [r2]; exact y3, y4⟩, x3, x4, u1, fun f hf => ?_, u3, fun f i j hf v hi hj => ?_⟩
        · rw [r3]
          unfold upd
          by_cases y : f = 2
          · rw [if_pos y, y, f20]; exact ⟨rfl, by omega⟩
          · rw [if_neg y]; exact u2 f hf
        · have : f ≠ 2 := fun y => by rw [y, f20] at v; omega
          exact (u4 f i j hf v hi hj).ext (fun t ht => r4 _ (by omega))
  · have r := make_r0 (N := N) (h0 := HH P I B inc sl (og g)) (cd := cd) (rw := nI R) (cl := nI C) (A := A) a1 q
    refine res_of (k := 1) (g := g) (w := 0) (cd := cd) (P := P) (I := I) (B := B) (inc := inc) (sl := sl) (A := A) (g1 := g) ?_ r (fun z => absurd z (by decide)) li
    unfold fL_make
    rw [lh_ck0, Option.bind_some, lh_c, make_c0 a1 q, Option.bind_some]
    unfold hnd
    dsimp only
    rw [if_pos rfl]
end OPU
