theorem ln2_l {N : Nat} {h0 : Hp} {cd rw cl : Int32}   {V : Nat → Int32} : ∀ (d n z : Nat) (A : Nat → Nat → Int32), z + d = 64 → d < n → (∀ t, t < 64 → (0 : Int32) = V t) → ∀ κ, lX8_loadNumbers_2 N 645 n (nI z) (rfh h0 cd rw cl A) κ = κ (nI 64) (rfh h0 cd rw cl (ua A 7 (wr (A 7) z 64 V)))
  | d, 0, z, A, _, hn, _, κ => absurd hn (Nat.not_lt_zero _)
  | 0, n + 1, z, A, hz, hn, hV, κ => by
    have e : z = 64 := by omega
    subst e
    rw [wr_nil, ua_id, lX8_loadNumbers_2]
    show (if nI 64 ≤ nI 64 then _ else _) = _
    rw [if_pos (by decide)]
  | d + 1, n + 1, z, A, hz, hn, hV, κ => by
    have hVz := hV z (by omega)
    have ih := ln2_l (N := N) (h0 := h0) (cd := cd) (rw := rw) (cl := cl)  (V := V) d n (z + 1) (ua A 7 (upd (A 7) z (V z))) (by omega) (by omega) (fun t ht => by
      exact hV t ht) κ
    rw [ua_s, ua_ua, wr_step _ _ rfl (by omega)] at ih
    rw [lX8_loadNumbers_2]
    show (if nI 64 ≤ nI z then _ else _) = _
    rw [if_neg (fun y => by have := (le_n (by omega) (by omega)).mp y; omega)]
    rw [rg_7, Option.bind_some, hVz, rs_7 (by omega), Option.bind_some]
    unfold nm
    rw [nI_1]
    exact ih
theorem ro222_l {N : Nat} {h0 : Hp} {cd rw cl : Int32} {a1 a2 : Int32}  {V : Nat → Int32} : ∀ (d n z : Nat) (A : Nat → Nat → Int32), z + d = 64 → d < n → (∀ t, t < 64 → (0 : Int32) = V t) → ∀ κ, lX8_rankOf_222 N 645 a1 a2 n (nI z) (rfh h0 cd rw cl A) κ = κ (nI 64) (rfh h0 cd rw cl (ua A 7 (wr (A 7) z 64 V)))
  | d, 0, z, A, _, hn, _, κ => absurd hn (Nat.not_lt_zero _)
  | 0, n + 1, z, A, hz, hn, hV, κ => by
    have e : z = 64 := by omega
    subst e
    rw [wr_nil, ua_id, lX8_rankOf_222]
    show (if nI 64 ≤ nI 64 then _ else _) = _
    rw [if_pos (by decide)]
  | d + 1, n + 1, z, A, hz, hn, hV, κ => by
    have hVz := hV z (by omega)
    have ih := ro222_l (N := N) (h0 := h0) (cd := cd) (rw := rw) (cl := cl) (a1 := a1) (a2 := a2) (V := V) d n (z + 1) (ua A 7 (upd (A 7) z (V z))) (by omega) (by omega) (fun t ht => by
      exact hV t ht) κ
    rw [ua_s, ua_ua, wr_step _ _ rfl (by omega)] at ih
    rw [lX8_rankOf_222]
    show (if nI 64 ≤ nI z then _ else _) = _
    rw [if_neg (fun y => by have := (le_n (by omega) (by omega)).mp y; omega)]
    rw [rg_7, Option.bind_some, hVz, rs_7 (by omega), Option.bind_some]
    unfold nm
    rw [nI_1]
    exact ih
theorem ro187_l {N : Nat} {h0 : Hp} {cd rw cl : Int32} {a1 a2 a3 : Int32}  {V : Nat → Int32} : ∀ (d n z : Nat) (A : Nat → Nat → Int32), z + d = 16 → d < n → (∀ t, t < 16 → A 20 t = V t) → ∀ κ, lX8_rankOf_187 N 645 a1 a2 a3 n (nI z) (rfh h0 cd rw cl A) κ = κ (nI 16) (rfh h0 cd rw cl (ua A 19 (wr (A 19) z 16 V)))
  | d, 0, z, A, _, hn, _, κ => absurd hn (Nat.not_lt_zero _)
  | 0, n + 1, z, A, hz, hn, hV, κ => by
    have e : z = 16 := by omega
    subst e
    rw [wr_nil, ua_id, lX8_rankOf_187]
    show (if nI 16 ≤ nI 16 then _ else _) = _
    rw [if_pos (by decide)]
  | d + 1, n + 1, z, A, hz, hn, hV, κ => by
    have hVz := hV z (by omega)
    have ih := ro187_l (N := N) (h0 := h0) (cd := cd) (rw := rw) (cl := cl) (a1 := a1) (a2 := a2) (a3 := a3) (V := V) d n (z + 1) (ua A 19 (upd (A 19) z (V z))) (by omega) (by omega) (fun t ht => by
      rw [ua_n _ _ (by omega)]; exact hV t ht) κ
    rw [ua_s, ua_ua, wr_step _ _ rfl (by omega)] at ih
    rw [lX8_rankOf_187]
    show (if nI 16 ≤ nI z then _ else _) = _
    rw [if_neg (fun y => by have := (le_n (by omega) (by omega)).mp y; omega)]
    rw [rg_19, Option.bind_some, rg_20, Option.bind_some, ra_20 (by omega), Option.bind_some, hVz, rs_19 (by omega), Option.bind_some]
    unfold nm
    rw [nI_1]
    exact ih
theorem fl68_l {N : Nat} {h0 : Hp} {cd rw cl : Int32} {m : Nat} (hm : m < 5) {V : Nat → Int32} : ∀ (d n z : Nat) (A : Nat → Nat → Int32), z + d = 16 → d < n → (∀ t, t < 16 → A 16 t = V t) → ∀ κ, lX8_findLeast_68 N 645 (nI m) n (nI z) (rfh h0 cd rw cl A) κ = κ (nI 16) (rfh h0 cd rw cl (ua A 14 (wr (A 14) (16 * m + z) (16 * m + 16) (fun y => V (y - (16 * m))))))
  | d, 0, z, A, _, hn, _, κ => absurd hn (Nat.not_lt_zero _)
  | 0, n + 1, z, A, hz, hn, hV, κ => by
    have e : z = 16 := by omega
    subst e
    rw [wr_nil, ua_id, lX8_findLeast_68]
    show (if nI 16 ≤ nI 16 then _ else _) = _
    rw [if_pos (by decide)]
  | d + 1, n + 1, z, A, hz, hn, hV, κ => by
    have hVz := hV z (by omega)
    have ih := fl68_l (N := N) (h0 := h0) (cd := cd) (rw := rw) (cl := cl) (m := m) hm (V := V) d n (z + 1) (ua A 14 (upd (A 14) (16 * m + z) (V z))) (by omega) (by omega) (fun t ht => by
      rw [ua_n _ _ (by omega)]; exact hV t ht) κ
    rw [ua_s, ua_ua, ← Nat.add_assoc, wr_step _ _ (by rw [Nat.add_sub_cancel_left]) (by omega)] at ih
    rw [lX8_findLeast_68]
    show (if nI 16 ≤ nI z then _ else _) = _
    rw [if_neg (fun y => by have := (le_n (by omega) (by omega)).mp y; omega)]
    rw [rg_14, Option.bind_some, rg_16, Option.bind_some, ra_16 (by omega), Option.bind_some, hVz]
    show (aIs (rfh h0 cd rw cl A) 657 (nI 16 * nI m + nI z) (V z)).bind _ = _
    rw [pk_mul, nI_add, rs_14 (by omega), Option.bind_some]
    unfold nm
    rw [nI_1]
    exact ih
/-! the reference: x less the numbers -/
noncomputable def xE (E : Nat → Nat → Po) (R i j : Nat) : Po := if i < R ∧ j < R then pAdd (pC (- co (E i j) 0)) (if i = j then mono 1 1 else pC 0) else pC 0
theorem xE_co (E : Nat → Nat → Po) (R i j t : Nat) : co (xE E R i j) t = if i < R ∧ j < R then (if t = 0 then - co (E i j) 0 else if t = 1 ∧ i = j then 1 else 0) else 0 := by
  unfold xE
  by_cases q : i < R ∧ j < R
  · rw [if_pos q, if_pos q, co_add, co_C]
    by_cases z : t = 0
    · rw [if_pos z, if_pos z]
      by_cases y : i = j
      · rw [if_pos y, co_mono, if_neg (by omega)]; grind
      · rw [if_neg y, co_0]; grind
    · rw [if_neg z, if_neg z]
      by_cases y : i = j
      · rw [if_pos y, co_mono]
        by_cases u : t = 1
        · rw [if_pos u, if_pos ⟨u, y⟩]; grind
        · rw [if_neg u, if_neg (fun v => u v.1)]; grind
      · rw [if_neg y, if_neg (fun v => y v.2), co_0]; grind
  · rw [if_neg q, if_neg q, co_0]
theorem xE_sz (E : Nat → Nat → Po) (R i j : Nat) : sz (xE E R i j) ≤ 2 := sz_le (fun t ht => by
  rw [xE_co]
  by_cases q : i < R ∧ j < R
  · rw [if_pos q, if_neg (by omega), if_neg (by omega)]
  · rw [if_neg q])
theorem ineg (v : Fp) : irm ((32003 : Int32) - nI v.val) (32003 : Int32) = nI (- v).val := by
  have h := v.isLt
  rw [show (32003 : Int32) - nI v.val = nI (32003 - v.val) from pk_sub (a := 32003) (by omega), irm_nI (by omega)]
  congr 1
theorem ln33 {N : Nat} {h0 : Hp} {cd cl : Int32} {E : Nat → Nat → Po} {R i : Nat} (hR : R < 5) (hi : i < R) : ∀ (d n j : Nat) (A : Nat → Nat → Int32), j + d = R → d < n → EN E (A 3) → ∃ f', (∀ κ, lX8_loadNumbers_33 N 645 (nI i) n (nI j) (rfh h0 cd (nI R) cl A) κ = κ (nI R) (rfh h0 cd (nI R) cl (ua A 7 f'))) ∧ (∀ j', j ≤ j' → j' < R → f' (16 * i + 4 * j') = nI (- co (E i j') 0).val) ∧ (∀ y, (∀ j', j ≤ j' → j' < R → y ≠ 16 * i + 4 * j') → f' y = A 7 y)
  | d, 0, j, A, _, hn, _ => absurd hn (Nat.not_lt_zero _)
  | 0, n + 1, j, A, hj, hn, hE => by
    have e : j = R := by omega
    subst e
    refine ⟨A 7, fun κ => ?_, fun j' h1 h2 => by omega, fun _ _ => rfl⟩
    rw [lX8_loadNumbers_33, rg_1, Option.bind_some, if_pos ((le_n (by omega) (by omega)).mpr (Nat.le_refl _)), ua_id]
  | d + 1, n + 1, j, A, hj, hn, hE => by
    obtain ⟨f', g1, g2, g3⟩ := ln33 (N := N) (h0 := h0) (cd := cd) (cl := cl) hR hi d n (j + 1) (ua A 7 (upd (A 7) (16 * i + 4 * j) (nI (- co (E i j) 0).val))) (by omega) (by omega) (by rw [ua_n _ _ (by decide)]; exact hE)
    have he : A 3 (16 * i + 4 * j) = nI (co (E i j) 0).val := hE i j (by omega) (by omega) 0 (by omega)
    refine ⟨f', fun κ => ?_, fun j' h1 h2 => ?_, fun y hy => ?_⟩
    · rw [lX8_loadNumbers_33, rg_1, Option.bind_some, if_neg (fun y => by have := (le_n (by omega) (by omega)).mp y; omega), rg_7, Option.bind_some, rg_3, Option.bind_some]
      show (aI (rfh h0 cd (nI R) cl A) 646 (nI 16 * nI i + nI 4 * nI j)).bind _ = _
      rw [pk_mul, pk_mul, nI_add, ra_3 (by omega), Option.bind_some]
      show (aIs (rfh h0 cd (nI R) cl A) 650 (nI 16 * nI i + nI 4 * nI j) (irm ((32003 : Int32) - A 3 (16 * i + 4 * j)) (32003 : Int32))).bind _ = _
      rw [pk_mul, pk_mul, nI_add, he, ineg, rs_7 (by omega), Option.bind_some]
      unfold nm
      rw [nI_1]
      have := g1 κ
      rw [ua_ua] at this
      exact this
    · by_cases z : j' = j
      · rw [z, g3 _ (fun j'' h3 h4 => by omega), ua_s]
        unfold upd
        rw [if_pos rfl]
      · exact g2 j' (by omega) h2
    · rw [g3 y (fun j' h1 h2 => hy j' (by omega) h2), ua_s]
      unfold upd
      rw [if_neg (hy j (Nat.le_refl _) (by omega))]
theorem ln23 {N : Nat} {h0 : Hp} {cd cl : Int32} (hN : 1000 ≤ N) {E : Nat → Nat → Po} {R : Nat} (hR : R < 5) : ∀ (d n i : Nat) (A : Nat → Nat → Int32), i + d = R → d < n → EN E (A 3) → (∀ y, 16 * i ≤ y → y < 64 → A 7 y = 0) → ∃ f', (∀ κ, lX8_loadNumbers_23 N 645 n (nI i) (rfh h0 cd (nI R) cl A) κ = κ (nI R) (rfh h0 cd (nI R) cl (ua A 7 f'))) ∧ (∀ i' j', i ≤ i' → i' < 4 → j' < 4 → RP f' (16 * i' + 4 * j') 4 (xE E R i' j')) ∧ (∀ y, y < 16 * i → f' y = A 7 y)
  | d, 0, i, A, _, hn, _, _ => absurd hn (Nat.not_lt_zero _)
  | 0, n + 1, i, A, hi, hn, hE, hz => by
    have e : i = R := by omega
    subst e
    refine ⟨A 7, fun κ => ?_, fun i' j' h1 h2 h3 t ht => ?_, fun _ _ => rfl⟩
    · rw [lX8_loadNumbers_23, rg_1, Option.bind_some, if_pos ((le_n (by omega) (by omega)).mpr (Nat.le_refl _)), ua_id]
    · rw [hz _ (by omega) (by omega)]
      unfold vl
      rw [xE_co, if_neg (by omega)]
      rfl
  | d + 1, n + 1, i, A, hi, hn, hE, hz => by
    obtain ⟨f1, u1, u2, u3⟩ := ln33 (N := N) (h0 := h0) (cd := cd) (cl := cl) hR (i := i) (by omega) R N 0 A (by omega) (by omega) hE
    obtain ⟨f', g1, g2, g3⟩ := ln23 (h0 := h0) (cd := cd) (cl := cl) hN hR d n (i + 1) (ua (ua A 7 f1) 7 (upd f1 (16 * i + 4 * i + 1) 1)) (by omega) (by omega) (by rw [ua_n _ _ (by decide), ua_n _ _ (by decide)]; exact hE) (fun y h1 h2 => by
      rw [ua_s]
      unfold upd
      rw [if_neg (by omega), u3 y (fun j' h3 h4 => by omega)]
      exact hz y (by omega) h2)
    rw [ua_s] at g3
    refine ⟨f', fun κ => ?_, fun i' j' h1 h2 h3 => ?_, fun y hy => ?_⟩
    · rw [lX8_loadNumbers_23, rg_1, Option.bind_some, if_neg (fun y => by have := (le_n (by omega) (by omega)).mp y; omega)]
      show lX8_loadNumbers_33 N 645 (nI i) N (nI 0) _ _ = _
      rw [u1, rg_7, Option.bind_some]
      show (aIs (rfh h0 cd (nI R) cl (ua A 7 f1)) 650 ((nI 16 * nI i + nI 4 * nI i) + nI 1) 1).bind _ = _
      rw [pk_mul, pk_mul, nI_add, nI_add, rs_7 (by omega), Option.bind_some, ua_s]
      unfold nm
      rw [nI_1]
      have := g1 κ
      rw [ua_ua] at this ⊢
      rw [ua_ua] at this
      exact this
    · by_cases z : i' = i
      · intro t ht
        rw [z, g3 _ (by omega)]
        unfold upd vl
        rw [xE_co]
        by_cases q : t = 0
        · rw [if_neg (by omega), q, Nat.add_zero]
          by_cases q2 : j' < R
          · rw [u2 j' (by omega) q2, if_pos ⟨by omega, q2⟩, if_pos rfl]
          · rw [u3 _ (fun j'' h4 h5 => by omega), hz _ (by omega) (by omega), if_neg (fun y => q2 y.2)]
            rfl
        · by_cases q3 : t = 1 ∧ i = j'
          · rw [if_pos (by omega), if_pos ⟨by omega, by omega⟩, if_neg q, if_pos q3]
            rfl
          · rw [if_neg (by omega), u3 _ (fun j'' h4 h5 => by omega), hz _ (by omega) (by omega), if_neg q, if_neg q3, ite_self]
            rfl
      · exact g2 i' j' (by omega) h2 h3
    · rw [g3 y (by omega)]
      unfold upd
      rw [if_neg (by omega), u3 y (fun j' h3 h4 => by omega)]
/-- loadNumbers -/
theorem loadN_s {N : Nat} {h0 : Hp} {cd cl : Int32} (hN : 33000 ≤ N) {E : Nat → Nat → Po} {R : Nat} (hR : R < 5) {A : Nat → Nat → Int32} (hE : EN E (A 3)) : ∃ f6 f7, fX8_loadNumbers N 645 (rfh h0 cd (nI R) cl A) = some (rfh h0 cd (nI R) cl (ua (ua A 7 f7) 6 f6)) ∧ MF (xE E R) f6 := by
  have l1 := ln2_l (N := N) (h0 := h0) (cd := cd) (rw := nI R) (cl := cl) (V := fun _ => 0) 64 N 0 A rfl (by omega) (fun _ _ => rfl)
  obtain ⟨f7, u1, u2, u3⟩ := ln23 (N := N) (h0 := h0) (cd := cd) (cl := cl) (by omega) (E := E) hR R N 0 (ua A 7 (wr (A 7) 0 64 (fun _ => 0))) (by omega) (by omega) (by rw [ua_n _ _ (by decide)]; exact hE) (fun y _ h2 => by rw [ua_s, wr_in ⟨Nat.zero_le _, h2⟩])
  obtain ⟨f6, g1, g2⟩ := minors_s (N := N) (h0 := h0) (cd := cd) (rw := nI R) (cl := cl) hN (E := xE E R) (fun i j => by have := xE_sz E R i j; omega) (A := ua A 7 f7) (fun i j hi hj => by rw [ua_s]; exact u2 i j (by omega) hi hj)
  refine ⟨f6, f7, ?_, g2⟩
  unfold fX8_loadNumbers
  show lX8_loadNumbers_2 N 645 N (nI 0) (rfh h0 cd (nI R) cl A) _ = _
  rw [l1]
  show lX8_loadNumbers_23 N 645 N (nI 0) _ _ = _
  rw [u1, ua_ua, rf_ck, Option.bind_some, g1]
  rfl
