/-! the reference: loops that write a stretch of an array -/
def wr (f : Nat → Int32) (a b : Nat) (g : Nat → Int32) : Nat → Int32 := fun y => if a ≤ y ∧ y < b then g y else f y
theorem wr_nil (f : Nat → Int32) (a : Nat) (g : Nat → Int32) : wr f a a g = f := funext (fun y => if_neg (by omega))
theorem wr_step (f : Nat → Int32) {a b : Nat} (g : Nat → Int32) {x : Int32} (hx : x = g a) (h : a < b) : wr (upd f a x) (a + 1) b g = wr f a b g := by
  funext y
  unfold wr upd
  by_cases q : y = a
  · rw [if_neg (by omega), if_pos q, if_pos (by omega), q, hx]
  · rw [if_neg q]
    by_cases q2 : a + 1 ≤ y ∧ y < b
    · rw [if_pos q2, if_pos (by omega)]
    · rw [if_neg q2, if_neg (by omega)]
theorem wr_in {f : Nat → Int32} {a b y : Nat} {g : Nat → Int32} (h : a ≤ y ∧ y < b) : wr f a b g y = g y := if_pos h
theorem wr_out {f : Nat → Int32} {a b y : Nat} {g : Nat → Int32} (h : ¬ (a ≤ y ∧ y < b)) : wr f a b g y = f y := if_neg h
theorem empty_l {N : Nat} {h0 : Hp} {cd rw cl : Int32} {k : Nat} (hk : 10 ≤ k) (hk2 : k ≤ 13) {V : Nat → Int32} : ∀ (d n z : Nat) (A : Nat → Nat → Int32), z + d = 256 → d < n → (∀ t, t < 256 → (0 : Int32) = V t) → ∀ κ, lX8_empty_2 N (643 + k) n (nI z) (rfh h0 cd rw cl A) κ = κ (nI 256) (rfh h0 cd rw cl (ua A k (wr (A k) z 256 V)))
  | d, 0, z, A, _, hn, _, κ => absurd hn (Nat.not_lt_zero _)
  | 0, n + 1, z, A, hz, hn, hV, κ => by
    have e : z = 256 := by omega
    subst e
    rw [wr_nil, ua_id, lX8_empty_2]
    show (if nI 256 ≤ nI 256 then _ else _) = _
    rw [if_pos (by decide)]
  | d + 1, n + 1, z, A, hz, hn, hV, κ => by
    have hVz := hV z (by omega)
    have ih := empty_l (N := N) (h0 := h0) (cd := cd) (rw := rw) (cl := cl) (k := k) hk hk2 (V := V) d n (z + 1) (ua A k (upd (A k) z (V z))) (by omega) (by omega) (fun t ht => by
      exact hV t ht) κ
    rw [ua_s, ua_ua, wr_step _ _ rfl (by omega)] at ih
    rw [lX8_empty_2]
    show (if nI 256 ≤ nI z then _ else _) = _
    rw [if_neg (fun y => by have := (le_n (by omega) (by omega)).mp y; omega)]
    rw [hVz]
    have e := rs (h0 := h0) (cd := cd) (rw := rw) (cl := cl) (A := A) (k := k) (j := z) (by omega) (by omega) (by omega) (by rw [show ln k = 256 from (by decide : ∀ k, k < 14 → 10 ≤ k → ln k = 256) k (by omega) hk]; omega) (V z)
    rw [e, Option.bind_some]
    unfold nm
    rw [nI_1]
    exact ih
theorem put0_l {N : Nat} {h0 : Hp} {cd rw cl : Int32} {k f i j : Nat} (hk : 10 ≤ k) (hk2 : k ≤ 13) (hf : f < 3) (hi : i < 4) (hj : j < 4) {V : Nat → Int32} : ∀ (d n z : Nat) (A : Nat → Nat → Int32), z + d = 40 → d < n → (∀ t, t < 40 → A k t = V t) → ∀ κ, lX8_put0_3 N 645 (nI f) (nI i) (nI j) (643 + k) n (nI z) (rfh h0 cd rw cl A) κ = κ (nI 40) (rfh h0 cd rw cl (ua A 5 (wr (A 5) (40 * (16 * f + 4 * i + j) + z) (40 * (16 * f + 4 * i + j) + 40) (fun y => V (y - (40 * (16 * f + 4 * i + j)))))))
  | d, 0, z, A, _, hn, _, κ => absurd hn (Nat.not_lt_zero _)
  | 0, n + 1, z, A, hz, hn, hV, κ => by
    have e : z = 40 := by omega
    subst e
    rw [wr_nil, ua_id, lX8_put0_3]
    show (if nI 40 ≤ nI 40 then _ else _) = _
    rw [if_pos (by decide)]
  | d + 1, n + 1, z, A, hz, hn, hV, κ => by
    have hVz := hV z (by omega)
    have ih := put0_l (N := N) (h0 := h0) (cd := cd) (rw := rw) (cl := cl) (k := k) (f := f) (i := i) (j := j) hk hk2 hf hi hj (V := V) d n (z + 1) (ua A 5 (upd (A 5) (40 * (16 * f + 4 * i + j) + z) (V z))) (by omega) (by omega) (fun t ht => by
      rw [ua_n _ _ (by omega)]; exact hV t ht) κ
    rw [ua_s, ua_ua, ← Nat.add_assoc, wr_step _ _ (by rw [Nat.add_sub_cancel_left]) (by omega)] at ih
    rw [lX8_put0_3]
    show (if nI 40 ≤ nI z then _ else _) = _
    rw [if_neg (fun y => by have := (le_n (by omega) (by omega)).mp y; omega)]
    rw [rg_5, Option.bind_some]
    have e := ra (h0 := h0) (cd := cd) (rw := rw) (cl := cl) (A := A) (k := k) (j := z) (by omega) (by omega) (by omega) (by rw [show ln k = 256 from (by decide : ∀ k, k < 14 → 10 ≤ k → ln k = 256) k (by omega) hk]; omega)
    rw [e, Option.bind_some, hVz]
    show (aIs (rfh h0 cd rw cl A) 648 (((nI 40) * (((nI 16 * nI f) + (nI 4 * nI i)) + nI j)) + nI z) (V z)).bind _ = _
    rw [pk_mul, pk_mul, nI_add, nI_add, pk_mul, nI_add, rs_5 (by omega), Option.bind_some]
    unfold nm
    rw [nI_1]
    exact ih
theorem clearF_l {N : Nat} {h0 : Hp} {cd rw cl : Int32} {f : Nat} (hf : f < 3) {V : Nat → Int32} : ∀ (d n z : Nat) (A : Nat → Nat → Int32), z + d = 640 → d < n → (∀ t, t < 640 → (0 : Int32) = V t) → ∀ κ, lX8_clearForm_2 N 645 (nI f) n (nI z) (rfh h0 cd rw cl A) κ = κ (nI 640) (rfh h0 cd rw cl (ua A 5 (wr (A 5) (640 * f + z) (640 * f + 640) (fun y => V (y - (640 * f))))))
  | d, 0, z, A, _, hn, _, κ => absurd hn (Nat.not_lt_zero _)
  | 0, n + 1, z, A, hz, hn, hV, κ => by
    have e : z = 640 := by omega
    subst e
    rw [wr_nil, ua_id, lX8_clearForm_2]
    show (if nI 640 ≤ nI 640 then _ else _) = _
    rw [if_pos (by decide)]
  | d + 1, n + 1, z, A, hz, hn, hV, κ => by
    have hVz := hV z (by omega)
    have ih := clearF_l (N := N) (h0 := h0) (cd := cd) (rw := rw) (cl := cl) (f := f) hf (V := V) d n (z + 1) (ua A 5 (upd (A 5) (640 * f + z) (V z))) (by omega) (by omega) (fun t ht => by
      exact hV t ht) κ
    rw [ua_s, ua_ua, ← Nat.add_assoc, wr_step _ _ (by rw [Nat.add_sub_cancel_left]) (by omega)] at ih
    rw [lX8_clearForm_2]
    show (if nI 640 ≤ nI z then _ else _) = _
    rw [if_neg (fun y => by have := (le_n (by omega) (by omega)).mp y; omega)]
    rw [rg_5, Option.bind_some, hVz]
    show (aIs (rfh h0 cd rw cl A) 648 ((nI 640 * nI f) + nI z) (V z)).bind _ = _
    rw [pk_mul, nI_add, rs_5 (by omega), Option.bind_some]
    unfold nm
    rw [nI_1]
    exact ih
theorem sm191_l {N : Nat} {h0 : Hp} {cd rw cl : Int32} {a1 a2 : Int32}  {V : Nat → Int32} : ∀ (d n z : Nat) (A : Nat → Nat → Int32), z + d = 256 → d < n → (∀ t, t < 256 → A 10 t = V t) → ∀ κ, lX8_makeSmith_191 N 645 a1 a2 n (nI z) (rfh h0 cd rw cl A) κ = κ (nI 256) (rfh h0 cd rw cl (ua A 13 (wr (A 13) z 256 V)))
  | d, 0, z, A, _, hn, _, κ => absurd hn (Nat.not_lt_zero _)
  | 0, n + 1, z, A, hz, hn, hV, κ => by
    have e : z = 256 := by omega
    subst e
    rw [wr_nil, ua_id, lX8_makeSmith_191]
    show (if nI 256 ≤ nI 256 then _ else _) = _
    rw [if_pos (by decide)]
  | d + 1, n + 1, z, A, hz, hn, hV, κ => by
    have hVz := hV z (by omega)
    have ih := sm191_l (N := N) (h0 := h0) (cd := cd) (rw := rw) (cl := cl) (a1 := a1) (a2 := a2) (V := V) d n (z + 1) (ua A 13 (upd (A 13) z (V z))) (by omega) (by omega) (fun t ht => by
      rw [ua_n _ _ (by omega)]; exact hV t ht) κ
    rw [ua_s, ua_ua, wr_step _ _ rfl (by omega)] at ih
    rw [lX8_makeSmith_191]
    show (if nI 256 ≤ nI z then _ else _) = _
    rw [if_neg (fun y => by have := (le_n (by omega) (by omega)).mp y; omega)]
    rw [rg_13, Option.bind_some, rg_10, Option.bind_some, ra_10 (by omega), Option.bind_some, hVz, rs_13 (by omega), Option.bind_some]
    unfold nm
    rw [nI_1]
    exact ih
theorem sm137_l {N : Nat} {h0 : Hp} {cd rw cl : Int32} {a1 a2 : Int32}  {V : Nat → Int32} : ∀ (d n z : Nat) (A : Nat → Nat → Int32), z + d = 256 → d < n → (∀ t, t < 256 → A 10 t = V t) → ∀ κ, lX8_makeSmith_137 N 645 a1 a2 n (nI z) (rfh h0 cd rw cl A) κ = κ (nI 256) (rfh h0 cd rw cl (ua A 11 (wr (A 11) z 256 V)))
  | d, 0, z, A, _, hn, _, κ => absurd hn (Nat.not_lt_zero _)
  | 0, n + 1, z, A, hz, hn, hV, κ => by
    have e : z = 256 := by omega
    subst e
    rw [wr_nil, ua_id, lX8_makeSmith_137]
    show (if nI 256 ≤ nI 256 then _ else _) = _
    rw [if_pos (by decide)]
  | d + 1, n + 1, z, A, hz, hn, hV, κ => by
    have hVz := hV z (by omega)
    have ih := sm137_l (N := N) (h0 := h0) (cd := cd) (rw := rw) (cl := cl) (a1 := a1) (a2 := a2) (V := V) d n (z + 1) (ua A 11 (upd (A 11) z (V z))) (by omega) (by omega) (fun t ht => by
      rw [ua_n _ _ (by omega)]; exact hV t ht) κ
    rw [ua_s, ua_ua, wr_step _ _ rfl (by omega)] at ih
    rw [lX8_makeSmith_137]
    show (if nI 256 ≤ nI z then _ else _) = _
    rw [if_neg (fun y => by have := (le_n (by omega) (by omega)).mp y; omega)]
    rw [rg_11, Option.bind_some, rg_10, Option.bind_some, ra_10 (by omega), Option.bind_some, hVz, rs_11 (by omega), Option.bind_some]
    unfold nm
    rw [nI_1]
    exact ih
theorem sm81_l {N : Nat} {h0 : Hp} {cd rw cl : Int32} {a1 a2 : Int32} {r s : Nat} (hr : r < 16) (hs : s < 16) {V : Nat → Int32} : ∀ (d n z : Nat) (A : Nat → Nat → Int32), z + d = 13 → d < n → (∀ t, t < 13 → A 6 (13 * (16 * r + s) + t) = V t) → ∀ κ, lX8_makeSmith_81 N 645 a1 a2 (nI r) (nI s) n (nI z) (rfh h0 cd rw cl A) κ = κ (nI 13) (rfh h0 cd rw cl (ua A 11 (wr (A 11) z 13 V)))
  | d, 0, z, A, _, hn, _, κ => absurd hn (Nat.not_lt_zero _)
  | 0, n + 1, z, A, hz, hn, hV, κ => by
    have e : z = 13 := by omega
    subst e
    rw [wr_nil, ua_id, lX8_makeSmith_81]
    show (if nI 13 ≤ nI 13 then _ else _) = _
    rw [if_pos (by decide)]
  | d + 1, n + 1, z, A, hz, hn, hV, κ => by
    have hVz := hV z (by omega)
    have ih := sm81_l (N := N) (h0 := h0) (cd := cd) (rw := rw) (cl := cl) (a1 := a1) (a2 := a2) (r := r) (s := s) hr hs (V := V) d n (z + 1) (ua A 11 (upd (A 11) z (V z))) (by omega) (by omega) (fun t ht => by
      rw [ua_n _ _ (by omega)]; exact hV t ht) κ
    rw [ua_s, ua_ua, wr_step _ _ rfl (by omega)] at ih
    rw [lX8_makeSmith_81]
    show (if nI 13 ≤ nI z then _ else _) = _
    rw [if_neg (fun y => by have := (le_n (by omega) (by omega)).mp y; omega)]
    rw [rg_11, Option.bind_some, rg_6, Option.bind_some]
    show (aI (rfh h0 cd rw cl A) 649 (nI 13 * (nI 16 * nI r + nI s) + nI z)).bind _ = _
    rw [pk_mul, nI_add, pk_mul, nI_add, ra_6 (by omega), Option.bind_some, hVz, rs_11 (by omega), Option.bind_some]
    unfold nm
    rw [nI_1]
    exact ih
theorem take_l {N : Nat} {h0 : Hp} {cd rw cl : Int32} {k r j : Nat} (hk : 10 ≤ k) (hk2 : k ≤ 13) (hr : r < 5) (hj : j < 4) {V : Nat → Int32} : ∀ (d n z : Nat) (A : Nat → Nat → Int32), z + d = 256 → d < n → (∀ t, t < 256 → A 8 (256 * (4 * r + j) + t) = V t) → ∀ κ, lX8_take_3 N 645 (643 + k) (nI r) (nI j) n (nI z) (rfh h0 cd rw cl A) κ = κ (nI 256) (rfh h0 cd rw cl (ua A k (wr (A k) z 256 V)))
  | d, 0, z, A, _, hn, _, κ => absurd hn (Nat.not_lt_zero _)
  | 0, n + 1, z, A, hz, hn, hV, κ => by
    have e : z = 256 := by omega
    subst e
    rw [wr_nil, ua_id, lX8_take_3]
    show (if nI 256 ≤ nI 256 then _ else _) = _
    rw [if_pos (by decide)]
  | d + 1, n + 1, z, A, hz, hn, hV, κ => by
    have hVz := hV z (by omega)
    have ih := take_l (N := N) (h0 := h0) (cd := cd) (rw := rw) (cl := cl) (k := k) (r := r) (j := j) hk hk2 hr hj (V := V) d n (z + 1) (ua A k (upd (A k) z (V z))) (by omega) (by omega) (fun t ht => by
      rw [ua_n _ _ (by omega)]; exact hV t ht) κ
    rw [ua_s, ua_ua, wr_step _ _ rfl (by omega)] at ih
    rw [lX8_take_3]
    show (if nI 256 ≤ nI z then _ else _) = _
    rw [if_neg (fun y => by have := (le_n (by omega) (by omega)).mp y; omega)]
    rw [rg_8, Option.bind_some]
    show (aI (rfh h0 cd rw cl A) 651 (nI 256 * (nI 4 * nI r + nI j) + nI z)).bind _ = _
    have e := rs (h0 := h0) (cd := cd) (rw := rw) (cl := cl) (A := A) (k := k) (j := z) (by omega) (by omega) (by omega) (by rw [show ln k = 256 from (by decide : ∀ k, k < 14 → 10 ≤ k → ln k = 256) k (by omega) hk]; omega) (V z)
    rw [pk_mul, nI_add, pk_mul, nI_add, ra_8 (by omega), Option.bind_some, hVz, e, Option.bind_some]
    unfold nm
    rw [nI_1]
    exact ih
theorem give_l {N : Nat} {h0 : Hp} {cd rw cl : Int32} {k r j : Nat} (hk : 10 ≤ k) (hk2 : k ≤ 13) (hr : r < 5) (hj : j < 4) {V : Nat → Int32} : ∀ (d n z : Nat) (A : Nat → Nat → Int32), z + d = 256 → d < n → (∀ t, t < 256 → A k t = V t) → ∀ κ, lX8_give_3 N 645 (643 + k) (nI r) (nI j) n (nI z) (rfh h0 cd rw cl A) κ = κ (nI 256) (rfh h0 cd rw cl (ua A 8 (wr (A 8) (256 * (4 * r + j) + z) (256 * (4 * r + j) + 256) (fun y => V (y - (256 * (4 * r + j)))))))
  | d, 0, z, A, _, hn, _, κ => absurd hn (Nat.not_lt_zero _)
  | 0, n + 1, z, A, hz, hn, hV, κ => by
    have e : z = 256 := by omega
    subst e
    rw [wr_nil, ua_id, lX8_give_3]
    show (if nI 256 ≤ nI 256 then _ else _) = _
    rw [if_pos (by decide)]
  | d + 1, n + 1, z, A, hz, hn, hV, κ => by
    have hVz := hV z (by omega)
    have ih := give_l (N := N) (h0 := h0) (cd := cd) (rw := rw) (cl := cl) (k := k) (r := r) (j := j) hk hk2 hr hj (V := V) d n (z + 1) (ua A 8 (upd (A 8) (256 * (4 * r + j) + z) (V z))) (by omega) (by omega) (fun t ht => by
      rw [ua_n _ _ (by omega)]; exact hV t ht) κ
    rw [ua_s, ua_ua, ← Nat.add_assoc, wr_step _ _ (by rw [Nat.add_sub_cancel_left]) (by omega)] at ih
    rw [lX8_give_3]
    show (if nI 256 ≤ nI z then _ else _) = _
    rw [if_neg (fun y => by have := (le_n (by omega) (by omega)).mp y; omega)]
    rw [rg_8, Option.bind_some]
    have e := ra (h0 := h0) (cd := cd) (rw := rw) (cl := cl) (A := A) (k := k) (j := z) (by omega) (by omega) (by omega) (by rw [show ln k = 256 from (by decide : ∀ k, k < 14 → 10 ≤ k → ln k = 256) k (by omega) hk]; omega)
    rw [e, Option.bind_some, hVz]
    show (aIs (rfh h0 cd rw cl A) 651 (nI 256 * (nI 4 * nI r + nI j) + nI z) (V z)).bind _ = _
    rw [pk_mul, nI_add, pk_mul, nI_add, rs_8 (by omega), Option.bind_some]
    unfold nm
    rw [nI_1]
    exact ih
