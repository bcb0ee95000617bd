/-! the reference's Hermite form: rows scaled and lowered -/
theorem MD.cg {f : Nat → Int32} {W V : Nat → Nat → Po} (h : MD f W) (e : ∀ a j, a < 5 → j < 4 → V a j = W a j) : MD f V := fun a j ha hj => by
  rw [e a j ha hj]
  exact h a j ha hj
def frH (A A' : Nat → Nat → Int32) : Prop := ∀ k, k ≠ 8 → k ≠ 9 → k ≠ 10 → k ≠ 11 → k ≠ 12 → A' k = A k
theorem frH.tr {A B C : Nat → Nat → Int32} (h1 : frH A B) (h2 : frH B C) : frH A C := fun k a b c d e => (h2 k a b c d e).trans (h1 k a b c d e)
theorem frH.rf {A : Nat → Nat → Int32} : frH A A := fun _ _ _ _ _ _ => rfl
theorem frH.u {A B : Nat → Nat → Int32} (h : frH A B) {k : Nat} (hk : k = 8 ∨ k = 9 ∨ k = 10 ∨ k = 11 ∨ k = 12) (f : Nat → Int32) : frH A (ua B k f) := fun i a b c d e => by
  rw [ua_n _ _ (by omega)]
  exact h i a b c d e
def pF (F : Nat → Bool) (k : Nat) : Int32 := if F k = true then nI k else -1
theorem pF_n {F : Nat → Bool} {k : Nat} (h : F k = false) : pF F k = -1 := by unfold pF; rw [h]; rfl
theorem pF_y {F : Nat → Bool} {k : Nat} (h : F k = true) : pF F k = nI k := by unfold pF; rw [h]; rfl
theorem nI_nm {k : Nat} (h : k < 4) : nI k ≠ (-1 : Int32) := by
  have : k = 0 ∨ k = 1 ∨ k = 2 ∨ k = 3 := by omega
  rcases this with e | e | e | e <;> subst e <;> decide
theorem dI_le {a b : Nat} (ha : a ≤ 256) (hb : b ≤ 256) (hb0 : b ≠ 0) : dI b ≤ dI a ↔ b ≤ a := by
  obtain ⟨b', rfl⟩ : ∃ b', b = b' + 1 := ⟨b - 1, by omega⟩
  cases a with
  | zero =>
    constructor
    · intro h
      rw [dI_succ] at h
      have h0 : nI 0 ≤ nI b' := (le_n (by omega) (by omega)).mpr (Nat.zero_le _)
      have : nI 0 ≤ dI 0 := Int32.le_trans h0 h
      exact absurd this (by decide)
    · intro h; omega
  | succ a' =>
    rw [dI_succ, dI_succ, le_n (by omega) (by omega)]
    omega
section RL
variable {N : Nat} {h0 : Hp} {cd rw cl : Int32}
theorem give_s (hN : 1000 ≤ N) {A : Nat → Nat → Int32} {W : Nat → Nat → Po} (hW : MD (A 8) W) {r j : Nat} (hr : r < 5) (hj : j < 4) {p : Po} (hp : PP (A 10) p) : ∃ f, fX8_give N 645 653 (nI r) (nI j) (rfh h0 cd rw cl A) = some (rfh h0 cd rw cl (ua A 8 f)) ∧ MD f (fun a b => if a = r ∧ b = j then p else W a b) := by
  refine ⟨wr (A 8) (256 * (4 * r + j) + 0) (256 * (4 * r + j) + 256) (fun y => A 10 (y - (256 * (4 * r + j)))), ?_, fun a b ha hb => ?_⟩
  · unfold fX8_give
    show lX8_give_3 N 645 (643 + 10) (nI r) (nI j) N (nI 0) (rfh h0 cd rw cl A) _ = _
    rw [give_l (by omega) (by omega) hr hj (V := A 10) 256 N 0 A rfl (by omega) (fun _ _ => rfl)]
  · show RP _ _ 256 (if a = r ∧ b = j then p else W a b) ∧ sz (if a = r ∧ b = j then p else W a b) ≤ 256
    by_cases q : a = r ∧ b = j
    · rw [if_pos q, q.1, q.2]
      refine ⟨fun t ht => ?_, hp.2⟩
      rw [wr_in ⟨by omega, by omega⟩, Nat.add_sub_cancel_left]
      exact hp.1 t ht
    · rw [if_neg q]
      refine ⟨(hW a b ha hb).1.ext (fun t ht => ?_), (hW a b ha hb).2⟩
      rw [wr_out (fun z => q (by omega))]
theorem lw_0 {c : Nat} (hc : c < 4) {A : Nat → Nat → Int32} {F : Nat → Bool} (h9 : ∀ k, k < 4 → A 9 k = pF F k) {r : Nat} (hF : F c = false) : fX8_lower N 645 (nI r) (nI c) (rfh h0 cd rw cl A) = some (rfh h0 cd rw cl A) := by
  unfold fX8_lower
  rw [rg_9, Option.bind_some, ra_9 hc, Option.bind_some, h9 c hc, pF_n hF]
  unfold jn
  dsimp only
  rw [if_pos rfl]
theorem lw_1 {c : Nat} (hc : c < 4) {A : Nat → Nat → Int32} {F : Nat → Bool} (h9 : ∀ k, k < 4 → A 9 k = pF F k) {r : Nat} (hr : r < 4) (hF : F r = false) : fX8_lower N 645 (nI r) (nI c) (rfh h0 cd rw cl A) = some (rfh h0 cd rw cl A) := by
  unfold fX8_lower
  rw [rg_9, Option.bind_some, ra_9 hc, Option.bind_some, h9 c hc]
  unfold jn
  dsimp only
  by_cases q : pF F c = -1
  · rw [if_pos q]
  · rw [if_neg q]
    show (if nI 4 ≤ nI r then _ else _) = _
    rw [if_neg (fun y => by have := (le_n (by omega) (by omega)).mp y; omega), Option.bind_some, ra_9 hr, Option.bind_some, h9 r hr, pF_n hF, if_pos rfl]
noncomputable def lV4 (W : Nat → Nat → Po) (r c : Nat) : Nat → Nat → Po := fun a j => if a = r then pAdd (W r j) (pNeg (pMul (pdv (W r c) (W c c)) (W c j))) else W a j
theorem lv_z {W : Nat → Nat → Po} {r c : Nat} (h : pdv (W r c) (W c c) = pC 0) (a j : Nat) : lV4 W r c a j = W a j := by
  unfold lV4
  by_cases q : a = r
  · rw [if_pos q, h, pZero_mul, pn0, pAdd_zero, q]
  · rw [if_neg q]
/-- lower: row r is lowered by the row of slot c -/
theorem lower_s (hN : 1000 ≤ N) {A : Nat → Nat → Int32} {F : Nat → Bool} (h9 : ∀ k, k < 4 → A 9 k = pF F k) {W : Nat → Nat → Po} (hW : MD (A 8) W) {r c : Nat} (hr : r < 5) (hc : c < 4) (hrc : r ≠ c) (hFc : F c = true) (hFr : r = 4 ∨ F r = true) (hn : sz (W c c) ≠ 0) (hfit : ∀ j, j < 4 → sz (pdv (W r c) (W c c)) + sz (W c j) ≤ 257) : ∃ A', fX8_lower N 645 (nI r) (nI c) (rfh h0 cd rw cl A) = some (rfh h0 cd rw cl A') ∧ MD (A' 8) (lV4 W r c) ∧ A' 9 = A 9 ∧ frH A A' := by
  obtain ⟨fa, t1, t2⟩ := take_s (N := N) (h0 := h0) (cd := cd) (rw := rw) (cl := cl) hN hW (k := 10) (by omega) (by omega) hr hc
  obtain ⟨fb, u1, u2⟩ := take_s (N := N) (h0 := h0) (cd := cd) (rw := rw) (cl := cl) (A := ua A 10 fa) hN (by rw [ua_n _ _ (by decide)]; exact hW) (k := 11) (by omega) (by omega) (r := c) (j := c) (by omega) hc
  have pa : PP (ua (ua A 10 fa) 11 fb 10) (W r c) := by rw [ua_n _ _ (by decide), ua_s]; exact t2
  have pb : PP (ua (ua A 10 fa) 11 fb 11) (W c c) := by rw [ua_s]; exact u2
  have s1 := (hW r c hr hc).2
  have s2 := (hW c c (by omega) hc).2
  have head : fX8_lower N 645 (nI r) (nI c) (rfh h0 cd rw cl A) = (if dI (sz (W c c)) ≤ dI (sz (W r c)) then (fX8_divide N 645 (643 + 10) (643 + 11) (rfh h0 cd rw cl (ua (ua A 10 fa) 11 fb))).bind fun h26 => (cK h26 645 10).bind fun u30 => (fX8_takeOff N 645 (nI r) (nI c) h26).bind fun h29 => some h29 else some (rfh h0 cd rw cl (ua (ua A 10 fa) 11 fb))) := by
    unfold fX8_lower
    rw [rg_9, Option.bind_some, ra_9 hc, Option.bind_some, h9 c hc, pF_y hFc]
    unfold jn
    dsimp only
    rw [if_neg (nI_nm hc), rg_10, Option.bind_some, rf_ck, Option.bind_some]
    have t1' : fX8_take N 645 653 (nI r) (nI c) (rfh h0 cd rw cl A) = some (rfh h0 cd rw cl (ua A 10 fa)) := t1
    have u1' : fX8_take N 645 654 (nI c) (nI c) (rfh h0 cd rw cl (ua A 10 fa)) = some (rfh h0 cd rw cl (ua (ua A 10 fa) 11 fb)) := u1
    have ha : fX8_high N 653 (rfh h0 cd rw cl (ua (ua A 10 fa) 11 fb)) = some (dI (sz (W r c)), rfh h0 cd rw cl (ua (ua A 10 fa) 11 fb)) := high_s hN (k := 10) (by omega) (by omega) pa
    have hb : fX8_high N 654 (rfh h0 cd rw cl (ua (ua A 10 fa) 11 fb)) = some (dI (sz (W c c)), rfh h0 cd rw cl (ua (ua A 10 fa) 11 fb)) := high_s hN (k := 11) (by omega) (by omega) pb
    rw [t1', Option.bind_some, rg_11, Option.bind_some, rf_ck, Option.bind_some, u1', Option.bind_some, rg_10, Option.bind_some, ha, Option.bind_some]
    dsimp only
    rw [rg_11, Option.bind_some, hb, Option.bind_some]
    dsimp only
    rw [rg_10, Option.bind_some, rg_11, Option.bind_some, rf_ck, Option.bind_some]
    show (if nI 4 ≤ nI r then _ else _) = _
    rcases hFr with e | e
    · rw [e, if_pos (by decide)]
    · by_cases q : nI 4 ≤ nI r
      · rw [if_pos q]
      · have hr4 : r < 4 := Classical.byContradiction (fun z => q ((le_n (by omega) (by omega)).mpr (by omega)))
        rw [if_neg q, Option.bind_some, ra_9 hr4, Option.bind_some, h9 r hr4, pF_y e, if_neg (nI_nm hr4)]
  rw [head]
  by_cases q : sz (W c c) ≤ sz (W r c)
  · rw [if_pos ((dI_le s1 s2 hn).mpr q)]
    obtain ⟨fx, fc, d1, d2, d3⟩ := divide_r (N := N) (h0 := h0) (cd := cd) (rw := rw) (cl := cl) (A := ua (ua A 10 fa) 11 fb) hN (kx := 10) (ky := 11) (by omega) (by omega) (by omega) (by omega) (by omega) (by omega) (by omega) pb pa hn
    obtain ⟨f', k1, k2⟩ := takeOff_s (N := N) (h0 := h0) (cd := cd) (rw := rw) (cl := cl) (A := ua (ua (ua (ua A 10 fa) 11 fb) 12 fc) 10 fx) hN (W := W) (by rw [ua_n _ _ (by decide), ua_n _ _ (by decide), ua_n _ _ (by decide), ua_n _ _ (by decide)]; exact hW) (r := r) (s := c) hr (by omega) hrc (c := pdv (W r c) (W c c)) (by rw [ua_n _ _ (by decide), ua_s]; exact d3) hfit
    refine ⟨ua (ua (ua (ua (ua A 10 fa) 11 fb) 12 fc) 10 fx) 8 f', ?_, by rw [ua_s]; exact k2, ?_, ((((frH.rf.u (by omega) _).u (by omega) _).u (by omega) _).u (by omega) _).u (by omega) _⟩
    · rw [d1, Option.bind_some, rf_ck, Option.bind_some, k1, Option.bind_some]
    · rw [ua_n _ _ (by decide), ua_n _ _ (by decide), ua_n _ _ (by decide), ua_n _ _ (by decide), ua_n _ _ (by decide)]
  · rw [if_neg (fun z => q ((dI_le s1 s2 hn).mp z))]
    refine ⟨ua (ua A 10 fa) 11 fb, rfl, ?_, ?_, (frH.rf.u (by omega) _).u (by omega) _⟩
    · rw [ua_n _ _ (by decide), ua_n _ _ (by decide)]
      refine hW.cg (fun a j _ _ => lv_z ?_ a j)
      rcases pdv_cs (a := W r c) hn with e | e
      · exact e.1
      · omega
    · rw [ua_n _ _ (by decide), ua_n _ _ (by decide)]
theorem scale_l {r : Nat} (hr : r < 4) {b : Fp} {W : Nat → Nat → Po} : ∀ (d n z : Nat) (A : Nat → Nat → Int32), z + d = 1024 → d < n → (∀ t, t < 1024 → A 8 (1024 * r + t) = if t < z then nI (b * co (W r (t / 256)) (t % 256)).val else nI (co (W r (t / 256)) (t % 256)).val) → ∃ f, (∀ κ, lX8_settle_53 N 645 (nI r) (lN b.val) n (nI z) (rfh h0 cd rw cl A) κ = κ (nI 1024) (rfh h0 cd rw cl (ua A 8 f))) ∧ (∀ t, t < 1024 → f (1024 * r + t) = nI (b * co (W r (t / 256)) (t % 256)).val) ∧ (∀ y, y < 1024 * r ∨ 1024 * r + 1024 ≤ y → f y = A 8 y)
  | d, 0, z, A, _, hn, _ => absurd hn (Nat.not_lt_zero _)
  | 0, n + 1, z, A, hz, hn, hf => by
    have e : z = 1024 := by omega
    subst e
    refine ⟨A 8, fun κ => ?_, fun t ht => by rw [hf t ht, if_pos ht], fun _ _ => rfl⟩
    rw [lX8_settle_53, ua_id]
    show (if nI 1024 ≤ nI 1024 then _ else _) = _
    rw [if_pos (by decide)]
  | d + 1, n + 1, z, A, hz, hn, hf => by
    obtain ⟨f, g1, g2, g3⟩ := scale_l hr (b := b) (W := W) d n (z + 1) (ua A 8 (upd (A 8) (1024 * r + z) (nI (b * co (W r (z / 256)) (z % 256)).val))) (by omega) (by omega) (fun t ht => by
      rw [ua_s]
      unfold upd
      by_cases q : t = z
      · rw [if_pos (by omega), if_pos (by omega), q]
      · rw [if_neg (by omega), hf t ht]
        by_cases q2 : t < z
        · rw [if_pos q2, if_pos (by omega)]
        · rw [if_neg q2, if_neg (by omega)])
    refine ⟨f, fun κ => ?_, g2, fun y hy => ?_⟩
    · have e1 : (lrm ((nI (co (W r (z / 256)) (z % 256)).val).toInt64 * lN b.val) (32003 : Int64)).toInt32 = nI (b * co (W r (z / 256)) (z % 256)).val := by
        rw [lV, lmul_mod (Fin.isLt _) (Fin.isLt _), lN_i, fv_mul, Nat.mul_comm]
      rw [lX8_settle_53]
      show (if nI 1024 ≤ nI z then _ else _) = _
      rw [if_neg (fun y => by have := (le_n (by omega) (by omega)).mp y; omega), rg_8, Option.bind_some, Option.bind_some]
      show (aI (rfh h0 cd rw cl A) 651 (nI 1024 * nI r + nI z)).bind _ = _
      rw [pk_mul, nI_add, ra_8 (by omega), Option.bind_some, hf z (by omega), if_neg (by omega), e1]
      show (aIs (rfh h0 cd rw cl A) 651 (nI 1024 * nI r + nI z) _).bind _ = _
      rw [pk_mul, nI_add, rs_8 (by omega), Option.bind_some]
      unfold nm
      rw [nI_1]
      have := g1 κ
      rw [ua_ua] at this
      exact this
    · rw [g3 y hy, ua_s]
      unfold upd
      rw [if_neg (by omega)]
noncomputable def sV4 (W : Nat → Nat → Po) (r : Nat) : Nat → Nat → Po := fun a j => if a = r then pMul (pC (finv (lead (W r r)))) (W r j) else W a j
theorem scale_s (hN : 33000 ≤ N) {A : Nat → Nat → Int32} {W : Nat → Nat → Po} (hW : MD (A 8) W) {r : Nat} (hr : r < 4) : ∃ f, (∀ κ, lX8_settle_53 N 645 (nI r) (lN (finv (lead (W r r))).val) N (nI 0) (rfh h0 cd rw cl A) κ = κ (nI 1024) (rfh h0 cd rw cl (ua A 8 f))) ∧ MD f (sV4 W r) := by
  obtain ⟨f, g1, g2, g3⟩ := scale_l (N := N) (h0 := h0) (cd := cd) (rw := rw) (cl := cl) hr (b := finv (lead (W r r))) (W := W) 1024 N 0 A rfl (by omega) (fun t ht => by
    rw [if_neg (by omega)]
    have := (hW r (t / 256) (by omega) (by omega)).1 (t % 256) (by omega)
    rw [show 1024 * r + t = 256 * (4 * r + t / 256) + t % 256 by omega]
    exact this)
  refine ⟨f, g1, fun a j ha hj => ?_⟩
  show RP f _ 256 (if a = r then _ else _) ∧ sz (if a = r then _ else _) ≤ 256
  by_cases q : a = r
  · rw [if_pos q, q]
    refine ⟨fun t ht => ?_, Nat.le_trans (sz_Cmul _ _) (hW r j (by omega) hj).2⟩
    rw [show 256 * (4 * r + j) + t = 1024 * r + (256 * j + t) by omega, g2 _ (by omega), show (256 * j + t) / 256 = j by omega, show (256 * j + t) % 256 = t by omega]
    unfold vl
    rw [co_Cmul]
  · rw [if_neg q]
    exact ⟨(hW a j ha hj).1.ext (fun t ht => g3 _ (by omega)), (hW a j ha hj).2⟩
end RL
