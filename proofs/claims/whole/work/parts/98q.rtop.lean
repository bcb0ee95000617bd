/-! the reference's calls -/
section RT1
variable {N : Nat} {h0 : Hp} {cd rw cl : Int32} {A : Nat → Nat → Int32}
theorem t64 (a : Int32) : a.toInt64.toInt = a.toInt := Int32.toInt_toInt64 a
theorem inx_int {a : Int32} {n : Nat} (hn : n < 2 ^ 31) : inx a n ↔ 0 ≤ a.toInt ∧ a.toInt < n := by
  constructor
  · intro ⟨i, hi, e⟩
    rw [e, nI_toInt (by omega)]
    omega
  · intro ⟨h1, h2⟩
    refine ⟨a.toInt.toNat, by omega, Int32.toInt_inj.mp ?_⟩
    rw [nI_toInt (by omega)]
    omega
theorem in_k {a : Int32} {hi : Int64} {n : Nat} (hn : n < 2 ^ 30) (hh : hi.toInt = (n : Int) - 1) (h : Hp) : fX8_in N a.toInt64 (0 : Int64) hi h = some (if 0 ≤ a.toInt ∧ a.toInt < n then 1 else 0, h) := by
  rw [in_s]
  congr 2
  have e : (a.toInt64 < 0 ∨ hi < a.toInt64) ↔ ¬ (0 ≤ a.toInt ∧ a.toInt < n) := by
    rw [Int64.lt_iff_toInt_lt, Int64.lt_iff_toInt_lt, t64, hh, show (0 : Int64).toInt = 0 by decide]
    omega
  by_cases q : 0 ≤ a.toInt ∧ a.toInt < n
  · rw [if_pos q, if_neg (fun z => e.mp z q)]
  · rw [if_neg q, if_pos (e.mpr q)]
theorem hiR {R : Nat} (hR : R < 5) : ((nI R - 1).toInt64).toInt = (R : Int) - 1 := by
  rw [t64]
  exact dI_toInt (by omega)
theorem isPlace_s {R C : Nat} (hR : R < 5) (hC : C < 5) (a1 a2 a3 : Int32) : ((inx a1 R ∧ inx a2 C) ∧ inx a3 4 → fX8_isPlace N 645 a1 a2 a3 (rfh h0 cd (nI R) (nI C) A) = some (1, rfh h0 0 (nI R) (nI C) A)) ∧ (¬ ((inx a1 R ∧ inx a2 C) ∧ inx a3 4) → fX8_isPlace N 645 a1 a2 a3 (rfh h0 cd (nI R) (nI C) A) = some (0, rfh h0 1 (nI R) (nI C) A)) := by
  have e1 : inx a1 R ↔ 0 ≤ a1.toInt ∧ a1.toInt < R := inx_int (by omega)
  have e2 : inx a2 C ↔ 0 ≤ a2.toInt ∧ a2.toInt < C := inx_int (by omega)
  have e3 : inx a3 4 ↔ 0 ≤ a3.toInt ∧ a3.toInt < (4 : Nat) := inx_int (by omega)
  have head : fX8_isPlace N 645 a1 a2 a3 (rfh h0 cd (nI R) (nI C) A) = (if ((0 ≤ a1.toInt ∧ a1.toInt < R) ∧ (0 ≤ a2.toInt ∧ a2.toInt < C)) ∧ (0 ≤ a3.toInt ∧ a3.toInt < (4 : Nat)) then some (1, rfh h0 0 (nI R) (nI C) A) else some (0, rfh h0 1 (nI R) (nI C) A)) := by
    have tail0 : (pV (rfh h0 cd (nI R) (nI C) A) 645 10 0 (.int 0)) = some (rfh h0 0 (nI R) (nI C) A) := rp_0 0
    have tail1 : (pV (rfh h0 cd (nI R) (nI C) A) 645 10 0 (.int 1)) = some (rfh h0 1 (nI R) (nI C) A) := rp_0 1
    unfold fX8_isPlace
    rw [rg_1, Option.bind_some, in_k (n := R) (by omega) (hiR hR), Option.bind_some]
    unfold jn
    dsimp only
    by_cases q1 : inx a1 R
    · rw [if_pos (e1.mp q1), if_neg (show ¬ (1 : Int32) = 0 by decide), rg_2, Option.bind_some, in_k (n := C) (by omega) (hiR hC), Option.bind_some]
      dsimp only
      by_cases q2 : inx a2 C
      · rw [if_pos (e2.mp q2), if_neg (show ¬ (1 : Int32) = 0 by decide), in_k (n := 4) (by omega) (by decide), Option.bind_some]
        dsimp only
        by_cases q3 : inx a3 4
        · rw [if_pos (e3.mp q3), if_neg (show ¬ (1 : Int32) = 0 by decide), tail0, Option.bind_some, rg_0, Option.bind_some, if_pos rfl, if_pos (Or.inr rfl), if_pos ⟨⟨e1.mp q1, e2.mp q2⟩, e3.mp q3⟩]
        · rw [if_neg (fun z => q3 (e3.mpr z)), if_pos rfl, tail1, Option.bind_some, rg_0, Option.bind_some, if_neg (by decide), if_pos (Or.inl rfl), if_neg (fun z => q3 (e3.mpr z.2))]
      · rw [if_neg (fun z => q2 (e2.mpr z)), if_pos rfl, tail1, Option.bind_some, rg_0, Option.bind_some, if_neg (by decide), if_pos (Or.inl rfl), if_neg (fun z => q2 (e2.mpr z.1.2))]
    · rw [if_neg (fun z => q1 (e1.mpr z)), if_pos rfl, tail1, Option.bind_some, rg_0, Option.bind_some, if_neg (by decide), if_pos (Or.inl rfl), if_neg (fun z => q1 (e1.mpr z.1.1))]
  rw [head, e1, e2, e3]
  exact ⟨fun h => if_pos h, fun h => if_neg h⟩
theorem isSquare_s {R C : Nat} (hR : R < 5) (hC : C < 5) : (R = C → fX8_isSquare N 645 (rfh h0 cd (nI R) (nI C) A) = some (1, rfh h0 0 (nI R) (nI C) A)) ∧ (R ≠ C → fX8_isSquare N 645 (rfh h0 cd (nI R) (nI C) A) = some (0, rfh h0 1 (nI R) (nI C) A)) := by
  unfold fX8_isSquare
  rw [rg_1, Option.bind_some, rg_2, Option.bind_some]
  unfold jn
  dsimp only
  refine ⟨fun h => ?_, fun h => ?_⟩
  · rw [if_pos (by rw [h]), rp_0, Option.bind_some, rg_0, Option.bind_some, if_pos rfl, if_pos (Or.inr rfl)]
  · rw [if_neg (fun z => h ((eq_n (by omega) (by omega)).mp z)), rp_0, Option.bind_some, rg_0, Option.bind_some, if_neg (by decide), if_pos (Or.inl rfl)]
theorem ix_e {i j x : Nat} : (((16 : Int32) * nI i) + ((4 : Int32) * nI j)) + nI x = nI (16 * i + 4 * j + x) := by
  show ((nI 16 * nI i) + (nI 4 * nI j)) + nI x = _
  rw [pk_mul, pk_mul, nI_add, nI_add]
theorem entry_r {R C : Nat} (hR : R < 5) (hC : C < 5) {E : Nat → Nat → Po} (hE : EN E (A 3)) (a1 a2 a3 : Int32) : (¬ ((inx a1 R ∧ inx a2 C) ∧ inx a3 4) → fX8_entry N 645 a1 a2 a3 (rfh h0 cd (nI R) (nI C) A) = some (0, rfh h0 1 (nI R) (nI C) A)) ∧ (∀ i j x, i < R → j < C → x < 4 → a1 = nI i → a2 = nI j → a3 = nI x → fX8_entry N 645 a1 a2 a3 (rfh h0 cd (nI R) (nI C) A) = some (nI (vl (E i j) x), rfh h0 0 (nI R) (nI C) A)) := by
  have ip := isPlace_s (N := N) (h0 := h0) (cd := cd) (A := A) hR hC a1 a2 a3
  unfold fX8_entry
  rw [rf_ck, Option.bind_some]
  refine ⟨fun h => ?_, fun i j x hi hj hx e1 e2 e3 => ?_⟩
  · rw [ip.2 h, Option.bind_some]
    rfl
  · rw [ip.1 ⟨⟨⟨i, hi, e1⟩, ⟨j, hj, e2⟩⟩, ⟨x, hx, e3⟩⟩, Option.bind_some]
    unfold jn
    dsimp only
    rw [if_neg (by decide), rg_3, Option.bind_some, e1, e2, e3, ix_e, ra_3 (by omega), Option.bind_some, hE i j (by omega) (by omega) x hx]
theorem put58 {R C : Int32} {a1 a2 a3 a4 a5 : Int32} : ∀ (d n z : Nat) (A : Nat → Nat → Int32), z + d = 3 → d < n → (∀ f, f < z → A 4 f = 0) → ∃ w, lX8_put_58 N 645 a1 a2 a3 a4 a5 n (nI z) (rfh h0 cd R C A) (fun _ h => some ((1 : Int32), h)) = some (1, rfh h0 cd R C (ua A 4 w)) ∧ ∀ f, f < 3 → w f = 0
  | d, 0, z, A, _, hn, _ => absurd hn (Nat.not_lt_zero _)
  | 0, n + 1, z, A, hz, hn, hb => by
    refine ⟨A 4, ?_, fun f hf => hb f (by omega)⟩
    rw [lX8_put_58, ua_id]
    show (if nI 3 ≤ nI z then _ else _) = _
    rw [if_pos ((le_n (by omega) (by omega)).mpr (by omega))]
  | d + 1, n + 1, z, A, hz, hn, hb => by
    obtain ⟨w, g1, g2⟩ := put58 (a1 := a1) (a2 := a2) (a3 := a3) (a4 := a4) (a5 := a5) d n (z + 1) (ua A 4 (upd (A 4) z 0)) (by omega) (by omega) (fun f hf => by
      rw [ua_s]
      unfold upd
      by_cases q : f = z
      · rw [if_pos q]
      · rw [if_neg q]; exact hb f (by omega))
    refine ⟨w, ?_, g2⟩
    rw [lX8_put_58]
    show (if nI 3 ≤ nI z then _ else _) = _
    rw [if_neg (fun y => by have := (le_n (by omega) (by omega)).mp y; omega), rg_4, Option.bind_some, rs_4 (by omega), Option.bind_some, nar0]
    unfold nm
    rw [nI_1]
    rw [ua_ua] at g1
    exact g1
theorem fmZ (v : Int32) : fZ (v.toInt64).toInt = fmI v := by
  rw [t64]
  rfl
/-- put of the reference -/
theorem put_r (hN : 1000 ≤ N) {R C : Nat} (hR : R < 5) (hC : C < 5) {E : Nat → Nat → Po} (hE : EN E (A 3)) (a1 a2 a3 v : Int32) : (¬ ((inx a1 R ∧ inx a2 C) ∧ inx a3 4) → fX8_put N 645 a1 a2 a3 v (rfh h0 cd (nI R) (nI C) A) = some (0, rfh h0 1 (nI R) (nI C) A)) ∧ (∀ i j x, i < R → j < C → x < 4 → a1 = nI i → a2 = nI j → a3 = nI x → (co (E i j) x = fmI v → fX8_put N 645 a1 a2 a3 v (rfh h0 cd (nI R) (nI C) A) = some (0, rfh h0 0 (nI R) (nI C) A)) ∧ (co (E i j) x ≠ fmI v → ∃ w, fX8_put N 645 a1 a2 a3 v (rfh h0 cd (nI R) (nI C) A) = some (1, rfh h0 0 (nI R) (nI C) (ua (ua A 3 (upd (A 3) (16 * i + 4 * j + x) (nI (fmI v).val))) 4 w)) ∧ (∀ f, f < 3 → w f = 0))) := by
  have ip := isPlace_s (N := N) (h0 := h0) (cd := cd) (A := A) hR hC a1 a2 a3
  refine ⟨fun h => ?_, fun i j x hi hj hx e1 e2 e3 => ?_⟩
  · unfold fX8_put
    rw [rf_ck, Option.bind_some, ip.2 h, Option.bind_some]
    rfl
  · have head : fX8_put N 645 a1 a2 a3 v (rfh h0 cd (nI R) (nI C) A) = (if nI (vl (E i j) x) = nI (fmI v).val then some ((0 : Int32), rfh h0 0 (nI R) (nI C) A) else lX8_put_58 N 645 (nI i) (nI j) (nI x) v (nI (16 * i + 4 * j + x)) N (0 : Int32) (rfh h0 0 (nI R) (nI C) (ua A 3 (upd (A 3) (16 * i + 4 * j + x) (nI (fmI v).val)))) (fun y15 h16 => some ((1 : Int32), h16))) := by
      unfold fX8_put
      rw [rf_ck, Option.bind_some, ip.1 ⟨⟨⟨i, hi, e1⟩, ⟨j, hj, e2⟩⟩, ⟨x, hx, e3⟩⟩, Option.bind_some]
      dsimp only
      rw [if_neg (by decide), e1, e2, e3, ix_e]
      unfold nm
      dsimp only
      rw [rg_3, Option.bind_some, ra_3 (by omega), Option.bind_some, hE i j (by omega) (by omega) x hx, mod_s, fmZ, Option.bind_some]
      dsimp only
      congr 1
      rw [rg_3, Option.bind_some, mod_s, fmZ, Option.bind_some]
      dsimp only
      rw [rs_3 (by omega), Option.bind_some]
    refine ⟨fun h => ?_, fun h => ?_⟩
    · rw [head, if_pos ((vl_fm _ _ _).mpr h)]
    · obtain ⟨w, g1, g2⟩ := put58 (N := N) (h0 := h0) (cd := 0) (R := nI R) (C := nI C) (a1 := nI i) (a2 := nI j) (a3 := nI x) (a4 := v) (a5 := nI (16 * i + 4 * j + x)) 3 N 0 (ua A 3 (upd (A 3) (16 * i + 4 * j + x) (nI (fmI v).val))) rfl (by omega) (fun f hf => by omega)
      refine ⟨w, ?_, g2⟩
      rw [head, if_neg (fun z => h ((vl_fm _ _ _).mp z))]
      exact g1
end RT1
