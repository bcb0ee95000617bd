/-! the reference's heap: its object at 645, its arrays at 646 to 663 by their fields' numbers 3 to 20 -/
def lnL : List Nat := [0, 0, 0, 64, 3, 1920, 3328, 64, 5120, 4, 256, 256, 256, 256, 80, 25, 16, 5, 80, 16, 16]
def ln (k : Nat) : Nat := (lnL[k]?).getD 0
def rfO (cd rw cl : Int32) : List Value := [.int cd, .int rw, .int cl, .ref 646, .ref 647, .ref 648, .ref 649, .ref 650, .ref 651, .ref 652, .ref 653, .ref 654, .ref 655, .ref 656, .ref 657, .ref 658, .ref 659, .ref 660, .ref 661, .ref 662, .ref 663]
def rfh (h0 : Hp) (cd rw cl : Int32) (A : Nat → Nat → Int32) : Hp := fun x => if x = 645 then some (.inr (10, rfO cd rw cl)) else if 646 ≤ x ∧ x ≤ 663 then some (.inl (if x = 647 then 2 else 0, ln (x - 643), .inl (A (x - 643)))) else h0 x
def ua (A : Nat → Nat → Int32) (k : Nat) (f : Nat → Int32) : Nat → Nat → Int32 := fun i => if i = k then f else A i
theorem ua_s (A : Nat → Nat → Int32) (k : Nat) (f : Nat → Int32) : ua A k f k = f := if_pos rfl
theorem ua_n (A : Nat → Nat → Int32) {k i : Nat} (f : Nat → Int32) (h : i ≠ k) : ua A k f i = A i := if_neg h
theorem ua_id (A : Nat → Nat → Int32) (k : Nat) : ua A k (A k) = A := by
  funext i
  unfold ua
  split
  · rename_i h; rw [h]
  · rfl
theorem ua_ua (A : Nat → Nat → Int32) (k : Nat) (f g : Nat → Int32) : ua (ua A k f) k g = ua A k g := by
  funext i
  unfold ua
  split <;> rfl
section RFH
variable {h0 : Hp} {cd rw cl : Int32} {A : Nat → Nat → Int32}
theorem rf_o : rfh h0 cd rw cl A 645 = some (.inr (10, rfO cd rw cl)) := rfl
theorem rf_a {k : Nat} (h3 : 3 ≤ k) (h4 : k ≠ 4) (h20 : k ≤ 20) : rfh h0 cd rw cl A (643 + k) = some (.inl (0, ln k, .inl (A k))) := by
  unfold rfh
  rw [if_neg (by omega), if_pos (by omega), if_neg (by omega), Nat.add_sub_cancel_left]
theorem rf_4 : rfh h0 cd rw cl A 647 = some (.inl (2, 3, .inl (A 4))) := rfl
theorem ln_lt (k : Nat) : ln k < 10000 := by
  by_cases h : k < 21
  · exact (by decide : ∀ k, k < 21 → ln k < 10000) k h
  · unfold ln
    rw [List.getElem?_eq_none (by show 21 ≤ k; omega)]
    decide
theorem rf_set {k : Nat} (h3 : 3 ≤ k) (h4 : k ≠ 4) (h20 : k ≤ 20) (f : Nat → Int32) : hset (rfh h0 cd rw cl A) (643 + k) (.inl (0, ln k, .inl f)) = rfh h0 cd rw cl (ua A k f) := by
  funext x
  unfold hset
  by_cases q : x = 643 + k
  · rw [if_pos q, q, rf_a h3 h4 h20, ua_s]
  · rw [if_neg q]
    unfold rfh
    by_cases q1 : x = 645
    · rw [if_pos q1, if_pos q1]
    · rw [if_neg q1, if_neg q1]
      by_cases q2 : 646 ≤ x ∧ x ≤ 663
      · rw [if_pos q2, if_pos q2, ua_n _ _ (by omega)]
      · rw [if_neg q2, if_neg q2]
theorem ra {k j : Nat} (h3 : 3 ≤ k) (h4 : k ≠ 4) (h20 : k ≤ 20) (hj : j < ln k) : aI (rfh h0 cd rw cl A) (643 + k) (nI j) = some (A k j) := aI_of (rf_a h3 h4 h20) hj (by have := ln_lt k; omega)
theorem rs {k j : Nat} (h3 : 3 ≤ k) (h4 : k ≠ 4) (h20 : k ≤ 20) (hj : j < ln k) (x : Int32) : aIs (rfh h0 cd rw cl A) (643 + k) (nI j) x = some (rfh h0 cd rw cl (ua A k (upd (A k) j x))) := by
  rw [aIs_of (rf_a h3 h4 h20) hj (by have := ln_lt k; omega), rf_set h3 h4 h20]
theorem ra_4 {j : Nat} (hj : j < 3) : aZ (rfh h0 cd rw cl A) 647 (nI j) = some (A 4 j) := aZ_of rf_4 hj (by decide)
theorem rs_4 {j : Nat} (hj : j < 3) (x : Int32) : aZs (rfh h0 cd rw cl A) 647 (nI j) x = some (rfh h0 cd rw cl (ua A 4 (upd (A 4) j (vp_nar .boolean x)))) := by
  rw [aZs_of rf_4 hj (by decide)]
  congr 1
  funext x
  unfold hset
  by_cases q : x = 647
  · rw [if_pos q, q, rf_4, ua_s]
  · rw [if_neg q]
    unfold rfh
    by_cases q1 : x = 645
    · rw [if_pos q1, if_pos q1]
    · rw [if_neg q1, if_neg q1]
      by_cases q2 : 646 ≤ x ∧ x ≤ 663
      · rw [if_pos q2, if_pos q2, ua_n _ _ (by omega)]
      · rw [if_neg q2, if_neg q2]
theorem rf_ck : cK (rfh h0 cd rw cl A) 645 10 = some () := cK_of rf_o
theorem rg_0 : gI (rfh h0 cd rw cl A) 645 10 0 = some cd := gI_of rf_o rfl
theorem rp_0 (v : Int32) : pV (rfh h0 cd rw cl A) 645 10 0 (.int v) = some (rfh h0 v rw cl A) := by
  rw [pV_of rf_o (by simp [rfO])]
  congr 1
  funext x
  unfold hset
  by_cases q : x = 645
  · rw [if_pos q, q]; rfl
  · rw [if_neg q]
    unfold rfh
    rw [if_neg q, if_neg q]
theorem rg_1 : gI (rfh h0 cd rw cl A) 645 10 1 = some rw := gI_of rf_o rfl
theorem rp_1 (v : Int32) : pV (rfh h0 cd rw cl A) 645 10 1 (.int v) = some (rfh h0 cd v cl A) := by
  rw [pV_of rf_o (by simp [rfO])]
  congr 1
  funext x
  unfold hset
  by_cases q : x = 645
  · rw [if_pos q, q]; rfl
  · rw [if_neg q]
    unfold rfh
    rw [if_neg q, if_neg q]
theorem rg_2 : gI (rfh h0 cd rw cl A) 645 10 2 = some cl := gI_of rf_o rfl
theorem rp_2 (v : Int32) : pV (rfh h0 cd rw cl A) 645 10 2 (.int v) = some (rfh h0 cd rw v A) := by
  rw [pV_of rf_o (by simp [rfO])]
  congr 1
  funext x
  unfold hset
  by_cases q : x = 645
  · rw [if_pos q, q]; rfl
  · rw [if_neg q]
    unfold rfh
    rw [if_neg q, if_neg q]
theorem rg_3 : gR (rfh h0 cd rw cl A) 645 10 3 = some 646 := gR_of rf_o rfl
theorem ra_3 {j : Nat} (hj : j < 64) : aI (rfh h0 cd rw cl A) 646 (nI j) = some (A 3 j) := ra (k := 3) (by decide) (by decide) (by decide) hj
theorem rs_3 {j : Nat} (hj : j < 64) (x : Int32) : aIs (rfh h0 cd rw cl A) 646 (nI j) x = some (rfh h0 cd rw cl (ua A 3 (upd (A 3) j x))) := rs (k := 3) (by decide) (by decide) (by decide) hj x
theorem rg_4 : gR (rfh h0 cd rw cl A) 645 10 4 = some 647 := gR_of rf_o rfl
theorem rg_5 : gR (rfh h0 cd rw cl A) 645 10 5 = some 648 := gR_of rf_o rfl
theorem ra_5 {j : Nat} (hj : j < 1920) : aI (rfh h0 cd rw cl A) 648 (nI j) = some (A 5 j) := ra (k := 5) (by decide) (by decide) (by decide) hj
theorem rs_5 {j : Nat} (hj : j < 1920) (x : Int32) : aIs (rfh h0 cd rw cl A) 648 (nI j) x = some (rfh h0 cd rw cl (ua A 5 (upd (A 5) j x))) := rs (k := 5) (by decide) (by decide) (by decide) hj x
theorem rg_6 : gR (rfh h0 cd rw cl A) 645 10 6 = some 649 := gR_of rf_o rfl
theorem ra_6 {j : Nat} (hj : j < 3328) : aI (rfh h0 cd rw cl A) 649 (nI j) = some (A 6 j) := ra (k := 6) (by decide) (by decide) (by decide) hj
theorem rs_6 {j : Nat} (hj : j < 3328) (x : Int32) : aIs (rfh h0 cd rw cl A) 649 (nI j) x = some (rfh h0 cd rw cl (ua A 6 (upd (A 6) j x))) := rs (k := 6) (by decide) (by decide) (by decide) hj x
theorem rg_7 : gR (rfh h0 cd rw cl A) 645 10 7 = some 650 := gR_of rf_o rfl
theorem ra_7 {j : Nat} (hj : j < 64) : aI (rfh h0 cd rw cl A) 650 (nI j) = some (A 7 j) := ra (k := 7) (by decide) (by decide) (by decide) hj
theorem rs_7 {j : Nat} (hj : j < 64) (x : Int32) : aIs (rfh h0 cd rw cl A) 650 (nI j) x = some (rfh h0 cd rw cl (ua A 7 (upd (A 7) j x))) := rs (k := 7) (by decide) (by decide) (by decide) hj x
theorem rg_8 : gR (rfh h0 cd rw cl A) 645 10 8 = some 651 := gR_of rf_o rfl
theorem ra_8 {j : Nat} (hj : j < 5120) : aI (rfh h0 cd rw cl A) 651 (nI j) = some (A 8 j) := ra (k := 8) (by decide) (by decide) (by decide) hj
theorem rs_8 {j : Nat} (hj : j < 5120) (x : Int32) : aIs (rfh h0 cd rw cl A) 651 (nI j) x = some (rfh h0 cd rw cl (ua A 8 (upd (A 8) j x))) := rs (k := 8) (by decide) (by decide) (by decide) hj x
theorem rg_9 : gR (rfh h0 cd rw cl A) 645 10 9 = some 652 := gR_of rf_o rfl
theorem ra_9 {j : Nat} (hj : j < 4) : aI (rfh h0 cd rw cl A) 652 (nI j) = some (A 9 j) := ra (k := 9) (by decide) (by decide) (by decide) hj
theorem rs_9 {j : Nat} (hj : j < 4) (x : Int32) : aIs (rfh h0 cd rw cl A) 652 (nI j) x = some (rfh h0 cd rw cl (ua A 9 (upd (A 9) j x))) := rs (k := 9) (by decide) (by decide) (by decide) hj x
theorem rg_10 : gR (rfh h0 cd rw cl A) 645 10 10 = some 653 := gR_of rf_o rfl
theorem ra_10 {j : Nat} (hj : j < 256) : aI (rfh h0 cd rw cl A) 653 (nI j) = some (A 10 j) := ra (k := 10) (by decide) (by decide) (by decide) hj
theorem rs_10 {j : Nat} (hj : j < 256) (x : Int32) : aIs (rfh h0 cd rw cl A) 653 (nI j) x = some (rfh h0 cd rw cl (ua A 10 (upd (A 10) j x))) := rs (k := 10) (by decide) (by decide) (by decide) hj x
theorem rg_11 : gR (rfh h0 cd rw cl A) 645 10 11 = some 654 := gR_of rf_o rfl
theorem ra_11 {j : Nat} (hj : j < 256) : aI (rfh h0 cd rw cl A) 654 (nI j) = some (A 11 j) := ra (k := 11) (by decide) (by decide) (by decide) hj
theorem rs_11 {j : Nat} (hj : j < 256) (x : Int32) : aIs (rfh h0 cd rw cl A) 654 (nI j) x = some (rfh h0 cd rw cl (ua A 11 (upd (A 11) j x))) := rs (k := 11) (by decide) (by decide) (by decide) hj x
theorem rg_12 : gR (rfh h0 cd rw cl A) 645 10 12 = some 655 := gR_of rf_o rfl
theorem ra_12 {j : Nat} (hj : j < 256) : aI (rfh h0 cd rw cl A) 655 (nI j) = some (A 12 j) := ra (k := 12) (by decide) (by decide) (by decide) hj
theorem rs_12 {j : Nat} (hj : j < 256) (x : Int32) : aIs (rfh h0 cd rw cl A) 655 (nI j) x = some (rfh h0 cd rw cl (ua A 12 (upd (A 12) j x))) := rs (k := 12) (by decide) (by decide) (by decide) hj x
theorem rg_13 : gR (rfh h0 cd rw cl A) 645 10 13 = some 656 := gR_of rf_o rfl
theorem ra_13 {j : Nat} (hj : j < 256) : aI (rfh h0 cd rw cl A) 656 (nI j) = some (A 13 j) := ra (k := 13) (by decide) (by decide) (by decide) hj
theorem rs_13 {j : Nat} (hj : j < 256) (x : Int32) : aIs (rfh h0 cd rw cl A) 656 (nI j) x = some (rfh h0 cd rw cl (ua A 13 (upd (A 13) j x))) := rs (k := 13) (by decide) (by decide) (by decide) hj x
theorem rg_14 : gR (rfh h0 cd rw cl A) 645 10 14 = some 657 := gR_of rf_o rfl
theorem ra_14 {j : Nat} (hj : j < 80) : aI (rfh h0 cd rw cl A) 657 (nI j) = some (A 14 j) := ra (k := 14) (by decide) (by decide) (by decide) hj
theorem rs_14 {j : Nat} (hj : j < 80) (x : Int32) : aIs (rfh h0 cd rw cl A) 657 (nI j) x = some (rfh h0 cd rw cl (ua A 14 (upd (A 14) j x))) := rs (k := 14) (by decide) (by decide) (by decide) hj x
theorem rg_15 : gR (rfh h0 cd rw cl A) 645 10 15 = some 658 := gR_of rf_o rfl
theorem ra_15 {j : Nat} (hj : j < 25) : aI (rfh h0 cd rw cl A) 658 (nI j) = some (A 15 j) := ra (k := 15) (by decide) (by decide) (by decide) hj
theorem rs_15 {j : Nat} (hj : j < 25) (x : Int32) : aIs (rfh h0 cd rw cl A) 658 (nI j) x = some (rfh h0 cd rw cl (ua A 15 (upd (A 15) j x))) := rs (k := 15) (by decide) (by decide) (by decide) hj x
theorem rg_16 : gR (rfh h0 cd rw cl A) 645 10 16 = some 659 := gR_of rf_o rfl
theorem ra_16 {j : Nat} (hj : j < 16) : aI (rfh h0 cd rw cl A) 659 (nI j) = some (A 16 j) := ra (k := 16) (by decide) (by decide) (by decide) hj
theorem rs_16 {j : Nat} (hj : j < 16) (x : Int32) : aIs (rfh h0 cd rw cl A) 659 (nI j) x = some (rfh h0 cd rw cl (ua A 16 (upd (A 16) j x))) := rs (k := 16) (by decide) (by decide) (by decide) hj x
theorem rg_17 : gR (rfh h0 cd rw cl A) 645 10 17 = some 660 := gR_of rf_o rfl
theorem ra_17 {j : Nat} (hj : j < 5) : aI (rfh h0 cd rw cl A) 660 (nI j) = some (A 17 j) := ra (k := 17) (by decide) (by decide) (by decide) hj
theorem rs_17 {j : Nat} (hj : j < 5) (x : Int32) : aIs (rfh h0 cd rw cl A) 660 (nI j) x = some (rfh h0 cd rw cl (ua A 17 (upd (A 17) j x))) := rs (k := 17) (by decide) (by decide) (by decide) hj x
theorem rg_18 : gR (rfh h0 cd rw cl A) 645 10 18 = some 661 := gR_of rf_o rfl
theorem ra_18 {j : Nat} (hj : j < 80) : aI (rfh h0 cd rw cl A) 661 (nI j) = some (A 18 j) := ra (k := 18) (by decide) (by decide) (by decide) hj
theorem rs_18 {j : Nat} (hj : j < 80) (x : Int32) : aIs (rfh h0 cd rw cl A) 661 (nI j) x = some (rfh h0 cd rw cl (ua A 18 (upd (A 18) j x))) := rs (k := 18) (by decide) (by decide) (by decide) hj x
theorem rg_19 : gR (rfh h0 cd rw cl A) 645 10 19 = some 662 := gR_of rf_o rfl
theorem ra_19 {j : Nat} (hj : j < 16) : aI (rfh h0 cd rw cl A) 662 (nI j) = some (A 19 j) := ra (k := 19) (by decide) (by decide) (by decide) hj
theorem rs_19 {j : Nat} (hj : j < 16) (x : Int32) : aIs (rfh h0 cd rw cl A) 662 (nI j) x = some (rfh h0 cd rw cl (ua A 19 (upd (A 19) j x))) := rs (k := 19) (by decide) (by decide) (by decide) hj x
theorem rg_20 : gR (rfh h0 cd rw cl A) 645 10 20 = some 663 := gR_of rf_o rfl
theorem ra_20 {j : Nat} (hj : j < 16) : aI (rfh h0 cd rw cl A) 663 (nI j) = some (A 20 j) := ra (k := 20) (by decide) (by decide) (by decide) hj
theorem rs_20 {j : Nat} (hj : j < 16) (x : Int32) : aIs (rfh h0 cd rw cl A) 663 (nI j) x = some (rfh h0 cd rw cl (ua A 20 (upd (A 20) j x))) := rs (k := 20) (by decide) (by decide) (by decide) hj x
end RFH
