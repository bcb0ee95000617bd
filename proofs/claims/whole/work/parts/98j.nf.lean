/-! the class's whole heap: Polynomials P, numbers I, small arrays B, the Echelon's rows -/
def nfO (I : Nat → Int32) : hE := .inr (9, [.int (I 0), .int (I 1), .ref 1, .ref 43, .int (I 2), .ref 214, .ref 256, .int (I 3), .ref 427, .int (I 4), .ref 453, .ref 508, .ref 635, .ref 636, .ref 643])
def ehO (inc : Nat) : hE := .inr (3, [.ref 454, .ref 495, .ref 496, .ref inc])
def muf (I : Nat → Int32) (B : Nat → Nat → Int32) (inc : Nat) (sl : Nat → Option Nat) : Hp := fun x => if x = 0 then some (nfO I) else if x = 43 then some (mnO 43 (I 5)) else if x = 256 then some (mnO 256 (I 6)) else if x = 427 then some (rtO (I 7) (I 8)) else if x = 428 then some (.inl (0, 4, .inl (B 0))) else if x = 453 then some (ehO inc) else if x = 454 then some (.inl (5, 4, .inr (.inr (.inr (.inr sl))))) else if x = 495 then some (.inl (2, 4, .inl (B 1))) else if x = 635 then some (.inl (2, 3, .inl (B 2))) else none
noncomputable def HH (P : Nat → Po) (I : Nat → Int32) (B : Nat → Nat → Int32) (inc : Nat) (sl : Nat → Option Nat) (h0 : Hp) : Hp := conc P (cls (muf I B inc sl) h0)
def ui (I : Nat → Int32) (k : Nat) (v : Int32) : Nat → Int32 := fun i => if i = k then v else I i
theorem ui_s (I : Nat → Int32) (k : Nat) (v : Int32) : ui I k v k = v := if_pos rfl
theorem ui_n (I : Nat → Int32) {k i : Nat} (v : Int32) (h : i ≠ k) : ui I k v i = I i := if_neg h
section NF
variable {P : Nat → Po} {I : Nat → Int32} {B : Nat → Nat → Int32} {inc : Nat} {sl : Nat → Option Nat} {h0 : Hp}
theorem np_0 : np 0 := by unfold np; decide
theorem np_43 : np 43 := by unfold np; decide
theorem np_256 : np 256 := by unfold np; decide
theorem np_453 : np 453 := by unfold np; decide
theorem np_454 : np 454 := by unfold np; decide
theorem np_495 : np 495 := by unfold np; decide
theorem np_508 : np 508 := by unfold np; decide
theorem np_635 : np 635 := by unfold np; decide
theorem nf_ck : cK (HH P I B inc sl h0) 0 9 = some () := cm_cK np_0 (fs := [.int (I 0), .int (I 1), .ref 1, .ref 43, .int (I 2), .ref 214, .ref 256, .int (I 3), .ref 427, .int (I 4), .ref 453, .ref 508, .ref 635, .ref 636, .ref 643]) rfl
theorem nf_2 : gR (HH P I B inc sl h0) 0 9 2 = some 1 := cm_gR np_0 (fs := [.int (I 0), .int (I 1), .ref 1, .ref 43, .int (I 2), .ref 214, .ref 256, .int (I 3), .ref 427, .int (I 4), .ref 453, .ref 508, .ref 635, .ref 636, .ref 643]) rfl rfl
theorem nf_3 : gR (HH P I B inc sl h0) 0 9 3 = some 43 := cm_gR np_0 (fs := [.int (I 0), .int (I 1), .ref 1, .ref 43, .int (I 2), .ref 214, .ref 256, .int (I 3), .ref 427, .int (I 4), .ref 453, .ref 508, .ref 635, .ref 636, .ref 643]) rfl rfl
theorem nf_5 : gR (HH P I B inc sl h0) 0 9 5 = some 214 := cm_gR np_0 (fs := [.int (I 0), .int (I 1), .ref 1, .ref 43, .int (I 2), .ref 214, .ref 256, .int (I 3), .ref 427, .int (I 4), .ref 453, .ref 508, .ref 635, .ref 636, .ref 643]) rfl rfl
theorem nf_6 : gR (HH P I B inc sl h0) 0 9 6 = some 256 := cm_gR np_0 (fs := [.int (I 0), .int (I 1), .ref 1, .ref 43, .int (I 2), .ref 214, .ref 256, .int (I 3), .ref 427, .int (I 4), .ref 453, .ref 508, .ref 635, .ref 636, .ref 643]) rfl rfl
theorem nf_8 : gR (HH P I B inc sl h0) 0 9 8 = some 427 := cm_gR np_0 (fs := [.int (I 0), .int (I 1), .ref 1, .ref 43, .int (I 2), .ref 214, .ref 256, .int (I 3), .ref 427, .int (I 4), .ref 453, .ref 508, .ref 635, .ref 636, .ref 643]) rfl rfl
theorem nf_10 : gR (HH P I B inc sl h0) 0 9 10 = some 453 := cm_gR np_0 (fs := [.int (I 0), .int (I 1), .ref 1, .ref 43, .int (I 2), .ref 214, .ref 256, .int (I 3), .ref 427, .int (I 4), .ref 453, .ref 508, .ref 635, .ref 636, .ref 643]) rfl rfl
theorem nf_11 : gR (HH P I B inc sl h0) 0 9 11 = some 508 := cm_gR np_0 (fs := [.int (I 0), .int (I 1), .ref 1, .ref 43, .int (I 2), .ref 214, .ref 256, .int (I 3), .ref 427, .int (I 4), .ref 453, .ref 508, .ref 635, .ref 636, .ref 643]) rfl rfl
theorem nf_12 : gR (HH P I B inc sl h0) 0 9 12 = some 635 := cm_gR np_0 (fs := [.int (I 0), .int (I 1), .ref 1, .ref 43, .int (I 2), .ref 214, .ref 256, .int (I 3), .ref 427, .int (I 4), .ref 453, .ref 508, .ref 635, .ref 636, .ref 643]) rfl rfl
theorem nf_13 : gR (HH P I B inc sl h0) 0 9 13 = some 636 := cm_gR np_0 (fs := [.int (I 0), .int (I 1), .ref 1, .ref 43, .int (I 2), .ref 214, .ref 256, .int (I 3), .ref 427, .int (I 4), .ref 453, .ref 508, .ref 635, .ref 636, .ref 643]) rfl rfl
theorem nf_14 : gR (HH P I B inc sl h0) 0 9 14 = some 643 := cm_gR np_0 (fs := [.int (I 0), .int (I 1), .ref 1, .ref 43, .int (I 2), .ref 214, .ref 256, .int (I 3), .ref 427, .int (I 4), .ref 453, .ref 508, .ref 635, .ref 636, .ref 643]) rfl rfl
theorem nf_0 : gI (HH P I B inc sl h0) 0 9 0 = some (I 0) := cm_gI np_0 (fs := [.int (I 0), .int (I 1), .ref 1, .ref 43, .int (I 2), .ref 214, .ref 256, .int (I 3), .ref 427, .int (I 4), .ref 453, .ref 508, .ref 635, .ref 636, .ref 643]) rfl rfl
theorem nf_1 : gI (HH P I B inc sl h0) 0 9 1 = some (I 1) := cm_gI np_0 (fs := [.int (I 0), .int (I 1), .ref 1, .ref 43, .int (I 2), .ref 214, .ref 256, .int (I 3), .ref 427, .int (I 4), .ref 453, .ref 508, .ref 635, .ref 636, .ref 643]) rfl rfl
theorem nf_4 : gI (HH P I B inc sl h0) 0 9 4 = some (I 2) := cm_gI np_0 (fs := [.int (I 0), .int (I 1), .ref 1, .ref 43, .int (I 2), .ref 214, .ref 256, .int (I 3), .ref 427, .int (I 4), .ref 453, .ref 508, .ref 635, .ref 636, .ref 643]) rfl rfl
theorem nf_7 : gI (HH P I B inc sl h0) 0 9 7 = some (I 3) := cm_gI np_0 (fs := [.int (I 0), .int (I 1), .ref 1, .ref 43, .int (I 2), .ref 214, .ref 256, .int (I 3), .ref 427, .int (I 4), .ref 453, .ref 508, .ref 635, .ref 636, .ref 643]) rfl rfl
theorem nf_9 : gI (HH P I B inc sl h0) 0 9 9 = some (I 4) := cm_gI np_0 (fs := [.int (I 0), .int (I 1), .ref 1, .ref 43, .int (I 2), .ref 214, .ref 256, .int (I 3), .ref 427, .int (I 4), .ref 453, .ref 508, .ref 635, .ref 636, .ref 643]) rfl rfl
theorem mu_0_0 (w : Int32) : hset (muf I B inc sl) 0 (nfO (ui I 0 w)) = muf (ui I 0 w) B inc sl := by
  funext x
  unfold hset
  by_cases q : x = 0
  · rw [if_pos q, q]
    rfl
  · rw [if_neg q]
    unfold muf
    simp only [if_neg q]
    first | done | rfl
theorem mu_0_1 (w : Int32) : hset (muf I B inc sl) 0 (nfO (ui I 1 w)) = muf (ui I 1 w) B inc sl := by
  funext x
  unfold hset
  by_cases q : x = 0
  · rw [if_pos q, q]
    rfl
  · rw [if_neg q]
    unfold muf
    simp only [if_neg q]
    first | done | rfl
theorem mu_0_2 (w : Int32) : hset (muf I B inc sl) 0 (nfO (ui I 2 w)) = muf (ui I 2 w) B inc sl := by
  funext x
  unfold hset
  by_cases q : x = 0
  · rw [if_pos q, q]
    rfl
  · rw [if_neg q]
    unfold muf
    simp only [if_neg q]
    first | done | rfl
theorem mu_0_3 (w : Int32) : hset (muf I B inc sl) 0 (nfO (ui I 3 w)) = muf (ui I 3 w) B inc sl := by
  funext x
  unfold hset
  by_cases q : x = 0
  · rw [if_pos q, q]
    rfl
  · rw [if_neg q]
    unfold muf
    simp only [if_neg q]
    first | done | rfl
theorem mu_0_4 (w : Int32) : hset (muf I B inc sl) 0 (nfO (ui I 4 w)) = muf (ui I 4 w) B inc sl := by
  funext x
  unfold hset
  by_cases q : x = 0
  · rw [if_pos q, q]
    rfl
  · rw [if_neg q]
    unfold muf
    simp only [if_neg q]
    first | done | rfl
theorem mu_43 (w : Int32) : hset (muf I B inc sl) 43 (mnO 43 w) = muf (ui I 5 w) B inc sl := by
  funext x
  unfold hset
  by_cases q : x = 43
  · rw [if_pos q, q]
    rfl
  · rw [if_neg q]
    unfold muf
    simp only [if_neg q]
    first | done | rfl
theorem mu_256 (w : Int32) : hset (muf I B inc sl) 256 (mnO 256 w) = muf (ui I 6 w) B inc sl := by
  funext x
  unfold hset
  by_cases q : x = 256
  · rw [if_pos q, q]
    rfl
  · rw [if_neg q]
    unfold muf
    simp only [if_neg q]
    first | done | rfl
theorem mu_635 (w : Nat → Int32) : hset (muf I B inc sl) 635 (.inl (2, 3, .inl w)) = muf I (ua B 2 w) inc sl := by
  funext x
  unfold hset
  by_cases q : x = 635
  · rw [if_pos q, q]
    rfl
  · rw [if_neg q]
    unfold muf
    simp only [if_neg q]
    first | done | rfl
theorem mu_495 (w : Nat → Int32) : hset (muf I B inc sl) 495 (.inl (2, 4, .inl w)) = muf I (ua B 1 w) inc sl := by
  funext x
  unfold hset
  by_cases q : x = 495
  · rw [if_pos q, q]
    rfl
  · rw [if_neg q]
    unfold muf
    simp only [if_neg q]
    first | done | rfl
theorem mu_453 (w : Nat) : hset (muf I B inc sl) 453 (ehO w) = muf I B w sl := by
  funext x
  unfold hset
  by_cases q : x = 453
  · rw [if_pos q, q]
    rfl
  · rw [if_neg q]
    unfold muf
    simp only [if_neg q]
    first | done | rfl
theorem mu_454 (w : Nat → Option Nat) : hset (muf I B inc sl) 454 (.inl (5, 4, .inr (.inr (.inr (.inr w))))) = muf I B inc w := by
  funext x
  unfold hset
  by_cases q : x = 454
  · rw [if_pos q, q]
    rfl
  · rw [if_neg q]
    unfold muf
    simp only [if_neg q]
    first | done | rfl
theorem np_f0 (w : Int32) : pV (HH P I B inc sl h0) 0 9 0 (.int w) = some (HH P (ui I 0 w) B inc sl h0) := by
  unfold HH
  rw [cm_pV (fs := [.int (I 0), .int (I 1), .ref 1, .ref 43, .int (I 2), .ref 214, .ref 256, .int (I 3), .ref 427, .int (I 4), .ref 453, .ref 508, .ref 635, .ref 636, .ref 643]) np_0 rfl (by simp), cls_hset _ rfl, ← mu_0_0]
  rfl
theorem np_f1 (w : Int32) : pV (HH P I B inc sl h0) 0 9 1 (.int w) = some (HH P (ui I 1 w) B inc sl h0) := by
  unfold HH
  rw [cm_pV (fs := [.int (I 0), .int (I 1), .ref 1, .ref 43, .int (I 2), .ref 214, .ref 256, .int (I 3), .ref 427, .int (I 4), .ref 453, .ref 508, .ref 635, .ref 636, .ref 643]) np_0 rfl (by simp), cls_hset _ rfl, ← mu_0_1]
  rfl
theorem np_f4 (w : Int32) : pV (HH P I B inc sl h0) 0 9 4 (.int w) = some (HH P (ui I 2 w) B inc sl h0) := by
  unfold HH
  rw [cm_pV (fs := [.int (I 0), .int (I 1), .ref 1, .ref 43, .int (I 2), .ref 214, .ref 256, .int (I 3), .ref 427, .int (I 4), .ref 453, .ref 508, .ref 635, .ref 636, .ref 643]) np_0 rfl (by simp), cls_hset _ rfl, ← mu_0_2]
  rfl
theorem np_f7 (w : Int32) : pV (HH P I B inc sl h0) 0 9 7 (.int w) = some (HH P (ui I 3 w) B inc sl h0) := by
  unfold HH
  rw [cm_pV (fs := [.int (I 0), .int (I 1), .ref 1, .ref 43, .int (I 2), .ref 214, .ref 256, .int (I 3), .ref 427, .int (I 4), .ref 453, .ref 508, .ref 635, .ref 636, .ref 643]) np_0 rfl (by simp), cls_hset _ rfl, ← mu_0_3]
  rfl
theorem np_f9 (w : Int32) : pV (HH P I B inc sl h0) 0 9 9 (.int w) = some (HH P (ui I 4 w) B inc sl h0) := by
  unfold HH
  rw [cm_pV (fs := [.int (I 0), .int (I 1), .ref 1, .ref 43, .int (I 2), .ref 214, .ref 256, .int (I 3), .ref 427, .int (I 4), .ref 453, .ref 508, .ref 635, .ref 636, .ref 643]) np_0 rfl (by simp), cls_hset _ rfl, ← mu_0_4]
  rfl
theorem HH_m43 (w : Int32) : conc P (mset (cls (muf I B inc sl) h0) 43 w) = HH P (ui I 5 w) B inc sl h0 := by
  unfold HH
  rw [mset_43, mu_43]
theorem HH_m256 (w : Int32) : conc P (mset (cls (muf I B inc sl) h0) 256 w) = HH P (ui I 6 w) B inc sl h0 := by
  unfold HH
  rw [mset_256, mu_256]
theorem mu_rt (f c : Int32) (v : Nat → Int32) : hset (hset (muf I B inc sl) 428 (.inl (0, 4, .inl v))) 427 (rtO f c) = muf (ui (ui I 7 f) 8 c) (ua B 0 v) inc sl := by
  funext x
  unfold hset
  by_cases q : x = 427
  · rw [if_pos q, q]
    rfl
  · rw [if_neg q]
    by_cases q2 : x = 428
    · rw [if_pos q2, q2]
      rfl
    · rw [if_neg q2]
      unfold muf
      rw [if_neg q, if_neg q2, if_neg q, if_neg q2]
      rfl
theorem HH_rt (f c : Int32) (v : Nat → Int32) : conc P (rset (cls (muf I B inc sl) h0) f c v) = HH P (ui (ui I 7 f) 8 c) (ua B 0 v) inc sl h0 := by
  unfold HH
  rw [rset_c, mu_rt]
theorem ui_id (k : Nat) : ui I k (I k) = I := by
  funext i
  unfold ui
  split
  · rename_i h; rw [h]
  · rfl
theorem HH_rt0 : HH P I B inc sl h0 = conc P (rset (cls (muf I B inc sl) h0) (I 7) (I 8) (B 0)) := by
  rw [HH_rt, ui_id 7, ui_id 8, ua_id]
theorem HH_mn {x : Nat} : MN (cls (muf I B inc sl) h0) 43 ∧ MN (cls (muf I B inc sl) h0) 256 := ⟨mn_43 (o := I 5) rfl, mn_256 (o := I 6) rfl⟩
theorem fo_a {f : Nat} (hf : f < 3) : aR (HH P I B inc sl h0) 508 3 (nI f) = some (509 + 42 * f) := cm_aR np_508 (n := 3) (f := fun j => if j < 3 then some (509 + 42 * j) else none) rfl hf (by decide) (if_pos hf)
theorem th_g {f : Nat} (hf : f < 3) : aZ (HH P I B inc sl h0) 635 (nI f) = some (B 2 f) := aZ_of (n := 3) (f := B 2) (by unfold HH; rw [cm_at np_635]; rfl) hf (by decide)
theorem th_s {f : Nat} (hf : f < 3) (x : Int32) : aZs (HH P I B inc sl h0) 635 (nI f) x = some (HH P I (ua B 2 (upd (B 2) f (vp_nar .boolean x))) inc sl h0) := by
  unfold HH
  rw [aZs_of (n := 3) (f := B 2) (by rw [cm_at np_635]; rfl) hf (by decide), conc_hset np_635, cls_hset _ rfl, mu_635]
theorem nar0 : vp_nar .boolean 0 = 0 := by decide
theorem nar1 : vp_nar .boolean 1 = 1 := by decide
theorem or_43 : gI (HH P I B inc sl h0) 43 5 4 = some (I 5) := cm_gI np_43 (fs := [.ref (43 + 1), .ref (43 + 144), .ref (43 + 155), .ref (43 + 164), .int (I 5)]) rfl rfl
theorem ck_43 : cK (HH P I B inc sl h0) 43 5 = some () := cm_cK np_43 (fs := [.ref (43 + 1), .ref (43 + 144), .ref (43 + 155), .ref (43 + 164), .int (I 5)]) rfl
theorem ck_256 : cK (HH P I B inc sl h0) 256 5 = some () := cm_cK np_256 (fs := [.ref (256 + 1), .ref (256 + 144), .ref (256 + 155), .ref (256 + 164), .int (I 6)]) rfl
end NF
