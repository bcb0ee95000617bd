/-! the class's form 0: the rows of the Echelon written one below the other -/
def FW (F : Nat → Bool) (W : Nat → Nat → Po) (k : Nat) (M : Nat → Nat → Po) : Prop := (∀ c j, c < k → j < 4 → F c = true → M (cn F c) j = W c j) ∧ ∀ n j, cn F k ≤ n → n < 4 → j < 4 → M n j = pC 0
theorem cn_b (F : Nat → Bool) : ∀ n, cn F n ≤ n
  | 0 => Nat.le_refl _
  | n + 1 => by
    have := cn_b F n
    cases h : F n
    · rw [cn_0 h]; omega
    · rw [cn_1 h]; omega
theorem cn_lt {F : Nat → Bool} {c k : Nat} (h : F c = true) (hk : c < k) : cn F c < cn F k := by
  have := cn_le F (c + 1) k hk
  rw [cn_1 h] at this
  omega
theorem cn_hit {F : Nat → Bool} : ∀ (k n : Nat), n < cn F k → ∃ c, c < k ∧ F c = true ∧ cn F c = n
  | 0, n, h => absurd h (Nat.not_lt_zero _)
  | k + 1, n, h => by
    cases hF : F k
    · rw [cn_0 hF] at h
      obtain ⟨c, h1, h2, h3⟩ := cn_hit k n h
      exact ⟨c, by omega, h2, h3⟩
    · rw [cn_1 hF] at h
      by_cases q : n = cn F k
      · exact ⟨k, by omega, hF, q.symm⟩
      · obtain ⟨c, h1, h2, h3⟩ := cn_hit (F := F) k n (by omega)
        exact ⟨c, by omega, h2, h3⟩
theorem fw_un {F G : Nat → Bool} {W V M M' : Nat → Nat → Po} (eF : ∀ r, r < 4 → F r = G r) (eW : ∀ r j, r < 4 → j < 4 → F r = true → W r j = V r j) (h1 : FW F W 4 M) (h2 : FW G V 4 M') : ∀ n j, n < 4 → j < 4 → M n j = M' n j := fun n j hn hj => by
  have e4 : cn F 4 = cn G 4 := cn_congr 4 eF
  by_cases q : n < cn F 4
  · obtain ⟨c, g1, g2, g3⟩ := cn_hit 4 n q
    have k1 := h1.1 c j g1 hj g2
    have k2 := h2.1 c j g1 hj (by rw [← eF c g1]; exact g2)
    rw [← cn_congr c (fun r hr => eF r (by omega)), g3] at k2
    rw [g3] at k1
    rw [k1, k2]
    exact eW c j g1 hj g2
  · rw [h1.2 n j (by omega) hn hj, h2.2 n j (by omega) hn hj]
theorem fw_skip {F : Nat → Bool} {W M : Nat → Nat → Po} {k : Nat} (hF : F k = false) (h : FW F W k M) : FW F W (k + 1) M := ⟨fun c j hc hj hFc => by
  by_cases q : c = k
  · rw [q, hF] at hFc
    cases hFc
  · exact h.1 c j (by omega) hj hFc, fun n j hn => h.2 n j (by rw [cn_0 hF] at hn; exact hn)⟩
theorem fw_step {F : Nat → Bool} {W M M' : Nat → Nat → Po} {k : Nat} (hF : F k = true) (h : FW F W k M) (hM : ∀ n j, n < 4 → j < 4 → M' n j = if n = cn F k then W k j else M n j) (hk : k < 4) : FW F W (k + 1) M' := ⟨fun c j hc hj hFc => by
  have b1 := cn_b F c
  rw [hM (cn F c) j (by omega) hj]
  by_cases q : c = k
  · rw [q, if_pos rfl]
  · have := cn_lt hFc (k := k) (by omega)
    rw [if_neg (by omega)]
    exact h.1 c j (by omega) hj hFc, fun n j hn hn4 hj => by
  rw [cn_1 hF] at hn
  rw [hM n j hn4 hj, if_neg (by omega)]
  exact h.2 n j (by omega) hn4 hj⟩
section WTO
variable {N : Nat} {I : Nat → Int32} {B : Nat → Nat → Int32} {inc : Nat} {sl : Nat → Option Nat} {h0 : Hp}
theorem wt_l (hN : 1000 ≤ N) {g : Nat → Nat} (eh : EH g inc sl) {F : Nat → Bool} (hB : ∀ k, k < 4 → B 1 k = bF F k) {W : Nat → Nat → Po} (hs : ∀ k j, k < 4 → j < 4 → F k = true → sz (W k j) ≤ 13) : ∀ (d n c : Nat) (P : Nat → Po), c + d = 4 → d < n → FT P → (∀ k j, k < 4 → j < 4 → WE P g k j = W k j) → FW F W c (fun a b => P (ce 509 a b)) → ∃ P', lX1_writeTo_8 N 453 509 n (nI (cn F c)) (nI c) (HH P I B inc sl h0) (fun _ _ h => some h) = some (HH P' I B inc sl h0) ∧ FT P' ∧ FW F W 4 (fun a b => P' (ce 509 a b)) ∧ (∀ x, x < 509 ∨ 551 ≤ x → P' x = P x)
  | d, 0, c, P, _, hn, _, _, _ => absurd hn (Nat.not_lt_zero _)
  | 0, n + 1, c, P, hd, hn, w, hW, hf => by
    have e : c = 4 := by omega
    subst e
    refine ⟨P, ?_, w, hf, fun _ _ => rfl⟩
    rw [lX1_writeTo_8, if_pos (by decide)]
  | d + 1, n + 1, c, P, hd, hn, w, hW, hf => by
    have hc : c < 4 := by omega
    have hcn : cn F c < 4 := by have := cn_b F c; omega
    have head : lX1_writeTo_8 N 453 509 (n + 1) (nI (cn F c)) (nI c) (HH P I B inc sl h0) (fun _ _ h => some h) = (if B 1 c = 0 then lX1_writeTo_8 N 453 509 n (nI (cn F c)) (nI (c + 1)) (HH P I B inc sl h0) (fun _ _ h => some h) else (fX6_copyFrom N (509 + 2 + 10 * cn F c) (g c) (HH P I B inc sl h0)).bind fun h23 => lX1_writeTo_8 N 453 509 n (nI (cn F c + 1)) (nI (c + 1)) h23 (fun _ _ h => some h)) := by
      rw [lX1_writeTo_8]
      show (if nI 4 ≤ nI c then _ else _) = _
      rw [if_neg (fun y => by have := (le_n (by omega) (by omega)).mp y; omega), eh_1, Option.bind_some, sf_g hc, Option.bind_some]
      unfold jn nm
      dsimp only
      rw [nI_1, nI_1, show gR (HH P I B inc sl h0) 509 4 0 = some (509 + 1) from mx_509.g P, Option.bind_some, show aR (HH P I B inc sl h0) (509 + 1) 5 (nI (cn F c)) = some (509 + 2 + 10 * cn F c) from mx_509.a P hcn, Option.bind_some, eh_0, Option.bind_some, sl_g eh hc, Option.bind_some, show cK (HH P I B inc sl h0) (509 + 2 + 10 * cn F c) 8 = some () from (mx_509.r hcn).ck P, Option.bind_some]
    cases hF : F c
    · obtain ⟨P', t1, t2⟩ := wt_l hN eh hB hs d n (c + 1) P (by omega) (by omega) w hW (fw_skip hF hf)
      refine ⟨P', ?_, t2⟩
      rw [head, hB c hc, show bF F c = 0 by unfold bF; rw [hF]; rfl, if_pos rfl]
      rw [cn_0 hF] at t1
      exact t1
    · have gc := eh.2.2.1 c (by omega)
      obtain ⟨P1, c1, c2, c3, c4⟩ := rcopy_c hN (P := P) (m := cls (muf I B inc sl) h0) w (r := 509 + 2 + 10 * cn F c) (o := g c) (mx_509.r hcn) (er eh (by omega)) (by omega) (fun j hj => by
        have h1 := hW c j hc hj
        have h2 := hs c j hc hj hF
        unfold WE at h1
        rw [h1]
        exact h2)
      obtain ⟨P', t1, t2, t3, t4⟩ := wt_l hN eh hB hs d n (c + 1) P1 (by omega) (by omega) c2 (fun k j hk hj => by
        rw [← hW k j hk hj]
        refine c4 _ (fun i hi => ?_)
        have := eh.2.2.1 k (by omega)
        omega) (fw_step hF hf (fun m j hm hj => by
        by_cases q : m = cn F c
        · rw [if_pos q, q, ← hW c j hc hj]
          exact c3 j hj
        · rw [if_neg q]
          refine c4 _ (fun i hi => ?_)
          unfold ce
          omega) hc)
      refine ⟨P', ?_, t2, t3, fun x hx => by rw [t4 x hx]; exact c4 x (fun i hi => by omega)⟩
      rw [head, hB c hc, show bF F c = 1 by unfold bF; rw [hF]; rfl, if_neg (by decide), show fX6_copyFrom N (509 + 2 + 10 * cn F c) (g c) (HH P I B inc sl h0) = some (HH P1 I B inc sl h0) from c1, Option.bind_some]
      rw [cn_1 hF] at t1
      exact t1
theorem writeTo_c (hN : 1000 ≤ N) {P : Nat → Po} (w : FT P) {g : Nat → Nat} (eh : EH g inc sl) {F : Nat → Bool} (hB : ∀ k, k < 4 → B 1 k = bF F k) (hs : ∀ k j, k < 4 → j < 4 → F k = true → sz (WE P g k j) ≤ 13) : ∃ P', fX1_writeTo N 453 509 (HH P I B inc sl h0) = some (HH P' I B inc sl h0) ∧ FT P' ∧ FW F (WE P g) 4 (fun a b => P' (ce 509 a b)) ∧ (∀ x, x < 509 ∨ 551 ≤ x → P' x = P x) := by
  obtain ⟨P1, c1, c2, c3, c4⟩ := mclear_c hN (P := P) (m := cls (muf I B inc sl) h0) w mx_509
  have f1 : ∀ x, x < 509 ∨ 551 ≤ x → P1 x = P x := fun x hx => c4 x (fun a b ha hb => by unfold ce; omega)
  obtain ⟨P', t1, t2, t3, t4⟩ := wt_l (N := N) (I := I) (h0 := h0) hN eh hB hs 4 N 0 P1 rfl (by omega) c2 (fun k j hk hj => f1 _ (by
    have := eh.2.2.1 k (by omega)
    omega)) ⟨fun c j hc => absurd hc (Nat.not_lt_zero _), fun m j _ hm hj => c3 m j hm hj⟩
  refine ⟨P', ?_, t2, t3, fun x hx => by rw [t4 x hx]; exact f1 x hx⟩
  unfold fX1_writeTo
  rw [show cK (HH P I B inc sl h0) 509 4 = some () from mx_509.ck P, Option.bind_some, show fX2_clear N 509 (HH P I B inc sl h0) = some (HH P1 I B inc sl h0) from c1, Option.bind_some]
  exact t1
end WTO
section WTM
variable {N : Nat} {P : Nat → Po} {I : Nat → Int32} {B : Nat → Nat → Int32} {inc : Nat} {sl : Nat → Option Nat} {h0 : Hp}
/-- make of the class: the Hermite form -/
theorem make_c3 (hN : 1000 ≤ N) (wf : FT P) {g : Nat → Nat} (eh : EH g inc sl) {E : Nat → Nat → Po} (hA : ∀ i j, i < 4 → j < 4 → P (ce 1 i j) = E i j) (hE : ∀ i j, sz (E i j) ≤ 4) (h1 : sz (P 47) ≤ 1) (hk : I 2 = 0 ∨ I 2 = 1 ∧ MR E 43 P ∧ I 5 = nI (ord E)) : ∃ (P' : Nat → Po) (I' : Nat → Int32) (B' : Nat → Nat → Int32) (inc' : Nat) (sl' : Nat → Option Nat) (g' : Nat → Nat) (F : Nat → Bool) (W : Nat → Nat → Po), fX7_make N 0 (nI 0) (HH P I B inc sl h0) = some (.inr (nI (ord E)), HH P' I' B' inc' sl' h0) ∧ FT P' ∧ EH g' inc' sl' ∧ MR E 43 P' ∧ I' 2 = 1 ∧ I' 5 = nI (ord E) ∧ (∀ k, k ≠ 2 → k ≠ 5 → I' k = I k) ∧ B' 2 = upd (B 2) 0 1 ∧ (∀ k, k ≠ 1 → k ≠ 2 → B' k = B k) ∧ HF F W ∧ (∀ v, Sl F W v ↔ Rw E 4 v) ∧ (∀ k j, k < 4 → j < 4 → F k = true → sz (W k j) ≤ 13) ∧ FW F W 4 (fun a b => P' (ce 509 a b)) ∧ (∀ x, x < 43 ∨ 214 ≤ x ∧ (x < 457 ∨ 551 ≤ x) → P' x = P x) := by
  obtain ⟨P1, I', g1, g2, g3, g4, g5, g6, g7⟩ := knowM_c (N := N) (B := B) (inc := inc) (sl := sl) (h0 := h0) hN wf hA hE h1 hk
  obtain ⟨P2, b2, inc2, sl2, g', F, r1, r2, r3, r4, r5, r6, r7, r8⟩ := reckon_ec (N := N) (I := I') (h0 := h0) (B := B) hN g2 eh hE (fun a b ha hb => by
    rw [g7 _ (Or.inl (by unfold ce; omega))]
    exact hA a b ha hb)
  obtain ⟨P3, s1, s2, s3, s4⟩ := writeTo_c (N := N) (I := I') (h0 := h0) (B := ua B 1 b2) hN r2 r3 (F := F) (fun k hk => by rw [ua_s]; exact r4 k hk) r7
  have fr : ∀ x, x < 457 ∨ 551 ≤ x → P3 x = P1 x := fun x hx => by
    rw [s4 x (by omega), r8 x (by omega)]
  refine ⟨P3, I', ua (ua B 1 b2) 2 (upd (B 2) 0 1), inc2, sl2, g', F, WE P2 g', ?_, s2, r3, ⟨fun r s hr hs hb => ?_, fun k hk => ?_⟩, g4, g5, g6, by rw [ua_s], fun k h1 h2 => by rw [ua_n _ _ h2, ua_n _ _ h1], r5, r6, r7, s3, fun x hx => by rw [fr x (by omega), g7 x (by omega)]⟩
  · unfold fX7_make
    rw [nf_ck, Option.bind_some, (needForm_s (N := N) (P := P) (I := I) (B := B) (inc := inc) (sl := sl) (h0 := h0) (nI 0)).1 ⟨0, by omega, rfl⟩, Option.bind_some]
    unfold thr jn
    dsimp only
    rw [nf_ck, Option.bind_some, g1, Option.bind_some, if_neg (show ¬ nI 0 = 2 by decide), if_pos (show nI 0 = 0 from rfl), nf_10, Option.bind_some, nf_2, Option.bind_some, eh_ck, Option.bind_some, r1, Option.bind_some, nf_10, Option.bind_some, nf_11, Option.bind_some]
    rw [show aR (HH P2 I' (ua B 1 b2) inc2 sl2 h0) 508 3 (0 : Int32) = some 509 from fo_a (f := 0) (by omega), Option.bind_some, eh_ck, Option.bind_some, s1, Option.bind_some, nf_12, Option.bind_some, th_s (by omega), Option.bind_some, nar1, nf_3, Option.bind_some, or_43, Option.bind_some, g5, ua_n _ _ (by decide)]
  · obtain ⟨y, hy, ey⟩ := mo_sq (i := 16 * r + s) (by omega) (sq_of hs hb)
    rw [fr _ (by omega)]
    exact g3.1 r s hr hs hb
  · rw [fr _ (by omega)]
    exact g3.2 k hk
end WTM
