/-! the class's Echelon: all rows in, and the form written -/
def Rw (E : Nat → Nat → Po) (i : Nat) : (Nat → Po) → Prop := Sp (fun a => a < i) E
theorem rw_le {E : Nat → Nat → Po} {i k : Nat} (h : i ≤ k) {v : Nat → Po} (hv : Rw E i v) : Rw E k v := hv _ (sp_sub _ _) (fun _ ha => sp_in (Nat.lt_of_lt_of_le ha h))
theorem rw_la {E W V : Nat → Nat → Po} {F : Nat → Bool} {i : Nat} (h : ∀ v, Sl F W v ↔ Rw E i v) (h4 : ∀ j, j < 4 → V 4 j = E i j) (ho : ∀ a j, a < 4 → j < 4 → F a = true → V a j = W a j) (v : Nat → Po) : La F V v ↔ Rw E (i + 1) v := by
  constructor
  · intro k
    refine k _ (sp_sub _ _) (fun a ha => ?_)
    rcases ha with e | e
    · rw [e]
      exact (sp_sub _ _).1 _ _ (fun j hj => (h4 j hj).symm) (sp_in (Nat.lt_succ_self i))
    · exact (sp_sub _ _).1 _ _ (fun j hj => (ho a j e.1 hj e.2).symm) (rw_le (Nat.le_succ i) ((h _).mp (sp_in e)))
  · intro k
    refine k _ (sp_sub _ _) (fun a ha => ?_)
    by_cases q : a = i
    · rw [q]
      exact (sp_sub _ _).1 _ _ h4 (sp_in (Or.inl rfl))
    · refine (h (E a)).mpr (sp_in (show a < i by omega)) _ (sp_sub _ _) (fun b hb => ?_)
      exact (sp_sub _ _).1 _ _ (fun j hj => ho b j hb.1 hj hb.2) (sp_in (Or.inr hb))
/-- the rows of small degrees, when one row more is in -/
theorem zi_up {E W V : Nat → Nat → Po} {F G : Nat → Bool} {i s : Nat} (hE4 : ∀ i j, sz (E i j) ≤ 4) (hs : s < 4) (hW : EC F W) (h : ∀ v, Sl F W v ↔ Rw E i v) (hV : EC G V) (h' : ∀ v, Sl G V v ↔ Rw E (i + 1) v) (hZ : ZI s F (Rw E i)) (hG : (∀ k, G k = F k) ∨ ∃ c, c < 4 ∧ F c = false ∧ ∀ k, G k = if k = c then true else F k) : ∃ s', ZI s' G (Rw E (i + 1)) ∧ s' ≤ s + 1 ∧ cn G 4 ≤ cn F 4 + 1 := by
  rcases hG with e | ⟨c, hc, hF, hG⟩
  · refine ⟨s, zi_mono hZ (fun v hv => rw_le (Nat.le_succ i) hv) (fun c _ => (e c).symm), by omega, ?_⟩
    rw [cn_congr 4 (fun k _ => e k)]
    omega
  · refine ⟨s + 1, ?_, by omega, ?_⟩
    · refine zi_mono (zi_new hs (zi_mono hZ (fun v hv => (h v).mpr hv) (fun _ _ => rfl)) hW hV (fun v hv => (h' v).mpr (rw_le (Nat.le_succ i) ((h v).mp hv))) (hE4 i) ((h' _).mpr (sp_in (Nat.lt_succ_self i))) hc hF hG (fun S hS h1 h2 => ?_)) (fun v hv => (h' v).mp hv) (fun _ _ => rfl)
      refine (h' (V c)).mp (sp_in ⟨hc, by rw [hG, if_pos rfl]⟩) S hS (fun b hb => ?_)
      by_cases q : b = i
      · rw [q]; exact h2
      · exact h1 _ ((h _).mpr (sp_in (show b < i by omega)))
    · rw [cn_new hF hG 4]
      have := hc
      rw [if_pos hc]
      omega
theorem rd_le {F : Nat → Bool} {W : Nat → Nat → Po} {T : (Nat → Po) → Prop} {r k : Nat} (h : RD F W T r) (hk : r ≤ k) : RD F W T k := ⟨h.1, h.2.1, fun m hm => h.2.2 m (by omega)⟩
section EC5
variable {N : Nat} {I : Nat → Int32} {h0 : Hp}
theorem reck_l (hN : 1000 ≤ N) {E : Nat → Nat → Po} (hE4 : ∀ i j, sz (E i j) ≤ 4) : ∀ (d n i : Nat) (P : Nat → Po) (B : Nat → Nat → Int32) (inc : Nat) (sl : Nat → Option Nat) (g : Nat → Nat) (F : Nat → Bool) (s : Nat), i + d = 4 → d < n → FT P → EH g inc sl → (∀ a b, a < 4 → b < 4 → P (ce 1 a b) = E a b) → (∀ k, k < 4 → B 1 k = bF F k) → RD F (WE P g) (Rw E i) 0 → ZI s F (Rw E i) → s ≤ i → cn F 4 ≤ i → ∃ (P' : Nat → Po) (b' : Nat → Int32) (inc' : Nat) (sl' : Nat → Option Nat) (g' : Nat → Nat) (F' : Nat → Bool), lX1_reckon_22 N 453 1 n (nI i) (HH P I B inc sl h0) (fun _ h => some h) = some (HH P' I (ua B 1 b') inc' sl' h0) ∧ FT P' ∧ EH g' inc' sl' ∧ (∀ k, k < 4 → b' k = bF F' k) ∧ HF F' (WE P' g') ∧ (∀ v, Sl F' (WE P' g') v ↔ Rw E 4 v) ∧ (∀ k j, k < 4 → j < 4 → F' k = true → sz (WE P' g' k j) ≤ 13) ∧ (∀ x, x < 457 ∨ 508 ≤ x → P' x = P x)
  | d, 0, i, P, B, inc, sl, g, F, s, _, hn, _, _, _, _, _, _, _, _ => absurd hn (Nat.not_lt_zero _)
  | 0, n + 1, i, P, B, inc, sl, g, F, s, hd, hn, w, eh, hA, hB, rd, hZ, hs, hcn => by
    have e : i = 4 := by omega
    subst e
    obtain ⟨D, hD⟩ := zi_zp (sp_sub _ _) hZ
    refine ⟨P, B 1, inc, sl, g, F, ?_, w, eh, hB, rd_hf rd, rd.2.1, fun k j hk hj hF => ?_, fun _ _ => rfl⟩
    · rw [lX1_reckon_22, ua_id, if_pos (by decide)]
    · have := rd_sz (rd_le rd (Nat.zero_le k)) hD hk hF j hj
      omega
  | d + 1, n + 1, i, P, B, inc, sl, g, F, s, hd, hn, w, eh, hA, hB, rd, hZ, hs, hcn => by
    have hi : i < 4 := by omega
    obtain ⟨D, hD⟩ := zi_zp (sp_sub _ _) hZ
    have g4 : g 4 = 455 ∨ g 4 = 465 ∨ g 4 = 475 ∨ g 4 = 485 ∨ g 4 = 498 := eh.2.2.1 4 (by omega)
    obtain ⟨P1, c1, c2, c3, c4⟩ := rcopy_c hN (P := P) (m := cls (muf I B inc sl) h0) w (r := g 4) (o := 1 + 2 + 10 * i) (er eh (by omega)) (mx_1.r hi) (by omega) (fun j hj => by
      have h1 := hA i j hi hj
      have h2 := hE4 i j
      have h3 : P (1 + 2 + 10 * i + 2 + 2 * j) = E i j := h1
      rw [h3]
      omega)
    have e4 : ∀ j, j < 4 → WE P1 g 4 j = E i j := fun j hj => by
      rw [← hA i j hi hj]
      exact c3 j hj
    have eo : ∀ a j, a < 4 → j < 4 → WE P1 g a j = WE P g a j := fun a j ha hj => c4 _ (fun k hk => by
      have := er_d eh (a := a) (b := 4) (by omega) (by omega) (by omega)
      omega)
    have fr1 : ∀ x, x < 457 ∨ 508 ≤ x → P1 x = P x := fun x hx => c4 x (fun k hk => by omega)
    have ec1 : EC F (WE P1 g) := fun r hr hF => ⟨fun j hj => by rw [eo r j hr (by omega)]; exact (rd.1 r hr hF).1 j hj, by rw [eo r r hr hr]; exact (rd.1 r hr hF).2⟩
    obtain ⟨P2, inc2, sl2, g2, b2, G, t1, t2, t3, t4, t5, t6, t7, t8, t9⟩ := ins_l (N := N) (I := I) (h0 := h0) (B := B) (F := F) (W0 := WE P1 g) (T := Rw E (i + 1)) hN (by omega) (fun k j hk hj hF => by
      rw [eo k j hk hj]
      have := rd_sz (rd_le rd (Nat.zero_le k)) hD hk hF j hj
      omega) hB 4 N 0 P1 inc sl g rfl (by omega) c2 eh ⟨fun j hj => absurd hj (Nat.not_lt_zero _), ec1, fun v => rw_la rd.2.1 e4 (fun a j ha hj _ => eo a j ha hj) v, fun _ _ _ _ _ => rfl⟩ (fun j hj => by
      rw [e4 j hj]
      have := hE4 i j
      omega) (fun k j hk _ _ => absurd hk (Nat.not_lt_zero _))
    obtain ⟨s', z1, z2, z3⟩ := zi_up hE4 (by omega) rd.1 rd.2.1 t4 t5 hZ t8
    obtain ⟨D', hD'⟩ := zi_zp (sp_sub _ _) z1
    have hB2 : ∀ k, k < 4 → ua B 1 b2 1 k = bF G k := fun k hk => by rw [ua_s]; exact t7 k hk
    obtain ⟨P3, u1, u2, u3, u4, u5⟩ := red_l (N := N) (I := I) (h0 := h0) (B := ua B 1 b2) hN (by omega) hD' t3 hB2 4 N P2 (by omega) (by omega) t2 ⟨t4, t5, fun k h1 h2 => by omega⟩ (fun k j h1 h2 => by omega) (fun k j hk hj hG => t6 k j hk hj hG)
    obtain ⟨P', b', inc', sl', g', F', v1, v2, v3, v4, v5, v6, v7, v8⟩ := reck_l hN hE4 d n (i + 1) P3 (ua B 1 b2) inc2 sl2 g2 G s' (by omega) (by omega) u2 t3 (fun a b ha hb => by
      have lt : ce 1 a b < 457 := by unfold ce; omega
      rw [u5 _ (Or.inl lt), t9 _ (Or.inl lt), fr1 _ (Or.inl lt)]
      exact hA a b ha hb) hB2 u3 z1 (by omega) (by omega)
    refine ⟨P', b', inc', sl', g', F', ?_, v2, v3, v4, v5, v6, v7, fun x hx => by rw [v8 x hx, u5 x hx, t9 x hx]; exact fr1 x hx⟩
    rw [lX1_reckon_22]
    show (if nI 4 ≤ nI i then _ else _) = _
    rw [if_neg (fun y => by have := (le_n (by omega) (by omega)).mp y; omega), eh_3, Option.bind_some, show gR (HH P I B inc sl h0) 1 4 0 = some (1 + 1) from mx_1.g P, Option.bind_some, show aR (HH P I B inc sl h0) (1 + 1) 5 (nI i) = some (1 + 2 + 10 * i) from mx_1.a P hi, Option.bind_some]
    have er4 : RO (cls (muf I B inc sl) h0) inc 67 := by
      have := er (mu := muf I B inc sl) (h0 := h0) eh (a := 4) (by omega)
      rw [eh.1] at this
      exact this
    rw [show cK (HH P I B inc sl h0) inc 8 = some () from er4.ck P, Option.bind_some]
    rw [eh.1] at c1
    rw [show fX6_copyFrom N inc (1 + 2 + 10 * i) (HH P I B inc sl h0) = some (HH P1 I B inc sl h0) from c1, Option.bind_some, eh_ck, Option.bind_some]
    unfold fX1_insert
    show (lX1_insert_2 N 453 N (nI 0) (HH P1 I B inc sl h0) (fun _ h => some h)).bind _ = _
    rw [t1, Option.bind_some, eh_ck, Option.bind_some]
    unfold fX1_reduce
    show (lX1_reduce_2 N 453 N (dI 4) (HH P2 I (ua B 1 b2) inc2 sl2 h0) (fun _ h => some h)).bind _ = _
    rw [u1, Option.bind_some]
    unfold nm
    dsimp only
    rw [nI_1, v1, ua_ua]
theorem clr_l {P : Nat → Po} {inc : Nat} {sl : Nat → Option Nat} : ∀ (d n c : Nat) (B : Nat → Nat → Int32), c + d = 4 → d < n → (∀ k, k < c → B 1 k = 0) → ∃ b', (∀ κ, lX1_reckon_2 N 453 1 n (nI c) (HH P I B inc sl h0) κ = κ (nI 4) (HH P I (ua B 1 b') inc sl h0)) ∧ ∀ k, k < 4 → b' k = 0
  | d, 0, c, B, _, hn, _ => absurd hn (Nat.not_lt_zero _)
  | 0, n + 1, c, B, hd, hn, h => by
    have e : c = 4 := by omega
    subst e
    refine ⟨B 1, fun κ => ?_, h⟩
    rw [lX1_reckon_2, ua_id, if_pos (by decide)]
  | d + 1, n + 1, c, B, hd, hn, h => by
    obtain ⟨b', t1, t2⟩ := clr_l (P := P) (inc := inc) (sl := sl) d n (c + 1) (ua B 1 (upd (B 1) c 0)) (by omega) (by omega) (fun k hk => by
      rw [ua_s]
      unfold upd
      by_cases q : k = c
      · rw [if_pos q]
      · rw [if_neg q]; exact h k (by omega))
    refine ⟨b', fun κ => ?_, t2⟩
    rw [lX1_reckon_2]
    show (if nI 4 ≤ nI c then _ else _) = _
    rw [if_neg (fun y => by have := (le_n (by omega) (by omega)).mp y; omega), eh_1, Option.bind_some, sf_s (by omega), Option.bind_some, nar0]
    unfold nm
    dsimp only
    rw [nI_1, t1 κ, ua_ua]
theorem reckon_ec (hN : 1000 ≤ N) {P : Nat → Po} {B : Nat → Nat → Int32} {inc : Nat} {sl : Nat → Option Nat} {g : Nat → Nat} (w : FT P) (eh : EH g inc sl) {E : Nat → Nat → Po} (hE4 : ∀ i j, sz (E i j) ≤ 4) (hA : ∀ a b, a < 4 → b < 4 → P (ce 1 a b) = E a b) : ∃ (P' : Nat → Po) (b' : Nat → Int32) (inc' : Nat) (sl' : Nat → Option Nat) (g' : Nat → Nat) (F' : Nat → Bool), fX1_reckon N 453 1 (HH P I B inc sl h0) = some (HH P' I (ua B 1 b') inc' sl' h0) ∧ FT P' ∧ EH g' inc' sl' ∧ (∀ k, k < 4 → b' k = bF F' k) ∧ HF F' (WE P' g') ∧ (∀ v, Sl F' (WE P' g') v ↔ Rw E 4 v) ∧ (∀ k j, k < 4 → j < 4 → F' k = true → sz (WE P' g' k j) ≤ 13) ∧ (∀ x, x < 457 ∨ 508 ≤ x → P' x = P x) := by
  obtain ⟨b1, t1, t2⟩ := clr_l (N := N) (I := I) (h0 := h0) (P := P) (inc := inc) (sl := sl) 4 N 0 B rfl (by omega) (fun k hk => absurd hk (Nat.not_lt_zero _))
  obtain ⟨P', b', inc', sl', g', F', v1, v2⟩ := reck_l (N := N) (I := I) (h0 := h0) hN hE4 4 N 0 P (ua B 1 b1) inc sl g (fun _ => false) 0 rfl (by omega) w eh hA (fun k hk => by
    rw [ua_s, t2 k hk]
    rfl) ⟨fun r _ h => Bool.noConfusion h, fun v => ⟨fun h => h _ (sp_sub _ _) (fun a ha => Bool.noConfusion ha.2), fun h => h _ (sp_sub _ _) (fun a ha => absurd ha (Nat.not_lt_zero _))⟩, fun k _ _ h => Bool.noConfusion h⟩ zi_0 (Nat.le_refl _) (Nat.le_refl _)
  refine ⟨P', b', inc', sl', g', F', ?_, v2⟩
  unfold fX1_reckon
  show lX1_reckon_2 N 453 1 N (nI 0) (HH P I B inc sl h0) _ = _
  rw [t1]
  show lX1_reckon_22 N 453 1 N (nI 0) (HH P I (ua B 1 b1) inc sl h0) (fun _ h => some h) = _
  rw [v1, ua_ua]
end EC5
