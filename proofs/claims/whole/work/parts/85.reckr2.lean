theorem reck104 {N : Nat} (hN : 33000 ≤ N) {m : Hp} (rb : RB m) {f : Int32} {v : Nat → Int32} {S : List Fp} (hS : S.Nodup) (hS4 : S.length ≤ 4) {P0 : Nat → Po} {wa : Nat} : ∀ (k n s pc : Nat) (P : Nat → Po) (L : Nat → List Fp), s + k = 32003 → k < n → PS S P0 P pc L → (∀ t, t < s → ∀ j, j < pc → UN (fN t) (L j)) → ∃ (z : Int32) (pc' : Nat) (P' : Nat → Po) (L' : Nat → List Fp), (∀ κ, lX5_reckon_104 N 427 wa (nI S.length) n (nI s) (conc P (rset m f (nI pc) v)) κ = κ z (conc P' (rset m f (nI pc') v))) ∧ PS S P0 P' pc' L' ∧ (S.length ≤ pc' ∨ ∀ t, t < 32003 → ∀ j, j < pc' → UN (fN t) (L' j))
  | k, 0, s, pc, P, L, _, hn, _, _ => absurd hn (Nat.not_lt_zero _)
  | 0, n + 1, s, pc, P, L, hk, hn, ps, hu => by
    refine ⟨nI s, pc, P, L, fun κ => ?_, ps, Or.inr (fun t ht => hu t (by omega))⟩
    rw [lX5_reckon_104]
    show (if nI 32003 ≤ nI s then _ else _) = _
    rw [if_pos ((le_n (by omega) (by omega)).mpr (by omega))]
  | k + 1, n + 1, s, pc, P, L, hk, hn, ps, hu => by
    have rt := rb.rt f (nI pc) v
    have h4 := ps.1
    by_cases q : S.length ≤ pc
    · refine ⟨nI s, pc, P, L, fun κ => ?_, ps, Or.inl q⟩
      rw [lX5_reckon_104]
      show (if nI 32003 ≤ nI s then _ else _) = _
      rw [if_neg (fun z => by have := (le_n (by omega) (by omega)).mp z; omega), rt.g3, Option.bind_some, if_pos ((le_n (by omega) (by omega)).mpr q)]
    · obtain ⟨pc1, P1, L1, f1, f2, f3, f4⟩ := reck122 (N := N) (by omega) rb (f := f) (v := v) hS hS4 (P0 := P0) (wa := wa) (wI := nI S.length) (s := fN s) 4 N 0 pc P L rfl (by omega) ps (fun j h1 h2 => by omega)
      obtain ⟨z, pc', P', L', g1, g2, g3⟩ := reck104 hN rb (f := f) (v := v) hS hS4 (P0 := P0) (wa := wa) k n (s + 1) pc1 P1 L1 (by omega) (by omega) f2 (fun t ht j hj => by
        by_cases y : t = s
        · rw [y]; exact f3 j hj
        · obtain ⟨i, hi, hs⟩ := f4 j hj
          exact fun a ha b hb => hu t (by omega) i hi a (hs a ha) b (hs b hb))
      refine ⟨z, pc', P', L', fun κ => ?_, g2, g3⟩
      rw [lX5_reckon_104]
      show (if nI 32003 ≤ nI s then _ else _) = _
      rw [if_neg (fun z => by have := (le_n (by omega) (by omega)).mp z; omega), rt.g3, Option.bind_some, if_neg (fun z => q ((le_n (by omega) (by omega)).mp z))]
      rw [fN_val (by omega)] at f1
      show lX5_reckon_122 N 427 wa (nI S.length) (nI s) N (nI 0) _ _ = _
      rw [f1]
      unfold nm
      rw [nI_1]
      exact g1 κ
/-- in the end every part has one root -/
theorem parts_one {S : List Fp} (hS : S.Nodup) {P0 P : Nat → Po} {pc : Nat} {L : Nat → List Fp} (ps : PS S P0 P pc L) (h : S.length ≤ pc ∨ ∀ t, t < 32003 → ∀ j, j < pc → UN (fN t) (L j)) : ∀ j, j < pc → ∃ b, L j = [b] := by
  intro j hj
  obtain ⟨i1, i2, i3, i4, i5, i6⟩ := ps
  have hne := (i2 j hj).2
  have fl := (flat_len pc (fun j hj => (i2 j hj).2)).2 j hj
  rw [i3.length_eq] at fl
  have hnd := flat_nodup pc (i3.nodup_iff.mpr hS) j hj
  rcases h with h | h
  · match e : L j with
    | [] => exact absurd e hne
    | [b] => exact ⟨b, rfl⟩
    | a :: b :: l => rw [e, List.length_cons, List.length_cons] at fl; omega
  · match e : L j with
    | [] => exact absurd e hne
    | [b] => exact ⟨b, rfl⟩
    | a :: b :: l =>
      exfalso
      rw [e] at hnd
      have hab : a ≠ b := fun z => (List.nodup_cons.mp hnd).1 (by rw [z]; exact List.mem_cons_self)
      obtain ⟨s, hs⟩ := chi_sep hab
      have := h s.val s.isLt j hj a (by rw [e]; exact List.mem_cons_self) b (by rw [e]; exact List.mem_cons_of_mem _ List.mem_cons_self)
      rw [show fN s.val = s from Fin.ext (fN_val s.isLt)] at this
      exact hs this
theorem flat_sing {L : Nat → List Fp} {b : Nat → Fp} : ∀ n, (∀ j, j < n → L j = [b j]) → (flat L n).Nodup → ∀ i j, i < j → j < n → b i ≠ b j
  | 0, _, _, i, j, _, hj => by omega
  | n + 1, h, hn, i, j, hij, hj => by
    rw [flat] at hn
    have h2 := List.nodup_append.mp hn
    by_cases q : j = n
    · refine h2.2.2 (b i) ((flat_mem n).mpr ⟨i, by omega, by rw [h i (by omega)]; exact List.mem_cons_self⟩) (b j) ?_
      rw [q, h n (by omega)]; exact List.mem_cons_self
    · exact flat_sing n (fun j hj => h j (by omega)) h2.1 i j hij (by omega)
theorem co_lin1 (a : Fp) : co (lin [a]) 0 = - a := by
  rw [lin, lin, pMul_comm, pOne_mul]
  unfold xs
  rw [co_add, co_mono, co_C, if_neg (by decide), if_pos rfl]
  grind
theorem neg_back (a : Fp) : (32003 - (- a).val) % 32003 = a.val := by
  have := congrArg Fin.val (fN_neg (- a))
  rw [show - - a = a by grind] at this
  exact this
theorem reck177 {N : Nat} (hN : 1000 ≤ N) {m : Hp} (rb : RB m) {P : Nat → Po} (wf : FT P) {pc wa : Nat} {wI : Int32} (hpc : pc ≤ 4) {b : Nat → Fp} (hb : ∀ j, j < pc → P (430 + 2 * j) = lin [b j]) (hd : ∀ i j, i < j → j < pc → b i ≠ b j) : ∀ (r n k : Nat) (v : Nat → Int32) (g : Nat → Fp), k + r = pc → r < n → (∀ j, j < k → v j = nI (g j).val) → asc g k → (∀ x, (∃ j, j < k ∧ g j = x) ↔ ∃ j, j < k ∧ b j = x) → ∃ (v' : Nat → Int32) (g' : Nat → Fp), lX5_reckon_177 N 427 wa wI n (nI k) (conc P (rset m (nI k) (nI pc) v)) (fun _ h => some h) = some (conc P (rset m (nI pc) (nI pc) v')) ∧ (∀ j, j < pc → v' j = nI (g' j).val) ∧ asc g' pc ∧ (∀ x, (∃ j, j < pc ∧ g' j = x) ↔ ∃ j, j < pc ∧ b j = x)
  | r, 0, k, v, g, _, hn, _, _, _ => absurd hn (Nat.not_lt_zero _)
  | 0, n + 1, k, v, g, hk, hn, h1, h2, h3 => by
    have e : k = pc := by omega
    subst e
    refine ⟨v, g, ?_, h1, h2, h3⟩
    rw [lX5_reckon_177, (rb.rt (nI k) (nI k) v).g3, Option.bind_some, if_pos ((le_n (by omega) (by omega)).mpr (Nat.le_refl _))]
  | r + 1, n + 1, k, v, g, hk, hn, h1, h2, h3 => by
    have rt := rb.rt (nI k) (nI pc) v
    obtain ⟨p1, p2, p3, p4, p5⟩ := pl_rt
    have pk := p5 k (by omega)
    obtain ⟨v1, g1, i1, i2, i3, i4⟩ := insr_c (N := N) hN (P := P) rb (c := nI pc) (v := v) (n0 := k) (by omega) h1 h2 (a := b k) (fun j hj e => by
      obtain ⟨i, hi, he⟩ := (h3 (b k)).mp ⟨j, hj, e⟩
      exact hd i k (by omega) (by omega) he)
    obtain ⟨v', g', e1, e2, e3, e4⟩ := reck177 (wa := wa) (wI := wI) hN rb wf hpc hb hd r n (k + 1) v1 g1 (by omega) (by omega) i2 i3 (fun x => by
      rw [i4 x, h3 x]
      constructor
      · intro h
        rcases h with h | ⟨j, hj, e⟩
        · exact ⟨k, by omega, h.symm⟩
        · exact ⟨j, by omega, e⟩
      · intro ⟨j, hj, e⟩
        by_cases q : j = k
        · left; rw [← e, q]
        · right; exact ⟨j, by omega, e⟩)
    refine ⟨v', g', ?_, e2, e3, e4⟩
    have nA := numberAt_c (N := N) (m := rset m (nI k) (nI pc) v) wf (a := 430 + 2 * k) (by omega) (nI 0)
    rw [cfp_n _ (by decide), hb k (by omega), show vl (lin [b k]) 0 = (co (lin [b k]) 0).val from rfl, co_lin1] at nA
    rw [lX5_reckon_177, rt.g3, Option.bind_some, if_neg (fun z => by have := (le_n (by omega) (by omega)).mp z; omega), rt.g2, Option.bind_some, rt.a _ (by omega), Option.bind_some, po_ck (by omega), Option.bind_some]
    show (fX4_numberAt N (430 + 2 * k) (nI 0) (conc P (rset m (nI k) (nI pc) v))).bind _ = _
    rw [nA, Option.bind_some]
    dsimp only
    rw [negative_s (Fin.isLt _), neg_back, Option.bind_some]
    dsimp only
    rw [rt.ck, Option.bind_some, i1, Option.bind_some]
    unfold nm
    rw [nI_1]
    exact e1
theorem pSet_x (p : Po) : pSet p 1 (co p 1 + -1) = pAdd p (pNeg (xs 0)) := po_ext (fun j => by
  unfold xs
  rw [co_set, co_add, co_neg, co_add, co_mono, co_C]
  by_cases q : j = 1
  · rw [if_pos q, if_pos q, q, if_neg (by decide)]; grind
  · rw [if_neg q, if_neg q]
    by_cases z : j = 0
    · rw [if_pos z]; grind
    · rw [if_neg z]; grind)
/-- reckon of Roots: all roots in their order -/
theorem rootsR_c {N : Nat} (hN : 33000 ≤ N) {m : Hp} (rb : RB m) {P : Nat → Po} (wf : FT P) {f c : Int32} {v : Nat → Int32} {wa : Nat} (hwa : pl wa ≠ 0) (hw4 : wa < 427) (hw : 1 ≤ sz (P wa) ∧ sz (P wa) ≤ 5) (hb2 : sz (P 438) ≤ 2) : ∃ (P' : Nat → Po) (n : Nat) (c' : Int32) (v' : Nat → Int32) (g : Nat → Fp), fX5_reckon N 427 wa (conc P (rset m f c v)) = some (conc P' (rset m (nI n) c' v')) ∧ FT P' ∧ sz (P' 438) ≤ 2 ∧ n ≤ 4 ∧ (∀ j, j < n → v' j = nI (g j).val) ∧ asc g n ∧ (∀ x, (∃ j, j < n ∧ g j = x) ↔ ev (P wa) x = 0) ∧ (∀ x, x < 430 ∨ 453 ≤ x → P' x = P x) := by
  have hN1 : 1000 ≤ N := by omega
  obtain ⟨p1, p2, p3, p4, p5⟩ := pl_rt
  have rt := rb.rt (nI 0) (nI 0) v
  by_cases q1 : sz (P wa) = 1
  · refine ⟨P, 0, nI 0, v, fun _ => 0, ?_, wf, hb2, by omega, fun j hj => by omega, fun i j h1 h2 => by omega, fun x => ?_, fun _ _ => rfl⟩
    · unfold fX5_reckon
      rw [rset_pf, Option.bind_some, rset_pc, Option.bind_some, po_dg hwa, Option.bind_some, q1, if_neg (by decide)]
      rfl
    · constructor
      · intro ⟨j, hj, _⟩; omega
      · intro h
        exfalso
        have e : P wa = pC (co (P wa) 0) := po_ext (fun j => by
          rw [co_C]
          by_cases z : j = 0
          · rw [if_pos z, z]
          · rw [if_neg z]; exact sz_hi (by omega))
        rw [e, ev_C] at h
        have := sz_top (p := P wa) (by omega)
        rw [q1] at this
        exact this h
  · obtain ⟨P1, a1, a2, a3, a4, a5, a6⟩ := raise_c (md := wa) (e := 32003) (s := 0) hN1 wf rt hwa (by omega) (by decide) bit_p hb2 (by omega)
    have c1 := setNumber_c hN1 (m := rset m (nI 0) (nI 0) v) a2 (a := 440) (by omega) (j := 1) (by omega) (co (P1 440) 1 + -1)
    rw [pSet_x] at c1
    have w1 := a2.st c1.2
    have nA := numberAt_c (N := N) (m := rset m (nI 0) (nI 0) v) a2 (a := 440) (by omega) (nI 1)
    rw [cfp_n _ (by decide)] at nA
    have p50 := p5 0 (by omega)
    have xw : st P1 440 (pAdd (P1 440) (pNeg (xs 0))) wa = P wa := by rw [st_ne _ _ (by omega), a6 _ (by omega) (by omega) (by omega) (by omega)]
    have c2 := copyFrom_c hN1 (m := rset m (nI 0) (nI 0) v) w1 (a := 430 + 2 * 0) (b := wa) (by omega) hwa (by omega) (by rw [xw]; omega)
    rw [xw] at c2
    have w2 := w1.st (a := 430 + 2 * 0) (p := P wa) (by omega)
    have dv : DV (rset m (nI 0) (nI 0) v) 446 := rt.2.2.2
    have x4 : st (st P1 440 (pAdd (P1 440) (pNeg (xs 0)))) (430 + 2 * 0) (P wa) 440 = pAdd (P1 440) (pNeg (xs 0)) := by rw [st_ne _ _ (by omega), st_same]
    obtain ⟨P2, b1, b2, b3, b4⟩ := shrink_c hN1 (m := rset m (nI 0) (nI 0) v) w2 (D := 446) (one := 430 + 2 * 0) (other := 440) dv (by omega) (by omega) (by omega) (by omega) (by omega) (by rw [st_same]; omega) (by have := c1.2; rw [x4]; omega) (by have := c1.2; rw [x4]; omega)
    rw [st_same, x4] at b3
    have hcg : cg (P wa) xp (pAdd (P1 440) (pNeg (xs 0))) := by
      obtain ⟨t, ht⟩ := a3
      refine ⟨t, ?_⟩
      unfold xp
      rw [← ht, pAdd_assoc]
    have hd := pgcd_l (P wa) (pAdd (P1 440) (pNeg (xs 0)))
    rw [roots_gcd (by omega) hcg] at b3 hd
    obtain ⟨S, hS⟩ : ∃ S, S = rl (P wa) := ⟨_, rfl⟩
    have hSn : S.Nodup := by rw [hS]; exact rl_nodup _
    have hSm : ∀ x, x ∈ S ↔ ev (P wa) x = 0 := fun x => by rw [hS]; exact rl_mem
    rw [← hS] at b3 hd
    have hS4 : S.length ≤ 4 := by
      obtain ⟨t, ht⟩ := hd
      have hl := lin_sz S
      have ht0 : sz t ≠ 0 := fun z => by
        rw [sz_0 z, pZero_mul] at ht
        rw [← ht, sz_z] at hw
        omega
      have := sz_mul ht0 (q := lin S) (by omega)
      rw [ht] at this
      omega
    have fr : ∀ x, x < 430 ∨ 453 ≤ x → P2 x = P x := fun x hx => by
      rw [b4 x (by omega) (by omega) (by omega) (by omega), st_ne _ _ (by omega), st_ne _ _ (by omega), a6 x (by omega) (by omega) (by omega) (by omega)]
    have y438 : sz (P2 438) ≤ 2 := by rw [b4 438 (by omega) (by omega) (by omega) (by omega), st_ne _ _ (by omega), st_ne _ _ (by omega)]; exact a5
    have dk : dI (sz (P2 (430 + 2 * 0))) = nI S.length := by rw [b3, dI_lin]
    obtain ⟨pc, hpc⟩ : ∃ pc, pc = if S.length = 0 then 0 else 1 := ⟨_, rfl⟩
    have ps : PS S P P2 pc (fun _ => S) := by
      by_cases z : S.length = 0
      · rw [if_pos z] at hpc
        subst hpc
        refine ⟨by omega, fun k hk => by omega, ?_, b2, y438, fr⟩
        rw [List.eq_nil_of_length_eq_zero z]
        exact List.Perm.refl _
      · rw [if_neg z] at hpc
        subst hpc
        refine ⟨by omega, fun k hk => ?_, ?_, b2, y438, fr⟩
        · rw [show k = 0 by omega]
          exact ⟨b3, fun (y : S = []) => z (by rw [y]; rfl)⟩
        · exact List.Perm.refl _
    obtain ⟨z, pc', P3, L, g1, g2, g3⟩ := reck104 (N := N) hN rb (f := nI 0) (v := v) hSn hS4 (P0 := P) (wa := wa) 32003 N 0 pc P2 _ rfl (by omega) ps (fun t ht => by omega)
    have one := parts_one hSn g2 g3
    obtain ⟨i1, i2, i3, i4, i5, i6⟩ := g2
    have hb : ∀ j, j < pc' → L j = [(L j).headD 0] := fun j hj => by
      obtain ⟨b, e⟩ := one j hj
      rw [e]; rfl
    obtain ⟨v', g', e1, e2, e3, e4⟩ := reck177 (N := N) (wa := wa) (wI := nI S.length) hN1 rb i4 i1 (b := fun j => (L j).headD 0) (fun j hj => by rw [(i2 j hj).1]; exact congrArg lin (hb j hj)) (flat_sing pc' hb (i3.nodup_iff.mpr hSn)) pc' N 0 v (fun _ => 0) (by omega) (by omega) (fun j hj => by omega) (fun i j h1 h2 => by omega) (fun x => by
      constructor
      · intro ⟨j, hj, _⟩; omega
      · intro ⟨j, hj, _⟩; omega)
    refine ⟨P3, pc', nI pc', v', g', ?_, i4, i5, i1, e2, e3, fun x => ?_, i6⟩
    · unfold fX5_reckon
      rw [rset_pf, Option.bind_some, rset_pc, Option.bind_some, po_dg hwa, Option.bind_some]
      have wlt : sz (P wa) < 6 := by omega
      rw [show dI (sz (P wa)) = nI (sz (P wa) - 1) by rw [show sz (P wa) = (sz (P wa) - 1) + 1 by omega, dI_succ]; rfl]
      show (if nI 1 ≤ nI (sz (P wa) - 1) then _ else _) = _
      rw [if_pos ((le_n (by omega) (by omega)).mpr (by omega))]
      show (cK (conc P (rset m (nI 0) (nI 0) v)) 427 7).bind _ = _
      rw [rt.ck, Option.bind_some]
      show (fX5_raise N 427 (nI (0 : Fp).val) (nI 32003) wa (conc P (rset m (nI 0) (nI 0) v))).bind _ = _
      rw [a1, Option.bind_some, rt.g5, Option.bind_some, Option.bind_some, po_ck (show pl 440 ≠ 0 by omega), Option.bind_some]
      show (fX4_numberAt N 440 (nI 1) (conc P1 (rset m (nI 0) (nI 0) v))).bind _ = _
      rw [nA, Option.bind_some]
      dsimp only
      rw [show vl (P1 440) 1 = (co (P1 440) 1).val from rfl, floorMod_s, fmI_m1, Option.bind_some]
      dsimp only
      rw [po_ck (show pl 440 ≠ 0 by omega), Option.bind_some]
      show (fX4_setNumber N 440 (nI 1) (nI (co (P1 440) 1 + -1).val) (conc P1 (rset m (nI 0) (nI 0) v))).bind _ = _
      rw [c1.1, Option.bind_some, rt.g2, Option.bind_some]
      show (aR (conc _ (rset m (nI 0) (nI 0) v)) 429 4 (nI 0)).bind _ = _
      rw [rt.a _ (by omega), Option.bind_some, po_ck (show pl (430 + 2 * 0) ≠ 0 by omega), Option.bind_some, c2, Option.bind_some, rt.g8, Option.bind_some, rt.g2, Option.bind_some]
      show (aR (conc _ (rset m (nI 0) (nI 0) v)) 429 4 (nI 0)).bind _ = _
      rw [rt.a _ (by omega), Option.bind_some, rt.g5, Option.bind_some, cm_cK dv.2.1 dv.1, Option.bind_some, b1, Option.bind_some, rt.g2, Option.bind_some]
      show (aR (conc _ (rset m (nI 0) (nI 0) v)) 429 4 (nI 0)).bind _ = _
      rw [rt.a _ (by omega), Option.bind_some, po_dg (show pl (430 + 2 * 0) ≠ 0 by omega), Option.bind_some, dk]
      unfold jn
      by_cases z : S.length = 0
      · rw [if_pos z] at hpc
        subst hpc
        show (if nI S.length ≤ nI 0 then _ else _) = _
        rw [if_pos ((le_n (by omega) (by omega)).mpr (by omega))]
        show (pV (conc P2 (rset m (nI 0) (nI 0) v)) 427 7 3 (.int (nI 0))).bind _ = _
        rw [rset_pc, Option.bind_some]
        show lX5_reckon_104 N 427 wa (nI S.length) N (nI 0) (conc P2 (rset m (nI 0) (nI 0) v)) _ = _
        rw [g1]
        exact e1
      · rw [if_neg z] at hpc
        subst hpc
        show (if nI S.length ≤ nI 0 then _ else _) = _
        rw [if_neg (fun y => by have := (le_n (by omega) (by omega)).mp y; omega)]
        show (pV (conc P2 (rset m (nI 0) (nI 0) v)) 427 7 3 (.int (nI 1))).bind _ = _
        rw [rset_pc, Option.bind_some]
        show lX5_reckon_104 N 427 wa (nI S.length) N (nI 0) (conc P2 (rset m (nI 0) (nI 1) v)) _ = _
        rw [g1]
        exact e1
    · rw [e4 x, ← hSm, ← i3.mem_iff, flat_mem]
      constructor
      · intro ⟨j, hj, e⟩
        refine ⟨j, hj, ?_⟩
        rw [hb j hj, ← e]
        exact List.mem_cons_self
      · intro ⟨j, hj, e⟩
        refine ⟨j, hj, ?_⟩
        rw [hb j hj, List.mem_singleton] at e
        exact e.symm
