/-! Roots: insert, reckon -/
theorem cm_aI {P : Nat → Po} {m : Hp} {a n j : Nat} {f : Nat → Int32} (h : np a) (e : m a = some (.inl (0, n, .inl f))) (hj : j < n) (hn : n < 2 ^ 31) : aI (conc P m) a (nI j) = some (f j) := aI_of (by rw [cm_at h]; exact e) hj hn
theorem cm_aIs {P : Nat → Po} {m : Hp} {a n j : Nat} {f : Nat → Int32} {x : Int32} (h : np a) (e : m a = some (.inl (0, n, .inl f))) (hj : j < n) (hn : n < 2 ^ 31) : aIs (conc P m) a (nI j) x = some (conc P (hset m a (.inl (0, n, .inl (upd f j x))))) := by
  rw [aIs_of (by rw [cm_at h]; exact e) hj hn, conc_hset h]
theorem rset_v {m : Hp} (P : Nat → Po) (f c : Int32) (v : Nat → Int32) {j : Nat} (hj : j < 4) (x : Int32) : aIs (conc P (rset m f c v)) 428 (nI j) x = some (conc P (rset m f c (upd v j x))) := by
  have e : rset m f c v 428 = some (.inl (0, 4, .inl v)) := by unfold rset; rw [hset_ne _ _ (by decide), hset_self]
  rw [cm_aIs np_428 e hj (by decide)]
  congr 2
  funext y
  unfold rset hset
  by_cases h1 : y = 428
  · rw [if_pos h1, if_neg (by omega), if_pos h1]
  · rw [if_neg h1]
    by_cases h2 : y = 427
    · rw [if_pos h2, if_pos h2]
    · rw [if_neg h2, if_neg h2, if_neg h1, if_neg h1]
theorem rset_gv {m : Hp} (P : Nat → Po) (f c : Int32) (v : Nat → Int32) {j : Nat} (hj : j < 4) : aI (conc P (rset m f c v)) 428 (nI j) = some (v j) := by
  have e : rset m f c v 428 = some (.inl (0, 4, .inl v)) := by unfold rset; rw [hset_ne _ _ (by decide), hset_self]
  exact cm_aI np_428 e hj (by decide)
/-- insert's loop: room is made -/
theorem insr_l {N n0 : Nat} {P : Nat → Po} {m : Hp} (rb : RB m) {f c : Int32} {a : Fp} {g : Nat → Fp} (hn0 : n0 < 4) : ∀ (p n : Nat) (v : Nat → Int32), p ≤ n0 → p < n → (∀ j, j < p → v j = nI (g j).val) → (∀ j, p < j → j ≤ n0 → v j = nI (g (j - 1)).val) → (∀ j, p ≤ j → j < n0 → a.val < (g j).val) → ∃ (p' : Nat) (v' : Nat → Int32), (∀ κ, lX5_insert_14 N 427 (nI a.val) n (nI p) (conc P (rset m f c v)) κ = κ (nI p') (conc P (rset m f c v'))) ∧ p' ≤ n0 ∧ (∀ j, j < p' → v' j = nI (g j).val) ∧ (∀ j, p' < j → j ≤ n0 → v' j = nI (g (j - 1)).val) ∧ (∀ j, p' ≤ j → j < n0 → a.val < (g j).val) ∧ (p' = 0 ∨ (g (p' - 1)).val ≤ a.val)
  | p, 0, v, _, hn, _, _, _ => absurd hn (Nat.not_lt_zero _)
  | 0, n + 1, v, _, _, h1, h2, h3 => by
    refine ⟨0, v, fun κ => ?_, by omega, h1, h2, h3, Or.inl rfl⟩
    rw [lX5_insert_14, if_pos (by decide)]
  | p + 1, n + 1, v, hp, hn, h1, h2, h3 => by
    have rt := rb.rt f c v
    have ha := a.isLt
    have hg := (g p).isLt
    by_cases q : (g p).val ≤ a.val
    · refine ⟨p + 1, v, fun κ => ?_, hp, h1, h2, h3, Or.inr q⟩
      rw [lX5_insert_14, if_neg (nI_nle (by omega) (by omega)), rt.g0, Option.bind_some, nI_pred, rset_gv _ _ _ _ (by omega), Option.bind_some, h1 p (by omega), if_pos ((le_n (by omega) (by omega)).mpr q)]
    · obtain ⟨p', v', g1, g2, g3, g4, g5, g6⟩ := insr_l (N := N) rb (f := f) (c := c) (P := P) (a := a) (g := g) hn0 p n (upd v (p + 1) (nI (g p).val)) (by omega) (by omega) (fun j hj => by
        unfold upd
        rw [if_neg (by omega)]
        exact h1 j (by omega)) (fun j hj hj2 => by
        unfold upd
        by_cases z : j = p + 1
        · rw [if_pos z, z, Nat.add_sub_cancel]
        · rw [if_neg z]; exact h2 j (by omega) hj2) (fun j hj hj2 => by
        by_cases z : j = p
        · rw [z]; omega
        · exact h3 j (by omega) hj2)
      refine ⟨p', v', fun κ => ?_, g2, g3, g4, g5, g6⟩
      rw [lX5_insert_14, if_neg (nI_nle (by omega) (by omega)), rt.g0, Option.bind_some, nI_pred, rset_gv _ _ _ _ (by omega), Option.bind_some, h1 p (by omega), if_neg (fun z => q ((le_n (by omega) (by omega)).mp z)), Option.bind_some, Option.bind_some, rset_gv _ _ _ _ (by omega), Option.bind_some, h1 p (by omega), rset_v _ _ _ _ (by omega), Option.bind_some]
      unfold nm
      rw [pk_m1]
      exact g1 κ
/-- a strictly ascending row of n numbers -/
def asc (g : Nat → Fp) (n : Nat) : Prop := ∀ i j, i < j → j < n → (g i).val < (g j).val
/-- insert -/
theorem insr_c {N : Nat} (hN : 1000 ≤ N) {P : Nat → Po} {m : Hp} (rb : RB m) {c : Int32} {v : Nat → Int32} {n0 : Nat} (hn0 : n0 < 4) {g : Nat → Fp} (hv : ∀ j, j < n0 → v j = nI (g j).val) (hg : asc g n0) {a : Fp} (hne : ∀ j, j < n0 → g j ≠ a) : ∃ v' g', fX5_insert N 427 (nI a.val) (conc P (rset m (nI n0) c v)) = some (conc P (rset m (nI (n0 + 1)) c v')) ∧ (∀ j, j < n0 + 1 → v' j = nI (g' j).val) ∧ asc g' (n0 + 1) ∧ (∀ x, (∃ j, j < n0 + 1 ∧ g' j = x) ↔ x = a ∨ ∃ j, j < n0 ∧ g j = x) := by
  have rt := rb.rt (nI n0) c v
  obtain ⟨p, v1, g1, g2, g3, g4, g5, g6⟩ := insr_l (N := N) (P := P) rb (f := nI n0) (c := c) (a := a) (g := g) hn0 n0 N v (by omega) (by omega) hv (fun j h1 h2 => by omega) (fun j h1 h2 => by omega)
  have rt1 := rb.rt (nI n0) c v1
  have lo : ∀ j, j < p → (g j).val < a.val := fun j hj => by
    rcases g6 with z | z
    · omega
    · have e : (g (p - 1)).val ≠ a.val := fun q => hne (p - 1) (by omega) (Fin.ext q)
      by_cases y : j = p - 1
      · rw [y]; omega
      · have := hg j (p - 1) (by omega) (by omega)
        omega
  refine ⟨upd v1 p (nI a.val), fun j => if j < p then g j else if j = p then a else g (j - 1), ?_, fun j hj => ?_, fun i j hij hj => ?_, fun x => ?_⟩
  · unfold fX5_insert
    rw [rt.g1, Option.bind_some]
    show (if nI n0 < nI 4 then _ else _) = _
    rw [if_pos ((lt_n (by omega) (by omega)).mpr hn0), Option.bind_some, g1, rt1.g0, Option.bind_some, rset_v _ _ _ _ (by omega), Option.bind_some, (rb.rt (nI n0) c (upd v1 p (nI a.val))).g1, Option.bind_some, nI_1, rset_pf]
    rfl
  · unfold upd
    show (if j = p then nI a.val else v1 j) = nI (if j < p then g j else if j = p then a else g (j - 1)).val
    by_cases z : j = p
    · rw [if_pos z, if_neg (by omega), if_pos z]
    · rw [if_neg z, if_neg z]
      by_cases y : j < p
      · rw [if_pos y]; exact g3 j y
      · rw [if_neg y]; exact g4 j (by omega) (by omega)
  · show (if i < p then g i else if i = p then a else g (i - 1)).val < (if j < p then g j else if j = p then a else g (j - 1)).val
    by_cases y1 : i < p
    · rw [if_pos y1]
      by_cases y2 : j < p
      · rw [if_pos y2]; exact hg i j hij (by omega)
      · rw [if_neg y2]
        by_cases y3 : j = p
        · rw [if_pos y3]; exact lo i y1
        · rw [if_neg y3]; exact hg i (j - 1) (by omega) (by omega)
    · rw [if_neg y1, if_neg (show ¬ j < p by omega), if_neg (show ¬ j = p by omega)]
      by_cases y3 : i = p
      · rw [if_pos y3]; exact g5 (j - 1) (by omega) (by omega)
      · rw [if_neg y3]; exact hg (i - 1) (j - 1) (by omega) (by omega)
  · constructor
    · intro ⟨j, hj, e⟩
      have e : (if j < p then g j else if j = p then a else g (j - 1)) = x := e
      by_cases y : j < p
      · rw [if_pos y] at e
        exact Or.inr ⟨j, by omega, e⟩
      · rw [if_neg y] at e
        by_cases z : j = p
        · rw [if_pos z] at e
          exact Or.inl e.symm
        · rw [if_neg z] at e
          exact Or.inr ⟨j - 1, by omega, e⟩
    · intro h
      rcases h with h | ⟨j, hj, e⟩
      · refine ⟨p, by omega, ?_⟩
        show (if p < p then g p else if p = p then a else g (p - 1)) = x
        rw [if_neg (by omega), if_pos rfl, h]
      · by_cases y : j < p
        · refine ⟨j, by omega, ?_⟩
          show (if j < p then g j else if j = p then a else g (j - 1)) = x
          rw [if_pos y, e]
        · refine ⟨j + 1, by omega, ?_⟩
          show (if j + 1 < p then g (j + 1) else if j + 1 = p then a else g (j + 1 - 1)) = x
          rw [if_neg (by omega), if_neg (by omega), Nat.add_sub_cancel, e]
-- the parts' lists
def flat (L : Nat → List Fp) : Nat → List Fp
  | 0 => []
  | n + 1 => flat L n ++ L n
theorem flat_congr {L L' : Nat → List Fp} : ∀ n, (∀ j, j < n → L' j = L j) → flat L' n = flat L n
  | 0, _ => rfl
  | n + 1, h => by rw [flat, flat, flat_congr n (fun j hj => h j (by omega)), h n (by omega)]
theorem flat_upd {L L' : Nat → List Fp} {k : Nat} {l1 : List Fp} (hp : (L' k ++ l1).Perm (L k)) : ∀ n, k < n → (∀ j, j < n → j ≠ k → L' j = L j) → (flat L' n ++ l1).Perm (flat L n)
  | 0, h, _ => absurd h (Nat.not_lt_zero _)
  | n + 1, h, hj => by
    rw [flat, flat]
    by_cases q : k = n
    · subst q
      rw [flat_congr k (fun j hj2 => hj j (by omega) (by omega)), List.append_assoc]
      exact List.Perm.append_left _ hp
    · rw [hj n (by omega) (Ne.symm q), List.append_assoc]
      refine (List.Perm.append_left _ List.perm_append_comm).trans ?_
      rw [← List.append_assoc]
      exact List.Perm.append_right _ (flat_upd hp n (by omega) (fun j h1 h2 => hj j (by omega) h2))
theorem flat_mem {L : Nat → List Fp} {a : Fp} : ∀ n, a ∈ flat L n ↔ ∃ k, k < n ∧ a ∈ L k
  | 0 => by
    constructor
    · intro h; cases h
    · intro ⟨k, hk, _⟩; omega
  | n + 1 => by
    rw [flat, List.mem_append, flat_mem n]
    constructor
    · intro h
      rcases h with ⟨k, hk, h⟩ | h
      · exact ⟨k, by omega, h⟩
      · exact ⟨n, by omega, h⟩
    · intro ⟨k, hk, h⟩
      by_cases q : k = n
      · right; rw [← q]; exact h
      · left; exact ⟨k, by omega, h⟩
theorem flat_len {L : Nat → List Fp} : ∀ n, (∀ j, j < n → L j ≠ []) → n ≤ (flat L n).length ∧ ∀ k, k < n → (L k).length + n ≤ (flat L n).length + 1
  | 0, _ => ⟨Nat.zero_le _, fun k hk => by omega⟩
  | n + 1, h => by
    have ih := flat_len n (fun j hj => h j (by omega))
    have hn : (L n).length ≠ 0 := fun z => h n (by omega) (List.eq_nil_of_length_eq_zero z)
    rw [flat, List.length_append]
    refine ⟨by omega, fun k hk => ?_⟩
    by_cases q : k = n
    · rw [q]; omega
    · have := ih.2 k (by omega); omega
theorem flat_nodup {L : Nat → List Fp} : ∀ n, (flat L n).Nodup → ∀ k, k < n → (L k).Nodup
  | 0, _, k, hk => by omega
  | n + 1, h, k, hk => by
    rw [flat] at h
    have h2 := List.nodup_append.mp h
    by_cases q : k = n
    · rw [q]; exact h2.2.1
    · exact flat_nodup n h2.1 k (by omega)
/-- the state of the parts while they are split: S is the list of all roots -/
def PS (S : List Fp) (P0 P : Nat → Po) (pc : Nat) (L : Nat → List Fp) : Prop := pc ≤ 4 ∧ (∀ k, k < pc → P (430 + 2 * k) = lin (L k) ∧ L k ≠ []) ∧ (flat L pc).Perm S ∧ FT P ∧ sz (P 438) ≤ 2 ∧ (∀ x, x < 430 ∨ 453 ≤ x → P x = P0 x)
def UN (s : Fp) (l : List Fp) : Prop := ∀ a, a ∈ l → ∀ b, b ∈ l → chi s a = chi s b
theorem UN_fil {s : Fp} {l : List Fp} (h : l.filter (chi s) = [] ∨ l.filter (fun x => !chi s x) = []) : UN s l := by
  intro a ha b hb
  rcases h with h | h
  · have e : ∀ x, x ∈ l → chi s x = false := fun x hx => by
      cases q : chi s x
      · rfl
      · have : x ∈ l.filter (chi s) := List.mem_filter.mpr ⟨hx, q⟩
        rw [h] at this; cases this
    rw [e a ha, e b hb]
  · have e : ∀ x, x ∈ l → chi s x = true := fun x hx => by
      cases q : chi s x
      · have : x ∈ l.filter (fun x => !chi s x) := List.mem_filter.mpr ⟨hx, by rw [q]; rfl⟩
        rw [h] at this; cases this
      · rfl
    rw [e a ha, e b hb]
theorem UN_one {s : Fp} {l : List Fp} (h : l.length ≤ 1) : UN s l := by
  intro a ha b hb
  match l, h with
  | [x], _ =>
    rw [List.mem_singleton] at ha hb
    rw [ha, hb]
theorem reck122 {N : Nat} (hN : 1000 ≤ N) {m : Hp} (rb : RB m) {f : Int32} {v : Nat → Int32} {S : List Fp} (hS : S.Nodup) (hS4 : S.length ≤ 4) {P0 : Nat → Po} {wa : Nat} {wI : Int32} {s : Fp} : ∀ (r n k pc : Nat) (P : Nat → Po) (L : Nat → List Fp), k + r = 4 → r < n → PS S P0 P pc L → (∀ j, j < k → j < pc → UN s (L j)) → ∃ (pc' : Nat) (P' : Nat → Po) (L' : Nat → List Fp), (∀ κ, lX5_reckon_122 N 427 wa wI (nI s.val) n (nI k) (conc P (rset m f (nI pc) v)) κ = κ (nI 4) (conc P' (rset m f (nI pc') v))) ∧ PS S P0 P' pc' L' ∧ (∀ j, j < pc' → UN s (L' j)) ∧ (∀ j, j < pc' → ∃ i, i < pc ∧ ∀ a, a ∈ L' j → a ∈ L i)
  | r, 0, k, pc, P, L, _, hn, _, _ => absurd hn (Nat.not_lt_zero _)
  | 0, n + 1, k, pc, P, L, hk, hn, ps, hu => by
    have e : k = 4 := by omega
    subst e
    have h4 := ps.1
    refine ⟨pc, P, L, fun κ => ?_, ps, fun j hj => hu j (by omega) hj, fun j hj => ⟨j, hj, fun _ h => h⟩⟩
    rw [lX5_reckon_122]
    show (if nI 4 ≤ nI 4 then _ else _) = _
    rw [if_pos (by decide)]
  | r + 1, n + 1, k, pc, P, L, hk, hn, ps, hu => by
    obtain ⟨i1, i2, i3, i4, i5, i6⟩ := id ps
    obtain ⟨p1, p2, p3, p4, p5⟩ := pl_rt
    have rt := rb.rt f (nI pc) v
    have head : ∀ κ, lX5_reckon_122 N 427 wa wI (nI s.val) (n + 1) (nI k) (conc P (rset m f (nI pc) v)) κ = if nI pc ≤ nI k then lX5_reckon_122 N 427 wa wI (nI s.val) n (nI (k + 1)) (conc P (rset m f (nI pc) v)) κ else if dI (sz (P (430 + 2 * k))) ≤ (1 : Int32) then lX5_reckon_122 N 427 wa wI (nI s.val) n (nI (k + 1)) (conc P (rset m f (nI pc) v)) κ else (fX5_split N 427 (430 + 2 * k) (nI s.val) (conc P (rset m f (nI pc) v))).bind fun h95 => lX5_reckon_122 N 427 wa wI (nI s.val) n (nI (k + 1)) h95 κ := fun κ => by
      rw [lX5_reckon_122]
      show (if nI 4 ≤ nI k then _ else _) = _
      rw [if_neg (fun z => by have := (le_n (by omega) (by omega)).mp z; omega), rt.g3, Option.bind_some]
      unfold jn nm
      rw [nI_1]
      show (if nI pc ≤ nI k then _ else _) = _
      congr 1
      rw [rt.g2, Option.bind_some, rt.a _ (by omega), Option.bind_some, po_dg (by rw [p5 k (by omega)]; decide), Option.bind_some]
      congr 1
      rw [Option.bind_some, rt.a _ (by omega), Option.bind_some, rt.ck, Option.bind_some]
    by_cases q1 : pc ≤ k
    · obtain ⟨pc', P', L', g1, g2, g3, g4⟩ := reck122 hN rb (f := f) (v := v) hS hS4 (P0 := P0) (wa := wa) (wI := wI) (s := s) r n (k + 1) pc P L (by omega) (by omega) ps (fun j h1 h2 => hu j (by omega) h2)
      refine ⟨pc', P', L', fun κ => ?_, g2, g3, g4⟩
      rw [head, if_pos ((le_n (by omega) (by omega)).mpr q1)]
      exact g1 κ
    · have hkl := i2 k (by omega)
      have hlen := (i3.length_eq)
      have fl := flat_len pc (fun j hj => (i2 j hj).2)
      have fk := fl.2 k (by omega)
      have hnd := flat_nodup pc (i3.nodup_iff.mpr hS) k (by omega)
      by_cases q2 : (L k).length ≤ 1
      · obtain ⟨pc', P', L', g1, g2, g3, g4⟩ := reck122 hN rb (f := f) (v := v) hS hS4 (P0 := P0) (wa := wa) (wI := wI) (s := s) r n (k + 1) pc P L (by omega) (by omega) ps (fun j h1 h2 => by
          by_cases z : j = k
          · rw [z]; exact UN_one q2
          · exact hu j (by omega) h2)
        refine ⟨pc', P', L', fun κ => ?_, g2, g3, g4⟩
        rw [head, if_neg (fun z => by have := (le_n (by omega) (by omega)).mp z; omega), hkl.1, dI_lin]
        show (if nI (L k).length ≤ nI 1 then _ else _) = _
        rw [if_pos ((le_n (by omega) (by omega)).mpr q2)]
        exact g1 κ
      · obtain ⟨P1, c', s1, s2, s3, s4⟩ := split_c hN (m := m) i4 rb (f := f) (v := v) (pc := pc) (k := k) (by omega) i1 hkl.1 hnd (by omega) i5 s
        have step : ∀ κ, lX5_reckon_122 N 427 wa wI (nI s.val) (n + 1) (nI k) (conc P (rset m f (nI pc) v)) κ = lX5_reckon_122 N 427 wa wI (nI s.val) n (nI (k + 1)) (conc P1 (rset m f c' v)) κ := fun κ => by
          rw [head, if_neg (fun z => by have := (le_n (by omega) (by omega)).mp z; omega), hkl.1, dI_lin]
          show (if nI (L k).length ≤ nI 1 then _ else _) = _
          rw [if_neg (fun z => by have := (le_n (by omega) (by omega)).mp z; omega), s1, Option.bind_some]
        rcases s4 with ⟨t1, t2, t3⟩ | ⟨t1, t2, t3, t4, t5, t6, t7⟩
        · obtain ⟨pc', P', L', g1, g2, g3, g4⟩ := reck122 hN rb (f := f) (v := v) hS hS4 (P0 := P0) (wa := wa) (wI := wI) (s := s) r n (k + 1) pc P1 L (by omega) (by omega) ⟨i1, fun j hj => by rw [t3 _ (by omega)]; exact i2 j hj, i3, s2, s3, fun x hx => by rw [t3 x (by omega)]; exact i6 x hx⟩ (fun j h1 h2 => by
            by_cases z : j = k
            · rw [z]
              refine UN_fil ?_
              rcases t1 with t1 | t1 | t1
              · exact Or.inl t1
              · exact Or.inr t1
              · omega
            · exact hu j (by omega) h2)
          refine ⟨pc', P', L', fun κ => ?_, g2, g3, g4⟩
          rw [step, t2]
          exact g1 κ
        · have hL : ∀ j, (fun j => if j = k then (L k).filter (fun x => !chi s x) else if j = pc then (L k).filter (chi s) else L j) j = if j = k then (L k).filter (fun x => !chi s x) else if j = pc then (L k).filter (chi s) else L j := fun _ => rfl
          revert hL
          generalize (fun j => if j = k then (L k).filter (fun x => !chi s x) else if j = pc then (L k).filter (chi s) else L j) = L1
          intro hL
          have Lk : L1 k = (L k).filter (fun x => !chi s x) := by rw [hL, if_pos rfl]
          have Lp : L1 pc = (L k).filter (chi s) := by rw [hL, if_neg (by omega), if_pos rfl]
          have Lo : ∀ j, j ≠ k → j ≠ pc → L1 j = L j := fun j h1 h2 => by rw [hL, if_neg h1, if_neg h2]
          obtain ⟨pc', P', L', g1, g2, g3, g4⟩ := reck122 hN rb (f := f) (v := v) hS hS4 (P0 := P0) (wa := wa) (wI := wI) (s := s) r n (k + 1) (pc + 1) P1 L1 (by omega) (by omega) ⟨by omega, fun j hj => by
              by_cases z : j = k
              · rw [z, Lk]; exact ⟨t5, t2⟩
              · by_cases z2 : j = pc
                · rw [z2, Lp]; exact ⟨t6, t1⟩
                · rw [Lo j z z2, t7 _ (by omega) (by omega) (by omega)]; exact i2 j (by omega), by
              rw [flat, Lp]
              refine List.Perm.trans ?_ i3
              refine flat_upd (k := k) ?_ pc (by omega) (fun j h1 h2 => Lo j h2 (by omega))
              rw [Lk]
              exact List.perm_append_comm.trans (List.filter_append_perm _ _), s2, s3, fun x hx => by rw [t7 x (by omega) (by omega) (by omega)]; exact i6 x hx⟩ (fun j h1 h2 => by
            by_cases z : j = k
            · rw [z, Lk]
              intro a ha b hb
              have e1 := (List.mem_filter.mp ha).2
              have e2 := (List.mem_filter.mp hb).2
              cases y1 : chi s a
              · cases y2 : chi s b
                · rfl
                · rw [y2] at e2; cases e2
              · rw [y1] at e1; cases e1
            · rw [Lo j z (by omega)]; exact hu j (by omega) (by omega))
          refine ⟨pc', P', L', fun κ => ?_, g2, g3, fun j hj => ?_⟩
          · rw [step, t4]
            exact g1 κ
          · obtain ⟨i, hi, hs⟩ := g4 j hj
            by_cases z : i = k
            · exact ⟨k, by omega, fun a ha => by have := hs a ha; rw [z, Lk] at this; exact (List.mem_filter.mp this).1⟩
            · by_cases z2 : i = pc
              · exact ⟨k, by omega, fun a ha => by have := hs a ha; rw [z2, Lp] at this; exact (List.mem_filter.mp this).1⟩
              · exact ⟨i, by omega, fun a ha => by have := hs a ha; rw [Lo i z z2] at this; exact this⟩
