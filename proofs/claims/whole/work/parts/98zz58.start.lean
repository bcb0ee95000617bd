theorem mL_law_cl_8 : Cond.classLink RL 8 RX7 ∈ lw_tbl := by decide +kernel
theorem mL_law_in_8 : Cond.instantiable RX7 15 ∈ lw_tbl := by decide +kernel
theorem mL_law_it_8 : Cond.initialized RX7 ∈ lw_tbl := by decide +kernel
theorem dvL_law_X7 : ∀ j, j < 15 → defaultValue (tyX7 j) = vp_V ([.int 0, .int 0, .null, .null, .int 0, .null, .null, .int 0, .null, .int 0, .null, .null, .null, .null, .null] : List Value) j := by intro j hj; rcases (show j = 0 ∨ j = 1 ∨ j = 2 ∨ j = 3 ∨ j = 4 ∨ j = 5 ∨ j = 6 ∨ j = 7 ∨ j = 8 ∨ j = 9 ∨ j = 10 ∨ j = 11 ∨ j = 12 ∨ j = 13 ∨ j = 14 by omega) with rfl | rfl | rfl | rfl | rfl | rfl | rfl | rfl | rfl | rfl | rfl | rfl | rfl | rfl | rfl <;> rfl
theorem mL_law_ci56 : Cond.initialized RX7 ∈ lw_tbl := by decide +kernel
theorem mL_law_cm56 : Cond.methodLink RL 56 yX7_init ∈ lw_tbl := by decide +kernel
theorem mL_law_cn56 : Cond.instanceMethod yX7_init ∈ lw_tbl := by decide +kernel
theorem mL_law_cl_57 : Cond.classLink RL 57 RX8 ∈ lw_tbl := by decide +kernel
theorem mL_law_in_57 : Cond.instantiable RX8 21 ∈ lw_tbl := by decide +kernel
theorem mL_law_it_57 : Cond.initialized RX8 ∈ lw_tbl := by decide +kernel
theorem dvL_law_X8 : ∀ j, j < 21 → defaultValue (tyX8 j) = vp_V ([.int 0, .int 0, .int 0, .null, .null, .null, .null, .null, .null, .null, .null, .null, .null, .null, .null, .null, .null, .null, .null, .null, .null] : List Value) j := by intro j hj; rcases (show j = 0 ∨ j = 1 ∨ j = 2 ∨ j = 3 ∨ j = 4 ∨ j = 5 ∨ j = 6 ∨ j = 7 ∨ j = 8 ∨ j = 9 ∨ j = 10 ∨ j = 11 ∨ j = 12 ∨ j = 13 ∨ j = 14 ∨ j = 15 ∨ j = 16 ∨ j = 17 ∨ j = 18 ∨ j = 19 ∨ j = 20 by omega) with rfl | rfl | rfl | rfl | rfl | rfl | rfl | rfl | rfl | rfl | rfl | rfl | rfl | rfl | rfl | rfl | rfl | rfl | rfl | rfl | rfl <;> rfl
theorem mL_law_ci59 : Cond.initialized RX8 ∈ lw_tbl := by decide +kernel
theorem mL_law_cm59 : Cond.methodLink RL 59 yX8_init ∈ lw_tbl := by decide +kernel
theorem mL_law_cn59 : Cond.instanceMethod yX8_init ∈ lw_tbl := by decide +kernel
theorem mL_law_arlong : Cond.arrayClass .long ∈ lw_tbl := by decide +kernel
set_option maxHeartbeats 8000000 in
set_option maxRecDepth 100000 in
theorem start_of {p : Program} {e : Env} {s : State} {m : MethodId} {below : List Frame} {meth : Method} {c : Code} (l : Launch) (hl0 : l.stackTraces = false) {b L : Nat} {xs : Nat → Int32} (C0 : lw_At p s m meth c b L xs) (N : Nat) (hf : pL N xs L = some (1 : Int32)) : W p l e room_1 s m #[Value.ref b] below meth c s.heap [] 0 0 (lw_Z below #[Value.ref b] s) (entryFrame m ([Value.ref b] : List Value).toArray 7) := by
  unfold pL at hf
  obtain ⟨hx, hb, hr, hml, hown, hts0, hX, hbl, hlocks, hgv⟩ := id C0
  have hts := hts0
  obtain ⟨c0, iS0, hKn0⟩ := u_known (C := RJx00060) (T := TJx00060) (N := 6) (n := 6) hts inJx00060 (hts0 (.instantiable RJx00060 6) (by decide +kernel))
  obtain ⟨c1, iS1, hKn1⟩ := u_known (C := RJxde1cd) (T := TJxde1cd) (N := 6) (n := 6) hts inJxde1cd (hts0 (.instantiable RJxde1cd 6) (by decide +kernel))
  obtain ⟨c2, iS2, hKn2⟩ := u_known (C := RX0) (T := TX0) (N := 3) (n := 3) hts inX0 (hts0 (.instantiable RX0 3) (by decide +kernel))
  obtain ⟨c3, iS3, hKn3⟩ := u_known (C := RX1) (T := TX1) (N := 4) (n := 4) hts inX1 (hts0 (.instantiable RX1 4) (by decide +kernel))
  obtain ⟨c4, iS4, hKn4⟩ := u_known (C := RX2) (T := TX2) (N := 1) (n := 1) hts inX2 (hts0 (.instantiable RX2 1) (by decide +kernel))
  obtain ⟨c5, iS5, hKn5⟩ := u_known (C := RX3) (T := TX3) (N := 5) (n := 5) hts inX3 (hts0 (.instantiable RX3 5) (by decide +kernel))
  obtain ⟨c6, iS6, hKn6⟩ := u_known (C := RX4) (T := TX4) (N := 2) (n := 2) hts inX4 (hts0 (.instantiable RX4 2) (by decide +kernel))
  obtain ⟨c7, iS7, hKn7⟩ := u_known (C := RX5) (T := TX5) (N := 9) (n := 9) hts inX5 (hts0 (.instantiable RX5 9) (by decide +kernel))
  obtain ⟨c8, iS8, hKn8⟩ := u_known (C := RX6) (T := TX6) (N := 1) (n := 1) hts inX6 (hts0 (.instantiable RX6 1) (by decide +kernel))
  obtain ⟨c9, iS9, hKn9⟩ := u_known (C := RX7) (T := TX7) (N := 15) (n := 15) hts inX7 (hts0 (.instantiable RX7 15) (by decide +kernel))
  obtain ⟨c10, iS10, hKn10⟩ := u_known (C := RX8) (T := TX8) (N := 21) (n := 21) hts inX8 (hts0 (.instantiable RX8 21) (by decide +kernel))
  obtain ⟨a0, hA0, hB0⟩ := ka_prim (ty := .int) (hts0 (.arrayClass .int) (by decide +kernel))
  obtain ⟨a1, hA1, hB1⟩ := ka_prim (ty := .long) (hts0 (.arrayClass .long) (by decide +kernel))
  obtain ⟨a2, hA2, hB2⟩ := ka_prim (ty := .boolean) (hts0 (.arrayClass .boolean) (by decide +kernel))
  obtain ⟨a3, hA3, hB3⟩ := ka_obj (C := RX2) (hts0 (.arrayOver (.object RX2)) (by decide +kernel))
  obtain ⟨a4, hA4, hB4⟩ := ka_obj (C := RX4) (hts0 (.arrayOver (.object RX4)) (by decide +kernel))
  obtain ⟨a5, hA5, hB5⟩ := ka_obj (C := RX6) (hts0 (.arrayOver (.object RX6)) (by decide +kernel))
  obtain ⟨D, dA, hK⟩ : ∃ (D : va_G) (dA : Nat → ClassId), va_K D vwCl (tysA dA) s := by
    refine ⟨(fun k => match k with | 0 => c0 | 1 => c1 | 2 => c2 | 3 => c3 | 4 => c4 | 5 => c5 | 6 => c6 | 7 => c7 | 8 => c8 | 9 => c9 | _ => c10, fun k => match k with | 0 => iS0 | 1 => iS1 | 2 => iS2 | 3 => iS3 | 4 => iS4 | 5 => iS5 | 6 => iS6 | 7 => iS7 | 8 => iS8 | 9 => iS9 | _ => iS10), fun k => match k with | 0 => a0 | 1 => a1 | 2 => a2 | 3 => a3 | 4 => a4 | _ => a5, ?_, ?_⟩
    · intro k q hq
      match k, hq with
      | 0, hq => cases hq; exact hKn0
      | 1, hq => cases hq; exact hKn1
      | 2, hq => cases hq; exact hKn2
      | 3, hq => cases hq; exact hKn3
      | 4, hq => cases hq; exact hKn4
      | 5, hq => cases hq; exact hKn5
      | 6, hq => cases hq; exact hKn6
      | 7, hq => cases hq; exact hKn7
      | 8, hq => cases hq; exact hKn8
      | 9, hq => cases hq; exact hKn9
      | 10, hq => cases hq; exact hKn10
      | k + 11, hq => simp [vwCl] at hq
    · intro k q hq
      match k, hq with
      | 0, hq => cases hq; exact ⟨hA0, hB0⟩
      | 1, hq => cases hq; exact ⟨hA1, hB1⟩
      | 2, hq => cases hq; exact ⟨hA2, hB2⟩
      | 3, hq => cases hq; exact ⟨hA3, hB3⟩
      | 4, hq => cases hq; exact ⟨hA4, hB4⟩
      | 5, hq => cases hq; exact ⟨hA5, hB5⟩
      | k + 6, hq => simp [tysA] at hq
  have hC : CF D dA s := ⟨hK, fun w hw => va_Nw.of (nest_tab w hw) (hts0 w (nest_in w hw)), va_AO.of (hts0 _ ao_2), va_AO.of (hts0 _ ao_4), va_AO.of (hts0 _ ao_6)⟩
  obtain ⟨b0, hb0⟩ : ∃ b0, b0 = s.heap.size := ⟨_, rfl⟩
  have xl : XL b0 s := by rw [hb0]; exact xl_start hts0 hgv
  have w : WD D dA b0 (fun x => x) (fun _ => none) s.heap s.heap [] := ⟨[], fun _ => .inr (0, []), fun k q h => by simp [va_pl] at h, ⟨fun i j p q h => by simp [va_pl] at h, fun k q h => by simp [va_pl] at h⟩, va_S.rf, ⟨fun a e h => (by cases h), fun a b e f h => (by cases h)⟩, by rw [hb0]; exact Nat.le_refl _⟩
  obtain ⟨ι, hι⟩ : ∃ ι : Nat → Nat, ι = fun x => x := ⟨_, rfl⟩
  rw [← hι] at w
  obtain ⟨hz, ehz, hf⟩ := nm_s hf
  obtain ⟨sz, esz, hf⟩ := nm_s hf
  obtain ⟨kc, ekc, hf⟩ := nm_s hf
  obtain ⟨ks, eks, hf⟩ := nm_s hf
  rw [← ehz] at w
  have hwf : wf hz sz := by rw [ehz]; exact ⟨fun _ _ => rfl, fun _ _ h => nomatch h⟩
  have hag : agr ι sz ι sz := ⟨fun _ _ => rfl, Nat.le_refl _⟩
  have hcl : 0 + kc ≤ room_1.cells := by rw [ekc]; exact Nat.le_of_ble_eq_true rfl
  have hsl : 0 + ks ≤ room_1.slots := by rw [eks]; exact Nat.le_of_ble_eq_true rfl
  have hl := lv_entry ([.ref b]) (n := 7) (Nat.le_of_ble_eq_true rfl)
  rw [lg_entry_eq]
  generalize (lg_sl ([.ref b]) ++ List.replicate (7 - (lg_sl ([.ref b])).length) Slot.unset).toArray = ls at hl ⊢
  have hl : lv_has ls 7 [(0, .ref b)] := hl
  obtain ⟨H, hH⟩ : ∃ H : Heap, H = s.heap := ⟨_, rfl⟩
  obtain ⟨locs, hlo⟩ : ∃ locs : List Loc, locs = [] := ⟨_, rfl⟩
  rw [← hlo]
  have w : WD D dA b0 ι hz s.heap H locs := by rw [hH, hlo]; exact w
  refine px_start hH ?_
  obtain ⟨⟨h1, sz2, kc2, ks2⟩, e4, hf⟩ := ob_s hf
  try dsimp only at hf
  refine px_new (fs := [.int 0, .int 0, .null, .null, .int 0, .null, .null, .int 0, .null, .int 0, .null, .null, .null, .null, .null]) hx hb hts inX7 tyX7 tyX7_ok hown mL_law_cl_8 mL_law_in_8 mL_law_it_8 hK ⟨w, hwf⟩ rfl dvL_law_X7 (by decide) e4 hcl hsl dL_law_0 (fun i3 H cells slots hio w hcl hsl => ?_)
  obtain ⟨w, hwf⟩ := w
  have hag := agr_trans hag hio
  refine lv_dup hx hb dL_law_3 rfl ?_
  obtain ⟨u5, eu5, hf⟩ := ob_s hf
  have lt_sz := lR_spec eu5
  obtain ⟨⟨kc6, ks6⟩, eb6, hf⟩ := ob_s hf
  try dsimp only at hf
  obtain ⟨⟨h6, sz6⟩, ec6, hf⟩ := ob_s hf
  try dsimp only at hf
  refine px_callI (As := []) (rest := [.ref (i3 sz)]) ⟨hx, hb, hml, hown, hts⟩ hC w (kX7_init l D dA b0 i3 N sz h1 sz2 h6 sz6 hwf ec6) (cwI 0 hts gq_X7_init rfl rfl rfl (hts _ mL_law_ci56) (hts _ mL_law_cm56) (hts _ mL_law_cn56) rfl (by decide +kernel) ⟨Nat.le_of_ble_eq_true rfl, Nat.le_of_ble_eq_true rfl⟩) eb6 hcl hsl rfl hl.1 rfl (Nat.le_of_ble_eq_true rfl) dL_law_4 (fun i6 H locs cells slots hio w hwf hcl hsl => ?_)
  rw [← hio.1 sz lt_sz]
  have hag := agr_trans hag hio
  refine lv_astore_n (lv' := [(1, .ref (i6 sz)), (0, .ref b)]) hx hb dL_law_7 rfl hl (by decide) rfl (fun ls hl => ?_)
  obtain ⟨u7, eu7, hf⟩ := ob_s hf
  have lt_sz := lR_spec eu7
  obtain ⟨⟨h8, sz9, kc9, ks9⟩, e11, hf⟩ := ob_s hf
  try dsimp only at hf
  refine px_new (fs := [.int 0, .int 0, .int 0, .null, .null, .null, .null, .null, .null, .null, .null, .null, .null, .null, .null, .null, .null, .null, .null, .null, .null]) hx hb hts inX8 tyX8 tyX8_ok hown mL_law_cl_57 mL_law_in_57 mL_law_it_57 hK ⟨w, hwf⟩ rfl dvL_law_X8 (by decide) e11 hcl hsl dL_law_8 (fun i10 H cells slots hio w hcl hsl => ?_)
  obtain ⟨w, hwf⟩ := w
  rw [← hio.1 sz lt_sz] at hl
  have hag := agr_trans hag hio
  refine lv_dup hx hb dL_law_11 rfl ?_
  obtain ⟨u12, eu12, hf⟩ := ob_s hf
  have lt_sz := lR_spec eu12
  obtain ⟨u13, eu13, hf⟩ := ob_s hf
  have lt_sz6 := lR_spec eu13
  obtain ⟨⟨kc14, ks14⟩, eb14, hf⟩ := ob_s hf
  try dsimp only at hf
  obtain ⟨⟨h14, sz14⟩, ec14, hf⟩ := ob_s hf
  try dsimp only at hf
  refine px_callI (As := []) (rest := [.ref (i10 sz6)]) ⟨hx, hb, hml, hown, hts⟩ hC w (kX8_init l D dA b0 i10 N sz6 h8 sz9 h14 sz14 hwf ec14) (cwI 0 hts gq_X8_init rfl rfl rfl (hts _ mL_law_ci59) (hts _ mL_law_cm59) (hts _ mL_law_cn59) rfl (by decide +kernel) ⟨Nat.le_of_ble_eq_true rfl, Nat.le_of_ble_eq_true rfl⟩) eb14 hcl hsl rfl hl.1 rfl (Nat.le_of_ble_eq_true rfl) dL_law_12 (fun i14 H locs cells slots hio w hwf hcl hsl => ?_)
  rw [← hio.1 sz lt_sz] at hl
  rw [← hio.1 sz6 lt_sz6]
  have hag := agr_trans hag hio
  refine lv_astore_n (lv' := [(2, .ref (i14 sz6)), (1, .ref (i14 sz)), (0, .ref b)]) hx hb dL_law_15 rfl hl (by decide) rfl (fun ls hl => ?_)
  refine lv_iconst (v := (1 : Int32)) hx hb dL_law_16 (by decide) ?_
  obtain ⟨u15, eu15, hf⟩ := ob_s hf
  have lt_sz6 := lR_spec eu15
  obtain ⟨u16, eu16, hf⟩ := ob_s hf
  have lt_sz := lR_spec eu16
  obtain ⟨⟨h17, sz18, kc18, ks18⟩, e20, hf⟩ := ob_s hf
  try dsimp only at hf
  refine px_newa (atype := .long) (ty := .long) (a0 := (1, .inr (.inl (fun _ => 0)))) hx hb hts rfl mL_law_arlong hK ⟨w, hwf⟩ 1 rfl (fun cA h1 h2 => Option.some.inj (h1.symm.trans h2)) (fun cA => rfl) (fun m => trivial) (fun j => rfl) (by decide) rfl (by decide) e20 hcl hsl dL_law_17 (fun i19 H cells slots hio w hcl hsl => ?_)
  obtain ⟨w, hwf⟩ := w
  rw [← hio.1 sz6 lt_sz6] at hl
  rw [← hio.1 sz lt_sz] at hl
  have hag := agr_trans hag hio
  refine lv_astore_n (lv' := [(3, .ref (i19 sz14)), (2, .ref (i19 sz6)), (1, .ref (i19 sz)), (0, .ref b)]) hx hb dL_law_19 rfl hl (by decide) rfl (fun ls hl => ?_)
  refine lv_iconst (v := (0 : Int32)) hx hb dL_law_20 (by decide) ?_
  refine lv_istore (lv' := [(4, .int (0 : Int32)), (3, .ref (i19 sz14)), (2, .ref (i19 sz6)), (1, .ref (i19 sz)), (0, .ref b)]) hx hb dL_law_21 hl (by decide) rfl (fun ls hl => ?_)
  exact law_loop l hl0 C0 D dA b0 hb0 i19 hC xl N sz sz6 sz14 N (0 : Int32) h17 kc18 ks18 _ _ H locs ls hf (lv_sub hl [4, 3, 2, 1, 0] rfl) w hcl hsl
