theorem mX4_init_oil : Cond.methodLink RX4 3 objectInit ∈ wsX4_init := by decide +kernel
theorem mX4_init_oii : Cond.instanceMethod objectInit ∈ wsX4_init := by decide +kernel
theorem mX4_init_oic : Cond.code objectInit ⟨#[0xb1]⟩ 1 none ∈ wsX4_init := by decide +kernel
theorem mX4_init_arint : Cond.arrayClass .int ∈ wsX4_init := by decide +kernel
theorem nX4_init_X4 : ∀ w ∈ wsX40, w ∈ wsX4_init := by decide +kernel
theorem mX4_init_9 : Cond.fieldLink RX4 9 "NormalForms$Polynomial" "numbers" "[I" ∈ wsX4_init := by decide +kernel
theorem mX4_init_15 : Cond.fieldLink RX4 15 "NormalForms$Polynomial" "degree" "I" ∈ wsX4_init := by decide +kernel
abbrev rmX4_init : Room := { frames := 1, cells := 1, slots := 67, locals := 20 }
set_option maxHeartbeats 4000000 in
set_option maxRecDepth 100000 in
theorem kX4_init (l : Launch) (D : va_G) (dA : Nat → ClassId) (b0 : Nat) (ι : Nat → Nat) (N : Nat) (a0 : Nat) (a1 : Int32) (h : Hp) (sz : Nat) (h' : Hp) (sz' : Nat) (hwf : wf h sz) (hf : fX4_init N a0 a1 h sz = some (h', sz')) : Met l yX4_init wsX4_init rmX4_init (PC D dA b0 ι [.ref (ι a0), .int a1] h) (QZ D dA b0 ι sz h' sz') 1 67 (qA b0) := by
  unfold fX4_init at hf
  refine Met.ofW (cc := cX4_init) (maxL := 2) (ret := none) (by decide +kernel) rfl ?_
  intro p e s m args below meth c s₁ B hml hv
  obtain ⟨hav, w0⟩ := hv
  rw [show entryFrame m args 2 = entryFrame m ([.ref (ι a0), .int a1] : List Value).toArray 2 by rw [hav]]
  clear hav
  have hx := B.exec
  have hb := B.bytes
  have hr := B.returns
  have hts := atoms_spec (ws := wsX4_init) B.pre
  have hown : s.vm.findClass RX4 = some m.cls := findClass_of_methodNamed B.named
  have hin0 : meth.name = "<init>" := (name_of_methodNamed B.named B.method).1
  have hlocks := B.notSynchronized
  have hC := w0.c
  have hK := hC.1
  have w := WD.start w0
  clear w0
  have hl := lv_entry ([.ref (ι a0), .int a1]) (n := 2) (Nat.le_of_ble_eq_true rfl)
  rw [lg_entry_eq]
  generalize (lg_sl ([.ref (ι a0), .int a1]) ++ List.replicate (2 - (lg_sl ([.ref (ι a0), .int a1])).length) Slot.unset).toArray = ls at hl ⊢
  have hl : lv_has ls 2 [(0, .ref (ι a0)), (1, .int a1)] := hl
  obtain ⟨H, hH⟩ : ∃ H : Heap, H = s.heap := ⟨_, rfl⟩
  obtain ⟨locs, hlo⟩ : ∃ locs : List Loc, locs = [] := ⟨_, rfl⟩
  rw [← hlo]
  have w : WD D dA b0 ι h s.heap H locs := by rw [hH, hlo]; exact w
  refine px_start hH ?_
  obtain ⟨kc, ekc, hf⟩ := nm_s hf
  obtain ⟨ks, eks, hf⟩ := nm_s hf
  have hag : agr ι sz ι sz := ⟨fun _ _ => rfl, Nat.le_refl _⟩
  have hcl : 0 + kc ≤ (headSpec wsX4_init rmX4_init).room.cells := by rw [ekc]; exact Nat.le_of_ble_eq_true rfl
  have hsl : 0 + ks ≤ (headSpec wsX4_init rmX4_init).room.slots := by rw [eks]; exact Nat.le_of_ble_eq_true rfl
  refine lv_aload_n hx hb dX4_init_0 rfl (lv_at hl 0 rfl) ?_
  refine W.objInit hx hb hown (hts _ mX4_init_oil) (hts _ mX4_init_oii) (hts _ mX4_init_oic) rfl (by rw [hml]; exact hl.1) rfl dX4_init_1 (Nat.le_of_ble_eq_true rfl) (Nat.le_of_ble_eq_true rfl) ?_
  refine lv_aload_n hx hb dX4_init_4 rfl (lv_at hl 0 rfl) ?_
  refine lv_iload_n hx hb dX4_init_5 rfl (lv_at hl 1 rfl) ?_
  obtain ⟨u1, eu1, hf⟩ := ob_s hf
  have lt_a0 := lR_spec eu1
  obtain ⟨c6, hf⟩ := if_s hf
  obtain ⟨⟨h2, sz3, kc3, ks3⟩, e5, hf⟩ := ob_s hf
  try dsimp only at hf
  refine px_newa (atype := .int) (ty := .int) (a0 := (a1.toNatClampNeg, .inl (fun _ => 0))) hx hb hts rfl mX4_init_arint hK ⟨w, hwf⟩ 0 rfl (fun cA h1 h2 => Option.some.inj (h1.symm.trans h2)) (fun cA => rfl) (fun m => trivial) (fun j => rfl) c6.1 rfl (by have := c6.2; show a1.toNatClampNeg * 4 ≤ 536870912; omega) e5 hcl hsl dX4_init_6 (fun i4 H cells slots hio w hcl hsl => ?_)
  obtain ⟨w, hwf⟩ := w
  rw [← hio.1 a0 lt_a0] at hl ⊢
  have hag := agr_trans hag hio
  obtain ⟨u8, eu8, hf⟩ := ob_s hf
  obtain ⟨h7, eh7, hf⟩ := ob_s hf
  have hwf := wf_pV hwf eh7 (lR_spec eu8)
  refine px_putF hx hb hts nX4_init_X4 tyX4 tyX4_ok nmX4 hown hK w eh7 rfl (by decide) mX4_init_9 rfl rfl hin0 rfl rfl rfl dX4_init_8 rfl (fun H locs w => ?_)
  refine lv_aload_n hx hb dX4_init_11 rfl (lv_at hl 0 rfl) ?_
  refine lv_iconst (v := (-1 : Int32)) hx hb dX4_init_12 (by decide) ?_
  obtain ⟨h9, eh9, hf⟩ := ob_s hf
  have hwf := wf_pV hwf eh9 trivial
  refine px_put hx hb hts nX4_init_X4 tyX4 tyX4_ok nmX4 hown hK w eh9 rfl (by decide) mX4_init_15 rfl rfl rfl rfl dX4_init_13 rfl (fun H locs w => ?_)
  refine W.widen (k := 1) (n := 67) (Nat.le_trans (Nat.le_add_right _ _) hcl) (Nat.le_trans (Nat.le_add_right _ _) hsl) ?_
  exact W.vret hx hb hr (qz_end hf w hwf hag hC) w.locs_ok dX4_init_16
theorem mX0_init_oil : Cond.methodLink RX0 3 objectInit ∈ wsX0_init := by decide +kernel
theorem mX0_init_oii : Cond.instanceMethod objectInit ∈ wsX0_init := by decide +kernel
theorem mX0_init_oic : Cond.code objectInit ⟨#[0xb1]⟩ 1 none ∈ wsX0_init := by decide +kernel
theorem nX0_init_X4 : ∀ w ∈ wsX40, w ∈ wsX0_init := by decide +kernel
theorem mX0_init_cl_9 : Cond.classLink RX0 9 RX4 ∈ wsX0_init := by decide +kernel
theorem mX0_init_in_9 : Cond.instantiable RX4 2 ∈ wsX0_init := by decide +kernel
theorem mX0_init_it_9 : Cond.initialized RX4 ∈ wsX0_init := by decide +kernel
theorem dvX0_init_X4 : ∀ j, j < 2 → defaultValue (tyX4 j) = vp_V ([.null, .int 0] : List Value) j := by intro j hj; rcases (show j = 0 ∨ j = 1 by omega) with rfl | rfl <;> rfl
theorem mX0_init_ci11 : Cond.initialized RX4 ∈ wsX0_init := by decide +kernel
theorem mX0_init_cm11 : Cond.methodLink RX0 11 yX4_init ∈ wsX0_init := by decide +kernel
theorem mX0_init_cn11 : Cond.instanceMethod yX4_init ∈ wsX0_init := by decide +kernel
theorem nX0_init_X0 : ∀ w ∈ wsX00, w ∈ wsX0_init := by decide +kernel
theorem mX0_init_14 : Cond.fieldLink RX0 14 "NormalForms$Divider" "left" "LNormalForms$Polynomial;" ∈ wsX0_init := by decide +kernel
theorem mX0_init_20 : Cond.fieldLink RX0 20 "NormalForms$Divider" "right" "LNormalForms$Polynomial;" ∈ wsX0_init := by decide +kernel
theorem mX0_init_23 : Cond.fieldLink RX0 23 "NormalForms$Divider" "quotient" "LNormalForms$Polynomial;" ∈ wsX0_init := by decide +kernel
abbrev rmX0_init : Room := { frames := 2, cells := 6, slots := 207, locals := 41 }
set_option maxHeartbeats 4000000 in
set_option maxRecDepth 100000 in
theorem kX0_init (l : Launch) (D : va_G) (dA : Nat → ClassId) (b0 : Nat) (ι : Nat → Nat) (N : Nat) (a0 : Nat) (h : Hp) (sz : Nat) (h' : Hp) (sz' : Nat) (hwf : wf h sz) (hf : fX0_init N a0 h sz = some (h', sz')) : Met l yX0_init wsX0_init rmX0_init (PC D dA b0 ι [.ref (ι a0)] h) (QZ D dA b0 ι sz h' sz') 6 207 (qA b0) := by
  unfold fX0_init at hf
  refine Met.ofW (cc := cX0_init) (maxL := 1) (ret := none) (by decide +kernel) rfl ?_
  intro p e s m args below meth c s₁ B hml hv
  obtain ⟨hav, w0⟩ := hv
  rw [show entryFrame m args 1 = entryFrame m ([.ref (ι a0)] : List Value).toArray 1 by rw [hav]]
  clear hav
  have hx := B.exec
  have hb := B.bytes
  have hr := B.returns
  have hts := atoms_spec (ws := wsX0_init) B.pre
  have hown : s.vm.findClass RX0 = some m.cls := findClass_of_methodNamed B.named
  have hin0 : meth.name = "<init>" := (name_of_methodNamed B.named B.method).1
  have hlocks := B.notSynchronized
  have hC := w0.c
  have hK := hC.1
  have w := WD.start w0
  clear w0
  have hl := lv_entry ([.ref (ι a0)]) (n := 1) (Nat.le_of_ble_eq_true rfl)
  rw [lg_entry_eq]
  generalize (lg_sl ([.ref (ι a0)]) ++ List.replicate (1 - (lg_sl ([.ref (ι a0)])).length) Slot.unset).toArray = ls at hl ⊢
  have hl : lv_has ls 1 [(0, .ref (ι a0))] := hl
  obtain ⟨H, hH⟩ : ∃ H : Heap, H = s.heap := ⟨_, rfl⟩
  obtain ⟨locs, hlo⟩ : ∃ locs : List Loc, locs = [] := ⟨_, rfl⟩
  rw [← hlo]
  have w : WD D dA b0 ι h s.heap H locs := by rw [hH, hlo]; exact w
  refine px_start hH ?_
  obtain ⟨kc, ekc, hf⟩ := nm_s hf
  obtain ⟨ks, eks, hf⟩ := nm_s hf
  have hag : agr ι sz ι sz := ⟨fun _ _ => rfl, Nat.le_refl _⟩
  have hcl : 0 + kc ≤ (headSpec wsX0_init rmX0_init).room.cells := by rw [ekc]; exact Nat.le_of_ble_eq_true rfl
  have hsl : 0 + ks ≤ (headSpec wsX0_init rmX0_init).room.slots := by rw [eks]; exact Nat.le_of_ble_eq_true rfl
  refine lv_aload_n hx hb dX0_init_0 rfl (lv_at hl 0 rfl) ?_
  refine W.objInit hx hb hown (hts _ mX0_init_oil) (hts _ mX0_init_oii) (hts _ mX0_init_oic) rfl (by rw [hml]; exact hl.1) rfl dX0_init_1 (Nat.le_of_ble_eq_true rfl) (Nat.le_of_ble_eq_true rfl) ?_
  refine lv_aload_n hx hb dX0_init_4 rfl (lv_at hl 0 rfl) ?_
  obtain ⟨u1, eu1, hf⟩ := ob_s hf
  have lt_a0 := lR_spec eu1
  obtain ⟨⟨h2, sz3, kc3, ks3⟩, e5, hf⟩ := ob_s hf
  try dsimp only at hf
  refine px_new (fs := [.null, .int 0]) hx hb hts nX0_init_X4 tyX4 tyX4_ok hown mX0_init_cl_9 mX0_init_in_9 mX0_init_it_9 hK ⟨w, hwf⟩ rfl dvX0_init_X4 (by decide) e5 hcl hsl dX0_init_5 (fun i4 H cells slots hio w hcl hsl => ?_)
  obtain ⟨w, hwf⟩ := w
  rw [← hio.1 a0 lt_a0] at hl ⊢
  have hag := agr_trans hag hio
  refine lv_dup hx hb dX0_init_8 rfl ?_
  refine lv_bipush (v := (13 : Int32)) hx hb dX0_init_9 (by decide) ?_
  obtain ⟨u6, eu6, hf⟩ := ob_s hf
  have lt_a0 := lR_spec eu6
  obtain ⟨u7, eu7, hf⟩ := ob_s hf
  have lt_sz := lR_spec eu7
  obtain ⟨⟨kc8, ks8⟩, eb8, hf⟩ := ob_s hf
  try dsimp only at hf
  obtain ⟨⟨h8, sz8⟩, ec8, hf⟩ := ob_s hf
  try dsimp only at hf
  refine px_callI (As := [.int (13 : Int32)]) (rest := [.ref (i4 sz), .ref (i4 a0)]) ⟨hx, hb, hml, hown, hts⟩ hC w (kX4_init l D dA b0 i4 N sz (13 : Int32) h2 sz3 h8 sz8 hwf ec8) (cwI 1 hts gX0_init_X4_init rfl rfl rfl (hts _ mX0_init_ci11) (hts _ mX0_init_cm11) (hts _ mX0_init_cn11) rfl (by decide +kernel) ⟨Nat.le_of_ble_eq_true rfl, Nat.le_of_ble_eq_true rfl⟩) eb8 hcl hsl rfl hl.1 rfl (Nat.le_of_ble_eq_true rfl) dX0_init_11 (fun i8 H locs cells slots hio w hwf hcl hsl => ?_)
  rw [← hio.1 a0 lt_a0] at hl ⊢
  rw [← hio.1 sz lt_sz]
  have hag := agr_trans hag hio
  obtain ⟨u10, eu10, hf⟩ := ob_s hf
  obtain ⟨h9, eh9, hf⟩ := ob_s hf
  have hwf := wf_pV hwf eh9 (lR_spec eu10)
  refine px_putF hx hb hts nX0_init_X0 tyX0 tyX0_ok nmX0 hown hK w eh9 rfl (by decide) mX0_init_14 rfl rfl hin0 rfl rfl rfl dX0_init_14 rfl (fun H locs w => ?_)
  refine lv_aload_n hx hb dX0_init_17 rfl (lv_at hl 0 rfl) ?_
  obtain ⟨u11, eu11, hf⟩ := ob_s hf
  have lt_a0 := lR_spec eu11
  obtain ⟨⟨h12, sz13, kc13, ks13⟩, e15, hf⟩ := ob_s hf
  try dsimp only at hf
  refine px_new (fs := [.null, .int 0]) hx hb hts nX0_init_X4 tyX4 tyX4_ok hown mX0_init_cl_9 mX0_init_in_9 mX0_init_it_9 hK ⟨w, hwf⟩ rfl dvX0_init_X4 (by decide) e15 hcl hsl dX0_init_18 (fun i14 H cells slots hio w hcl hsl => ?_)
  obtain ⟨w, hwf⟩ := w
  rw [← hio.1 a0 lt_a0] at hl ⊢
  have hag := agr_trans hag hio
  refine lv_dup hx hb dX0_init_21 rfl ?_
  refine lv_bipush (v := (13 : Int32)) hx hb dX0_init_22 (by decide) ?_
  obtain ⟨u16, eu16, hf⟩ := ob_s hf
  have lt_a0 := lR_spec eu16
  obtain ⟨u17, eu17, hf⟩ := ob_s hf
  have lt_sz8 := lR_spec eu17
  obtain ⟨⟨kc18, ks18⟩, eb18, hf⟩ := ob_s hf
  try dsimp only at hf
  obtain ⟨⟨h18, sz18⟩, ec18, hf⟩ := ob_s hf
  try dsimp only at hf
  refine px_callI (As := [.int (13 : Int32)]) (rest := [.ref (i14 sz8), .ref (i14 a0)]) ⟨hx, hb, hml, hown, hts⟩ hC w (kX4_init l D dA b0 i14 N sz8 (13 : Int32) h12 sz13 h18 sz18 hwf ec18) (cwI 1 hts gX0_init_X4_init rfl rfl rfl (hts _ mX0_init_ci11) (hts _ mX0_init_cm11) (hts _ mX0_init_cn11) rfl (by decide +kernel) ⟨Nat.le_of_ble_eq_true rfl, Nat.le_of_ble_eq_true rfl⟩) eb18 hcl hsl rfl hl.1 rfl (Nat.le_of_ble_eq_true rfl) dX0_init_24 (fun i18 H locs cells slots hio w hwf hcl hsl => ?_)
  rw [← hio.1 a0 lt_a0] at hl ⊢
  rw [← hio.1 sz8 lt_sz8]
  have hag := agr_trans hag hio
  obtain ⟨u20, eu20, hf⟩ := ob_s hf
  obtain ⟨h19, eh19, hf⟩ := ob_s hf
  have hwf := wf_pV hwf eh19 (lR_spec eu20)
  refine px_putF hx hb hts nX0_init_X0 tyX0 tyX0_ok nmX0 hown hK w eh19 rfl (by decide) mX0_init_20 rfl rfl hin0 rfl rfl rfl dX0_init_27 rfl (fun H locs w => ?_)
  refine lv_aload_n hx hb dX0_init_30 rfl (lv_at hl 0 rfl) ?_
  obtain ⟨u21, eu21, hf⟩ := ob_s hf
  have lt_a0 := lR_spec eu21
  obtain ⟨⟨h22, sz23, kc23, ks23⟩, e25, hf⟩ := ob_s hf
  try dsimp only at hf
  refine px_new (fs := [.null, .int 0]) hx hb hts nX0_init_X4 tyX4 tyX4_ok hown mX0_init_cl_9 mX0_init_in_9 mX0_init_it_9 hK ⟨w, hwf⟩ rfl dvX0_init_X4 (by decide) e25 hcl hsl dX0_init_31 (fun i24 H cells slots hio w hcl hsl => ?_)
  obtain ⟨w, hwf⟩ := w
  rw [← hio.1 a0 lt_a0] at hl ⊢
  have hag := agr_trans hag hio
  refine lv_dup hx hb dX0_init_34 rfl ?_
  refine lv_bipush (v := (13 : Int32)) hx hb dX0_init_35 (by decide) ?_
  obtain ⟨u26, eu26, hf⟩ := ob_s hf
  have lt_a0 := lR_spec eu26
  obtain ⟨u27, eu27, hf⟩ := ob_s hf
  have lt_sz18 := lR_spec eu27
  obtain ⟨⟨kc28, ks28⟩, eb28, hf⟩ := ob_s hf
  try dsimp only at hf
  obtain ⟨⟨h28, sz28⟩, ec28, hf⟩ := ob_s hf
  try dsimp only at hf
  refine px_callI (As := [.int (13 : Int32)]) (rest := [.ref (i24 sz18), .ref (i24 a0)]) ⟨hx, hb, hml, hown, hts⟩ hC w (kX4_init l D dA b0 i24 N sz18 (13 : Int32) h22 sz23 h28 sz28 hwf ec28) (cwI 1 hts gX0_init_X4_init rfl rfl rfl (hts _ mX0_init_ci11) (hts _ mX0_init_cm11) (hts _ mX0_init_cn11) rfl (by decide +kernel) ⟨Nat.le_of_ble_eq_true rfl, Nat.le_of_ble_eq_true rfl⟩) eb28 hcl hsl rfl hl.1 rfl (Nat.le_of_ble_eq_true rfl) dX0_init_37 (fun i28 H locs cells slots hio w hwf hcl hsl => ?_)
  rw [← hio.1 a0 lt_a0] at hl ⊢
  rw [← hio.1 sz18 lt_sz18]
  have hag := agr_trans hag hio
  obtain ⟨u30, eu30, hf⟩ := ob_s hf
  obtain ⟨h29, eh29, hf⟩ := ob_s hf
  have hwf := wf_pV hwf eh29 (lR_spec eu30)
  refine px_putF hx hb hts nX0_init_X0 tyX0 tyX0_ok nmX0 hown hK w eh29 rfl (by decide) mX0_init_23 rfl rfl hin0 rfl rfl rfl dX0_init_40 rfl (fun H locs w => ?_)
  refine W.widen (k := 6) (n := 207) (Nat.le_trans (Nat.le_add_right _ _) hcl) (Nat.le_trans (Nat.le_add_right _ _) hsl) ?_
  exact W.vret hx hb hr (qz_end hf w hwf hag hC) w.locs_ok dX0_init_43
theorem mX6_init_oil : Cond.methodLink RX6 3 objectInit ∈ wsX6_init := by decide +kernel
theorem mX6_init_oii : Cond.instanceMethod objectInit ∈ wsX6_init := by decide +kernel
theorem mX6_init_oic : Cond.code objectInit ⟨#[0xb1]⟩ 1 none ∈ wsX6_init := by decide +kernel
theorem mX6_init_cl_9 : Cond.classLink RX6 9 RX4 ∈ wsX6_init := by decide +kernel
theorem nX6_init_X6 : ∀ w ∈ wsX60, w ∈ wsX6_init := by decide +kernel
theorem mX6_init_11 : Cond.fieldLink RX6 11 "NormalForms$Row" "cells" "[LNormalForms$Polynomial;" ∈ wsX6_init := by decide +kernel
theorem nX6_init_X4 : ∀ w ∈ wsX40, w ∈ wsX6_init := by decide +kernel
theorem mX6_init_in_9 : Cond.instantiable RX4 2 ∈ wsX6_init := by decide +kernel
theorem mX6_init_it_9 : Cond.initialized RX4 ∈ wsX6_init := by decide +kernel
theorem dvX6_init_X4 : ∀ j, j < 2 → defaultValue (tyX4 j) = vp_V ([.null, .int 0] : List Value) j := by intro j hj; rcases (show j = 0 ∨ j = 1 by omega) with rfl | rfl <;> rfl
theorem mX6_init_ci17 : Cond.initialized RX4 ∈ wsX6_init := by decide +kernel
theorem mX6_init_cm17 : Cond.methodLink RX6 17 yX4_init ∈ wsX6_init := by decide +kernel
theorem mX6_init_cn17 : Cond.instanceMethod yX4_init ∈ wsX6_init := by decide +kernel
abbrev rmX6_init : Room := { frames := 2, cells := 9, slots := 280, locals := 41 }
set_option maxHeartbeats 4000000 in
set_option maxRecDepth 100000 in
theorem kX6_init (l : Launch) (D : va_G) (dA : Nat → ClassId) (b0 : Nat) (ι : Nat → Nat) (N : Nat) (a0 : Nat) (a1 : Int32) (h : Hp) (sz : Nat) (h' : Hp) (sz' : Nat) (hwf : wf h sz) (hf : fX6_init N a0 a1 h sz = some (h', sz')) : Met l yX6_init wsX6_init rmX6_init (PC D dA b0 ι [.ref (ι a0), .int a1] h) (QZ D dA b0 ι sz h' sz') 9 280 (qA b0) := by
  unfold fX6_init at hf
  refine Met.ofW (cc := cX6_init) (maxL := 3) (ret := none) (by decide +kernel) rfl ?_
  intro p e s m args below meth c s₁ B hml hv
  obtain ⟨hav, w0⟩ := hv
  rw [show entryFrame m args 3 = entryFrame m ([.ref (ι a0), .int a1] : List Value).toArray 3 by rw [hav]]
  clear hav
  have hx := B.exec
  have hb := B.bytes
  have hr := B.returns
  have hts := atoms_spec (ws := wsX6_init) B.pre
  have hown : s.vm.findClass RX6 = some m.cls := findClass_of_methodNamed B.named
  have hin0 : meth.name = "<init>" := (name_of_methodNamed B.named B.method).1
  have hlocks := B.notSynchronized
  have hC := w0.c
  have hK := hC.1
  have w := WD.start w0
  clear w0
  have hl := lv_entry ([.ref (ι a0), .int a1]) (n := 3) (Nat.le_of_ble_eq_true rfl)
  rw [lg_entry_eq]
  generalize (lg_sl ([.ref (ι a0), .int a1]) ++ List.replicate (3 - (lg_sl ([.ref (ι a0), .int a1])).length) Slot.unset).toArray = ls at hl ⊢
  have hl : lv_has ls 3 [(0, .ref (ι a0)), (1, .int a1)] := hl
  obtain ⟨H, hH⟩ : ∃ H : Heap, H = s.heap := ⟨_, rfl⟩
  obtain ⟨locs, hlo⟩ : ∃ locs : List Loc, locs = [] := ⟨_, rfl⟩
  rw [← hlo]
  have w : WD D dA b0 ι h s.heap H locs := by rw [hH, hlo]; exact w
  refine px_start hH ?_
  obtain ⟨kc, ekc, hf⟩ := nm_s hf
  obtain ⟨ks, eks, hf⟩ := nm_s hf
  have hag : agr ι sz ι sz := ⟨fun _ _ => rfl, Nat.le_refl _⟩
  have hcl : 0 + kc ≤ (headSpec wsX6_init rmX6_init).room.cells := by rw [ekc]; exact Nat.le_of_ble_eq_true rfl
  have hsl : 0 + ks ≤ (headSpec wsX6_init rmX6_init).room.slots := by rw [eks]; exact Nat.le_of_ble_eq_true rfl
  refine lv_aload_n hx hb dX6_init_0 rfl (lv_at hl 0 rfl) ?_
  refine W.objInit hx hb hown (hts _ mX6_init_oil) (hts _ mX6_init_oii) (hts _ mX6_init_oic) rfl (by rw [hml]; exact hl.1) rfl dX6_init_1 (Nat.le_of_ble_eq_true rfl) (Nat.le_of_ble_eq_true rfl) ?_
  refine lv_aload_n hx hb dX6_init_4 rfl (lv_at hl 0 rfl) ?_
  refine lv_iconst (v := (4 : Int32)) hx hb dX6_init_5 (by decide) ?_
  obtain ⟨u1, eu1, hf⟩ := ob_s hf
  have lt_a0 := lR_spec eu1
  obtain ⟨⟨h2, sz3, kc3, ks3⟩, e5, hf⟩ := ob_s hf
  try dsimp only at hf
  refine px_newq hx hb hts hown mX6_init_cl_9 hC.2.2.2.1 hK ⟨w, hwf⟩ 4 rfl (by decide) rfl (by decide) e5 hcl hsl dX6_init_6 (fun i4 H cells slots hio w hcl hsl => ?_)
  obtain ⟨w, hwf⟩ := w
  rw [← hio.1 a0 lt_a0] at hl ⊢
  have hag := agr_trans hag hio
  obtain ⟨u7, eu7, hf⟩ := ob_s hf
  obtain ⟨h6, eh6, hf⟩ := ob_s hf
  have hwf := wf_pV hwf eh6 (lR_spec eu7)
  refine px_putF hx hb hts nX6_init_X6 tyX6 tyX6_ok nmX6 hown hK w eh6 rfl (by decide) mX6_init_11 rfl rfl hin0 rfl rfl rfl dX6_init_9 rfl (fun H locs w => ?_)
  refine lv_iconst (v := (0 : Int32)) hx hb dX6_init_12 (by decide) ?_
  refine lv_istore_n (lv' := [(2, .int (0 : Int32)), (0, .ref (i4 a0)), (1, .int a1)]) hx hb dX6_init_13 rfl hl (by decide) rfl (fun ls hl => ?_)
  have hx14 : ∀ (y8 : Int32) (i11 : Nat → Nat) (h9 : Hp) (sz10 kc10 ks10 cells slots : Nat) (H : Heap) (locs : List Loc) (ls : Array Slot), (some (h9, sz10)) = some (h', sz') → lv_has ls 3 [(0, .ref (i11 a0)), (1, .int a1), (2, .int y8)] → WD D dA b0 i11 h9 s.heap H locs → wf h9 sz10 → agr ι sz i11 sz10 → cells + kc10 ≤ (headSpec wsX6_init rmX6_init).room.cells → slots + ks10 ≤ (headSpec wsX6_init rmX6_init).room.slots → W p l e (headSpec wsX6_init rmX6_init).room s m args below meth c H locs cells slots (MQ below (QZ D dA b0 ι sz h' sz') args s 9 280 (qA b0)) (F0 m 39 ls []) := by
    intro y8 i11 h9 sz10 kc10 ks10 cells slots H locs ls hf hl w hwf hag hcl hsl
    refine W.widen (k := 9) (n := 280) (Nat.le_trans (Nat.le_add_right _ _) hcl) (Nat.le_trans (Nat.le_add_right _ _) hsl) ?_
    exact W.vret hx hb hr (qz_end hf w hwf hag hC) w.locs_ok dX6_init_39
  obtain ⟨κ14, eκ14⟩ : ∃ k : Int32 → Hp → Nat → Nat → Nat → Option (Hp × Nat), k = (fun y8 h9 sz10 kc10 ks10 => some (h9, sz10)) := ⟨_, rfl⟩
  have hlp14 : ∀ (n : Nat) (z30 : Int32) (i33 : Nat → Nat) (h31 : Hp) (sz32 kc32 ks32 cells slots : Nat) (H : Heap) (locs : List Loc) (ls : Array Slot), lX6_init_14 N a0 a1 n z30 h31 sz32 kc32 ks32 κ14 = some (h', sz') → lv_has ls 3 [(0, .ref (i33 a0)), (1, .int a1), (2, .int z30)] → WD D dA b0 i33 h31 s.heap H locs → wf h31 sz32 → agr ι sz i33 sz32 → cells + kc32 ≤ (headSpec wsX6_init rmX6_init).room.cells → slots + ks32 ≤ (headSpec wsX6_init rmX6_init).room.slots → W p l e (headSpec wsX6_init rmX6_init).room s m args below meth c H locs cells slots (MQ below (QZ D dA b0 ι sz h' sz') args s 9 280 (qA b0)) (F0 m 14 ls []) := by
    intro n14
    induction n14 with
    | zero => intro z30 i33 h31 sz32 kc32 ks32 cells slots H locs ls hf; exact absurd hf (by rw [lX6_init_14]; exact fun q => nomatch q)
    | succ n14 ih14 =>
      intro z30 i33 h31 sz32 kc32 ks32 cells slots H locs ls hf hl w hwf hag hcl hsl
      rw [lX6_init_14] at hf
      refine lv_iload_n hx hb dX6_init_14 rfl (lv_at hl 2 rfl) ?_
      refine lv_iconst (v := (4 : Int32)) hx hb dX6_init_15 (by decide) ?_
      refine lv_icmp_ge (tgt := 39) hx hb dX6_init_16 (by decide) (fun c34 => ?_) (fun c34 => ?_)
      · have hf := if_t hf c34
        exact hx14 z30 i33 h31 sz32 kc32 ks32 _ _ H locs ls (by rw [eκ14] at hf; exact hf) (lv_sub hl [0, 1, 2] rfl) w hwf hag hcl hsl
      · have hf := if_f hf c34
        refine lv_aload_n hx hb dX6_init_19 rfl (lv_at hl 0 rfl) ?_
        obtain ⟨v35, ev35, hf⟩ := ob_s hf
        refine px_getR hx hb hts nX6_init_X6 hown hK w ev35 rfl (by decide) mX6_init_11 rfl dX6_init_20 ?_
        refine lv_iload_n hx hb dX6_init_23 rfl (lv_at hl 2 rfl) ?_
        obtain ⟨u36, eu36, hf⟩ := ob_s hf
        have lt_a0 := lR_spec eu36
        obtain ⟨u37, eu37, hf⟩ := ob_s hf
        have lt_v35 := lR_spec eu37
        obtain ⟨⟨h38, sz39, kc39, ks39⟩, e41, hf⟩ := ob_s hf
        try dsimp only at hf
        refine px_new (fs := [.null, .int 0]) hx hb hts nX6_init_X4 tyX4 tyX4_ok hown mX6_init_cl_9 mX6_init_in_9 mX6_init_it_9 hK ⟨w, hwf⟩ rfl dvX6_init_X4 (by decide) e41 hcl hsl dX6_init_24 (fun i40 H cells slots hio w hcl hsl => ?_)
        obtain ⟨w, hwf⟩ := w
        rw [← hio.1 a0 lt_a0] at hl
        rw [← hio.1 v35 lt_v35]
        have hag := agr_trans hag hio
        refine lv_dup hx hb dX6_init_27 rfl ?_
        refine lv_iload_n hx hb dX6_init_28 rfl (lv_at hl 1 rfl) ?_
        obtain ⟨u42, eu42, hf⟩ := ob_s hf
        have lt_a0 := lR_spec eu42
        obtain ⟨u43, eu43, hf⟩ := ob_s hf
        have lt_v35 := lR_spec eu43
        obtain ⟨u44, eu44, hf⟩ := ob_s hf
        have lt_sz32 := lR_spec eu44
        obtain ⟨⟨kc45, ks45⟩, eb45, hf⟩ := ob_s hf
        try dsimp only at hf
        obtain ⟨⟨h45, sz45⟩, ec45, hf⟩ := ob_s hf
        try dsimp only at hf
        refine px_callI (As := [.int a1]) (rest := [.ref (i40 sz32), .int z30, .ref (i40 v35)]) ⟨hx, hb, hml, hown, hts⟩ hC w (kX4_init l D dA b0 i40 N sz32 a1 h38 sz39 h45 sz45 hwf ec45) (cwI 1 hts gX6_init_X4_init rfl rfl rfl (hts _ mX6_init_ci17) (hts _ mX6_init_cm17) (hts _ mX6_init_cn17) rfl (by decide +kernel) ⟨Nat.le_of_ble_eq_true rfl, Nat.le_of_ble_eq_true rfl⟩) eb45 hcl hsl rfl hl.1 rfl (Nat.le_of_ble_eq_true rfl) dX6_init_29 (fun i45 H locs cells slots hio w hwf hcl hsl => ?_)
        rw [← hio.1 a0 lt_a0] at hl
        rw [← hio.1 v35 lt_v35]
        rw [← hio.1 sz32 lt_sz32]
        have hag := agr_trans hag hio
        obtain ⟨u47, eu47, hf⟩ := ob_s hf
        obtain ⟨h46, eh46, hf⟩ := ob_s hf
        have hwf := wf_aRs hwf eh46 (lR_spec eu47)
        refine px_rast hx hb hK w eh46 rfl rfl dX6_init_32 (fun H locs w => ?_)
        obtain ⟨x48, ex48, hf⟩ := nm_s hf
        refine lv_iinc (v := x48) (lv' := [(2, .int x48), (0, .ref (i45 a0)), (1, .int a1)]) hx hb dX6_init_33 hl (k := 2) rfl (by rw [ex48]; rfl) (by decide) rfl (fun ls hl => ?_)
        refine lv_goto (tgt := 14) hx hb dX6_init_36 (by decide) ?_
        exact ih14 x48 i45 h46 sz45 kc45 ks45 _ _ H locs ls hf (lv_sub hl [1, 2, 0] rfl) w hwf hag hcl hsl
  exact hlp14 N (0 : Int32) i4 h6 sz3 kc3 ks3 _ _ H locs ls (by rw [eκ14]; exact hf) (lv_sub hl [1, 2, 0] rfl) w hwf hag hcl hsl
theorem mX2_init_oil : Cond.methodLink RX2 3 objectInit ∈ wsX2_init := by decide +kernel
theorem mX2_init_oii : Cond.instanceMethod objectInit ∈ wsX2_init := by decide +kernel
theorem mX2_init_oic : Cond.code objectInit ⟨#[0xb1]⟩ 1 none ∈ wsX2_init := by decide +kernel
theorem mX2_init_cl_9 : Cond.classLink RX2 9 RX6 ∈ wsX2_init := by decide +kernel
theorem nX2_init_X2 : ∀ w ∈ wsX20, w ∈ wsX2_init := by decide +kernel
theorem mX2_init_11 : Cond.fieldLink RX2 11 "NormalForms$Matrix" "rows" "[LNormalForms$Row;" ∈ wsX2_init := by decide +kernel
theorem nX2_init_X6 : ∀ w ∈ wsX60, w ∈ wsX2_init := by decide +kernel
theorem mX2_init_in_9 : Cond.instantiable RX6 1 ∈ wsX2_init := by decide +kernel
theorem mX2_init_it_9 : Cond.initialized RX6 ∈ wsX2_init := by decide +kernel
theorem dvX2_init_X6 : ∀ j, j < 1 → defaultValue (tyX6 j) = vp_V ([.null] : List Value) j := by intro j hj; rcases (show j = 0 by omega) with rfl <;> rfl
theorem mX2_init_ci17 : Cond.initialized RX6 ∈ wsX2_init := by decide +kernel
theorem mX2_init_cm17 : Cond.methodLink RX2 17 yX6_init ∈ wsX2_init := by decide +kernel
theorem mX2_init_cn17 : Cond.instanceMethod yX6_init ∈ wsX2_init := by decide +kernel
abbrev rmX2_init : Room := { frames := 3, cells := 41, slots := 1128, locals := 63 }
set_option maxHeartbeats 4000000 in
set_option maxRecDepth 100000 in
theorem kX2_init (l : Launch) (D : va_G) (dA : Nat → ClassId) (b0 : Nat) (ι : Nat → Nat) (N : Nat) (a0 : Nat) (a1 : Int32) (h : Hp) (sz : Nat) (h' : Hp) (sz' : Nat) (hwf : wf h sz) (hf : fX2_init N a0 a1 h sz = some (h', sz')) : Met l yX2_init wsX2_init rmX2_init (PC D dA b0 ι [.ref (ι a0), .int a1] h) (QZ D dA b0 ι sz h' sz') 41 1128 (qA b0) := by
  unfold fX2_init at hf
  refine Met.ofW (cc := cX2_init) (maxL := 3) (ret := none) (by decide +kernel) rfl ?_
  intro p e s m args below meth c s₁ B hml hv
  obtain ⟨hav, w0⟩ := hv
  rw [show entryFrame m args 3 = entryFrame m ([.ref (ι a0), .int a1] : List Value).toArray 3 by rw [hav]]
  clear hav
  have hx := B.exec
  have hb := B.bytes
  have hr := B.returns
  have hts := atoms_spec (ws := wsX2_init) B.pre
  have hown : s.vm.findClass RX2 = some m.cls := findClass_of_methodNamed B.named
  have hin0 : meth.name = "<init>" := (name_of_methodNamed B.named B.method).1
  have hlocks := B.notSynchronized
  have hC := w0.c
  have hK := hC.1
  have w := WD.start w0
  clear w0
  have hl := lv_entry ([.ref (ι a0), .int a1]) (n := 3) (Nat.le_of_ble_eq_true rfl)
  rw [lg_entry_eq]
  generalize (lg_sl ([.ref (ι a0), .int a1]) ++ List.replicate (3 - (lg_sl ([.ref (ι a0), .int a1])).length) Slot.unset).toArray = ls at hl ⊢
  have hl : lv_has ls 3 [(0, .ref (ι a0)), (1, .int a1)] := hl
  obtain ⟨H, hH⟩ : ∃ H : Heap, H = s.heap := ⟨_, rfl⟩
  obtain ⟨locs, hlo⟩ : ∃ locs : List Loc, locs = [] := ⟨_, rfl⟩
  rw [← hlo]
  have w : WD D dA b0 ι h s.heap H locs := by rw [hH, hlo]; exact w
  refine px_start hH ?_
  obtain ⟨kc, ekc, hf⟩ := nm_s hf
  obtain ⟨ks, eks, hf⟩ := nm_s hf
  have hag : agr ι sz ι sz := ⟨fun _ _ => rfl, Nat.le_refl _⟩
  have hcl : 0 + kc ≤ (headSpec wsX2_init rmX2_init).room.cells := by rw [ekc]; exact Nat.le_of_ble_eq_true rfl
  have hsl : 0 + ks ≤ (headSpec wsX2_init rmX2_init).room.slots := by rw [eks]; exact Nat.le_of_ble_eq_true rfl
  refine lv_aload_n hx hb dX2_init_0 rfl (lv_at hl 0 rfl) ?_
  refine W.objInit hx hb hown (hts _ mX2_init_oil) (hts _ mX2_init_oii) (hts _ mX2_init_oic) rfl (by rw [hml]; exact hl.1) rfl dX2_init_1 (Nat.le_of_ble_eq_true rfl) (Nat.le_of_ble_eq_true rfl) ?_
  refine lv_aload_n hx hb dX2_init_4 rfl (lv_at hl 0 rfl) ?_
  refine lv_iconst (v := (4 : Int32)) hx hb dX2_init_5 (by decide) ?_
  obtain ⟨u1, eu1, hf⟩ := ob_s hf
  have lt_a0 := lR_spec eu1
  obtain ⟨⟨h2, sz3, kc3, ks3⟩, e5, hf⟩ := ob_s hf
  try dsimp only at hf
  refine px_newq hx hb hts hown mX2_init_cl_9 hC.2.2.2.2 hK ⟨w, hwf⟩ 5 rfl (by decide) rfl (by decide) e5 hcl hsl dX2_init_6 (fun i4 H cells slots hio w hcl hsl => ?_)
  obtain ⟨w, hwf⟩ := w
  rw [← hio.1 a0 lt_a0] at hl ⊢
  have hag := agr_trans hag hio
  obtain ⟨u7, eu7, hf⟩ := ob_s hf
  obtain ⟨h6, eh6, hf⟩ := ob_s hf
  have hwf := wf_pV hwf eh6 (lR_spec eu7)
  refine px_putF hx hb hts nX2_init_X2 tyX2 tyX2_ok nmX2 hown hK w eh6 rfl (by decide) mX2_init_11 rfl rfl hin0 rfl rfl rfl dX2_init_9 rfl (fun H locs w => ?_)
  refine lv_iconst (v := (0 : Int32)) hx hb dX2_init_12 (by decide) ?_
  refine lv_istore_n (lv' := [(2, .int (0 : Int32)), (0, .ref (i4 a0)), (1, .int a1)]) hx hb dX2_init_13 rfl hl (by decide) rfl (fun ls hl => ?_)
  have hx14 : ∀ (y8 : Int32) (i11 : Nat → Nat) (h9 : Hp) (sz10 kc10 ks10 cells slots : Nat) (H : Heap) (locs : List Loc) (ls : Array Slot), (some (h9, sz10)) = some (h', sz') → lv_has ls 3 [(0, .ref (i11 a0)), (1, .int a1), (2, .int y8)] → WD D dA b0 i11 h9 s.heap H locs → wf h9 sz10 → agr ι sz i11 sz10 → cells + kc10 ≤ (headSpec wsX2_init rmX2_init).room.cells → slots + ks10 ≤ (headSpec wsX2_init rmX2_init).room.slots → W p l e (headSpec wsX2_init rmX2_init).room s m args below meth c H locs cells slots (MQ below (QZ D dA b0 ι sz h' sz') args s 41 1128 (qA b0)) (F0 m 39 ls []) := by
    intro y8 i11 h9 sz10 kc10 ks10 cells slots H locs ls hf hl w hwf hag hcl hsl
    refine W.widen (k := 41) (n := 1128) (Nat.le_trans (Nat.le_add_right _ _) hcl) (Nat.le_trans (Nat.le_add_right _ _) hsl) ?_
    exact W.vret hx hb hr (qz_end hf w hwf hag hC) w.locs_ok dX2_init_39
  obtain ⟨κ14, eκ14⟩ : ∃ k : Int32 → Hp → Nat → Nat → Nat → Option (Hp × Nat), k = (fun y8 h9 sz10 kc10 ks10 => some (h9, sz10)) := ⟨_, rfl⟩
  have hlp14 : ∀ (n : Nat) (z30 : Int32) (i33 : Nat → Nat) (h31 : Hp) (sz32 kc32 ks32 cells slots : Nat) (H : Heap) (locs : List Loc) (ls : Array Slot), lX2_init_14 N a0 a1 n z30 h31 sz32 kc32 ks32 κ14 = some (h', sz') → lv_has ls 3 [(0, .ref (i33 a0)), (1, .int a1), (2, .int z30)] → WD D dA b0 i33 h31 s.heap H locs → wf h31 sz32 → agr ι sz i33 sz32 → cells + kc32 ≤ (headSpec wsX2_init rmX2_init).room.cells → slots + ks32 ≤ (headSpec wsX2_init rmX2_init).room.slots → W p l e (headSpec wsX2_init rmX2_init).room s m args below meth c H locs cells slots (MQ below (QZ D dA b0 ι sz h' sz') args s 41 1128 (qA b0)) (F0 m 14 ls []) := by
    intro n14
    induction n14 with
    | zero => intro z30 i33 h31 sz32 kc32 ks32 cells slots H locs ls hf; exact absurd hf (by rw [lX2_init_14]; exact fun q => nomatch q)
    | succ n14 ih14 =>
      intro z30 i33 h31 sz32 kc32 ks32 cells slots H locs ls hf hl w hwf hag hcl hsl
      rw [lX2_init_14] at hf
      refine lv_iload_n hx hb dX2_init_14 rfl (lv_at hl 2 rfl) ?_
      refine lv_iconst (v := (4 : Int32)) hx hb dX2_init_15 (by decide) ?_
      refine lv_icmp_ge (tgt := 39) hx hb dX2_init_16 (by decide) (fun c34 => ?_) (fun c34 => ?_)
      · have hf := if_t hf c34
        exact hx14 z30 i33 h31 sz32 kc32 ks32 _ _ H locs ls (by rw [eκ14] at hf; exact hf) (lv_sub hl [0, 1, 2] rfl) w hwf hag hcl hsl
      · have hf := if_f hf c34
        refine lv_aload_n hx hb dX2_init_19 rfl (lv_at hl 0 rfl) ?_
        obtain ⟨v35, ev35, hf⟩ := ob_s hf
        refine px_getR hx hb hts nX2_init_X2 hown hK w ev35 rfl (by decide) mX2_init_11 rfl dX2_init_20 ?_
        refine lv_iload_n hx hb dX2_init_23 rfl (lv_at hl 2 rfl) ?_
        obtain ⟨u36, eu36, hf⟩ := ob_s hf
        have lt_a0 := lR_spec eu36
        obtain ⟨u37, eu37, hf⟩ := ob_s hf
        have lt_v35 := lR_spec eu37
        obtain ⟨⟨h38, sz39, kc39, ks39⟩, e41, hf⟩ := ob_s hf
        try dsimp only at hf
        refine px_new (fs := [.null]) hx hb hts nX2_init_X6 tyX6 tyX6_ok hown mX2_init_cl_9 mX2_init_in_9 mX2_init_it_9 hK ⟨w, hwf⟩ rfl dvX2_init_X6 (by decide) e41 hcl hsl dX2_init_24 (fun i40 H cells slots hio w hcl hsl => ?_)
        obtain ⟨w, hwf⟩ := w
        rw [← hio.1 a0 lt_a0] at hl
        rw [← hio.1 v35 lt_v35]
        have hag := agr_trans hag hio
        refine lv_dup hx hb dX2_init_27 rfl ?_
        refine lv_iload_n hx hb dX2_init_28 rfl (lv_at hl 1 rfl) ?_
        obtain ⟨u42, eu42, hf⟩ := ob_s hf
        have lt_a0 := lR_spec eu42
        obtain ⟨u43, eu43, hf⟩ := ob_s hf
        have lt_v35 := lR_spec eu43
        obtain ⟨u44, eu44, hf⟩ := ob_s hf
        have lt_sz32 := lR_spec eu44
        obtain ⟨⟨kc45, ks45⟩, eb45, hf⟩ := ob_s hf
        try dsimp only at hf
        obtain ⟨⟨h45, sz45⟩, ec45, hf⟩ := ob_s hf
        try dsimp only at hf
        refine px_callI (As := [.int a1]) (rest := [.ref (i40 sz32), .int z30, .ref (i40 v35)]) ⟨hx, hb, hml, hown, hts⟩ hC w (kX6_init l D dA b0 i40 N sz32 a1 h38 sz39 h45 sz45 hwf ec45) (cwI 1 hts gX2_init_X6_init rfl rfl rfl (hts _ mX2_init_ci17) (hts _ mX2_init_cm17) (hts _ mX2_init_cn17) rfl (by decide +kernel) ⟨Nat.le_of_ble_eq_true rfl, Nat.le_of_ble_eq_true rfl⟩) eb45 hcl hsl rfl hl.1 rfl (Nat.le_of_ble_eq_true rfl) dX2_init_29 (fun i45 H locs cells slots hio w hwf hcl hsl => ?_)
        rw [← hio.1 a0 lt_a0] at hl
        rw [← hio.1 v35 lt_v35]
        rw [← hio.1 sz32 lt_sz32]
        have hag := agr_trans hag hio
        obtain ⟨u47, eu47, hf⟩ := ob_s hf
        obtain ⟨h46, eh46, hf⟩ := ob_s hf
        have hwf := wf_aRs hwf eh46 (lR_spec eu47)
        refine px_rast hx hb hK w eh46 rfl rfl dX2_init_32 (fun H locs w => ?_)
        obtain ⟨x48, ex48, hf⟩ := nm_s hf
        refine lv_iinc (v := x48) (lv' := [(2, .int x48), (0, .ref (i45 a0)), (1, .int a1)]) hx hb dX2_init_33 hl (k := 2) rfl (by rw [ex48]; rfl) (by decide) rfl (fun ls hl => ?_)
        refine lv_goto (tgt := 14) hx hb dX2_init_36 (by decide) ?_
        exact ih14 x48 i45 h46 sz45 kc45 ks45 _ _ H locs ls hf (lv_sub hl [1, 2, 0] rfl) w hwf hag hcl hsl
  exact hlp14 N (0 : Int32) i4 h6 sz3 kc3 ks3 _ _ H locs ls (by rw [eκ14]; exact hf) (lv_sub hl [1, 2, 0] rfl) w hwf hag hcl hsl
theorem mX3_init_oil : Cond.methodLink RX3 3 objectInit ∈ wsX3_init := by decide +kernel
theorem mX3_init_oii : Cond.instanceMethod objectInit ∈ wsX3_init := by decide +kernel
theorem mX3_init_oic : Cond.code objectInit ⟨#[0xb1]⟩ 1 none ∈ wsX3_init := by decide +kernel
theorem mX3_init_cl_9 : Cond.classLink RX3 9 RX4 ∈ wsX3_init := by decide +kernel
theorem nX3_init_X3 : ∀ w ∈ wsX30, w ∈ wsX3_init := by decide +kernel
theorem mX3_init_11 : Cond.fieldLink RX3 11 "NormalForms$Minors" "minors" "[LNormalForms$Polynomial;" ∈ wsX3_init := by decide +kernel
theorem nX3_init_X4 : ∀ w ∈ wsX40, w ∈ wsX3_init := by decide +kernel
theorem mX3_init_in_9 : Cond.instantiable RX4 2 ∈ wsX3_init := by decide +kernel
theorem mX3_init_it_9 : Cond.initialized RX4 ∈ wsX3_init := by decide +kernel
theorem dvX3_init_X4 : ∀ j, j < 2 → defaultValue (tyX4 j) = vp_V ([.null, .int 0] : List Value) j := by intro j hj; rcases (show j = 0 ∨ j = 1 by omega) with rfl | rfl <;> rfl
theorem mX3_init_ci17 : Cond.initialized RX4 ∈ wsX3_init := by decide +kernel
theorem mX3_init_cm17 : Cond.methodLink RX3 17 yX4_init ∈ wsX3_init := by decide +kernel
theorem mX3_init_cn17 : Cond.instanceMethod yX4_init ∈ wsX3_init := by decide +kernel
theorem mX3_init_26 : Cond.fieldLink RX3 26 "NormalForms$Minors" "divisors" "[LNormalForms$Polynomial;" ∈ wsX3_init := by decide +kernel
theorem mX3_init_29 : Cond.fieldLink RX3 29 "NormalForms$Minors" "invariants" "[LNormalForms$Polynomial;" ∈ wsX3_init := by decide +kernel
theorem nX3_init_X0 : ∀ w ∈ wsX00, w ∈ wsX3_init := by decide +kernel
theorem mX3_init_cl_32 : Cond.classLink RX3 32 RX0 ∈ wsX3_init := by decide +kernel
theorem mX3_init_in_32 : Cond.instantiable RX0 3 ∈ wsX3_init := by decide +kernel
theorem mX3_init_it_32 : Cond.initialized RX0 ∈ wsX3_init := by decide +kernel
theorem dvX3_init_X0 : ∀ j, j < 3 → defaultValue (tyX0 j) = vp_V ([.null, .null, .null] : List Value) j := by intro j hj; rcases (show j = 0 ∨ j = 1 ∨ j = 2 by omega) with rfl | rfl | rfl <;> rfl
theorem mX3_init_ci34 : Cond.initialized RX0 ∈ wsX3_init := by decide +kernel
theorem mX3_init_cm34 : Cond.methodLink RX3 34 yX0_init ∈ wsX3_init := by decide +kernel
theorem mX3_init_cn34 : Cond.instanceMethod yX0_init ∈ wsX3_init := by decide +kernel
theorem mX3_init_35 : Cond.fieldLink RX3 35 "NormalForms$Minors" "divider" "LNormalForms$Divider;" ∈ wsX3_init := by decide +kernel
theorem mX3_init_39 : Cond.fieldLink RX3 39 "NormalForms$Minors" "order" "I" ∈ wsX3_init := by decide +kernel
abbrev rmX3_init : Room := { frames := 3, cells := 170, slots := 5995, locals := 61 }
set_option maxHeartbeats 4000000 in
set_option maxRecDepth 100000 in
theorem kX3_init (l : Launch) (D : va_G) (dA : Nat → ClassId) (b0 : Nat) (ι : Nat → Nat) (N : Nat) (a0 : Nat) (h : Hp) (sz : Nat) (h' : Hp) (sz' : Nat) (hwf : wf h sz) (hf : fX3_init N a0 h sz = some (h', sz')) : Met l yX3_init wsX3_init rmX3_init (PC D dA b0 ι [.ref (ι a0)] h) (QZ D dA b0 ι sz h' sz') 170 5995 (qA b0) := by
  unfold fX3_init at hf
  refine Met.ofW (cc := cX3_init) (maxL := 5) (ret := none) (by decide +kernel) rfl ?_
  intro p e s m args below meth c s₁ B hml hv
  obtain ⟨hav, w0⟩ := hv
  rw [show entryFrame m args 5 = entryFrame m ([.ref (ι a0)] : List Value).toArray 5 by rw [hav]]
  clear hav
  have hx := B.exec
  have hb := B.bytes
  have hr := B.returns
  have hts := atoms_spec (ws := wsX3_init) B.pre
  have hown : s.vm.findClass RX3 = some m.cls := findClass_of_methodNamed B.named
  have hin0 : meth.name = "<init>" := (name_of_methodNamed B.named B.method).1
  have hlocks := B.notSynchronized
  have hC := w0.c
  have hK := hC.1
  have w := WD.start w0
  clear w0
  have hl := lv_entry ([.ref (ι a0)]) (n := 5) (Nat.le_of_ble_eq_true rfl)
  rw [lg_entry_eq]
  generalize (lg_sl ([.ref (ι a0)]) ++ List.replicate (5 - (lg_sl ([.ref (ι a0)])).length) Slot.unset).toArray = ls at hl ⊢
  have hl : lv_has ls 5 [(0, .ref (ι a0))] := hl
  obtain ⟨H, hH⟩ : ∃ H : Heap, H = s.heap := ⟨_, rfl⟩
  obtain ⟨locs, hlo⟩ : ∃ locs : List Loc, locs = [] := ⟨_, rfl⟩
  rw [← hlo]
  have w : WD D dA b0 ι h s.heap H locs := by rw [hH, hlo]; exact w
  refine px_start hH ?_
  obtain ⟨kc, ekc, hf⟩ := nm_s hf
  obtain ⟨ks, eks, hf⟩ := nm_s hf
  have hag : agr ι sz ι sz := ⟨fun _ _ => rfl, Nat.le_refl _⟩
  have hcl : 0 + kc ≤ (headSpec wsX3_init rmX3_init).room.cells := by rw [ekc]; exact Nat.le_of_ble_eq_true rfl
  have hsl : 0 + ks ≤ (headSpec wsX3_init rmX3_init).room.slots := by rw [eks]; exact Nat.le_of_ble_eq_true rfl
  refine lv_aload_n hx hb dX3_init_0 rfl (lv_at hl 0 rfl) ?_
  refine W.objInit hx hb hown (hts _ mX3_init_oil) (hts _ mX3_init_oii) (hts _ mX3_init_oic) rfl (by rw [hml]; exact hl.1) rfl dX3_init_1 (Nat.le_of_ble_eq_true rfl) (Nat.le_of_ble_eq_true rfl) ?_
  refine lv_aload_n hx hb dX3_init_4 rfl (lv_at hl 0 rfl) ?_
  refine lv_sipush (v := (256 : Int32)) hx hb dX3_init_5 (by decide) ?_
  obtain ⟨u1, eu1, hf⟩ := ob_s hf
  have lt_a0 := lR_spec eu1
  obtain ⟨⟨h2, sz3, kc3, ks3⟩, e5, hf⟩ := ob_s hf
  try dsimp only at hf
  refine px_newq hx hb hts hown mX3_init_cl_9 hC.2.2.2.1 hK ⟨w, hwf⟩ 4 rfl (by decide) rfl (by decide) e5 hcl hsl dX3_init_8 (fun i4 H cells slots hio w hcl hsl => ?_)
  obtain ⟨w, hwf⟩ := w
  rw [← hio.1 a0 lt_a0] at hl ⊢
  have hag := agr_trans hag hio
  obtain ⟨u7, eu7, hf⟩ := ob_s hf
  obtain ⟨h6, eh6, hf⟩ := ob_s hf
  have hwf := wf_pV hwf eh6 (lR_spec eu7)
  refine px_putF hx hb hts nX3_init_X3 tyX3 tyX3_ok nmX3 hown hK w eh6 rfl (by decide) mX3_init_11 rfl rfl hin0 rfl rfl rfl dX3_init_11 rfl (fun H locs w => ?_)
  obtain ⟨u8, eu8, hf⟩ := ob_s hf
  have lt_a0 := lR_spec eu8
  obtain ⟨⟨h9, sz10, kc10, ks10⟩, e12, hf⟩ := ob_s hf
  try dsimp only at hf
  refine px_new (fs := [.null, .int 0]) hx hb hts nX3_init_X4 tyX4 tyX4_ok hown mX3_init_cl_9 mX3_init_in_9 mX3_init_it_9 hK ⟨w, hwf⟩ rfl dvX3_init_X4 (by decide) e12 hcl hsl dX3_init_14 (fun i11 H cells slots hio w hcl hsl => ?_)
  obtain ⟨w, hwf⟩ := w
  rw [← hio.1 a0 lt_a0] at hl
  have hag := agr_trans hag hio
  refine lv_dup hx hb dX3_init_17 rfl ?_
  refine lv_iconst (v := (1 : Int32)) hx hb dX3_init_18 (by decide) ?_
  obtain ⟨u13, eu13, hf⟩ := ob_s hf
  have lt_a0 := lR_spec eu13
  obtain ⟨u14, eu14, hf⟩ := ob_s hf
  have lt_sz3 := lR_spec eu14
  obtain ⟨⟨kc15, ks15⟩, eb15, hf⟩ := ob_s hf
  try dsimp only at hf
  obtain ⟨⟨h15, sz15⟩, ec15, hf⟩ := ob_s hf
  try dsimp only at hf
  refine px_callI (As := [.int (1 : Int32)]) (rest := [.ref (i11 sz3)]) ⟨hx, hb, hml, hown, hts⟩ hC w (kX4_init l D dA b0 i11 N sz3 (1 : Int32) h9 sz10 h15 sz15 hwf ec15) (cwI 1 hts gX3_init_X4_init rfl rfl rfl (hts _ mX3_init_ci17) (hts _ mX3_init_cm17) (hts _ mX3_init_cn17) rfl (by decide +kernel) ⟨Nat.le_of_ble_eq_true rfl, Nat.le_of_ble_eq_true rfl⟩) eb15 hcl hsl rfl hl.1 rfl (Nat.le_of_ble_eq_true rfl) dX3_init_19 (fun i15 H locs cells slots hio w hwf hcl hsl => ?_)
  rw [← hio.1 a0 lt_a0] at hl
  rw [← hio.1 sz3 lt_sz3]
  have hag := agr_trans hag hio
  refine lv_astore_n (lv' := [(1, .ref (i15 sz3)), (0, .ref (i15 a0))]) hx hb dX3_init_22 rfl hl (by decide) rfl (fun ls hl => ?_)
  refine lv_iconst (v := (0 : Int32)) hx hb dX3_init_23 (by decide) ?_
  refine lv_istore_n (lv' := [(2, .int (0 : Int32)), (1, .ref (i15 sz3)), (0, .ref (i15 a0))]) hx hb dX3_init_24 rfl hl (by decide) rfl (fun ls hl => ?_)
  have hx25 : ∀ (y16 : Int32) (i19 : Nat → Nat) (h17 : Hp) (sz18 kc18 ks18 cells slots : Nat) (H : Heap) (locs : List Loc) (ls : Array Slot), ((lR sz18 a0).bind fun u20 => (lR sz18 sz3).bind fun u21 => (nO h17 sz18 kc18 ks18 5 (.inl (4, 5, .inr (.inr (.inr (.inr (fun _ => none))))))).bind fun (h22, sz23, kc23, ks23) => (lR sz23 sz18).bind fun u27 => (pV h22 a0 5 1 (.ref sz18)).bind fun h26 => lX3_init_99 N a0 sz3 N (0 : Int32) h26 sz23 kc23 ks23 (fun y28 h29 sz30 kc30 ks30 => (lR sz30 a0).bind fun u32 => (lR sz30 sz3).bind fun u33 => (nO h29 sz30 kc30 ks30 4 (.inl (4, 4, .inr (.inr (.inr (.inr (fun _ => none))))))).bind fun (h34, sz35, kc35, ks35) => (lR sz35 sz30).bind fun u39 => (pV h34 a0 5 2 (.ref sz30)).bind fun h38 => lX3_init_135 N a0 sz3 N (0 : Int32) h38 sz35 kc35 ks35 (fun y40 h41 sz42 kc42 ks42 => (lR sz42 a0).bind fun u44 => (lR sz42 sz3).bind fun u45 => (nO h41 sz42 kc42 ks42 3 (.inr (2, [.null, .null, .null]))).bind fun (h46, sz47, kc47, ks47) => (lR sz47 a0).bind fun u50 => (lR sz47 sz3).bind fun u51 => (lR sz47 sz42).bind fun u52 => (bC kc47 ks47 6 207).bind fun (kc53, ks53) => (fX0_init N sz42 h46 sz47).bind fun (h53, sz53) => (lR sz53 sz42).bind fun u55 => (pV h53 a0 5 3 (.ref sz42)).bind fun h54 => (pV h54 a0 5 4 (.int (0 : Int32))).bind fun h56 => some (h56, sz53)))) = some (h', sz') → lv_has ls 5 [(0, .ref (i19 a0)), (1, .ref (i19 sz3)), (2, .int y16)] → WD D dA b0 i19 h17 s.heap H locs → wf h17 sz18 → agr ι sz i19 sz18 → cells + kc18 ≤ (headSpec wsX3_init rmX3_init).room.cells → slots + ks18 ≤ (headSpec wsX3_init rmX3_init).room.slots → W p l e (headSpec wsX3_init rmX3_init).room s m args below meth c H locs cells slots (MQ below (QZ D dA b0 ι sz h' sz') args s 170 5995 (qA b0)) (F0 m 89 ls []) := by
    intro y16 i19 h17 sz18 kc18 ks18 cells slots H locs ls hf hl w hwf hag hcl hsl
    refine lv_aload_n hx hb dX3_init_89 rfl (lv_at hl 0 rfl) ?_
    refine lv_iconst (v := (5 : Int32)) hx hb dX3_init_90 (by decide) ?_
    obtain ⟨u20, eu20, hf⟩ := ob_s hf
    have lt_a0 := lR_spec eu20
    obtain ⟨u21, eu21, hf⟩ := ob_s hf
    have lt_sz3 := lR_spec eu21
    obtain ⟨⟨h22, sz23, kc23, ks23⟩, e25, hf⟩ := ob_s hf
    try dsimp only at hf
    refine px_newq hx hb hts hown mX3_init_cl_9 hC.2.2.2.1 hK ⟨w, hwf⟩ 4 rfl (by decide) rfl (by decide) e25 hcl hsl dX3_init_91 (fun i24 H cells slots hio w hcl hsl => ?_)
    obtain ⟨w, hwf⟩ := w
    rw [← hio.1 a0 lt_a0] at hl ⊢
    rw [← hio.1 sz3 lt_sz3] at hl
    have hag := agr_trans hag hio
    obtain ⟨u27, eu27, hf⟩ := ob_s hf
    obtain ⟨h26, eh26, hf⟩ := ob_s hf
    have hwf := wf_pV hwf eh26 (lR_spec eu27)
    refine px_putF hx hb hts nX3_init_X3 tyX3 tyX3_ok nmX3 hown hK w eh26 rfl (by decide) mX3_init_26 rfl rfl hin0 rfl rfl rfl dX3_init_94 rfl (fun H locs w => ?_)
    refine lv_iconst (v := (0 : Int32)) hx hb dX3_init_97 (by decide) ?_
    refine lv_istore_n (lv' := [(2, .int (0 : Int32)), (0, .ref (i24 a0)), (1, .ref (i24 sz3))]) hx hb dX3_init_98 rfl hl (by decide) rfl (fun ls hl => ?_)
    have hx99 : ∀ (y28 : Int32) (i31 : Nat → Nat) (h29 : Hp) (sz30 kc30 ks30 cells slots : Nat) (H : Heap) (locs : List Loc) (ls : Array Slot), ((lR sz30 a0).bind fun u32 => (lR sz30 sz3).bind fun u33 => (nO h29 sz30 kc30 ks30 4 (.inl (4, 4, .inr (.inr (.inr (.inr (fun _ => none))))))).bind fun (h34, sz35, kc35, ks35) => (lR sz35 sz30).bind fun u39 => (pV h34 a0 5 2 (.ref sz30)).bind fun h38 => lX3_init_135 N a0 sz3 N (0 : Int32) h38 sz35 kc35 ks35 (fun y40 h41 sz42 kc42 ks42 => (lR sz42 a0).bind fun u44 => (lR sz42 sz3).bind fun u45 => (nO h41 sz42 kc42 ks42 3 (.inr (2, [.null, .null, .null]))).bind fun (h46, sz47, kc47, ks47) => (lR sz47 a0).bind fun u50 => (lR sz47 sz3).bind fun u51 => (lR sz47 sz42).bind fun u52 => (bC kc47 ks47 6 207).bind fun (kc53, ks53) => (fX0_init N sz42 h46 sz47).bind fun (h53, sz53) => (lR sz53 sz42).bind fun u55 => (pV h53 a0 5 3 (.ref sz42)).bind fun h54 => (pV h54 a0 5 4 (.int (0 : Int32))).bind fun h56 => some (h56, sz53))) = some (h', sz') → lv_has ls 5 [(0, .ref (i31 a0)), (1, .ref (i31 sz3)), (2, .int y28)] → WD D dA b0 i31 h29 s.heap H locs → wf h29 sz30 → agr ι sz i31 sz30 → cells + kc30 ≤ (headSpec wsX3_init rmX3_init).room.cells → slots + ks30 ≤ (headSpec wsX3_init rmX3_init).room.slots → W p l e (headSpec wsX3_init rmX3_init).room s m args below meth c H locs cells slots (MQ below (QZ D dA b0 ι sz h' sz') args s 170 5995 (qA b0)) (F0 m 125 ls []) := by
      intro y28 i31 h29 sz30 kc30 ks30 cells slots H locs ls hf hl w hwf hag hcl hsl
      refine lv_aload_n hx hb dX3_init_125 rfl (lv_at hl 0 rfl) ?_
      refine lv_iconst (v := (4 : Int32)) hx hb dX3_init_126 (by decide) ?_
      obtain ⟨u32, eu32, hf⟩ := ob_s hf
      have lt_a0 := lR_spec eu32
      obtain ⟨u33, eu33, hf⟩ := ob_s hf
      have lt_sz3 := lR_spec eu33
      obtain ⟨⟨h34, sz35, kc35, ks35⟩, e37, hf⟩ := ob_s hf
      try dsimp only at hf
      refine px_newq hx hb hts hown mX3_init_cl_9 hC.2.2.2.1 hK ⟨w, hwf⟩ 4 rfl (by decide) rfl (by decide) e37 hcl hsl dX3_init_127 (fun i36 H cells slots hio w hcl hsl => ?_)
      obtain ⟨w, hwf⟩ := w
      rw [← hio.1 a0 lt_a0] at hl ⊢
      rw [← hio.1 sz3 lt_sz3] at hl
      have hag := agr_trans hag hio
      obtain ⟨u39, eu39, hf⟩ := ob_s hf
      obtain ⟨h38, eh38, hf⟩ := ob_s hf
      have hwf := wf_pV hwf eh38 (lR_spec eu39)
      refine px_putF hx hb hts nX3_init_X3 tyX3 tyX3_ok nmX3 hown hK w eh38 rfl (by decide) mX3_init_29 rfl rfl hin0 rfl rfl rfl dX3_init_130 rfl (fun H locs w => ?_)
      refine lv_iconst (v := (0 : Int32)) hx hb dX3_init_133 (by decide) ?_
      refine lv_istore_n (lv' := [(2, .int (0 : Int32)), (0, .ref (i36 a0)), (1, .ref (i36 sz3))]) hx hb dX3_init_134 rfl hl (by decide) rfl (fun ls hl => ?_)
      have hx135 : ∀ (y40 : Int32) (i43 : Nat → Nat) (h41 : Hp) (sz42 kc42 ks42 cells slots : Nat) (H : Heap) (locs : List Loc) (ls : Array Slot), ((lR sz42 a0).bind fun u44 => (lR sz42 sz3).bind fun u45 => (nO h41 sz42 kc42 ks42 3 (.inr (2, [.null, .null, .null]))).bind fun (h46, sz47, kc47, ks47) => (lR sz47 a0).bind fun u50 => (lR sz47 sz3).bind fun u51 => (lR sz47 sz42).bind fun u52 => (bC kc47 ks47 6 207).bind fun (kc53, ks53) => (fX0_init N sz42 h46 sz47).bind fun (h53, sz53) => (lR sz53 sz42).bind fun u55 => (pV h53 a0 5 3 (.ref sz42)).bind fun h54 => (pV h54 a0 5 4 (.int (0 : Int32))).bind fun h56 => some (h56, sz53)) = some (h', sz') → lv_has ls 5 [(0, .ref (i43 a0)), (1, .ref (i43 sz3)), (2, .int y40)] → WD D dA b0 i43 h41 s.heap H locs → wf h41 sz42 → agr ι sz i43 sz42 → cells + kc42 ≤ (headSpec wsX3_init rmX3_init).room.cells → slots + ks42 ≤ (headSpec wsX3_init rmX3_init).room.slots → W p l e (headSpec wsX3_init rmX3_init).room s m args below meth c H locs cells slots (MQ below (QZ D dA b0 ι sz h' sz') args s 170 5995 (qA b0)) (F0 m 161 ls []) := by
        intro y40 i43 h41 sz42 kc42 ks42 cells slots H locs ls hf hl w hwf hag hcl hsl
        refine lv_aload_n hx hb dX3_init_161 rfl (lv_at hl 0 rfl) ?_
        obtain ⟨u44, eu44, hf⟩ := ob_s hf
        have lt_a0 := lR_spec eu44
        obtain ⟨u45, eu45, hf⟩ := ob_s hf
        have lt_sz3 := lR_spec eu45
        obtain ⟨⟨h46, sz47, kc47, ks47⟩, e49, hf⟩ := ob_s hf
        try dsimp only at hf
        refine px_new (fs := [.null, .null, .null]) hx hb hts nX3_init_X0 tyX0 tyX0_ok hown mX3_init_cl_32 mX3_init_in_32 mX3_init_it_32 hK ⟨w, hwf⟩ rfl dvX3_init_X0 (by decide) e49 hcl hsl dX3_init_162 (fun i48 H cells slots hio w hcl hsl => ?_)
        obtain ⟨w, hwf⟩ := w
        rw [← hio.1 a0 lt_a0] at hl ⊢
        rw [← hio.1 sz3 lt_sz3] at hl
        have hag := agr_trans hag hio
        refine lv_dup hx hb dX3_init_165 rfl ?_
        obtain ⟨u50, eu50, hf⟩ := ob_s hf
        have lt_a0 := lR_spec eu50
        obtain ⟨u51, eu51, hf⟩ := ob_s hf
        have lt_sz3 := lR_spec eu51
        obtain ⟨u52, eu52, hf⟩ := ob_s hf
        have lt_sz42 := lR_spec eu52
        obtain ⟨⟨kc53, ks53⟩, eb53, hf⟩ := ob_s hf
        try dsimp only at hf
        obtain ⟨⟨h53, sz53⟩, ec53, hf⟩ := ob_s hf
        try dsimp only at hf
        refine px_callI (As := []) (rest := [.ref (i48 sz42), .ref (i48 a0)]) ⟨hx, hb, hml, hown, hts⟩ hC w (kX0_init l D dA b0 i48 N sz42 h46 sz47 h53 sz53 hwf ec53) (cwI 0 hts gX3_init_X0_init rfl rfl rfl (hts _ mX3_init_ci34) (hts _ mX3_init_cm34) (hts _ mX3_init_cn34) rfl (by decide +kernel) ⟨Nat.le_of_ble_eq_true rfl, Nat.le_of_ble_eq_true rfl⟩) eb53 hcl hsl rfl hl.1 rfl (Nat.le_of_ble_eq_true rfl) dX3_init_166 (fun i53 H locs cells slots hio w hwf hcl hsl => ?_)
        rw [← hio.1 a0 lt_a0] at hl ⊢
        rw [← hio.1 sz3 lt_sz3] at hl
        rw [← hio.1 sz42 lt_sz42]
        have hag := agr_trans hag hio
        obtain ⟨u55, eu55, hf⟩ := ob_s hf
        obtain ⟨h54, eh54, hf⟩ := ob_s hf
        have hwf := wf_pV hwf eh54 (lR_spec eu55)
        refine px_putF hx hb hts nX3_init_X3 tyX3 tyX3_ok nmX3 hown hK w eh54 rfl (by decide) mX3_init_35 rfl rfl hin0 rfl rfl rfl dX3_init_169 rfl (fun H locs w => ?_)
        refine lv_aload_n hx hb dX3_init_172 rfl (lv_at hl 0 rfl) ?_
        refine lv_iconst (v := (0 : Int32)) hx hb dX3_init_173 (by decide) ?_
        obtain ⟨h56, eh56, hf⟩ := ob_s hf
        have hwf := wf_pV hwf eh56 trivial
        refine px_put hx hb hts nX3_init_X3 tyX3 tyX3_ok nmX3 hown hK w eh56 rfl (by decide) mX3_init_39 rfl rfl rfl rfl dX3_init_174 rfl (fun H locs w => ?_)
        refine W.widen (k := 170) (n := 5995) (Nat.le_trans (Nat.le_add_right _ _) hcl) (Nat.le_trans (Nat.le_add_right _ _) hsl) ?_
        exact W.vret hx hb hr (qz_end hf w hwf hag hC) w.locs_ok dX3_init_177
      obtain ⟨κ135, eκ135⟩ : ∃ k : Int32 → Hp → Nat → Nat → Nat → Option (Hp × Nat), k = (fun y40 h41 sz42 kc42 ks42 => (lR sz42 a0).bind fun u44 => (lR sz42 sz3).bind fun u45 => (nO h41 sz42 kc42 ks42 3 (.inr (2, [.null, .null, .null]))).bind fun (h46, sz47, kc47, ks47) => (lR sz47 a0).bind fun u50 => (lR sz47 sz3).bind fun u51 => (lR sz47 sz42).bind fun u52 => (bC kc47 ks47 6 207).bind fun (kc53, ks53) => (fX0_init N sz42 h46 sz47).bind fun (h53, sz53) => (lR sz53 sz42).bind fun u55 => (pV h53 a0 5 3 (.ref sz42)).bind fun h54 => (pV h54 a0 5 4 (.int (0 : Int32))).bind fun h56 => some (h56, sz53)) := ⟨_, rfl⟩
      have hlp135 : ∀ (n : Nat) (z77 : Int32) (i80 : Nat → Nat) (h78 : Hp) (sz79 kc79 ks79 cells slots : Nat) (H : Heap) (locs : List Loc) (ls : Array Slot), lX3_init_135 N a0 sz3 n z77 h78 sz79 kc79 ks79 κ135 = some (h', sz') → lv_has ls 5 [(0, .ref (i80 a0)), (1, .ref (i80 sz3)), (2, .int z77)] → WD D dA b0 i80 h78 s.heap H locs → wf h78 sz79 → agr ι sz i80 sz79 → cells + kc79 ≤ (headSpec wsX3_init rmX3_init).room.cells → slots + ks79 ≤ (headSpec wsX3_init rmX3_init).room.slots → W p l e (headSpec wsX3_init rmX3_init).room s m args below meth c H locs cells slots (MQ below (QZ D dA b0 ι sz h' sz') args s 170 5995 (qA b0)) (F0 m 135 ls []) := by
        intro n135
        induction n135 with
        | zero => intro z77 i80 h78 sz79 kc79 ks79 cells slots H locs ls hf; exact absurd hf (by rw [lX3_init_135]; exact fun q => nomatch q)
        | succ n135 ih135 =>
          intro z77 i80 h78 sz79 kc79 ks79 cells slots H locs ls hf hl w hwf hag hcl hsl
          rw [lX3_init_135] at hf
          refine lv_iload_n hx hb dX3_init_135 rfl (lv_at hl 2 rfl) ?_
          refine lv_iconst (v := (4 : Int32)) hx hb dX3_init_136 (by decide) ?_
          refine lv_icmp_ge (tgt := 161) hx hb dX3_init_137 (by decide) (fun c81 => ?_) (fun c81 => ?_)
          · have hf := if_t hf c81
            exact hx135 z77 i80 h78 sz79 kc79 ks79 _ _ H locs ls (by rw [eκ135] at hf; exact hf) (lv_sub hl [0, 1, 2] rfl) w hwf hag hcl hsl
          · have hf := if_f hf c81
            refine lv_aload_n hx hb dX3_init_140 rfl (lv_at hl 0 rfl) ?_
            obtain ⟨v82, ev82, hf⟩ := ob_s hf
            refine px_getR hx hb hts nX3_init_X3 hown hK w ev82 rfl (by decide) mX3_init_29 rfl dX3_init_141 ?_
            refine lv_iload_n hx hb dX3_init_144 rfl (lv_at hl 2 rfl) ?_
            obtain ⟨u83, eu83, hf⟩ := ob_s hf
            have lt_a0 := lR_spec eu83
            obtain ⟨u84, eu84, hf⟩ := ob_s hf
            have lt_sz3 := lR_spec eu84
            obtain ⟨u85, eu85, hf⟩ := ob_s hf
            have lt_v82 := lR_spec eu85
            obtain ⟨⟨h86, sz87, kc87, ks87⟩, e89, hf⟩ := ob_s hf
            try dsimp only at hf
            refine px_new (fs := [.null, .int 0]) hx hb hts nX3_init_X4 tyX4 tyX4_ok hown mX3_init_cl_9 mX3_init_in_9 mX3_init_it_9 hK ⟨w, hwf⟩ rfl dvX3_init_X4 (by decide) e89 hcl hsl dX3_init_145 (fun i88 H cells slots hio w hcl hsl => ?_)
            obtain ⟨w, hwf⟩ := w
            rw [← hio.1 a0 lt_a0] at hl
            rw [← hio.1 sz3 lt_sz3] at hl
            rw [← hio.1 v82 lt_v82]
            have hag := agr_trans hag hio
            refine lv_dup hx hb dX3_init_148 rfl ?_
            refine lv_bipush (v := (13 : Int32)) hx hb dX3_init_149 (by decide) ?_
            obtain ⟨u90, eu90, hf⟩ := ob_s hf
            have lt_a0 := lR_spec eu90
            obtain ⟨u91, eu91, hf⟩ := ob_s hf
            have lt_sz3 := lR_spec eu91
            obtain ⟨u92, eu92, hf⟩ := ob_s hf
            have lt_v82 := lR_spec eu92
            obtain ⟨u93, eu93, hf⟩ := ob_s hf
            have lt_sz79 := lR_spec eu93
            obtain ⟨⟨kc94, ks94⟩, eb94, hf⟩ := ob_s hf
            try dsimp only at hf
            obtain ⟨⟨h94, sz94⟩, ec94, hf⟩ := ob_s hf
            try dsimp only at hf
            refine px_callI (As := [.int (13 : Int32)]) (rest := [.ref (i88 sz79), .int z77, .ref (i88 v82)]) ⟨hx, hb, hml, hown, hts⟩ hC w (kX4_init l D dA b0 i88 N sz79 (13 : Int32) h86 sz87 h94 sz94 hwf ec94) (cwI 1 hts gX3_init_X4_init rfl rfl rfl (hts _ mX3_init_ci17) (hts _ mX3_init_cm17) (hts _ mX3_init_cn17) rfl (by decide +kernel) ⟨Nat.le_of_ble_eq_true rfl, Nat.le_of_ble_eq_true rfl⟩) eb94 hcl hsl rfl hl.1 rfl (Nat.le_of_ble_eq_true rfl) dX3_init_151 (fun i94 H locs cells slots hio w hwf hcl hsl => ?_)
            rw [← hio.1 a0 lt_a0] at hl
            rw [← hio.1 sz3 lt_sz3] at hl
            rw [← hio.1 v82 lt_v82]
            rw [← hio.1 sz79 lt_sz79]
            have hag := agr_trans hag hio
            obtain ⟨u96, eu96, hf⟩ := ob_s hf
            obtain ⟨h95, eh95, hf⟩ := ob_s hf
            have hwf := wf_aRs hwf eh95 (lR_spec eu96)
            refine px_rast hx hb hK w eh95 rfl rfl dX3_init_154 (fun H locs w => ?_)
            obtain ⟨x97, ex97, hf⟩ := nm_s hf
            refine lv_iinc (v := x97) (lv' := [(2, .int x97), (0, .ref (i94 a0)), (1, .ref (i94 sz3))]) hx hb dX3_init_155 hl (k := 2) rfl (by rw [ex97]; rfl) (by decide) rfl (fun ls hl => ?_)
            refine lv_goto (tgt := 135) hx hb dX3_init_158 (by decide) ?_
            exact ih135 x97 i94 h95 sz94 kc94 ks94 _ _ H locs ls hf (lv_sub hl [1, 2, 0] rfl) w hwf hag hcl hsl
      exact hlp135 N (0 : Int32) i36 h38 sz35 kc35 ks35 _ _ H locs ls (by rw [eκ135]; exact hf) (lv_sub hl [1, 2, 0] rfl) w hwf hag hcl hsl
    obtain ⟨κ99, eκ99⟩ : ∃ k : Int32 → Hp → Nat → Nat → Nat → Option (Hp × Nat), k = (fun y28 h29 sz30 kc30 ks30 => (lR sz30 a0).bind fun u32 => (lR sz30 sz3).bind fun u33 => (nO h29 sz30 kc30 ks30 4 (.inl (4, 4, .inr (.inr (.inr (.inr (fun _ => none))))))).bind fun (h34, sz35, kc35, ks35) => (lR sz35 sz30).bind fun u39 => (pV h34 a0 5 2 (.ref sz30)).bind fun h38 => lX3_init_135 N a0 sz3 N (0 : Int32) h38 sz35 kc35 ks35 (fun y40 h41 sz42 kc42 ks42 => (lR sz42 a0).bind fun u44 => (lR sz42 sz3).bind fun u45 => (nO h41 sz42 kc42 ks42 3 (.inr (2, [.null, .null, .null]))).bind fun (h46, sz47, kc47, ks47) => (lR sz47 a0).bind fun u50 => (lR sz47 sz3).bind fun u51 => (lR sz47 sz42).bind fun u52 => (bC kc47 ks47 6 207).bind fun (kc53, ks53) => (fX0_init N sz42 h46 sz47).bind fun (h53, sz53) => (lR sz53 sz42).bind fun u55 => (pV h53 a0 5 3 (.ref sz42)).bind fun h54 => (pV h54 a0 5 4 (.int (0 : Int32))).bind fun h56 => some (h56, sz53))) := ⟨_, rfl⟩
    have hlp99 : ∀ (n : Nat) (z118 : Int32) (i121 : Nat → Nat) (h119 : Hp) (sz120 kc120 ks120 cells slots : Nat) (H : Heap) (locs : List Loc) (ls : Array Slot), lX3_init_99 N a0 sz3 n z118 h119 sz120 kc120 ks120 κ99 = some (h', sz') → lv_has ls 5 [(0, .ref (i121 a0)), (1, .ref (i121 sz3)), (2, .int z118)] → WD D dA b0 i121 h119 s.heap H locs → wf h119 sz120 → agr ι sz i121 sz120 → cells + kc120 ≤ (headSpec wsX3_init rmX3_init).room.cells → slots + ks120 ≤ (headSpec wsX3_init rmX3_init).room.slots → W p l e (headSpec wsX3_init rmX3_init).room s m args below meth c H locs cells slots (MQ below (QZ D dA b0 ι sz h' sz') args s 170 5995 (qA b0)) (F0 m 99 ls []) := by
      intro n99
      induction n99 with
      | zero => intro z118 i121 h119 sz120 kc120 ks120 cells slots H locs ls hf; exact absurd hf (by rw [lX3_init_99]; exact fun q => nomatch q)
      | succ n99 ih99 =>
        intro z118 i121 h119 sz120 kc120 ks120 cells slots H locs ls hf hl w hwf hag hcl hsl
        rw [lX3_init_99] at hf
        refine lv_iload_n hx hb dX3_init_99 rfl (lv_at hl 2 rfl) ?_
        refine lv_iconst (v := (4 : Int32)) hx hb dX3_init_100 (by decide) ?_
        refine lv_icmp_gt (tgt := 125) hx hb dX3_init_101 (by decide) (fun c122 => ?_) (fun c122 => ?_)
        · have hf := if_t hf c122
          exact hx99 z118 i121 h119 sz120 kc120 ks120 _ _ H locs ls (by rw [eκ99] at hf; exact hf) (lv_sub hl [0, 1, 2] rfl) w hwf hag hcl hsl
        · have hf := if_f hf c122
          refine lv_aload_n hx hb dX3_init_104 rfl (lv_at hl 0 rfl) ?_
          obtain ⟨v123, ev123, hf⟩ := ob_s hf
          refine px_getR hx hb hts nX3_init_X3 hown hK w ev123 rfl (by decide) mX3_init_26 rfl dX3_init_105 ?_
          refine lv_iload_n hx hb dX3_init_108 rfl (lv_at hl 2 rfl) ?_
          obtain ⟨u124, eu124, hf⟩ := ob_s hf
          have lt_a0 := lR_spec eu124
          obtain ⟨u125, eu125, hf⟩ := ob_s hf
          have lt_sz3 := lR_spec eu125
          obtain ⟨u126, eu126, hf⟩ := ob_s hf
          have lt_v123 := lR_spec eu126
          obtain ⟨⟨h127, sz128, kc128, ks128⟩, e130, hf⟩ := ob_s hf
          try dsimp only at hf
          refine px_new (fs := [.null, .int 0]) hx hb hts nX3_init_X4 tyX4 tyX4_ok hown mX3_init_cl_9 mX3_init_in_9 mX3_init_it_9 hK ⟨w, hwf⟩ rfl dvX3_init_X4 (by decide) e130 hcl hsl dX3_init_109 (fun i129 H cells slots hio w hcl hsl => ?_)
          obtain ⟨w, hwf⟩ := w
          rw [← hio.1 a0 lt_a0] at hl
          rw [← hio.1 sz3 lt_sz3] at hl
          rw [← hio.1 v123 lt_v123]
          have hag := agr_trans hag hio
          refine lv_dup hx hb dX3_init_112 rfl ?_
          refine lv_bipush (v := (13 : Int32)) hx hb dX3_init_113 (by decide) ?_
          obtain ⟨u131, eu131, hf⟩ := ob_s hf
          have lt_a0 := lR_spec eu131
          obtain ⟨u132, eu132, hf⟩ := ob_s hf
          have lt_sz3 := lR_spec eu132
          obtain ⟨u133, eu133, hf⟩ := ob_s hf
          have lt_v123 := lR_spec eu133
          obtain ⟨u134, eu134, hf⟩ := ob_s hf
          have lt_sz120 := lR_spec eu134
          obtain ⟨⟨kc135, ks135⟩, eb135, hf⟩ := ob_s hf
          try dsimp only at hf
          obtain ⟨⟨h135, sz135⟩, ec135, hf⟩ := ob_s hf
          try dsimp only at hf
          refine px_callI (As := [.int (13 : Int32)]) (rest := [.ref (i129 sz120), .int z118, .ref (i129 v123)]) ⟨hx, hb, hml, hown, hts⟩ hC w (kX4_init l D dA b0 i129 N sz120 (13 : Int32) h127 sz128 h135 sz135 hwf ec135) (cwI 1 hts gX3_init_X4_init rfl rfl rfl (hts _ mX3_init_ci17) (hts _ mX3_init_cm17) (hts _ mX3_init_cn17) rfl (by decide +kernel) ⟨Nat.le_of_ble_eq_true rfl, Nat.le_of_ble_eq_true rfl⟩) eb135 hcl hsl rfl hl.1 rfl (Nat.le_of_ble_eq_true rfl) dX3_init_115 (fun i135 H locs cells slots hio w hwf hcl hsl => ?_)
          rw [← hio.1 a0 lt_a0] at hl
          rw [← hio.1 sz3 lt_sz3] at hl
          rw [← hio.1 v123 lt_v123]
          rw [← hio.1 sz120 lt_sz120]
          have hag := agr_trans hag hio
          obtain ⟨u137, eu137, hf⟩ := ob_s hf
          obtain ⟨h136, eh136, hf⟩ := ob_s hf
          have hwf := wf_aRs hwf eh136 (lR_spec eu137)
          refine px_rast hx hb hK w eh136 rfl rfl dX3_init_118 (fun H locs w => ?_)
          obtain ⟨x138, ex138, hf⟩ := nm_s hf
          refine lv_iinc (v := x138) (lv' := [(2, .int x138), (0, .ref (i135 a0)), (1, .ref (i135 sz3))]) hx hb dX3_init_119 hl (k := 2) rfl (by rw [ex138]; rfl) (by decide) rfl (fun ls hl => ?_)
          refine lv_goto (tgt := 99) hx hb dX3_init_122 (by decide) ?_
          exact ih99 x138 i135 h136 sz135 kc135 ks135 _ _ H locs ls hf (lv_sub hl [1, 2, 0] rfl) w hwf hag hcl hsl
    exact hlp99 N (0 : Int32) i24 h26 sz23 kc23 ks23 _ _ H locs ls (by rw [eκ99]; exact hf) (lv_sub hl [1, 2, 0] rfl) w hwf hag hcl hsl
  obtain ⟨κ25, eκ25⟩ : ∃ k : Int32 → Hp → Nat → Nat → Nat → Option (Hp × Nat), k = (fun y16 h17 sz18 kc18 ks18 => (lR sz18 a0).bind fun u20 => (lR sz18 sz3).bind fun u21 => (nO h17 sz18 kc18 ks18 5 (.inl (4, 5, .inr (.inr (.inr (.inr (fun _ => none))))))).bind fun (h22, sz23, kc23, ks23) => (lR sz23 sz18).bind fun u27 => (pV h22 a0 5 1 (.ref sz18)).bind fun h26 => lX3_init_99 N a0 sz3 N (0 : Int32) h26 sz23 kc23 ks23 (fun y28 h29 sz30 kc30 ks30 => (lR sz30 a0).bind fun u32 => (lR sz30 sz3).bind fun u33 => (nO h29 sz30 kc30 ks30 4 (.inl (4, 4, .inr (.inr (.inr (.inr (fun _ => none))))))).bind fun (h34, sz35, kc35, ks35) => (lR sz35 sz30).bind fun u39 => (pV h34 a0 5 2 (.ref sz30)).bind fun h38 => lX3_init_135 N a0 sz3 N (0 : Int32) h38 sz35 kc35 ks35 (fun y40 h41 sz42 kc42 ks42 => (lR sz42 a0).bind fun u44 => (lR sz42 sz3).bind fun u45 => (nO h41 sz42 kc42 ks42 3 (.inr (2, [.null, .null, .null]))).bind fun (h46, sz47, kc47, ks47) => (lR sz47 a0).bind fun u50 => (lR sz47 sz3).bind fun u51 => (lR sz47 sz42).bind fun u52 => (bC kc47 ks47 6 207).bind fun (kc53, ks53) => (fX0_init N sz42 h46 sz47).bind fun (h53, sz53) => (lR sz53 sz42).bind fun u55 => (pV h53 a0 5 3 (.ref sz42)).bind fun h54 => (pV h54 a0 5 4 (.int (0 : Int32))).bind fun h56 => some (h56, sz53)))) := ⟨_, rfl⟩
  have hlp25 : ∀ (n : Nat) (z177 : Int32) (i180 : Nat → Nat) (h178 : Hp) (sz179 kc179 ks179 cells slots : Nat) (H : Heap) (locs : List Loc) (ls : Array Slot), lX3_init_25 N a0 sz3 n z177 h178 sz179 kc179 ks179 κ25 = some (h', sz') → lv_has ls 5 [(0, .ref (i180 a0)), (1, .ref (i180 sz3)), (2, .int z177)] → WD D dA b0 i180 h178 s.heap H locs → wf h178 sz179 → agr ι sz i180 sz179 → cells + kc179 ≤ (headSpec wsX3_init rmX3_init).room.cells → slots + ks179 ≤ (headSpec wsX3_init rmX3_init).room.slots → W p l e (headSpec wsX3_init rmX3_init).room s m args below meth c H locs cells slots (MQ below (QZ D dA b0 ι sz h' sz') args s 170 5995 (qA b0)) (F0 m 25 ls []) := by
    intro n25
    induction n25 with
    | zero => intro z177 i180 h178 sz179 kc179 ks179 cells slots H locs ls hf; exact absurd hf (by rw [lX3_init_25]; exact fun q => nomatch q)
    | succ n25 ih25 =>
      intro z177 i180 h178 sz179 kc179 ks179 cells slots H locs ls hf hl w hwf hag hcl hsl
      rw [lX3_init_25] at hf
      refine lv_iload_n hx hb dX3_init_25 rfl (lv_at hl 2 rfl) ?_
      refine lv_aload_n hx hb dX3_init_26 rfl (lv_at hl 0 rfl) ?_
      obtain ⟨v181, ev181, hf⟩ := ob_s hf
      refine px_getR hx hb hts nX3_init_X3 hown hK w ev181 rfl (by decide) mX3_init_11 rfl dX3_init_27 ?_
      obtain ⟨v182, ev182, hf⟩ := ob_s hf
      refine px_alen hx hb hK w ev182 rfl dX3_init_30 ?_
      refine lv_icmp_ge (tgt := 89) hx hb dX3_init_31 (by decide) (fun c183 => ?_) (fun c183 => ?_)
      · have hf := if_t hf c183
        exact hx25 z177 i180 h178 sz179 kc179 ks179 _ _ H locs ls (by rw [eκ25] at hf; exact hf) (lv_sub hl [0, 1, 2] rfl) w hwf hag hcl hsl
      · have hf := if_f hf c183
        refine lv_iload_n hx hb dX3_init_34 rfl (lv_at hl 2 rfl) ?_
        refine lv_iconst (v := (4 : Int32)) hx hb dX3_init_35 (by decide) ?_
        refine lv_ishr hx hb dX3_init_36 ?_
        obtain ⟨⟨v184, h185⟩, eh185, hf⟩ := ob_s hf
        try dsimp only at hf
        have hbc := bitCount_h eh185
        subst hbc
        refine px_callSi (As := [.int (z177 >>> ((4 : Int32) &&& 31))]) (rest := []) ⟨hx, hb, hml, hown, hts⟩ hC w (kJ6_bitCount_0f7a4 l D dA b0 i180 N (z177 >>> ((4 : Int32) &&& 31)) h178 v184 h178 eh185) (va_cwS 1 hts gX3_init_J6_bitCount_0f7a4 rfl rfl rfl (by decide +kernel) ⟨Nat.le_of_ble_eq_true rfl, Nat.le_of_ble_eq_true rfl⟩) rfl hl.1 rfl (Nat.le_of_ble_eq_true rfl) dX3_init_37 ⟨Nat.le_trans (Nat.le_add_right _ _) hcl, Nat.le_trans (Nat.le_add_right _ _) hsl⟩ (fun H locs w => ?_)
        refine lv_istore_n (lv' := [(3, .int v184), (0, .ref (i180 a0)), (1, .ref (i180 sz3)), (2, .int z177)]) hx hb dX3_init_40 rfl hl (by decide) rfl (fun ls hl => ?_)
        refine lv_iload_n hx hb dX3_init_41 rfl (lv_at hl 0 rfl) ?_
        refine lv_iload_n hx hb dX3_init_42 rfl (lv_at hl 3 rfl) ?_
        refine lv_bipush (v := (15 : Int32)) hx hb dX3_init_43 (by decide) ?_
        refine lv_iand hx hb dX3_init_45 ?_
        obtain ⟨⟨v186, h187⟩, eh187, hf⟩ := ob_s hf
        try dsimp only at hf
        have hbc := bitCount_h eh187
        subst hbc
        refine px_callSi (As := [.int (z177 &&& (15 : Int32))]) (rest := [.int v184]) ⟨hx, hb, hml, hown, hts⟩ hC w (kJ6_bitCount_0f7a4 l D dA b0 i180 N (z177 &&& (15 : Int32)) h178 v186 h178 eh187) (va_cwS 1 hts gX3_init_J6_bitCount_0f7a4 rfl rfl rfl (by decide +kernel) ⟨Nat.le_of_ble_eq_true rfl, Nat.le_of_ble_eq_true rfl⟩) rfl hl.1 rfl (Nat.le_of_ble_eq_true rfl) dX3_init_46 ⟨Nat.le_trans (Nat.le_add_right _ _) hcl, Nat.le_trans (Nat.le_add_right _ _) hsl⟩ (fun H locs w => ?_)
        have hj57 : ∀ (t190 : Int32) (i192 : Nat → Nat) (h189 : Hp) (sz191 kc191 ks191 cells slots : Nat) (H : Heap) (locs : List Loc) (ls : Array Slot), ((gR h189 a0 5 0).bind fun v193 => jn (fun (t196 : Nat) (h195 : Hp) (sz197 kc197 ks197 : Nat) => (lR sz197 t196).bind fun u200 => (aRs h195 v193 4 6 z177 t196).bind fun h199 => nm (z177 + (1 : Int32)) fun x201 => lX3_init_25 N a0 sz3 n25 x201 h199 sz197 kc197 ks197 κ25) fun (j194 : Nat → Hp → Nat → Nat → Nat → Option (Hp × Nat)) => if t190 = 0 then j194 sz3 h189 sz191 kc191 ks191 else (lR sz191 a0).bind fun u203 => (lR sz191 sz3).bind fun u204 => (lR sz191 v193).bind fun u205 => (nO h189 sz191 kc191 ks191 2 (.inr (6, [.null, .int 0]))).bind fun (h206, sz207, kc207, ks207) => (lR sz207 a0).bind fun u210 => (lR sz207 sz3).bind fun u211 => (lR sz207 v193).bind fun u212 => (lR sz207 sz191).bind fun u213 => (bC kc207 ks207 1 67).bind fun (kc214, ks214) => (fX4_init N sz191 (13 : Int32) h206 sz207).bind fun (h214, sz214) => j194 sz191 h214 sz214 kc214 ks214) = some (h', sz') → lv_has ls 5 [(0, .ref (i192 a0)), (1, .ref (i192 sz3)), (2, .int z177), (3, .int v184)] → WD D dA b0 i192 h189 s.heap H locs → wf h189 sz191 → agr ι sz i192 sz191 → cells + kc191 ≤ (headSpec wsX3_init rmX3_init).room.cells → slots + ks191 ≤ (headSpec wsX3_init rmX3_init).room.slots → W p l e (headSpec wsX3_init rmX3_init).room s m args below meth c H locs cells slots (MQ below (QZ D dA b0 ι sz h' sz') args s 170 5995 (qA b0)) (F0 m 57 ls [.int t190]) := by
          intro t190 i192 h189 sz191 kc191 ks191 cells slots H locs ls hf hl w hwf hag hcl hsl
          refine lv_istore (lv' := [(4, .int t190), (0, .ref (i192 a0)), (1, .ref (i192 sz3)), (2, .int z177), (3, .int v184)]) hx hb dX3_init_57 hl (by decide) rfl (fun ls hl => ?_)
          refine lv_aload_n hx hb dX3_init_59 rfl (lv_at hl 1 rfl) ?_
          obtain ⟨v193, ev193, hf⟩ := ob_s hf
          refine px_getR hx hb hts nX3_init_X3 hown hK w ev193 rfl (by decide) mX3_init_11 rfl dX3_init_60 ?_
          refine lv_iload_n hx hb dX3_init_63 rfl (lv_at hl 3 rfl) ?_
          refine lv_iload hx hb dX3_init_64 (lv_at hl 0 rfl) ?_
          have hj82 : ∀ (t196 : Nat) (i198 : Nat → Nat) (h195 : Hp) (sz197 kc197 ks197 cells slots : Nat) (H : Heap) (locs : List Loc) (ls : Array Slot), ((lR sz197 t196).bind fun u200 => (aRs h195 v193 4 6 z177 t196).bind fun h199 => nm (z177 + (1 : Int32)) fun x201 => lX3_init_25 N a0 sz3 n25 x201 h199 sz197 kc197 ks197 κ25) = some (h', sz') → lv_has ls 5 [(0, .ref (i198 a0)), (1, .ref (i198 sz3)), (2, .int z177), (3, .int v184), (4, .int t190)] → WD D dA b0 i198 h195 s.heap H locs → wf h195 sz197 → agr ι sz i198 sz197 → cells + kc197 ≤ (headSpec wsX3_init rmX3_init).room.cells → slots + ks197 ≤ (headSpec wsX3_init rmX3_init).room.slots → W p l e (headSpec wsX3_init rmX3_init).room s m args below meth c H locs cells slots (MQ below (QZ D dA b0 ι sz h' sz') args s 170 5995 (qA b0)) (F0 m 82 ls [.ref (i198 t196), .int z177, .ref (i198 v193)]) := by
            intro t196 i198 h195 sz197 kc197 ks197 cells slots H locs ls hf hl w hwf hag hcl hsl
            obtain ⟨u200, eu200, hf⟩ := ob_s hf
            obtain ⟨h199, eh199, hf⟩ := ob_s hf
            have hwf := wf_aRs hwf eh199 (lR_spec eu200)
            refine px_rast hx hb hK w eh199 rfl rfl dX3_init_82 (fun H locs w => ?_)
            obtain ⟨x201, ex201, hf⟩ := nm_s hf
            refine lv_iinc (v := x201) (lv' := [(2, .int x201), (0, .ref (i198 a0)), (1, .ref (i198 sz3)), (3, .int v184), (4, .int t190)]) hx hb dX3_init_83 hl (k := 2) rfl (by rw [ex201]; rfl) (by decide) rfl (fun ls hl => ?_)
            refine lv_goto (tgt := 25) hx hb dX3_init_86 (by decide) ?_
            exact ih25 x201 i198 h199 sz197 kc197 ks197 _ _ H locs ls hf (lv_sub hl [1, 2, 0] rfl) w hwf hag hcl hsl
          obtain ⟨j194, ej194, hf⟩ := jn_s hf
          refine lv_if_eq (tgt := 81) hx hb dX3_init_66 (by decide) (fun c202 => ?_) (fun c202 => ?_)
          · have hf := if_t hf c202
            refine lv_aload_n hx hb dX3_init_81 rfl (lv_at hl 2 rfl) ?_
            exact hj82 sz3 i192 h189 sz191 kc191 ks191 _ _ H locs ls (by rw [ej194] at hf; exact hf) (lv_sub hl [1, 2, 3, 4, 0] rfl) w hwf hag hcl hsl
          · have hf := if_f hf c202
            obtain ⟨u203, eu203, hf⟩ := ob_s hf
            have lt_a0 := lR_spec eu203
            obtain ⟨u204, eu204, hf⟩ := ob_s hf
            have lt_sz3 := lR_spec eu204
            obtain ⟨u205, eu205, hf⟩ := ob_s hf
            have lt_v193 := lR_spec eu205
            obtain ⟨⟨h206, sz207, kc207, ks207⟩, e209, hf⟩ := ob_s hf
            try dsimp only at hf
            refine px_new (fs := [.null, .int 0]) hx hb hts nX3_init_X4 tyX4 tyX4_ok hown mX3_init_cl_9 mX3_init_in_9 mX3_init_it_9 hK ⟨w, hwf⟩ rfl dvX3_init_X4 (by decide) e209 hcl hsl dX3_init_69 (fun i208 H cells slots hio w hcl hsl => ?_)
            obtain ⟨w, hwf⟩ := w
            rw [← hio.1 a0 lt_a0] at hl
            rw [← hio.1 sz3 lt_sz3] at hl
            rw [← hio.1 v193 lt_v193]
            have hag := agr_trans hag hio
            refine lv_dup hx hb dX3_init_72 rfl ?_
            refine lv_bipush (v := (13 : Int32)) hx hb dX3_init_73 (by decide) ?_
            obtain ⟨u210, eu210, hf⟩ := ob_s hf
            have lt_a0 := lR_spec eu210
            obtain ⟨u211, eu211, hf⟩ := ob_s hf
            have lt_sz3 := lR_spec eu211
            obtain ⟨u212, eu212, hf⟩ := ob_s hf
            have lt_v193 := lR_spec eu212
            obtain ⟨u213, eu213, hf⟩ := ob_s hf
            have lt_sz191 := lR_spec eu213
            obtain ⟨⟨kc214, ks214⟩, eb214, hf⟩ := ob_s hf
            try dsimp only at hf
            obtain ⟨⟨h214, sz214⟩, ec214, hf⟩ := ob_s hf
            try dsimp only at hf
            refine px_callI (As := [.int (13 : Int32)]) (rest := [.ref (i208 sz191), .int z177, .ref (i208 v193)]) ⟨hx, hb, hml, hown, hts⟩ hC w (kX4_init l D dA b0 i208 N sz191 (13 : Int32) h206 sz207 h214 sz214 hwf ec214) (cwI 1 hts gX3_init_X4_init rfl rfl rfl (hts _ mX3_init_ci17) (hts _ mX3_init_cm17) (hts _ mX3_init_cn17) rfl (by decide +kernel) ⟨Nat.le_of_ble_eq_true rfl, Nat.le_of_ble_eq_true rfl⟩) eb214 hcl hsl rfl hl.1 rfl (Nat.le_of_ble_eq_true rfl) dX3_init_75 (fun i214 H locs cells slots hio w hwf hcl hsl => ?_)
            rw [← hio.1 a0 lt_a0] at hl
            rw [← hio.1 sz3 lt_sz3] at hl
            rw [← hio.1 v193 lt_v193]
            rw [← hio.1 sz191 lt_sz191]
            have hag := agr_trans hag hio
            refine lv_goto (tgt := 82) hx hb dX3_init_78 (by decide) ?_
            exact hj82 sz191 i214 h214 sz214 kc214 ks214 _ _ H locs ls (by rw [ej194] at hf; exact hf) (lv_sub hl [1, 2, 3, 4, 0] rfl) w hwf hag hcl hsl
        obtain ⟨j188, ej188, hf⟩ := jn_s hf
        refine lv_icmp_ne (tgt := 56) hx hb dX3_init_49 (by decide) (fun c215 => ?_) (fun c215 => ?_)
        · have hf := if_f hf c215
          refine lv_iconst (v := (0 : Int32)) hx hb dX3_init_56 (by decide) ?_
          exact hj57 (0 : Int32) i180 h178 sz179 kc179 ks179 _ _ H locs ls (by rw [ej188] at hf; exact hf) (lv_sub hl [1, 2, 3, 0] rfl) w hwf hag hcl hsl
        · have hf := if_t hf c215
          refine lv_iconst (v := (1 : Int32)) hx hb dX3_init_52 (by decide) ?_
          refine lv_goto (tgt := 57) hx hb dX3_init_53 (by decide) ?_
          exact hj57 (1 : Int32) i180 h178 sz179 kc179 ks179 _ _ H locs ls (by rw [ej188] at hf; exact hf) (lv_sub hl [1, 2, 3, 0] rfl) w hwf hag hcl hsl
  exact hlp25 N (0 : Int32) i15 h15 sz15 kc15 ks15 _ _ H locs ls (by rw [eκ25]; exact hf) (lv_sub hl [2, 1, 0] rfl) w hwf hag hcl hsl
theorem mX1_init_oil : Cond.methodLink RX1 3 objectInit ∈ wsX1_init := by decide +kernel
theorem mX1_init_oii : Cond.instanceMethod objectInit ∈ wsX1_init := by decide +kernel
theorem mX1_init_oic : Cond.code objectInit ⟨#[0xb1]⟩ 1 none ∈ wsX1_init := by decide +kernel
theorem mX1_init_cl_9 : Cond.classLink RX1 9 RX6 ∈ wsX1_init := by decide +kernel
theorem nX1_init_X1 : ∀ w ∈ wsX10, w ∈ wsX1_init := by decide +kernel
theorem mX1_init_11 : Cond.fieldLink RX1 11 "NormalForms$Echelon" "slots" "[LNormalForms$Row;" ∈ wsX1_init := by decide +kernel
theorem mX1_init_arboolean : Cond.arrayClass .boolean ∈ wsX1_init := by decide +kernel
theorem mX1_init_20 : Cond.fieldLink RX1 20 "NormalForms$Echelon" "slotFull" "[Z" ∈ wsX1_init := by decide +kernel
theorem nX1_init_X4 : ∀ w ∈ wsX40, w ∈ wsX1_init := by decide +kernel
theorem mX1_init_cl_24 : Cond.classLink RX1 24 RX4 ∈ wsX1_init := by decide +kernel
theorem mX1_init_in_24 : Cond.instantiable RX4 2 ∈ wsX1_init := by decide +kernel
theorem mX1_init_it_24 : Cond.initialized RX4 ∈ wsX1_init := by decide +kernel
theorem dvX1_init_X4 : ∀ j, j < 2 → defaultValue (tyX4 j) = vp_V ([.null, .int 0] : List Value) j := by intro j hj; rcases (show j = 0 ∨ j = 1 by omega) with rfl | rfl <;> rfl
theorem mX1_init_ci26 : Cond.initialized RX4 ∈ wsX1_init := by decide +kernel
theorem mX1_init_cm26 : Cond.methodLink RX1 26 yX4_init ∈ wsX1_init := by decide +kernel
theorem mX1_init_cn26 : Cond.instanceMethod yX4_init ∈ wsX1_init := by decide +kernel
theorem mX1_init_27 : Cond.fieldLink RX1 27 "NormalForms$Echelon" "quotient" "LNormalForms$Polynomial;" ∈ wsX1_init := by decide +kernel
theorem nX1_init_X6 : ∀ w ∈ wsX60, w ∈ wsX1_init := by decide +kernel
theorem mX1_init_in_9 : Cond.instantiable RX6 1 ∈ wsX1_init := by decide +kernel
theorem mX1_init_it_9 : Cond.initialized RX6 ∈ wsX1_init := by decide +kernel
theorem dvX1_init_X6 : ∀ j, j < 1 → defaultValue (tyX6 j) = vp_V ([.null] : List Value) j := by intro j hj; rcases (show j = 0 by omega) with rfl <;> rfl
theorem mX1_init_ci17 : Cond.initialized RX6 ∈ wsX1_init := by decide +kernel
theorem mX1_init_cm17 : Cond.methodLink RX1 17 yX6_init ∈ wsX1_init := by decide +kernel
theorem mX1_init_cn17 : Cond.instanceMethod yX6_init ∈ wsX1_init := by decide +kernel
theorem mX1_init_31 : Cond.fieldLink RX1 31 "NormalForms$Echelon" "incoming" "LNormalForms$Row;" ∈ wsX1_init := by decide +kernel
abbrev rmX1_init : Room := { frames := 3, cells := 54, slots := 1482, locals := 63 }
set_option maxHeartbeats 4000000 in
set_option maxRecDepth 100000 in
theorem kX1_init (l : Launch) (D : va_G) (dA : Nat → ClassId) (b0 : Nat) (ι : Nat → Nat) (N : Nat) (a0 : Nat) (h : Hp) (sz : Nat) (h' : Hp) (sz' : Nat) (hwf : wf h sz) (hf : fX1_init N a0 h sz = some (h', sz')) : Met l yX1_init wsX1_init rmX1_init (PC D dA b0 ι [.ref (ι a0)] h) (QZ D dA b0 ι sz h' sz') 54 1482 (qA b0) := by
  unfold fX1_init at hf
  refine Met.ofW (cc := cX1_init) (maxL := 2) (ret := none) (by decide +kernel) rfl ?_
  intro p e s m args below meth c s₁ B hml hv
  obtain ⟨hav, w0⟩ := hv
  rw [show entryFrame m args 2 = entryFrame m ([.ref (ι a0)] : List Value).toArray 2 by rw [hav]]
  clear hav
  have hx := B.exec
  have hb := B.bytes
  have hr := B.returns
  have hts := atoms_spec (ws := wsX1_init) B.pre
  have hown : s.vm.findClass RX1 = some m.cls := findClass_of_methodNamed B.named
  have hin0 : meth.name = "<init>" := (name_of_methodNamed B.named B.method).1
  have hlocks := B.notSynchronized
  have hC := w0.c
  have hK := hC.1
  have w := WD.start w0
  clear w0
  have hl := lv_entry ([.ref (ι a0)]) (n := 2) (Nat.le_of_ble_eq_true rfl)
  rw [lg_entry_eq]
  generalize (lg_sl ([.ref (ι a0)]) ++ List.replicate (2 - (lg_sl ([.ref (ι a0)])).length) Slot.unset).toArray = ls at hl ⊢
  have hl : lv_has ls 2 [(0, .ref (ι a0))] := hl
  obtain ⟨H, hH⟩ : ∃ H : Heap, H = s.heap := ⟨_, rfl⟩
  obtain ⟨locs, hlo⟩ : ∃ locs : List Loc, locs = [] := ⟨_, rfl⟩
  rw [← hlo]
  have w : WD D dA b0 ι h s.heap H locs := by rw [hH, hlo]; exact w
  refine px_start hH ?_
  obtain ⟨kc, ekc, hf⟩ := nm_s hf
  obtain ⟨ks, eks, hf⟩ := nm_s hf
  have hag : agr ι sz ι sz := ⟨fun _ _ => rfl, Nat.le_refl _⟩
  have hcl : 0 + kc ≤ (headSpec wsX1_init rmX1_init).room.cells := by rw [ekc]; exact Nat.le_of_ble_eq_true rfl
  have hsl : 0 + ks ≤ (headSpec wsX1_init rmX1_init).room.slots := by rw [eks]; exact Nat.le_of_ble_eq_true rfl
  refine lv_aload_n hx hb dX1_init_0 rfl (lv_at hl 0 rfl) ?_
  refine W.objInit hx hb hown (hts _ mX1_init_oil) (hts _ mX1_init_oii) (hts _ mX1_init_oic) rfl (by rw [hml]; exact hl.1) rfl dX1_init_1 (Nat.le_of_ble_eq_true rfl) (Nat.le_of_ble_eq_true rfl) ?_
  refine lv_aload_n hx hb dX1_init_4 rfl (lv_at hl 0 rfl) ?_
  refine lv_iconst (v := (4 : Int32)) hx hb dX1_init_5 (by decide) ?_
  obtain ⟨u1, eu1, hf⟩ := ob_s hf
  have lt_a0 := lR_spec eu1
  obtain ⟨⟨h2, sz3, kc3, ks3⟩, e5, hf⟩ := ob_s hf
  try dsimp only at hf
  refine px_newq hx hb hts hown mX1_init_cl_9 hC.2.2.2.2 hK ⟨w, hwf⟩ 5 rfl (by decide) rfl (by decide) e5 hcl hsl dX1_init_6 (fun i4 H cells slots hio w hcl hsl => ?_)
  obtain ⟨w, hwf⟩ := w
  rw [← hio.1 a0 lt_a0] at hl ⊢
  have hag := agr_trans hag hio
  obtain ⟨u7, eu7, hf⟩ := ob_s hf
  obtain ⟨h6, eh6, hf⟩ := ob_s hf
  have hwf := wf_pV hwf eh6 (lR_spec eu7)
  refine px_putF hx hb hts nX1_init_X1 tyX1 tyX1_ok nmX1 hown hK w eh6 rfl (by decide) mX1_init_11 rfl rfl hin0 rfl rfl rfl dX1_init_9 rfl (fun H locs w => ?_)
  refine lv_iconst (v := (0 : Int32)) hx hb dX1_init_12 (by decide) ?_
  refine lv_istore_n (lv' := [(1, .int (0 : Int32)), (0, .ref (i4 a0))]) hx hb dX1_init_13 rfl hl (by decide) rfl (fun ls hl => ?_)
  have hx14 : ∀ (y8 : Int32) (i11 : Nat → Nat) (h9 : Hp) (sz10 kc10 ks10 cells slots : Nat) (H : Heap) (locs : List Loc) (ls : Array Slot), ((lR sz10 a0).bind fun u12 => (nO h9 sz10 kc10 ks10 4 (.inl (2, 4, .inl (fun _ => 0)))).bind fun (h13, sz14, kc14, ks14) => (lR sz14 sz10).bind fun u18 => (pV h13 a0 3 1 (.ref sz10)).bind fun h17 => (lR sz14 a0).bind fun u19 => (nO h17 sz14 kc14 ks14 2 (.inr (6, [.null, .int 0]))).bind fun (h20, sz21, kc21, ks21) => (lR sz21 a0).bind fun u24 => (lR sz21 sz14).bind fun u25 => (bC kc21 ks21 1 67).bind fun (kc26, ks26) => (fX4_init N sz14 (67 : Int32) h20 sz21).bind fun (h26, sz26) => (lR sz26 sz14).bind fun u28 => (pV h26 a0 3 2 (.ref sz14)).bind fun h27 => (lR sz26 a0).bind fun u29 => (nO h27 sz26 kc26 ks26 1 (.inr (8, [.null]))).bind fun (h30, sz31, kc31, ks31) => (lR sz31 a0).bind fun u34 => (lR sz31 sz26).bind fun u35 => (bC kc31 ks31 9 280).bind fun (kc36, ks36) => (fX6_init N sz26 (67 : Int32) h30 sz31).bind fun (h36, sz36) => (lR sz36 sz26).bind fun u38 => (pV h36 a0 3 3 (.ref sz26)).bind fun h37 => some (h37, sz36)) = some (h', sz') → lv_has ls 2 [(0, .ref (i11 a0)), (1, .int y8)] → WD D dA b0 i11 h9 s.heap H locs → wf h9 sz10 → agr ι sz i11 sz10 → cells + kc10 ≤ (headSpec wsX1_init rmX1_init).room.cells → slots + ks10 ≤ (headSpec wsX1_init rmX1_init).room.slots → W p l e (headSpec wsX1_init rmX1_init).room s m args below meth c H locs cells slots (MQ below (QZ D dA b0 ι sz h' sz') args s 54 1482 (qA b0)) (F0 m 40 ls []) := by
    intro y8 i11 h9 sz10 kc10 ks10 cells slots H locs ls hf hl w hwf hag hcl hsl
    refine lv_aload_n hx hb dX1_init_40 rfl (lv_at hl 0 rfl) ?_
    refine lv_iconst (v := (4 : Int32)) hx hb dX1_init_41 (by decide) ?_
    obtain ⟨u12, eu12, hf⟩ := ob_s hf
    have lt_a0 := lR_spec eu12
    obtain ⟨⟨h13, sz14, kc14, ks14⟩, e16, hf⟩ := ob_s hf
    try dsimp only at hf
    refine px_newa (atype := .boolean) (ty := .boolean) (a0 := (4, .inl (fun _ => 0))) hx hb hts rfl mX1_init_arboolean hK ⟨w, hwf⟩ 2 rfl (fun cA h1 h2 => Option.some.inj (h1.symm.trans h2)) (fun cA => rfl) (fun m => trivial) (fun j => rfl) (by decide) rfl (by decide) e16 hcl hsl dX1_init_42 (fun i15 H cells slots hio w hcl hsl => ?_)
    obtain ⟨w, hwf⟩ := w
    rw [← hio.1 a0 lt_a0] at hl ⊢
    have hag := agr_trans hag hio
    obtain ⟨u18, eu18, hf⟩ := ob_s hf
    obtain ⟨h17, eh17, hf⟩ := ob_s hf
    have hwf := wf_pV hwf eh17 (lR_spec eu18)
    refine px_putF hx hb hts nX1_init_X1 tyX1 tyX1_ok nmX1 hown hK w eh17 rfl (by decide) mX1_init_20 rfl rfl hin0 rfl rfl rfl dX1_init_44 rfl (fun H locs w => ?_)
    refine lv_aload_n hx hb dX1_init_47 rfl (lv_at hl 0 rfl) ?_
    obtain ⟨u19, eu19, hf⟩ := ob_s hf
    have lt_a0 := lR_spec eu19
    obtain ⟨⟨h20, sz21, kc21, ks21⟩, e23, hf⟩ := ob_s hf
    try dsimp only at hf
    refine px_new (fs := [.null, .int 0]) hx hb hts nX1_init_X4 tyX4 tyX4_ok hown mX1_init_cl_24 mX1_init_in_24 mX1_init_it_24 hK ⟨w, hwf⟩ rfl dvX1_init_X4 (by decide) e23 hcl hsl dX1_init_48 (fun i22 H cells slots hio w hcl hsl => ?_)
    obtain ⟨w, hwf⟩ := w
    rw [← hio.1 a0 lt_a0] at hl ⊢
    have hag := agr_trans hag hio
    refine lv_dup hx hb dX1_init_51 rfl ?_
    refine lv_bipush (v := (67 : Int32)) hx hb dX1_init_52 (by decide) ?_
    obtain ⟨u24, eu24, hf⟩ := ob_s hf
    have lt_a0 := lR_spec eu24
    obtain ⟨u25, eu25, hf⟩ := ob_s hf
    have lt_sz14 := lR_spec eu25
    obtain ⟨⟨kc26, ks26⟩, eb26, hf⟩ := ob_s hf
    try dsimp only at hf
    obtain ⟨⟨h26, sz26⟩, ec26, hf⟩ := ob_s hf
    try dsimp only at hf
    refine px_callI (As := [.int (67 : Int32)]) (rest := [.ref (i22 sz14), .ref (i22 a0)]) ⟨hx, hb, hml, hown, hts⟩ hC w (kX4_init l D dA b0 i22 N sz14 (67 : Int32) h20 sz21 h26 sz26 hwf ec26) (cwI 1 hts gX1_init_X4_init rfl rfl rfl (hts _ mX1_init_ci26) (hts _ mX1_init_cm26) (hts _ mX1_init_cn26) rfl (by decide +kernel) ⟨Nat.le_of_ble_eq_true rfl, Nat.le_of_ble_eq_true rfl⟩) eb26 hcl hsl rfl hl.1 rfl (Nat.le_of_ble_eq_true rfl) dX1_init_54 (fun i26 H locs cells slots hio w hwf hcl hsl => ?_)
    rw [← hio.1 a0 lt_a0] at hl ⊢
    rw [← hio.1 sz14 lt_sz14]
    have hag := agr_trans hag hio
    obtain ⟨u28, eu28, hf⟩ := ob_s hf
    obtain ⟨h27, eh27, hf⟩ := ob_s hf
    have hwf := wf_pV hwf eh27 (lR_spec eu28)
    refine px_putF hx hb hts nX1_init_X1 tyX1 tyX1_ok nmX1 hown hK w eh27 rfl (by decide) mX1_init_27 rfl rfl hin0 rfl rfl rfl dX1_init_57 rfl (fun H locs w => ?_)
    refine lv_aload_n hx hb dX1_init_60 rfl (lv_at hl 0 rfl) ?_
    obtain ⟨u29, eu29, hf⟩ := ob_s hf
    have lt_a0 := lR_spec eu29
    obtain ⟨⟨h30, sz31, kc31, ks31⟩, e33, hf⟩ := ob_s hf
    try dsimp only at hf
    refine px_new (fs := [.null]) hx hb hts nX1_init_X6 tyX6 tyX6_ok hown mX1_init_cl_9 mX1_init_in_9 mX1_init_it_9 hK ⟨w, hwf⟩ rfl dvX1_init_X6 (by decide) e33 hcl hsl dX1_init_61 (fun i32 H cells slots hio w hcl hsl => ?_)
    obtain ⟨w, hwf⟩ := w
    rw [← hio.1 a0 lt_a0] at hl ⊢
    have hag := agr_trans hag hio
    refine lv_dup hx hb dX1_init_64 rfl ?_
    refine lv_bipush (v := (67 : Int32)) hx hb dX1_init_65 (by decide) ?_
    obtain ⟨u34, eu34, hf⟩ := ob_s hf
    have lt_a0 := lR_spec eu34
    obtain ⟨u35, eu35, hf⟩ := ob_s hf
    have lt_sz26 := lR_spec eu35
    obtain ⟨⟨kc36, ks36⟩, eb36, hf⟩ := ob_s hf
    try dsimp only at hf
    obtain ⟨⟨h36, sz36⟩, ec36, hf⟩ := ob_s hf
    try dsimp only at hf
    refine px_callI (As := [.int (67 : Int32)]) (rest := [.ref (i32 sz26), .ref (i32 a0)]) ⟨hx, hb, hml, hown, hts⟩ hC w (kX6_init l D dA b0 i32 N sz26 (67 : Int32) h30 sz31 h36 sz36 hwf ec36) (cwI 1 hts gX1_init_X6_init rfl rfl rfl (hts _ mX1_init_ci17) (hts _ mX1_init_cm17) (hts _ mX1_init_cn17) rfl (by decide +kernel) ⟨Nat.le_of_ble_eq_true rfl, Nat.le_of_ble_eq_true rfl⟩) eb36 hcl hsl rfl hl.1 rfl (Nat.le_of_ble_eq_true rfl) dX1_init_67 (fun i36 H locs cells slots hio w hwf hcl hsl => ?_)
    rw [← hio.1 a0 lt_a0] at hl ⊢
    rw [← hio.1 sz26 lt_sz26]
    have hag := agr_trans hag hio
    obtain ⟨u38, eu38, hf⟩ := ob_s hf
    obtain ⟨h37, eh37, hf⟩ := ob_s hf
    have hwf := wf_pV hwf eh37 (lR_spec eu38)
    refine px_put hx hb hts nX1_init_X1 tyX1 tyX1_ok nmX1 hown hK w eh37 rfl (by decide) mX1_init_31 rfl rfl rfl rfl dX1_init_70 rfl (fun H locs w => ?_)
    refine W.widen (k := 54) (n := 1482) (Nat.le_trans (Nat.le_add_right _ _) hcl) (Nat.le_trans (Nat.le_add_right _ _) hsl) ?_
    exact W.vret hx hb hr (qz_end hf w hwf hag hC) w.locs_ok dX1_init_73
  obtain ⟨κ14, eκ14⟩ : ∃ k : Int32 → Hp → Nat → Nat → Nat → Option (Hp × Nat), k = (fun y8 h9 sz10 kc10 ks10 => (lR sz10 a0).bind fun u12 => (nO h9 sz10 kc10 ks10 4 (.inl (2, 4, .inl (fun _ => 0)))).bind fun (h13, sz14, kc14, ks14) => (lR sz14 sz10).bind fun u18 => (pV h13 a0 3 1 (.ref sz10)).bind fun h17 => (lR sz14 a0).bind fun u19 => (nO h17 sz14 kc14 ks14 2 (.inr (6, [.null, .int 0]))).bind fun (h20, sz21, kc21, ks21) => (lR sz21 a0).bind fun u24 => (lR sz21 sz14).bind fun u25 => (bC kc21 ks21 1 67).bind fun (kc26, ks26) => (fX4_init N sz14 (67 : Int32) h20 sz21).bind fun (h26, sz26) => (lR sz26 sz14).bind fun u28 => (pV h26 a0 3 2 (.ref sz14)).bind fun h27 => (lR sz26 a0).bind fun u29 => (nO h27 sz26 kc26 ks26 1 (.inr (8, [.null]))).bind fun (h30, sz31, kc31, ks31) => (lR sz31 a0).bind fun u34 => (lR sz31 sz26).bind fun u35 => (bC kc31 ks31 9 280).bind fun (kc36, ks36) => (fX6_init N sz26 (67 : Int32) h30 sz31).bind fun (h36, sz36) => (lR sz36 sz26).bind fun u38 => (pV h36 a0 3 3 (.ref sz26)).bind fun h37 => some (h37, sz36)) := ⟨_, rfl⟩
  have hlp14 : ∀ (n : Nat) (z57 : Int32) (i60 : Nat → Nat) (h58 : Hp) (sz59 kc59 ks59 cells slots : Nat) (H : Heap) (locs : List Loc) (ls : Array Slot), lX1_init_14 N a0 n z57 h58 sz59 kc59 ks59 κ14 = some (h', sz') → lv_has ls 2 [(0, .ref (i60 a0)), (1, .int z57)] → WD D dA b0 i60 h58 s.heap H locs → wf h58 sz59 → agr ι sz i60 sz59 → cells + kc59 ≤ (headSpec wsX1_init rmX1_init).room.cells → slots + ks59 ≤ (headSpec wsX1_init rmX1_init).room.slots → W p l e (headSpec wsX1_init rmX1_init).room s m args below meth c H locs cells slots (MQ below (QZ D dA b0 ι sz h' sz') args s 54 1482 (qA b0)) (F0 m 14 ls []) := by
    intro n14
    induction n14 with
    | zero => intro z57 i60 h58 sz59 kc59 ks59 cells slots H locs ls hf; exact absurd hf (by rw [lX1_init_14]; exact fun q => nomatch q)
    | succ n14 ih14 =>
      intro z57 i60 h58 sz59 kc59 ks59 cells slots H locs ls hf hl w hwf hag hcl hsl
      rw [lX1_init_14] at hf
      refine lv_iload_n hx hb dX1_init_14 rfl (lv_at hl 1 rfl) ?_
      refine lv_iconst (v := (4 : Int32)) hx hb dX1_init_15 (by decide) ?_
      refine lv_icmp_ge (tgt := 40) hx hb dX1_init_16 (by decide) (fun c61 => ?_) (fun c61 => ?_)
      · have hf := if_t hf c61
        exact hx14 z57 i60 h58 sz59 kc59 ks59 _ _ H locs ls (by rw [eκ14] at hf; exact hf) (lv_sub hl [0, 1] rfl) w hwf hag hcl hsl
      · have hf := if_f hf c61
        refine lv_aload_n hx hb dX1_init_19 rfl (lv_at hl 0 rfl) ?_
        obtain ⟨v62, ev62, hf⟩ := ob_s hf
        refine px_getR hx hb hts nX1_init_X1 hown hK w ev62 rfl (by decide) mX1_init_11 rfl dX1_init_20 ?_
        refine lv_iload_n hx hb dX1_init_23 rfl (lv_at hl 1 rfl) ?_
        obtain ⟨u63, eu63, hf⟩ := ob_s hf
        have lt_a0 := lR_spec eu63
        obtain ⟨u64, eu64, hf⟩ := ob_s hf
        have lt_v62 := lR_spec eu64
        obtain ⟨⟨h65, sz66, kc66, ks66⟩, e68, hf⟩ := ob_s hf
        try dsimp only at hf
        refine px_new (fs := [.null]) hx hb hts nX1_init_X6 tyX6 tyX6_ok hown mX1_init_cl_9 mX1_init_in_9 mX1_init_it_9 hK ⟨w, hwf⟩ rfl dvX1_init_X6 (by decide) e68 hcl hsl dX1_init_24 (fun i67 H cells slots hio w hcl hsl => ?_)
        obtain ⟨w, hwf⟩ := w
        rw [← hio.1 a0 lt_a0] at hl
        rw [← hio.1 v62 lt_v62]
        have hag := agr_trans hag hio
        refine lv_dup hx hb dX1_init_27 rfl ?_
        refine lv_bipush (v := (67 : Int32)) hx hb dX1_init_28 (by decide) ?_
        obtain ⟨u69, eu69, hf⟩ := ob_s hf
        have lt_a0 := lR_spec eu69
        obtain ⟨u70, eu70, hf⟩ := ob_s hf
        have lt_v62 := lR_spec eu70
        obtain ⟨u71, eu71, hf⟩ := ob_s hf
        have lt_sz59 := lR_spec eu71
        obtain ⟨⟨kc72, ks72⟩, eb72, hf⟩ := ob_s hf
        try dsimp only at hf
        obtain ⟨⟨h72, sz72⟩, ec72, hf⟩ := ob_s hf
        try dsimp only at hf
        refine px_callI (As := [.int (67 : Int32)]) (rest := [.ref (i67 sz59), .int z57, .ref (i67 v62)]) ⟨hx, hb, hml, hown, hts⟩ hC w (kX6_init l D dA b0 i67 N sz59 (67 : Int32) h65 sz66 h72 sz72 hwf ec72) (cwI 1 hts gX1_init_X6_init rfl rfl rfl (hts _ mX1_init_ci17) (hts _ mX1_init_cm17) (hts _ mX1_init_cn17) rfl (by decide +kernel) ⟨Nat.le_of_ble_eq_true rfl, Nat.le_of_ble_eq_true rfl⟩) eb72 hcl hsl rfl hl.1 rfl (Nat.le_of_ble_eq_true rfl) dX1_init_30 (fun i72 H locs cells slots hio w hwf hcl hsl => ?_)
        rw [← hio.1 a0 lt_a0] at hl
        rw [← hio.1 v62 lt_v62]
        rw [← hio.1 sz59 lt_sz59]
        have hag := agr_trans hag hio
        obtain ⟨u74, eu74, hf⟩ := ob_s hf
        obtain ⟨h73, eh73, hf⟩ := ob_s hf
        have hwf := wf_aRs hwf eh73 (lR_spec eu74)
        refine px_rast hx hb hK w eh73 rfl rfl dX1_init_33 (fun H locs w => ?_)
        obtain ⟨x75, ex75, hf⟩ := nm_s hf
        refine lv_iinc (v := x75) (lv' := [(1, .int x75), (0, .ref (i72 a0))]) hx hb dX1_init_34 hl (k := 1) rfl (by rw [ex75]; rfl) (by decide) rfl (fun ls hl => ?_)
        refine lv_goto (tgt := 14) hx hb dX1_init_37 (by decide) ?_
        exact ih14 x75 i72 h73 sz72 kc72 ks72 _ _ H locs ls hf (lv_sub hl [1, 0] rfl) w hwf hag hcl hsl
  exact hlp14 N (0 : Int32) i4 h6 sz3 kc3 ks3 _ _ H locs ls (by rw [eκ14]; exact hf) (lv_sub hl [1, 0] rfl) w hwf hag hcl hsl
theorem mX5_init_oil : Cond.methodLink RX5 3 objectInit ∈ wsX5_init := by decide +kernel
theorem mX5_init_oii : Cond.instanceMethod objectInit ∈ wsX5_init := by decide +kernel
theorem mX5_init_oic : Cond.code objectInit ⟨#[0xb1]⟩ 1 none ∈ wsX5_init := by decide +kernel
theorem mX5_init_arint : Cond.arrayClass .int ∈ wsX5_init := by decide +kernel
theorem nX5_init_X5 : ∀ w ∈ wsX50, w ∈ wsX5_init := by decide +kernel
theorem mX5_init_9 : Cond.fieldLink RX5 9 "NormalForms$Roots" "values" "[I" ∈ wsX5_init := by decide +kernel
theorem mX5_init_cl_15 : Cond.classLink RX5 15 RX4 ∈ wsX5_init := by decide +kernel
theorem mX5_init_17 : Cond.fieldLink RX5 17 "NormalForms$Roots" "parts" "[LNormalForms$Polynomial;" ∈ wsX5_init := by decide +kernel
theorem nX5_init_X4 : ∀ w ∈ wsX40, w ∈ wsX5_init := by decide +kernel
theorem mX5_init_in_15 : Cond.instantiable RX4 2 ∈ wsX5_init := by decide +kernel
theorem mX5_init_it_15 : Cond.initialized RX4 ∈ wsX5_init := by decide +kernel
theorem dvX5_init_X4 : ∀ j, j < 2 → defaultValue (tyX4 j) = vp_V ([.null, .int 0] : List Value) j := by intro j hj; rcases (show j = 0 ∨ j = 1 by omega) with rfl | rfl <;> rfl
theorem mX5_init_ci21 : Cond.initialized RX4 ∈ wsX5_init := by decide +kernel
theorem mX5_init_cm21 : Cond.methodLink RX5 21 yX4_init ∈ wsX5_init := by decide +kernel
theorem mX5_init_cn21 : Cond.instanceMethod yX4_init ∈ wsX5_init := by decide +kernel
theorem mX5_init_24 : Cond.fieldLink RX5 24 "NormalForms$Roots" "base" "LNormalForms$Polynomial;" ∈ wsX5_init := by decide +kernel
theorem mX5_init_28 : Cond.fieldLink RX5 28 "NormalForms$Roots" "power" "LNormalForms$Polynomial;" ∈ wsX5_init := by decide +kernel
theorem mX5_init_31 : Cond.fieldLink RX5 31 "NormalForms$Roots" "product" "LNormalForms$Polynomial;" ∈ wsX5_init := by decide +kernel
theorem mX5_init_34 : Cond.fieldLink RX5 34 "NormalForms$Roots" "quotient" "LNormalForms$Polynomial;" ∈ wsX5_init := by decide +kernel
theorem nX5_init_X0 : ∀ w ∈ wsX00, w ∈ wsX5_init := by decide +kernel
theorem mX5_init_cl_37 : Cond.classLink RX5 37 RX0 ∈ wsX5_init := by decide +kernel
theorem mX5_init_in_37 : Cond.instantiable RX0 3 ∈ wsX5_init := by decide +kernel
theorem mX5_init_it_37 : Cond.initialized RX0 ∈ wsX5_init := by decide +kernel
theorem dvX5_init_X0 : ∀ j, j < 3 → defaultValue (tyX0 j) = vp_V ([.null, .null, .null] : List Value) j := by intro j hj; rcases (show j = 0 ∨ j = 1 ∨ j = 2 by omega) with rfl | rfl | rfl <;> rfl
theorem mX5_init_ci39 : Cond.initialized RX0 ∈ wsX5_init := by decide +kernel
theorem mX5_init_cm39 : Cond.methodLink RX5 39 yX0_init ∈ wsX5_init := by decide +kernel
theorem mX5_init_cn39 : Cond.instanceMethod yX0_init ∈ wsX5_init := by decide +kernel
theorem mX5_init_40 : Cond.fieldLink RX5 40 "NormalForms$Roots" "divider" "LNormalForms$Divider;" ∈ wsX5_init := by decide +kernel
abbrev rmX5_init : Room := { frames := 3, cells := 25, slots := 770, locals := 61 }
set_option maxHeartbeats 4000000 in
set_option maxRecDepth 100000 in
theorem kX5_init (l : Launch) (D : va_G) (dA : Nat → ClassId) (b0 : Nat) (ι : Nat → Nat) (N : Nat) (a0 : Nat) (h : Hp) (sz : Nat) (h' : Hp) (sz' : Nat) (hwf : wf h sz) (hf : fX5_init N a0 h sz = some (h', sz')) : Met l yX5_init wsX5_init rmX5_init (PC D dA b0 ι [.ref (ι a0)] h) (QZ D dA b0 ι sz h' sz') 25 770 (qA b0) := by
  unfold fX5_init at hf
  refine Met.ofW (cc := cX5_init) (maxL := 2) (ret := none) (by decide +kernel) rfl ?_
  intro p e s m args below meth c s₁ B hml hv
  obtain ⟨hav, w0⟩ := hv
  rw [show entryFrame m args 2 = entryFrame m ([.ref (ι a0)] : List Value).toArray 2 by rw [hav]]
  clear hav
  have hx := B.exec
  have hb := B.bytes
  have hr := B.returns
  have hts := atoms_spec (ws := wsX5_init) B.pre
  have hown : s.vm.findClass RX5 = some m.cls := findClass_of_methodNamed B.named
  have hin0 : meth.name = "<init>" := (name_of_methodNamed B.named B.method).1
  have hlocks := B.notSynchronized
  have hC := w0.c
  have hK := hC.1
  have w := WD.start w0
  clear w0
  have hl := lv_entry ([.ref (ι a0)]) (n := 2) (Nat.le_of_ble_eq_true rfl)
  rw [lg_entry_eq]
  generalize (lg_sl ([.ref (ι a0)]) ++ List.replicate (2 - (lg_sl ([.ref (ι a0)])).length) Slot.unset).toArray = ls at hl ⊢
  have hl : lv_has ls 2 [(0, .ref (ι a0))] := hl
  obtain ⟨H, hH⟩ : ∃ H : Heap, H = s.heap := ⟨_, rfl⟩
  obtain ⟨locs, hlo⟩ : ∃ locs : List Loc, locs = [] := ⟨_, rfl⟩
  rw [← hlo]
  have w : WD D dA b0 ι h s.heap H locs := by rw [hH, hlo]; exact w
  refine px_start hH ?_
  obtain ⟨kc, ekc, hf⟩ := nm_s hf
  obtain ⟨ks, eks, hf⟩ := nm_s hf
  have hag : agr ι sz ι sz := ⟨fun _ _ => rfl, Nat.le_refl _⟩
  have hcl : 0 + kc ≤ (headSpec wsX5_init rmX5_init).room.cells := by rw [ekc]; exact Nat.le_of_ble_eq_true rfl
  have hsl : 0 + ks ≤ (headSpec wsX5_init rmX5_init).room.slots := by rw [eks]; exact Nat.le_of_ble_eq_true rfl
  refine lv_aload_n hx hb dX5_init_0 rfl (lv_at hl 0 rfl) ?_
  refine W.objInit hx hb hown (hts _ mX5_init_oil) (hts _ mX5_init_oii) (hts _ mX5_init_oic) rfl (by rw [hml]; exact hl.1) rfl dX5_init_1 (Nat.le_of_ble_eq_true rfl) (Nat.le_of_ble_eq_true rfl) ?_
  refine lv_aload_n hx hb dX5_init_4 rfl (lv_at hl 0 rfl) ?_
  refine lv_iconst (v := (4 : Int32)) hx hb dX5_init_5 (by decide) ?_
  obtain ⟨u1, eu1, hf⟩ := ob_s hf
  have lt_a0 := lR_spec eu1
  obtain ⟨⟨h2, sz3, kc3, ks3⟩, e5, hf⟩ := ob_s hf
  try dsimp only at hf
  refine px_newa (atype := .int) (ty := .int) (a0 := (4, .inl (fun _ => 0))) hx hb hts rfl mX5_init_arint hK ⟨w, hwf⟩ 0 rfl (fun cA h1 h2 => Option.some.inj (h1.symm.trans h2)) (fun cA => rfl) (fun m => trivial) (fun j => rfl) (by decide) rfl (by decide) e5 hcl hsl dX5_init_6 (fun i4 H cells slots hio w hcl hsl => ?_)
  obtain ⟨w, hwf⟩ := w
  rw [← hio.1 a0 lt_a0] at hl ⊢
  have hag := agr_trans hag hio
  obtain ⟨u7, eu7, hf⟩ := ob_s hf
  obtain ⟨h6, eh6, hf⟩ := ob_s hf
  have hwf := wf_pV hwf eh6 (lR_spec eu7)
  refine px_putF hx hb hts nX5_init_X5 tyX5 tyX5_ok nmX5 hown hK w eh6 rfl (by decide) mX5_init_9 rfl rfl hin0 rfl rfl rfl dX5_init_8 rfl (fun H locs w => ?_)
  refine lv_aload_n hx hb dX5_init_11 rfl (lv_at hl 0 rfl) ?_
  refine lv_iconst (v := (4 : Int32)) hx hb dX5_init_12 (by decide) ?_
  obtain ⟨u8, eu8, hf⟩ := ob_s hf
  have lt_a0 := lR_spec eu8
  obtain ⟨⟨h9, sz10, kc10, ks10⟩, e12, hf⟩ := ob_s hf
  try dsimp only at hf
  refine px_newq hx hb hts hown mX5_init_cl_15 hC.2.2.2.1 hK ⟨w, hwf⟩ 4 rfl (by decide) rfl (by decide) e12 hcl hsl dX5_init_13 (fun i11 H cells slots hio w hcl hsl => ?_)
  obtain ⟨w, hwf⟩ := w
  rw [← hio.1 a0 lt_a0] at hl ⊢
  have hag := agr_trans hag hio
  obtain ⟨u14, eu14, hf⟩ := ob_s hf
  obtain ⟨h13, eh13, hf⟩ := ob_s hf
  have hwf := wf_pV hwf eh13 (lR_spec eu14)
  refine px_putF hx hb hts nX5_init_X5 tyX5 tyX5_ok nmX5 hown hK w eh13 rfl (by decide) mX5_init_17 rfl rfl hin0 rfl rfl rfl dX5_init_16 rfl (fun H locs w => ?_)
  refine lv_iconst (v := (0 : Int32)) hx hb dX5_init_19 (by decide) ?_
  refine lv_istore_n (lv' := [(1, .int (0 : Int32)), (0, .ref (i11 a0))]) hx hb dX5_init_20 rfl hl (by decide) rfl (fun ls hl => ?_)
  have hx21 : ∀ (y15 : Int32) (i18 : Nat → Nat) (h16 : Hp) (sz17 kc17 ks17 cells slots : Nat) (H : Heap) (locs : List Loc) (ls : Array Slot), ((lR sz17 a0).bind fun u19 => (nO h16 sz17 kc17 ks17 2 (.inr (6, [.null, .int 0]))).bind fun (h20, sz21, kc21, ks21) => (lR sz21 a0).bind fun u24 => (lR sz21 sz17).bind fun u25 => (bC kc21 ks21 1 67).bind fun (kc26, ks26) => (fX4_init N sz17 (7 : Int32) h20 sz21).bind fun (h26, sz26) => (lR sz26 sz17).bind fun u28 => (pV h26 a0 7 4 (.ref sz17)).bind fun h27 => (lR sz26 a0).bind fun u29 => (nO h27 sz26 kc26 ks26 2 (.inr (6, [.null, .int 0]))).bind fun (h30, sz31, kc31, ks31) => (lR sz31 a0).bind fun u34 => (lR sz31 sz26).bind fun u35 => (bC kc31 ks31 1 67).bind fun (kc36, ks36) => (fX4_init N sz26 (7 : Int32) h30 sz31).bind fun (h36, sz36) => (lR sz36 sz26).bind fun u38 => (pV h36 a0 7 5 (.ref sz26)).bind fun h37 => (lR sz36 a0).bind fun u39 => (nO h37 sz36 kc36 ks36 2 (.inr (6, [.null, .int 0]))).bind fun (h40, sz41, kc41, ks41) => (lR sz41 a0).bind fun u44 => (lR sz41 sz36).bind fun u45 => (bC kc41 ks41 1 67).bind fun (kc46, ks46) => (fX4_init N sz36 (7 : Int32) h40 sz41).bind fun (h46, sz46) => (lR sz46 sz36).bind fun u48 => (pV h46 a0 7 6 (.ref sz36)).bind fun h47 => (lR sz46 a0).bind fun u49 => (nO h47 sz46 kc46 ks46 2 (.inr (6, [.null, .int 0]))).bind fun (h50, sz51, kc51, ks51) => (lR sz51 a0).bind fun u54 => (lR sz51 sz46).bind fun u55 => (bC kc51 ks51 1 67).bind fun (kc56, ks56) => (fX4_init N sz46 (7 : Int32) h50 sz51).bind fun (h56, sz56) => (lR sz56 sz46).bind fun u58 => (pV h56 a0 7 7 (.ref sz46)).bind fun h57 => (lR sz56 a0).bind fun u59 => (nO h57 sz56 kc56 ks56 3 (.inr (2, [.null, .null, .null]))).bind fun (h60, sz61, kc61, ks61) => (lR sz61 a0).bind fun u64 => (lR sz61 sz56).bind fun u65 => (bC kc61 ks61 6 207).bind fun (kc66, ks66) => (fX0_init N sz56 h60 sz61).bind fun (h66, sz66) => (lR sz66 sz56).bind fun u68 => (pV h66 a0 7 8 (.ref sz56)).bind fun h67 => some (h67, sz66)) = some (h', sz') → lv_has ls 2 [(0, .ref (i18 a0)), (1, .int y15)] → WD D dA b0 i18 h16 s.heap H locs → wf h16 sz17 → agr ι sz i18 sz17 → cells + kc17 ≤ (headSpec wsX5_init rmX5_init).room.cells → slots + ks17 ≤ (headSpec wsX5_init rmX5_init).room.slots → W p l e (headSpec wsX5_init rmX5_init).room s m args below meth c H locs cells slots (MQ below (QZ D dA b0 ι sz h' sz') args s 25 770 (qA b0)) (F0 m 47 ls []) := by
    intro y15 i18 h16 sz17 kc17 ks17 cells slots H locs ls hf hl w hwf hag hcl hsl
    refine lv_aload_n hx hb dX5_init_47 rfl (lv_at hl 0 rfl) ?_
    obtain ⟨u19, eu19, hf⟩ := ob_s hf
    have lt_a0 := lR_spec eu19
    obtain ⟨⟨h20, sz21, kc21, ks21⟩, e23, hf⟩ := ob_s hf
    try dsimp only at hf
    refine px_new (fs := [.null, .int 0]) hx hb hts nX5_init_X4 tyX4 tyX4_ok hown mX5_init_cl_15 mX5_init_in_15 mX5_init_it_15 hK ⟨w, hwf⟩ rfl dvX5_init_X4 (by decide) e23 hcl hsl dX5_init_48 (fun i22 H cells slots hio w hcl hsl => ?_)
    obtain ⟨w, hwf⟩ := w
    rw [← hio.1 a0 lt_a0] at hl ⊢
    have hag := agr_trans hag hio
    refine lv_dup hx hb dX5_init_51 rfl ?_
    refine lv_bipush (v := (7 : Int32)) hx hb dX5_init_52 (by decide) ?_
    obtain ⟨u24, eu24, hf⟩ := ob_s hf
    have lt_a0 := lR_spec eu24
    obtain ⟨u25, eu25, hf⟩ := ob_s hf
    have lt_sz17 := lR_spec eu25
    obtain ⟨⟨kc26, ks26⟩, eb26, hf⟩ := ob_s hf
    try dsimp only at hf
    obtain ⟨⟨h26, sz26⟩, ec26, hf⟩ := ob_s hf
    try dsimp only at hf
    refine px_callI (As := [.int (7 : Int32)]) (rest := [.ref (i22 sz17), .ref (i22 a0)]) ⟨hx, hb, hml, hown, hts⟩ hC w (kX4_init l D dA b0 i22 N sz17 (7 : Int32) h20 sz21 h26 sz26 hwf ec26) (cwI 1 hts gX5_init_X4_init rfl rfl rfl (hts _ mX5_init_ci21) (hts _ mX5_init_cm21) (hts _ mX5_init_cn21) rfl (by decide +kernel) ⟨Nat.le_of_ble_eq_true rfl, Nat.le_of_ble_eq_true rfl⟩) eb26 hcl hsl rfl hl.1 rfl (Nat.le_of_ble_eq_true rfl) dX5_init_54 (fun i26 H locs cells slots hio w hwf hcl hsl => ?_)
    rw [← hio.1 a0 lt_a0] at hl ⊢
    rw [← hio.1 sz17 lt_sz17]
    have hag := agr_trans hag hio
    obtain ⟨u28, eu28, hf⟩ := ob_s hf
    obtain ⟨h27, eh27, hf⟩ := ob_s hf
    have hwf := wf_pV hwf eh27 (lR_spec eu28)
    refine px_putF hx hb hts nX5_init_X5 tyX5 tyX5_ok nmX5 hown hK w eh27 rfl (by decide) mX5_init_24 rfl rfl hin0 rfl rfl rfl dX5_init_57 rfl (fun H locs w => ?_)
    refine lv_aload_n hx hb dX5_init_60 rfl (lv_at hl 0 rfl) ?_
    obtain ⟨u29, eu29, hf⟩ := ob_s hf
    have lt_a0 := lR_spec eu29
    obtain ⟨⟨h30, sz31, kc31, ks31⟩, e33, hf⟩ := ob_s hf
    try dsimp only at hf
    refine px_new (fs := [.null, .int 0]) hx hb hts nX5_init_X4 tyX4 tyX4_ok hown mX5_init_cl_15 mX5_init_in_15 mX5_init_it_15 hK ⟨w, hwf⟩ rfl dvX5_init_X4 (by decide) e33 hcl hsl dX5_init_61 (fun i32 H cells slots hio w hcl hsl => ?_)
    obtain ⟨w, hwf⟩ := w
    rw [← hio.1 a0 lt_a0] at hl ⊢
    have hag := agr_trans hag hio
    refine lv_dup hx hb dX5_init_64 rfl ?_
    refine lv_bipush (v := (7 : Int32)) hx hb dX5_init_65 (by decide) ?_
    obtain ⟨u34, eu34, hf⟩ := ob_s hf
    have lt_a0 := lR_spec eu34
    obtain ⟨u35, eu35, hf⟩ := ob_s hf
    have lt_sz26 := lR_spec eu35
    obtain ⟨⟨kc36, ks36⟩, eb36, hf⟩ := ob_s hf
    try dsimp only at hf
    obtain ⟨⟨h36, sz36⟩, ec36, hf⟩ := ob_s hf
    try dsimp only at hf
    refine px_callI (As := [.int (7 : Int32)]) (rest := [.ref (i32 sz26), .ref (i32 a0)]) ⟨hx, hb, hml, hown, hts⟩ hC w (kX4_init l D dA b0 i32 N sz26 (7 : Int32) h30 sz31 h36 sz36 hwf ec36) (cwI 1 hts gX5_init_X4_init rfl rfl rfl (hts _ mX5_init_ci21) (hts _ mX5_init_cm21) (hts _ mX5_init_cn21) rfl (by decide +kernel) ⟨Nat.le_of_ble_eq_true rfl, Nat.le_of_ble_eq_true rfl⟩) eb36 hcl hsl rfl hl.1 rfl (Nat.le_of_ble_eq_true rfl) dX5_init_67 (fun i36 H locs cells slots hio w hwf hcl hsl => ?_)
    rw [← hio.1 a0 lt_a0] at hl ⊢
    rw [← hio.1 sz26 lt_sz26]
    have hag := agr_trans hag hio
    obtain ⟨u38, eu38, hf⟩ := ob_s hf
    obtain ⟨h37, eh37, hf⟩ := ob_s hf
    have hwf := wf_pV hwf eh37 (lR_spec eu38)
    refine px_putF hx hb hts nX5_init_X5 tyX5 tyX5_ok nmX5 hown hK w eh37 rfl (by decide) mX5_init_28 rfl rfl hin0 rfl rfl rfl dX5_init_70 rfl (fun H locs w => ?_)
    refine lv_aload_n hx hb dX5_init_73 rfl (lv_at hl 0 rfl) ?_
    obtain ⟨u39, eu39, hf⟩ := ob_s hf
    have lt_a0 := lR_spec eu39
    obtain ⟨⟨h40, sz41, kc41, ks41⟩, e43, hf⟩ := ob_s hf
    try dsimp only at hf
    refine px_new (fs := [.null, .int 0]) hx hb hts nX5_init_X4 tyX4 tyX4_ok hown mX5_init_cl_15 mX5_init_in_15 mX5_init_it_15 hK ⟨w, hwf⟩ rfl dvX5_init_X4 (by decide) e43 hcl hsl dX5_init_74 (fun i42 H cells slots hio w hcl hsl => ?_)
    obtain ⟨w, hwf⟩ := w
    rw [← hio.1 a0 lt_a0] at hl ⊢
    have hag := agr_trans hag hio
    refine lv_dup hx hb dX5_init_77 rfl ?_
    refine lv_bipush (v := (7 : Int32)) hx hb dX5_init_78 (by decide) ?_
    obtain ⟨u44, eu44, hf⟩ := ob_s hf
    have lt_a0 := lR_spec eu44
    obtain ⟨u45, eu45, hf⟩ := ob_s hf
    have lt_sz36 := lR_spec eu45
    obtain ⟨⟨kc46, ks46⟩, eb46, hf⟩ := ob_s hf
    try dsimp only at hf
    obtain ⟨⟨h46, sz46⟩, ec46, hf⟩ := ob_s hf
    try dsimp only at hf
    refine px_callI (As := [.int (7 : Int32)]) (rest := [.ref (i42 sz36), .ref (i42 a0)]) ⟨hx, hb, hml, hown, hts⟩ hC w (kX4_init l D dA b0 i42 N sz36 (7 : Int32) h40 sz41 h46 sz46 hwf ec46) (cwI 1 hts gX5_init_X4_init rfl rfl rfl (hts _ mX5_init_ci21) (hts _ mX5_init_cm21) (hts _ mX5_init_cn21) rfl (by decide +kernel) ⟨Nat.le_of_ble_eq_true rfl, Nat.le_of_ble_eq_true rfl⟩) eb46 hcl hsl rfl hl.1 rfl (Nat.le_of_ble_eq_true rfl) dX5_init_80 (fun i46 H locs cells slots hio w hwf hcl hsl => ?_)
    rw [← hio.1 a0 lt_a0] at hl ⊢
    rw [← hio.1 sz36 lt_sz36]
    have hag := agr_trans hag hio
    obtain ⟨u48, eu48, hf⟩ := ob_s hf
    obtain ⟨h47, eh47, hf⟩ := ob_s hf
    have hwf := wf_pV hwf eh47 (lR_spec eu48)
    refine px_putF hx hb hts nX5_init_X5 tyX5 tyX5_ok nmX5 hown hK w eh47 rfl (by decide) mX5_init_31 rfl rfl hin0 rfl rfl rfl dX5_init_83 rfl (fun H locs w => ?_)
    refine lv_aload_n hx hb dX5_init_86 rfl (lv_at hl 0 rfl) ?_
    obtain ⟨u49, eu49, hf⟩ := ob_s hf
    have lt_a0 := lR_spec eu49
    obtain ⟨⟨h50, sz51, kc51, ks51⟩, e53, hf⟩ := ob_s hf
    try dsimp only at hf
    refine px_new (fs := [.null, .int 0]) hx hb hts nX5_init_X4 tyX4 tyX4_ok hown mX5_init_cl_15 mX5_init_in_15 mX5_init_it_15 hK ⟨w, hwf⟩ rfl dvX5_init_X4 (by decide) e53 hcl hsl dX5_init_87 (fun i52 H cells slots hio w hcl hsl => ?_)
    obtain ⟨w, hwf⟩ := w
    rw [← hio.1 a0 lt_a0] at hl ⊢
    have hag := agr_trans hag hio
    refine lv_dup hx hb dX5_init_90 rfl ?_
    refine lv_bipush (v := (7 : Int32)) hx hb dX5_init_91 (by decide) ?_
    obtain ⟨u54, eu54, hf⟩ := ob_s hf
    have lt_a0 := lR_spec eu54
    obtain ⟨u55, eu55, hf⟩ := ob_s hf
    have lt_sz46 := lR_spec eu55
    obtain ⟨⟨kc56, ks56⟩, eb56, hf⟩ := ob_s hf
    try dsimp only at hf
    obtain ⟨⟨h56, sz56⟩, ec56, hf⟩ := ob_s hf
    try dsimp only at hf
    refine px_callI (As := [.int (7 : Int32)]) (rest := [.ref (i52 sz46), .ref (i52 a0)]) ⟨hx, hb, hml, hown, hts⟩ hC w (kX4_init l D dA b0 i52 N sz46 (7 : Int32) h50 sz51 h56 sz56 hwf ec56) (cwI 1 hts gX5_init_X4_init rfl rfl rfl (hts _ mX5_init_ci21) (hts _ mX5_init_cm21) (hts _ mX5_init_cn21) rfl (by decide +kernel) ⟨Nat.le_of_ble_eq_true rfl, Nat.le_of_ble_eq_true rfl⟩) eb56 hcl hsl rfl hl.1 rfl (Nat.le_of_ble_eq_true rfl) dX5_init_93 (fun i56 H locs cells slots hio w hwf hcl hsl => ?_)
    rw [← hio.1 a0 lt_a0] at hl ⊢
    rw [← hio.1 sz46 lt_sz46]
    have hag := agr_trans hag hio
    obtain ⟨u58, eu58, hf⟩ := ob_s hf
    obtain ⟨h57, eh57, hf⟩ := ob_s hf
    have hwf := wf_pV hwf eh57 (lR_spec eu58)
    refine px_putF hx hb hts nX5_init_X5 tyX5 tyX5_ok nmX5 hown hK w eh57 rfl (by decide) mX5_init_34 rfl rfl hin0 rfl rfl rfl dX5_init_96 rfl (fun H locs w => ?_)
    refine lv_aload_n hx hb dX5_init_99 rfl (lv_at hl 0 rfl) ?_
    obtain ⟨u59, eu59, hf⟩ := ob_s hf
    have lt_a0 := lR_spec eu59
    obtain ⟨⟨h60, sz61, kc61, ks61⟩, e63, hf⟩ := ob_s hf
    try dsimp only at hf
    refine px_new (fs := [.null, .null, .null]) hx hb hts nX5_init_X0 tyX0 tyX0_ok hown mX5_init_cl_37 mX5_init_in_37 mX5_init_it_37 hK ⟨w, hwf⟩ rfl dvX5_init_X0 (by decide) e63 hcl hsl dX5_init_100 (fun i62 H cells slots hio w hcl hsl => ?_)
    obtain ⟨w, hwf⟩ := w
    rw [← hio.1 a0 lt_a0] at hl ⊢
    have hag := agr_trans hag hio
    refine lv_dup hx hb dX5_init_103 rfl ?_
    obtain ⟨u64, eu64, hf⟩ := ob_s hf
    have lt_a0 := lR_spec eu64
    obtain ⟨u65, eu65, hf⟩ := ob_s hf
    have lt_sz56 := lR_spec eu65
    obtain ⟨⟨kc66, ks66⟩, eb66, hf⟩ := ob_s hf
    try dsimp only at hf
    obtain ⟨⟨h66, sz66⟩, ec66, hf⟩ := ob_s hf
    try dsimp only at hf
    refine px_callI (As := []) (rest := [.ref (i62 sz56), .ref (i62 a0)]) ⟨hx, hb, hml, hown, hts⟩ hC w (kX0_init l D dA b0 i62 N sz56 h60 sz61 h66 sz66 hwf ec66) (cwI 0 hts gX5_init_X0_init rfl rfl rfl (hts _ mX5_init_ci39) (hts _ mX5_init_cm39) (hts _ mX5_init_cn39) rfl (by decide +kernel) ⟨Nat.le_of_ble_eq_true rfl, Nat.le_of_ble_eq_true rfl⟩) eb66 hcl hsl rfl hl.1 rfl (Nat.le_of_ble_eq_true rfl) dX5_init_104 (fun i66 H locs cells slots hio w hwf hcl hsl => ?_)
    rw [← hio.1 a0 lt_a0] at hl ⊢
    rw [← hio.1 sz56 lt_sz56]
    have hag := agr_trans hag hio
    obtain ⟨u68, eu68, hf⟩ := ob_s hf
    obtain ⟨h67, eh67, hf⟩ := ob_s hf
    have hwf := wf_pV hwf eh67 (lR_spec eu68)
    refine px_putF hx hb hts nX5_init_X5 tyX5 tyX5_ok nmX5 hown hK w eh67 rfl (by decide) mX5_init_40 rfl rfl hin0 rfl rfl rfl dX5_init_107 rfl (fun H locs w => ?_)
    refine W.widen (k := 25) (n := 770) (Nat.le_trans (Nat.le_add_right _ _) hcl) (Nat.le_trans (Nat.le_add_right _ _) hsl) ?_
    exact W.vret hx hb hr (qz_end hf w hwf hag hC) w.locs_ok dX5_init_110
  obtain ⟨κ21, eκ21⟩ : ∃ k : Int32 → Hp → Nat → Nat → Nat → Option (Hp × Nat), k = (fun y15 h16 sz17 kc17 ks17 => (lR sz17 a0).bind fun u19 => (nO h16 sz17 kc17 ks17 2 (.inr (6, [.null, .int 0]))).bind fun (h20, sz21, kc21, ks21) => (lR sz21 a0).bind fun u24 => (lR sz21 sz17).bind fun u25 => (bC kc21 ks21 1 67).bind fun (kc26, ks26) => (fX4_init N sz17 (7 : Int32) h20 sz21).bind fun (h26, sz26) => (lR sz26 sz17).bind fun u28 => (pV h26 a0 7 4 (.ref sz17)).bind fun h27 => (lR sz26 a0).bind fun u29 => (nO h27 sz26 kc26 ks26 2 (.inr (6, [.null, .int 0]))).bind fun (h30, sz31, kc31, ks31) => (lR sz31 a0).bind fun u34 => (lR sz31 sz26).bind fun u35 => (bC kc31 ks31 1 67).bind fun (kc36, ks36) => (fX4_init N sz26 (7 : Int32) h30 sz31).bind fun (h36, sz36) => (lR sz36 sz26).bind fun u38 => (pV h36 a0 7 5 (.ref sz26)).bind fun h37 => (lR sz36 a0).bind fun u39 => (nO h37 sz36 kc36 ks36 2 (.inr (6, [.null, .int 0]))).bind fun (h40, sz41, kc41, ks41) => (lR sz41 a0).bind fun u44 => (lR sz41 sz36).bind fun u45 => (bC kc41 ks41 1 67).bind fun (kc46, ks46) => (fX4_init N sz36 (7 : Int32) h40 sz41).bind fun (h46, sz46) => (lR sz46 sz36).bind fun u48 => (pV h46 a0 7 6 (.ref sz36)).bind fun h47 => (lR sz46 a0).bind fun u49 => (nO h47 sz46 kc46 ks46 2 (.inr (6, [.null, .int 0]))).bind fun (h50, sz51, kc51, ks51) => (lR sz51 a0).bind fun u54 => (lR sz51 sz46).bind fun u55 => (bC kc51 ks51 1 67).bind fun (kc56, ks56) => (fX4_init N sz46 (7 : Int32) h50 sz51).bind fun (h56, sz56) => (lR sz56 sz46).bind fun u58 => (pV h56 a0 7 7 (.ref sz46)).bind fun h57 => (lR sz56 a0).bind fun u59 => (nO h57 sz56 kc56 ks56 3 (.inr (2, [.null, .null, .null]))).bind fun (h60, sz61, kc61, ks61) => (lR sz61 a0).bind fun u64 => (lR sz61 sz56).bind fun u65 => (bC kc61 ks61 6 207).bind fun (kc66, ks66) => (fX0_init N sz56 h60 sz61).bind fun (h66, sz66) => (lR sz66 sz56).bind fun u68 => (pV h66 a0 7 8 (.ref sz56)).bind fun h67 => some (h67, sz66)) := ⟨_, rfl⟩
  have hlp21 : ∀ (n : Nat) (z87 : Int32) (i90 : Nat → Nat) (h88 : Hp) (sz89 kc89 ks89 cells slots : Nat) (H : Heap) (locs : List Loc) (ls : Array Slot), lX5_init_21 N a0 n z87 h88 sz89 kc89 ks89 κ21 = some (h', sz') → lv_has ls 2 [(0, .ref (i90 a0)), (1, .int z87)] → WD D dA b0 i90 h88 s.heap H locs → wf h88 sz89 → agr ι sz i90 sz89 → cells + kc89 ≤ (headSpec wsX5_init rmX5_init).room.cells → slots + ks89 ≤ (headSpec wsX5_init rmX5_init).room.slots → W p l e (headSpec wsX5_init rmX5_init).room s m args below meth c H locs cells slots (MQ below (QZ D dA b0 ι sz h' sz') args s 25 770 (qA b0)) (F0 m 21 ls []) := by
    intro n21
    induction n21 with
    | zero => intro z87 i90 h88 sz89 kc89 ks89 cells slots H locs ls hf; exact absurd hf (by rw [lX5_init_21]; exact fun q => nomatch q)
    | succ n21 ih21 =>
      intro z87 i90 h88 sz89 kc89 ks89 cells slots H locs ls hf hl w hwf hag hcl hsl
      rw [lX5_init_21] at hf
      refine lv_iload_n hx hb dX5_init_21 rfl (lv_at hl 1 rfl) ?_
      refine lv_iconst (v := (4 : Int32)) hx hb dX5_init_22 (by decide) ?_
      refine lv_icmp_ge (tgt := 47) hx hb dX5_init_23 (by decide) (fun c91 => ?_) (fun c91 => ?_)
      · have hf := if_t hf c91
        exact hx21 z87 i90 h88 sz89 kc89 ks89 _ _ H locs ls (by rw [eκ21] at hf; exact hf) (lv_sub hl [0, 1] rfl) w hwf hag hcl hsl
      · have hf := if_f hf c91
        refine lv_aload_n hx hb dX5_init_26 rfl (lv_at hl 0 rfl) ?_
        obtain ⟨v92, ev92, hf⟩ := ob_s hf
        refine px_getR hx hb hts nX5_init_X5 hown hK w ev92 rfl (by decide) mX5_init_17 rfl dX5_init_27 ?_
        refine lv_iload_n hx hb dX5_init_30 rfl (lv_at hl 1 rfl) ?_
        obtain ⟨u93, eu93, hf⟩ := ob_s hf
        have lt_a0 := lR_spec eu93
        obtain ⟨u94, eu94, hf⟩ := ob_s hf
        have lt_v92 := lR_spec eu94
        obtain ⟨⟨h95, sz96, kc96, ks96⟩, e98, hf⟩ := ob_s hf
        try dsimp only at hf
        refine px_new (fs := [.null, .int 0]) hx hb hts nX5_init_X4 tyX4 tyX4_ok hown mX5_init_cl_15 mX5_init_in_15 mX5_init_it_15 hK ⟨w, hwf⟩ rfl dvX5_init_X4 (by decide) e98 hcl hsl dX5_init_31 (fun i97 H cells slots hio w hcl hsl => ?_)
        obtain ⟨w, hwf⟩ := w
        rw [← hio.1 a0 lt_a0] at hl
        rw [← hio.1 v92 lt_v92]
        have hag := agr_trans hag hio
        refine lv_dup hx hb dX5_init_34 rfl ?_
        refine lv_bipush (v := (7 : Int32)) hx hb dX5_init_35 (by decide) ?_
        obtain ⟨u99, eu99, hf⟩ := ob_s hf
        have lt_a0 := lR_spec eu99
        obtain ⟨u100, eu100, hf⟩ := ob_s hf
        have lt_v92 := lR_spec eu100
        obtain ⟨u101, eu101, hf⟩ := ob_s hf
        have lt_sz89 := lR_spec eu101
        obtain ⟨⟨kc102, ks102⟩, eb102, hf⟩ := ob_s hf
        try dsimp only at hf
        obtain ⟨⟨h102, sz102⟩, ec102, hf⟩ := ob_s hf
        try dsimp only at hf
        refine px_callI (As := [.int (7 : Int32)]) (rest := [.ref (i97 sz89), .int z87, .ref (i97 v92)]) ⟨hx, hb, hml, hown, hts⟩ hC w (kX4_init l D dA b0 i97 N sz89 (7 : Int32) h95 sz96 h102 sz102 hwf ec102) (cwI 1 hts gX5_init_X4_init rfl rfl rfl (hts _ mX5_init_ci21) (hts _ mX5_init_cm21) (hts _ mX5_init_cn21) rfl (by decide +kernel) ⟨Nat.le_of_ble_eq_true rfl, Nat.le_of_ble_eq_true rfl⟩) eb102 hcl hsl rfl hl.1 rfl (Nat.le_of_ble_eq_true rfl) dX5_init_37 (fun i102 H locs cells slots hio w hwf hcl hsl => ?_)
        rw [← hio.1 a0 lt_a0] at hl
        rw [← hio.1 v92 lt_v92]
        rw [← hio.1 sz89 lt_sz89]
        have hag := agr_trans hag hio
        obtain ⟨u104, eu104, hf⟩ := ob_s hf
        obtain ⟨h103, eh103, hf⟩ := ob_s hf
        have hwf := wf_aRs hwf eh103 (lR_spec eu104)
        refine px_rast hx hb hK w eh103 rfl rfl dX5_init_40 (fun H locs w => ?_)
        obtain ⟨x105, ex105, hf⟩ := nm_s hf
        refine lv_iinc (v := x105) (lv' := [(1, .int x105), (0, .ref (i102 a0))]) hx hb dX5_init_41 hl (k := 1) rfl (by rw [ex105]; rfl) (by decide) rfl (fun ls hl => ?_)
        refine lv_goto (tgt := 21) hx hb dX5_init_44 (by decide) ?_
        exact ih21 x105 i102 h103 sz102 kc102 ks102 _ _ H locs ls hf (lv_sub hl [1, 0] rfl) w hwf hag hcl hsl
  exact hlp21 N (0 : Int32) i11 h13 sz10 kc10 ks10 _ _ H locs ls (by rw [eκ21]; exact hf) (lv_sub hl [1, 0] rfl) w hwf hag hcl hsl
theorem mX7_init_oil : Cond.methodLink RX7 3 objectInit ∈ wsX7_init := by decide +kernel
theorem mX7_init_oii : Cond.instanceMethod objectInit ∈ wsX7_init := by decide +kernel
theorem mX7_init_oic : Cond.code objectInit ⟨#[0xb1]⟩ 1 none ∈ wsX7_init := by decide +kernel
theorem nX7_init_X2 : ∀ w ∈ wsX20, w ∈ wsX7_init := by decide +kernel
theorem mX7_init_cl_9 : Cond.classLink RX7 9 RX2 ∈ wsX7_init := by decide +kernel
theorem mX7_init_in_9 : Cond.instantiable RX2 1 ∈ wsX7_init := by decide +kernel
theorem mX7_init_it_9 : Cond.initialized RX2 ∈ wsX7_init := by decide +kernel
theorem dvX7_init_X2 : ∀ j, j < 1 → defaultValue (tyX2 j) = vp_V ([.null] : List Value) j := by intro j hj; rcases (show j = 0 by omega) with rfl <;> rfl
theorem mX7_init_ci11 : Cond.initialized RX2 ∈ wsX7_init := by decide +kernel
theorem mX7_init_cm11 : Cond.methodLink RX7 11 yX2_init ∈ wsX7_init := by decide +kernel
theorem mX7_init_cn11 : Cond.instanceMethod yX2_init ∈ wsX7_init := by decide +kernel
theorem nX7_init_X7 : ∀ w ∈ wsX70, w ∈ wsX7_init := by decide +kernel
theorem mX7_init_14 : Cond.fieldLink RX7 14 "NormalForms" "entries" "LNormalForms$Matrix;" ∈ wsX7_init := by decide +kernel
theorem nX7_init_X3 : ∀ w ∈ wsX30, w ∈ wsX7_init := by decide +kernel
theorem mX7_init_cl_18 : Cond.classLink RX7 18 RX3 ∈ wsX7_init := by decide +kernel
theorem mX7_init_in_18 : Cond.instantiable RX3 5 ∈ wsX7_init := by decide +kernel
theorem mX7_init_it_18 : Cond.initialized RX3 ∈ wsX7_init := by decide +kernel
theorem dvX7_init_X3 : ∀ j, j < 5 → defaultValue (tyX3 j) = vp_V ([.null, .null, .null, .null, .int 0] : List Value) j := by intro j hj; rcases (show j = 0 ∨ j = 1 ∨ j = 2 ∨ j = 3 ∨ j = 4 by omega) with rfl | rfl | rfl | rfl | rfl <;> rfl
theorem mX7_init_ci20 : Cond.initialized RX3 ∈ wsX7_init := by decide +kernel
theorem mX7_init_cm20 : Cond.methodLink RX7 20 yX3_init ∈ wsX7_init := by decide +kernel
theorem mX7_init_cn20 : Cond.instanceMethod yX3_init ∈ wsX7_init := by decide +kernel
theorem mX7_init_21 : Cond.fieldLink RX7 21 "NormalForms" "minors" "LNormalForms$Minors;" ∈ wsX7_init := by decide +kernel
theorem mX7_init_25 : Cond.fieldLink RX7 25 "NormalForms" "xLessNumbers" "LNormalForms$Matrix;" ∈ wsX7_init := by decide +kernel
theorem mX7_init_28 : Cond.fieldLink RX7 28 "NormalForms" "numbersMinors" "LNormalForms$Minors;" ∈ wsX7_init := by decide +kernel
theorem nX7_init_X5 : ∀ w ∈ wsX50, w ∈ wsX7_init := by decide +kernel
theorem mX7_init_cl_31 : Cond.classLink RX7 31 RX5 ∈ wsX7_init := by decide +kernel
theorem mX7_init_in_31 : Cond.instantiable RX5 9 ∈ wsX7_init := by decide +kernel
theorem mX7_init_it_31 : Cond.initialized RX5 ∈ wsX7_init := by decide +kernel
theorem dvX7_init_X5 : ∀ j, j < 9 → defaultValue (tyX5 j) = vp_V ([.null, .int 0, .null, .int 0, .null, .null, .null, .null, .null] : List Value) j := by intro j hj; rcases (show j = 0 ∨ j = 1 ∨ j = 2 ∨ j = 3 ∨ j = 4 ∨ j = 5 ∨ j = 6 ∨ j = 7 ∨ j = 8 by omega) with rfl | rfl | rfl | rfl | rfl | rfl | rfl | rfl | rfl <;> rfl
theorem mX7_init_ci33 : Cond.initialized RX5 ∈ wsX7_init := by decide +kernel
theorem mX7_init_cm33 : Cond.methodLink RX7 33 yX5_init ∈ wsX7_init := by decide +kernel
theorem mX7_init_cn33 : Cond.instanceMethod yX5_init ∈ wsX7_init := by decide +kernel
theorem mX7_init_34 : Cond.fieldLink RX7 34 "NormalForms" "roots" "LNormalForms$Roots;" ∈ wsX7_init := by decide +kernel
theorem nX7_init_X1 : ∀ w ∈ wsX10, w ∈ wsX7_init := by decide +kernel
theorem mX7_init_cl_38 : Cond.classLink RX7 38 RX1 ∈ wsX7_init := by decide +kernel
theorem mX7_init_in_38 : Cond.instantiable RX1 4 ∈ wsX7_init := by decide +kernel
theorem mX7_init_it_38 : Cond.initialized RX1 ∈ wsX7_init := by decide +kernel
theorem dvX7_init_X1 : ∀ j, j < 4 → defaultValue (tyX1 j) = vp_V ([.null, .null, .null, .null] : List Value) j := by intro j hj; rcases (show j = 0 ∨ j = 1 ∨ j = 2 ∨ j = 3 by omega) with rfl | rfl | rfl | rfl <;> rfl
theorem mX7_init_ci40 : Cond.initialized RX1 ∈ wsX7_init := by decide +kernel
theorem mX7_init_cm40 : Cond.methodLink RX7 40 yX1_init ∈ wsX7_init := by decide +kernel
theorem mX7_init_cn40 : Cond.instanceMethod yX1_init ∈ wsX7_init := by decide +kernel
theorem mX7_init_41 : Cond.fieldLink RX7 41 "NormalForms" "echelon" "LNormalForms$Echelon;" ∈ wsX7_init := by decide +kernel
theorem mX7_init_45 : Cond.fieldLink RX7 45 "NormalForms" "forms" "[LNormalForms$Matrix;" ∈ wsX7_init := by decide +kernel
theorem mX7_init_arboolean : Cond.arrayClass .boolean ∈ wsX7_init := by decide +kernel
theorem mX7_init_49 : Cond.fieldLink RX7 49 "NormalForms" "formThere" "[Z" ∈ wsX7_init := by decide +kernel
theorem nX7_init_X0 : ∀ w ∈ wsX00, w ∈ wsX7_init := by decide +kernel
theorem mX7_init_cl_53 : Cond.classLink RX7 53 RX0 ∈ wsX7_init := by decide +kernel
theorem mX7_init_in_53 : Cond.instantiable RX0 3 ∈ wsX7_init := by decide +kernel
theorem mX7_init_it_53 : Cond.initialized RX0 ∈ wsX7_init := by decide +kernel
theorem dvX7_init_X0 : ∀ j, j < 3 → defaultValue (tyX0 j) = vp_V ([.null, .null, .null] : List Value) j := by intro j hj; rcases (show j = 0 ∨ j = 1 ∨ j = 2 by omega) with rfl | rfl | rfl <;> rfl
theorem mX7_init_ci55 : Cond.initialized RX0 ∈ wsX7_init := by decide +kernel
theorem mX7_init_cm55 : Cond.methodLink RX7 55 yX0_init ∈ wsX7_init := by decide +kernel
theorem mX7_init_cn55 : Cond.instanceMethod yX0_init ∈ wsX7_init := by decide +kernel
theorem mX7_init_56 : Cond.fieldLink RX7 56 "NormalForms" "divider" "LNormalForms$Divider;" ∈ wsX7_init := by decide +kernel
theorem nX7_init_X4 : ∀ w ∈ wsX40, w ∈ wsX7_init := by decide +kernel
theorem mX7_init_cl_60 : Cond.classLink RX7 60 RX4 ∈ wsX7_init := by decide +kernel
theorem mX7_init_in_60 : Cond.instantiable RX4 2 ∈ wsX7_init := by decide +kernel
theorem mX7_init_it_60 : Cond.initialized RX4 ∈ wsX7_init := by decide +kernel
theorem dvX7_init_X4 : ∀ j, j < 2 → defaultValue (tyX4 j) = vp_V ([.null, .int 0] : List Value) j := by intro j hj; rcases (show j = 0 ∨ j = 1 by omega) with rfl | rfl <;> rfl
theorem mX7_init_ci62 : Cond.initialized RX4 ∈ wsX7_init := by decide +kernel
theorem mX7_init_cm62 : Cond.methodLink RX7 62 yX4_init ∈ wsX7_init := by decide +kernel
theorem mX7_init_cn62 : Cond.instanceMethod yX4_init ∈ wsX7_init := by decide +kernel
theorem mX7_init_63 : Cond.fieldLink RX7 63 "NormalForms" "linear" "LNormalForms$Polynomial;" ∈ wsX7_init := by decide +kernel
abbrev rmX7_init : Room := { frames := 4, cells := 644, slots := 20195, locals := 85 }
set_option maxHeartbeats 4000000 in
set_option maxRecDepth 100000 in
theorem kX7_init (l : Launch) (D : va_G) (dA : Nat → ClassId) (b0 : Nat) (ι : Nat → Nat) (N : Nat) (a0 : Nat) (h : Hp) (sz : Nat) (h' : Hp) (sz' : Nat) (hwf : wf h sz) (hf : fX7_init N a0 h sz = some (h', sz')) : Met l yX7_init wsX7_init rmX7_init (PC D dA b0 ι [.ref (ι a0)] h) (QZ D dA b0 ι sz h' sz') 644 20195 (qA b0) := by
  unfold fX7_init at hf
  refine Met.ofW (cc := cX7_init) (maxL := 2) (ret := none) (by decide +kernel) rfl ?_
  intro p e s m args below meth c s₁ B hml hv
  obtain ⟨hav, w0⟩ := hv
  rw [show entryFrame m args 2 = entryFrame m ([.ref (ι a0)] : List Value).toArray 2 by rw [hav]]
  clear hav
  have hx := B.exec
  have hb := B.bytes
  have hr := B.returns
  have hts := atoms_spec (ws := wsX7_init) B.pre
  have hown : s.vm.findClass RX7 = some m.cls := findClass_of_methodNamed B.named
  have hin0 : meth.name = "<init>" := (name_of_methodNamed B.named B.method).1
  have hlocks := B.notSynchronized
  have hC := w0.c
  have hK := hC.1
  have w := WD.start w0
  clear w0
  have hl := lv_entry ([.ref (ι a0)]) (n := 2) (Nat.le_of_ble_eq_true rfl)
  rw [lg_entry_eq]
  generalize (lg_sl ([.ref (ι a0)]) ++ List.replicate (2 - (lg_sl ([.ref (ι a0)])).length) Slot.unset).toArray = ls at hl ⊢
  have hl : lv_has ls 2 [(0, .ref (ι a0))] := hl
  obtain ⟨H, hH⟩ : ∃ H : Heap, H = s.heap := ⟨_, rfl⟩
  obtain ⟨locs, hlo⟩ : ∃ locs : List Loc, locs = [] := ⟨_, rfl⟩
  rw [← hlo]
  have w : WD D dA b0 ι h s.heap H locs := by rw [hH, hlo]; exact w
  refine px_start hH ?_
  obtain ⟨kc, ekc, hf⟩ := nm_s hf
  obtain ⟨ks, eks, hf⟩ := nm_s hf
  have hag : agr ι sz ι sz := ⟨fun _ _ => rfl, Nat.le_refl _⟩
  have hcl : 0 + kc ≤ (headSpec wsX7_init rmX7_init).room.cells := by rw [ekc]; exact Nat.le_of_ble_eq_true rfl
  have hsl : 0 + ks ≤ (headSpec wsX7_init rmX7_init).room.slots := by rw [eks]; exact Nat.le_of_ble_eq_true rfl
  refine lv_aload_n hx hb dX7_init_0 rfl (lv_at hl 0 rfl) ?_
  refine W.objInit hx hb hown (hts _ mX7_init_oil) (hts _ mX7_init_oii) (hts _ mX7_init_oic) rfl (by rw [hml]; exact hl.1) rfl dX7_init_1 (Nat.le_of_ble_eq_true rfl) (Nat.le_of_ble_eq_true rfl) ?_
  refine lv_aload_n hx hb dX7_init_4 rfl (lv_at hl 0 rfl) ?_
  obtain ⟨u1, eu1, hf⟩ := ob_s hf
  have lt_a0 := lR_spec eu1
  obtain ⟨⟨h2, sz3, kc3, ks3⟩, e5, hf⟩ := ob_s hf
  try dsimp only at hf
  refine px_new (fs := [.null]) hx hb hts nX7_init_X2 tyX2 tyX2_ok hown mX7_init_cl_9 mX7_init_in_9 mX7_init_it_9 hK ⟨w, hwf⟩ rfl dvX7_init_X2 (by decide) e5 hcl hsl dX7_init_5 (fun i4 H cells slots hio w hcl hsl => ?_)
  obtain ⟨w, hwf⟩ := w
  rw [← hio.1 a0 lt_a0] at hl ⊢
  have hag := agr_trans hag hio
  refine lv_dup hx hb dX7_init_8 rfl ?_
  refine lv_iconst (v := (4 : Int32)) hx hb dX7_init_9 (by decide) ?_
  obtain ⟨u6, eu6, hf⟩ := ob_s hf
  have lt_a0 := lR_spec eu6
  obtain ⟨u7, eu7, hf⟩ := ob_s hf
  have lt_sz := lR_spec eu7
  obtain ⟨⟨kc8, ks8⟩, eb8, hf⟩ := ob_s hf
  try dsimp only at hf
  obtain ⟨⟨h8, sz8⟩, ec8, hf⟩ := ob_s hf
  try dsimp only at hf
  refine px_callI (As := [.int (4 : Int32)]) (rest := [.ref (i4 sz), .ref (i4 a0)]) ⟨hx, hb, hml, hown, hts⟩ hC w (kX2_init l D dA b0 i4 N sz (4 : Int32) h2 sz3 h8 sz8 hwf ec8) (cwI 1 hts gX7_init_X2_init rfl rfl rfl (hts _ mX7_init_ci11) (hts _ mX7_init_cm11) (hts _ mX7_init_cn11) rfl (by decide +kernel) ⟨Nat.le_of_ble_eq_true rfl, Nat.le_of_ble_eq_true rfl⟩) eb8 hcl hsl rfl hl.1 rfl (Nat.le_of_ble_eq_true rfl) dX7_init_10 (fun i8 H locs cells slots hio w hwf hcl hsl => ?_)
  rw [← hio.1 a0 lt_a0] at hl ⊢
  rw [← hio.1 sz lt_sz]
  have hag := agr_trans hag hio
  obtain ⟨u10, eu10, hf⟩ := ob_s hf
  obtain ⟨h9, eh9, hf⟩ := ob_s hf
  have hwf := wf_pV hwf eh9 (lR_spec eu10)
  refine px_putF hx hb hts nX7_init_X7 tyX7 tyX7_ok nmX7 hown hK w eh9 rfl (by decide) mX7_init_14 rfl rfl hin0 rfl rfl rfl dX7_init_13 rfl (fun H locs w => ?_)
  refine lv_aload_n hx hb dX7_init_16 rfl (lv_at hl 0 rfl) ?_
  obtain ⟨u11, eu11, hf⟩ := ob_s hf
  have lt_a0 := lR_spec eu11
  obtain ⟨⟨h12, sz13, kc13, ks13⟩, e15, hf⟩ := ob_s hf
  try dsimp only at hf
  refine px_new (fs := [.null, .null, .null, .null, .int 0]) hx hb hts nX7_init_X3 tyX3 tyX3_ok hown mX7_init_cl_18 mX7_init_in_18 mX7_init_it_18 hK ⟨w, hwf⟩ rfl dvX7_init_X3 (by decide) e15 hcl hsl dX7_init_17 (fun i14 H cells slots hio w hcl hsl => ?_)
  obtain ⟨w, hwf⟩ := w
  rw [← hio.1 a0 lt_a0] at hl ⊢
  have hag := agr_trans hag hio
  refine lv_dup hx hb dX7_init_20 rfl ?_
  obtain ⟨u16, eu16, hf⟩ := ob_s hf
  have lt_a0 := lR_spec eu16
  obtain ⟨u17, eu17, hf⟩ := ob_s hf
  have lt_sz8 := lR_spec eu17
  obtain ⟨⟨kc18, ks18⟩, eb18, hf⟩ := ob_s hf
  try dsimp only at hf
  obtain ⟨⟨h18, sz18⟩, ec18, hf⟩ := ob_s hf
  try dsimp only at hf
  refine px_callI (As := []) (rest := [.ref (i14 sz8), .ref (i14 a0)]) ⟨hx, hb, hml, hown, hts⟩ hC w (kX3_init l D dA b0 i14 N sz8 h12 sz13 h18 sz18 hwf ec18) (cwI 0 hts gX7_init_X3_init rfl rfl rfl (hts _ mX7_init_ci20) (hts _ mX7_init_cm20) (hts _ mX7_init_cn20) rfl (by decide +kernel) ⟨Nat.le_of_ble_eq_true rfl, Nat.le_of_ble_eq_true rfl⟩) eb18 hcl hsl rfl hl.1 rfl (Nat.le_of_ble_eq_true rfl) dX7_init_21 (fun i18 H locs cells slots hio w hwf hcl hsl => ?_)
  rw [← hio.1 a0 lt_a0] at hl ⊢
  rw [← hio.1 sz8 lt_sz8]
  have hag := agr_trans hag hio
  obtain ⟨u20, eu20, hf⟩ := ob_s hf
  obtain ⟨h19, eh19, hf⟩ := ob_s hf
  have hwf := wf_pV hwf eh19 (lR_spec eu20)
  refine px_putF hx hb hts nX7_init_X7 tyX7 tyX7_ok nmX7 hown hK w eh19 rfl (by decide) mX7_init_21 rfl rfl hin0 rfl rfl rfl dX7_init_24 rfl (fun H locs w => ?_)
  refine lv_aload_n hx hb dX7_init_27 rfl (lv_at hl 0 rfl) ?_
  obtain ⟨u21, eu21, hf⟩ := ob_s hf
  have lt_a0 := lR_spec eu21
  obtain ⟨⟨h22, sz23, kc23, ks23⟩, e25, hf⟩ := ob_s hf
  try dsimp only at hf
  refine px_new (fs := [.null]) hx hb hts nX7_init_X2 tyX2 tyX2_ok hown mX7_init_cl_9 mX7_init_in_9 mX7_init_it_9 hK ⟨w, hwf⟩ rfl dvX7_init_X2 (by decide) e25 hcl hsl dX7_init_28 (fun i24 H cells slots hio w hcl hsl => ?_)
  obtain ⟨w, hwf⟩ := w
  rw [← hio.1 a0 lt_a0] at hl ⊢
  have hag := agr_trans hag hio
  refine lv_dup hx hb dX7_init_31 rfl ?_
  refine lv_iconst (v := (2 : Int32)) hx hb dX7_init_32 (by decide) ?_
  obtain ⟨u26, eu26, hf⟩ := ob_s hf
  have lt_a0 := lR_spec eu26
  obtain ⟨u27, eu27, hf⟩ := ob_s hf
  have lt_sz18 := lR_spec eu27
  obtain ⟨⟨kc28, ks28⟩, eb28, hf⟩ := ob_s hf
  try dsimp only at hf
  obtain ⟨⟨h28, sz28⟩, ec28, hf⟩ := ob_s hf
  try dsimp only at hf
  refine px_callI (As := [.int (2 : Int32)]) (rest := [.ref (i24 sz18), .ref (i24 a0)]) ⟨hx, hb, hml, hown, hts⟩ hC w (kX2_init l D dA b0 i24 N sz18 (2 : Int32) h22 sz23 h28 sz28 hwf ec28) (cwI 1 hts gX7_init_X2_init rfl rfl rfl (hts _ mX7_init_ci11) (hts _ mX7_init_cm11) (hts _ mX7_init_cn11) rfl (by decide +kernel) ⟨Nat.le_of_ble_eq_true rfl, Nat.le_of_ble_eq_true rfl⟩) eb28 hcl hsl rfl hl.1 rfl (Nat.le_of_ble_eq_true rfl) dX7_init_33 (fun i28 H locs cells slots hio w hwf hcl hsl => ?_)
  rw [← hio.1 a0 lt_a0] at hl ⊢
  rw [← hio.1 sz18 lt_sz18]
  have hag := agr_trans hag hio
  obtain ⟨u30, eu30, hf⟩ := ob_s hf
  obtain ⟨h29, eh29, hf⟩ := ob_s hf
  have hwf := wf_pV hwf eh29 (lR_spec eu30)
  refine px_putF hx hb hts nX7_init_X7 tyX7 tyX7_ok nmX7 hown hK w eh29 rfl (by decide) mX7_init_25 rfl rfl hin0 rfl rfl rfl dX7_init_36 rfl (fun H locs w => ?_)
  refine lv_aload_n hx hb dX7_init_39 rfl (lv_at hl 0 rfl) ?_
  obtain ⟨u31, eu31, hf⟩ := ob_s hf
  have lt_a0 := lR_spec eu31
  obtain ⟨⟨h32, sz33, kc33, ks33⟩, e35, hf⟩ := ob_s hf
  try dsimp only at hf
  refine px_new (fs := [.null, .null, .null, .null, .int 0]) hx hb hts nX7_init_X3 tyX3 tyX3_ok hown mX7_init_cl_18 mX7_init_in_18 mX7_init_it_18 hK ⟨w, hwf⟩ rfl dvX7_init_X3 (by decide) e35 hcl hsl dX7_init_40 (fun i34 H cells slots hio w hcl hsl => ?_)
  obtain ⟨w, hwf⟩ := w
  rw [← hio.1 a0 lt_a0] at hl ⊢
  have hag := agr_trans hag hio
  refine lv_dup hx hb dX7_init_43 rfl ?_
  obtain ⟨u36, eu36, hf⟩ := ob_s hf
  have lt_a0 := lR_spec eu36
  obtain ⟨u37, eu37, hf⟩ := ob_s hf
  have lt_sz28 := lR_spec eu37
  obtain ⟨⟨kc38, ks38⟩, eb38, hf⟩ := ob_s hf
  try dsimp only at hf
  obtain ⟨⟨h38, sz38⟩, ec38, hf⟩ := ob_s hf
  try dsimp only at hf
  refine px_callI (As := []) (rest := [.ref (i34 sz28), .ref (i34 a0)]) ⟨hx, hb, hml, hown, hts⟩ hC w (kX3_init l D dA b0 i34 N sz28 h32 sz33 h38 sz38 hwf ec38) (cwI 0 hts gX7_init_X3_init rfl rfl rfl (hts _ mX7_init_ci20) (hts _ mX7_init_cm20) (hts _ mX7_init_cn20) rfl (by decide +kernel) ⟨Nat.le_of_ble_eq_true rfl, Nat.le_of_ble_eq_true rfl⟩) eb38 hcl hsl rfl hl.1 rfl (Nat.le_of_ble_eq_true rfl) dX7_init_44 (fun i38 H locs cells slots hio w hwf hcl hsl => ?_)
  rw [← hio.1 a0 lt_a0] at hl ⊢
  rw [← hio.1 sz28 lt_sz28]
  have hag := agr_trans hag hio
  obtain ⟨u40, eu40, hf⟩ := ob_s hf
  obtain ⟨h39, eh39, hf⟩ := ob_s hf
  have hwf := wf_pV hwf eh39 (lR_spec eu40)
  refine px_putF hx hb hts nX7_init_X7 tyX7 tyX7_ok nmX7 hown hK w eh39 rfl (by decide) mX7_init_28 rfl rfl hin0 rfl rfl rfl dX7_init_47 rfl (fun H locs w => ?_)
  refine lv_aload_n hx hb dX7_init_50 rfl (lv_at hl 0 rfl) ?_
  obtain ⟨u41, eu41, hf⟩ := ob_s hf
  have lt_a0 := lR_spec eu41
  obtain ⟨⟨h42, sz43, kc43, ks43⟩, e45, hf⟩ := ob_s hf
  try dsimp only at hf
  refine px_new (fs := [.null, .int 0, .null, .int 0, .null, .null, .null, .null, .null]) hx hb hts nX7_init_X5 tyX5 tyX5_ok hown mX7_init_cl_31 mX7_init_in_31 mX7_init_it_31 hK ⟨w, hwf⟩ rfl dvX7_init_X5 (by decide) e45 hcl hsl dX7_init_51 (fun i44 H cells slots hio w hcl hsl => ?_)
  obtain ⟨w, hwf⟩ := w
  rw [← hio.1 a0 lt_a0] at hl ⊢
  have hag := agr_trans hag hio
  refine lv_dup hx hb dX7_init_54 rfl ?_
  obtain ⟨u46, eu46, hf⟩ := ob_s hf
  have lt_a0 := lR_spec eu46
  obtain ⟨u47, eu47, hf⟩ := ob_s hf
  have lt_sz38 := lR_spec eu47
  obtain ⟨⟨kc48, ks48⟩, eb48, hf⟩ := ob_s hf
  try dsimp only at hf
  obtain ⟨⟨h48, sz48⟩, ec48, hf⟩ := ob_s hf
  try dsimp only at hf
  refine px_callI (As := []) (rest := [.ref (i44 sz38), .ref (i44 a0)]) ⟨hx, hb, hml, hown, hts⟩ hC w (kX5_init l D dA b0 i44 N sz38 h42 sz43 h48 sz48 hwf ec48) (cwI 0 hts gX7_init_X5_init rfl rfl rfl (hts _ mX7_init_ci33) (hts _ mX7_init_cm33) (hts _ mX7_init_cn33) rfl (by decide +kernel) ⟨Nat.le_of_ble_eq_true rfl, Nat.le_of_ble_eq_true rfl⟩) eb48 hcl hsl rfl hl.1 rfl (Nat.le_of_ble_eq_true rfl) dX7_init_55 (fun i48 H locs cells slots hio w hwf hcl hsl => ?_)
  rw [← hio.1 a0 lt_a0] at hl ⊢
  rw [← hio.1 sz38 lt_sz38]
  have hag := agr_trans hag hio
  obtain ⟨u50, eu50, hf⟩ := ob_s hf
  obtain ⟨h49, eh49, hf⟩ := ob_s hf
  have hwf := wf_pV hwf eh49 (lR_spec eu50)
  refine px_putF hx hb hts nX7_init_X7 tyX7 tyX7_ok nmX7 hown hK w eh49 rfl (by decide) mX7_init_34 rfl rfl hin0 rfl rfl rfl dX7_init_58 rfl (fun H locs w => ?_)
  refine lv_aload_n hx hb dX7_init_61 rfl (lv_at hl 0 rfl) ?_
  obtain ⟨u51, eu51, hf⟩ := ob_s hf
  have lt_a0 := lR_spec eu51
  obtain ⟨⟨h52, sz53, kc53, ks53⟩, e55, hf⟩ := ob_s hf
  try dsimp only at hf
  refine px_new (fs := [.null, .null, .null, .null]) hx hb hts nX7_init_X1 tyX1 tyX1_ok hown mX7_init_cl_38 mX7_init_in_38 mX7_init_it_38 hK ⟨w, hwf⟩ rfl dvX7_init_X1 (by decide) e55 hcl hsl dX7_init_62 (fun i54 H cells slots hio w hcl hsl => ?_)
  obtain ⟨w, hwf⟩ := w
  rw [← hio.1 a0 lt_a0] at hl ⊢
  have hag := agr_trans hag hio
  refine lv_dup hx hb dX7_init_65 rfl ?_
  obtain ⟨u56, eu56, hf⟩ := ob_s hf
  have lt_a0 := lR_spec eu56
  obtain ⟨u57, eu57, hf⟩ := ob_s hf
  have lt_sz48 := lR_spec eu57
  obtain ⟨⟨kc58, ks58⟩, eb58, hf⟩ := ob_s hf
  try dsimp only at hf
  obtain ⟨⟨h58, sz58⟩, ec58, hf⟩ := ob_s hf
  try dsimp only at hf
  refine px_callI (As := []) (rest := [.ref (i54 sz48), .ref (i54 a0)]) ⟨hx, hb, hml, hown, hts⟩ hC w (kX1_init l D dA b0 i54 N sz48 h52 sz53 h58 sz58 hwf ec58) (cwI 0 hts gX7_init_X1_init rfl rfl rfl (hts _ mX7_init_ci40) (hts _ mX7_init_cm40) (hts _ mX7_init_cn40) rfl (by decide +kernel) ⟨Nat.le_of_ble_eq_true rfl, Nat.le_of_ble_eq_true rfl⟩) eb58 hcl hsl rfl hl.1 rfl (Nat.le_of_ble_eq_true rfl) dX7_init_66 (fun i58 H locs cells slots hio w hwf hcl hsl => ?_)
  rw [← hio.1 a0 lt_a0] at hl ⊢
  rw [← hio.1 sz48 lt_sz48]
  have hag := agr_trans hag hio
  obtain ⟨u60, eu60, hf⟩ := ob_s hf
  obtain ⟨h59, eh59, hf⟩ := ob_s hf
  have hwf := wf_pV hwf eh59 (lR_spec eu60)
  refine px_putF hx hb hts nX7_init_X7 tyX7 tyX7_ok nmX7 hown hK w eh59 rfl (by decide) mX7_init_41 rfl rfl hin0 rfl rfl rfl dX7_init_69 rfl (fun H locs w => ?_)
  refine lv_aload_n hx hb dX7_init_72 rfl (lv_at hl 0 rfl) ?_
  refine lv_iconst (v := (3 : Int32)) hx hb dX7_init_73 (by decide) ?_
  obtain ⟨u61, eu61, hf⟩ := ob_s hf
  have lt_a0 := lR_spec eu61
  obtain ⟨⟨h62, sz63, kc63, ks63⟩, e65, hf⟩ := ob_s hf
  try dsimp only at hf
  refine px_newq hx hb hts hown mX7_init_cl_9 hC.2.2.1 hK ⟨w, hwf⟩ 3 rfl (by decide) rfl (by decide) e65 hcl hsl dX7_init_74 (fun i64 H cells slots hio w hcl hsl => ?_)
  obtain ⟨w, hwf⟩ := w
  rw [← hio.1 a0 lt_a0] at hl ⊢
  have hag := agr_trans hag hio
  obtain ⟨u67, eu67, hf⟩ := ob_s hf
  obtain ⟨h66, eh66, hf⟩ := ob_s hf
  have hwf := wf_pV hwf eh66 (lR_spec eu67)
  refine px_putF hx hb hts nX7_init_X7 tyX7 tyX7_ok nmX7 hown hK w eh66 rfl (by decide) mX7_init_45 rfl rfl hin0 rfl rfl rfl dX7_init_77 rfl (fun H locs w => ?_)
  refine lv_iconst (v := (0 : Int32)) hx hb dX7_init_80 (by decide) ?_
  refine lv_istore_n (lv' := [(1, .int (0 : Int32)), (0, .ref (i64 a0))]) hx hb dX7_init_81 rfl hl (by decide) rfl (fun ls hl => ?_)
  have hx82 : ∀ (y68 : Int32) (i71 : Nat → Nat) (h69 : Hp) (sz70 kc70 ks70 cells slots : Nat) (H : Heap) (locs : List Loc) (ls : Array Slot), ((lR sz70 a0).bind fun u72 => (nO h69 sz70 kc70 ks70 3 (.inl (2, 3, .inl (fun _ => 0)))).bind fun (h73, sz74, kc74, ks74) => (lR sz74 sz70).bind fun u78 => (pV h73 a0 9 12 (.ref sz70)).bind fun h77 => (lR sz74 a0).bind fun u79 => (nO h77 sz74 kc74 ks74 3 (.inr (2, [.null, .null, .null]))).bind fun (h80, sz81, kc81, ks81) => (lR sz81 a0).bind fun u84 => (lR sz81 sz74).bind fun u85 => (bC kc81 ks81 6 207).bind fun (kc86, ks86) => (fX0_init N sz74 h80 sz81).bind fun (h86, sz86) => (lR sz86 sz74).bind fun u88 => (pV h86 a0 9 13 (.ref sz74)).bind fun h87 => (lR sz86 a0).bind fun u89 => (nO h87 sz86 kc86 ks86 2 (.inr (6, [.null, .int 0]))).bind fun (h90, sz91, kc91, ks91) => (lR sz91 a0).bind fun u94 => (lR sz91 sz86).bind fun u95 => (bC kc91 ks91 1 67).bind fun (kc96, ks96) => (fX4_init N sz86 (2 : Int32) h90 sz91).bind fun (h96, sz96) => (lR sz96 sz86).bind fun u98 => (pV h96 a0 9 14 (.ref sz86)).bind fun h97 => some (h97, sz96)) = some (h', sz') → lv_has ls 2 [(0, .ref (i71 a0)), (1, .int y68)] → WD D dA b0 i71 h69 s.heap H locs → wf h69 sz70 → agr ι sz i71 sz70 → cells + kc70 ≤ (headSpec wsX7_init rmX7_init).room.cells → slots + ks70 ≤ (headSpec wsX7_init rmX7_init).room.slots → W p l e (headSpec wsX7_init rmX7_init).room s m args below meth c H locs cells slots (MQ below (QZ D dA b0 ι sz h' sz') args s 644 20195 (qA b0)) (F0 m 108 ls []) := by
    intro y68 i71 h69 sz70 kc70 ks70 cells slots H locs ls hf hl w hwf hag hcl hsl
    refine lv_aload_n hx hb dX7_init_108 rfl (lv_at hl 0 rfl) ?_
    refine lv_iconst (v := (3 : Int32)) hx hb dX7_init_109 (by decide) ?_
    obtain ⟨u72, eu72, hf⟩ := ob_s hf
    have lt_a0 := lR_spec eu72
    obtain ⟨⟨h73, sz74, kc74, ks74⟩, e76, hf⟩ := ob_s hf
    try dsimp only at hf
    refine px_newa (atype := .boolean) (ty := .boolean) (a0 := (3, .inl (fun _ => 0))) hx hb hts rfl mX7_init_arboolean hK ⟨w, hwf⟩ 2 rfl (fun cA h1 h2 => Option.some.inj (h1.symm.trans h2)) (fun cA => rfl) (fun m => trivial) (fun j => rfl) (by decide) rfl (by decide) e76 hcl hsl dX7_init_110 (fun i75 H cells slots hio w hcl hsl => ?_)
    obtain ⟨w, hwf⟩ := w
    rw [← hio.1 a0 lt_a0] at hl ⊢
    have hag := agr_trans hag hio
    obtain ⟨u78, eu78, hf⟩ := ob_s hf
    obtain ⟨h77, eh77, hf⟩ := ob_s hf
    have hwf := wf_pV hwf eh77 (lR_spec eu78)
    refine px_putF hx hb hts nX7_init_X7 tyX7 tyX7_ok nmX7 hown hK w eh77 rfl (by decide) mX7_init_49 rfl rfl hin0 rfl rfl rfl dX7_init_112 rfl (fun H locs w => ?_)
    refine lv_aload_n hx hb dX7_init_115 rfl (lv_at hl 0 rfl) ?_
    obtain ⟨u79, eu79, hf⟩ := ob_s hf
    have lt_a0 := lR_spec eu79
    obtain ⟨⟨h80, sz81, kc81, ks81⟩, e83, hf⟩ := ob_s hf
    try dsimp only at hf
    refine px_new (fs := [.null, .null, .null]) hx hb hts nX7_init_X0 tyX0 tyX0_ok hown mX7_init_cl_53 mX7_init_in_53 mX7_init_it_53 hK ⟨w, hwf⟩ rfl dvX7_init_X0 (by decide) e83 hcl hsl dX7_init_116 (fun i82 H cells slots hio w hcl hsl => ?_)
    obtain ⟨w, hwf⟩ := w
    rw [← hio.1 a0 lt_a0] at hl ⊢
    have hag := agr_trans hag hio
    refine lv_dup hx hb dX7_init_119 rfl ?_
    obtain ⟨u84, eu84, hf⟩ := ob_s hf
    have lt_a0 := lR_spec eu84
    obtain ⟨u85, eu85, hf⟩ := ob_s hf
    have lt_sz74 := lR_spec eu85
    obtain ⟨⟨kc86, ks86⟩, eb86, hf⟩ := ob_s hf
    try dsimp only at hf
    obtain ⟨⟨h86, sz86⟩, ec86, hf⟩ := ob_s hf
    try dsimp only at hf
    refine px_callI (As := []) (rest := [.ref (i82 sz74), .ref (i82 a0)]) ⟨hx, hb, hml, hown, hts⟩ hC w (kX0_init l D dA b0 i82 N sz74 h80 sz81 h86 sz86 hwf ec86) (cwI 0 hts gX7_init_X0_init rfl rfl rfl (hts _ mX7_init_ci55) (hts _ mX7_init_cm55) (hts _ mX7_init_cn55) rfl (by decide +kernel) ⟨Nat.le_of_ble_eq_true rfl, Nat.le_of_ble_eq_true rfl⟩) eb86 hcl hsl rfl hl.1 rfl (Nat.le_of_ble_eq_true rfl) dX7_init_120 (fun i86 H locs cells slots hio w hwf hcl hsl => ?_)
    rw [← hio.1 a0 lt_a0] at hl ⊢
    rw [← hio.1 sz74 lt_sz74]
    have hag := agr_trans hag hio
    obtain ⟨u88, eu88, hf⟩ := ob_s hf
    obtain ⟨h87, eh87, hf⟩ := ob_s hf
    have hwf := wf_pV hwf eh87 (lR_spec eu88)
    refine px_putF hx hb hts nX7_init_X7 tyX7 tyX7_ok nmX7 hown hK w eh87 rfl (by decide) mX7_init_56 rfl rfl hin0 rfl rfl rfl dX7_init_123 rfl (fun H locs w => ?_)
    refine lv_aload_n hx hb dX7_init_126 rfl (lv_at hl 0 rfl) ?_
    obtain ⟨u89, eu89, hf⟩ := ob_s hf
    have lt_a0 := lR_spec eu89
    obtain ⟨⟨h90, sz91, kc91, ks91⟩, e93, hf⟩ := ob_s hf
    try dsimp only at hf
    refine px_new (fs := [.null, .int 0]) hx hb hts nX7_init_X4 tyX4 tyX4_ok hown mX7_init_cl_60 mX7_init_in_60 mX7_init_it_60 hK ⟨w, hwf⟩ rfl dvX7_init_X4 (by decide) e93 hcl hsl dX7_init_127 (fun i92 H cells slots hio w hcl hsl => ?_)
    obtain ⟨w, hwf⟩ := w
    rw [← hio.1 a0 lt_a0] at hl ⊢
    have hag := agr_trans hag hio
    refine lv_dup hx hb dX7_init_130 rfl ?_
    refine lv_iconst (v := (2 : Int32)) hx hb dX7_init_131 (by decide) ?_
    obtain ⟨u94, eu94, hf⟩ := ob_s hf
    have lt_a0 := lR_spec eu94
    obtain ⟨u95, eu95, hf⟩ := ob_s hf
    have lt_sz86 := lR_spec eu95
    obtain ⟨⟨kc96, ks96⟩, eb96, hf⟩ := ob_s hf
    try dsimp only at hf
    obtain ⟨⟨h96, sz96⟩, ec96, hf⟩ := ob_s hf
    try dsimp only at hf
    refine px_callI (As := [.int (2 : Int32)]) (rest := [.ref (i92 sz86), .ref (i92 a0)]) ⟨hx, hb, hml, hown, hts⟩ hC w (kX4_init l D dA b0 i92 N sz86 (2 : Int32) h90 sz91 h96 sz96 hwf ec96) (cwI 1 hts gX7_init_X4_init rfl rfl rfl (hts _ mX7_init_ci62) (hts _ mX7_init_cm62) (hts _ mX7_init_cn62) rfl (by decide +kernel) ⟨Nat.le_of_ble_eq_true rfl, Nat.le_of_ble_eq_true rfl⟩) eb96 hcl hsl rfl hl.1 rfl (Nat.le_of_ble_eq_true rfl) dX7_init_132 (fun i96 H locs cells slots hio w hwf hcl hsl => ?_)
    rw [← hio.1 a0 lt_a0] at hl ⊢
    rw [← hio.1 sz86 lt_sz86]
    have hag := agr_trans hag hio
    obtain ⟨u98, eu98, hf⟩ := ob_s hf
    obtain ⟨h97, eh97, hf⟩ := ob_s hf
    have hwf := wf_pV hwf eh97 (lR_spec eu98)
    refine px_putF hx hb hts nX7_init_X7 tyX7 tyX7_ok nmX7 hown hK w eh97 rfl (by decide) mX7_init_63 rfl rfl hin0 rfl rfl rfl dX7_init_135 rfl (fun H locs w => ?_)
    refine W.widen (k := 644) (n := 20195) (Nat.le_trans (Nat.le_add_right _ _) hcl) (Nat.le_trans (Nat.le_add_right _ _) hsl) ?_
    exact W.vret hx hb hr (qz_end hf w hwf hag hC) w.locs_ok dX7_init_138
  obtain ⟨κ82, eκ82⟩ : ∃ k : Int32 → Hp → Nat → Nat → Nat → Option (Hp × Nat), k = (fun y68 h69 sz70 kc70 ks70 => (lR sz70 a0).bind fun u72 => (nO h69 sz70 kc70 ks70 3 (.inl (2, 3, .inl (fun _ => 0)))).bind fun (h73, sz74, kc74, ks74) => (lR sz74 sz70).bind fun u78 => (pV h73 a0 9 12 (.ref sz70)).bind fun h77 => (lR sz74 a0).bind fun u79 => (nO h77 sz74 kc74 ks74 3 (.inr (2, [.null, .null, .null]))).bind fun (h80, sz81, kc81, ks81) => (lR sz81 a0).bind fun u84 => (lR sz81 sz74).bind fun u85 => (bC kc81 ks81 6 207).bind fun (kc86, ks86) => (fX0_init N sz74 h80 sz81).bind fun (h86, sz86) => (lR sz86 sz74).bind fun u88 => (pV h86 a0 9 13 (.ref sz74)).bind fun h87 => (lR sz86 a0).bind fun u89 => (nO h87 sz86 kc86 ks86 2 (.inr (6, [.null, .int 0]))).bind fun (h90, sz91, kc91, ks91) => (lR sz91 a0).bind fun u94 => (lR sz91 sz86).bind fun u95 => (bC kc91 ks91 1 67).bind fun (kc96, ks96) => (fX4_init N sz86 (2 : Int32) h90 sz91).bind fun (h96, sz96) => (lR sz96 sz86).bind fun u98 => (pV h96 a0 9 14 (.ref sz86)).bind fun h97 => some (h97, sz96)) := ⟨_, rfl⟩
  have hlp82 : ∀ (n : Nat) (z117 : Int32) (i120 : Nat → Nat) (h118 : Hp) (sz119 kc119 ks119 cells slots : Nat) (H : Heap) (locs : List Loc) (ls : Array Slot), lX7_init_82 N a0 n z117 h118 sz119 kc119 ks119 κ82 = some (h', sz') → lv_has ls 2 [(0, .ref (i120 a0)), (1, .int z117)] → WD D dA b0 i120 h118 s.heap H locs → wf h118 sz119 → agr ι sz i120 sz119 → cells + kc119 ≤ (headSpec wsX7_init rmX7_init).room.cells → slots + ks119 ≤ (headSpec wsX7_init rmX7_init).room.slots → W p l e (headSpec wsX7_init rmX7_init).room s m args below meth c H locs cells slots (MQ below (QZ D dA b0 ι sz h' sz') args s 644 20195 (qA b0)) (F0 m 82 ls []) := by
    intro n82
    induction n82 with
    | zero => intro z117 i120 h118 sz119 kc119 ks119 cells slots H locs ls hf; exact absurd hf (by rw [lX7_init_82]; exact fun q => nomatch q)
    | succ n82 ih82 =>
      intro z117 i120 h118 sz119 kc119 ks119 cells slots H locs ls hf hl w hwf hag hcl hsl
      rw [lX7_init_82] at hf
      refine lv_iload_n hx hb dX7_init_82 rfl (lv_at hl 1 rfl) ?_
      refine lv_iconst (v := (3 : Int32)) hx hb dX7_init_83 (by decide) ?_
      refine lv_icmp_ge (tgt := 108) hx hb dX7_init_84 (by decide) (fun c121 => ?_) (fun c121 => ?_)
      · have hf := if_t hf c121
        exact hx82 z117 i120 h118 sz119 kc119 ks119 _ _ H locs ls (by rw [eκ82] at hf; exact hf) (lv_sub hl [0, 1] rfl) w hwf hag hcl hsl
      · have hf := if_f hf c121
        refine lv_aload_n hx hb dX7_init_87 rfl (lv_at hl 0 rfl) ?_
        obtain ⟨v122, ev122, hf⟩ := ob_s hf
        refine px_getR hx hb hts nX7_init_X7 hown hK w ev122 rfl (by decide) mX7_init_45 rfl dX7_init_88 ?_
        refine lv_iload_n hx hb dX7_init_91 rfl (lv_at hl 1 rfl) ?_
        obtain ⟨u123, eu123, hf⟩ := ob_s hf
        have lt_a0 := lR_spec eu123
        obtain ⟨u124, eu124, hf⟩ := ob_s hf
        have lt_v122 := lR_spec eu124
        obtain ⟨⟨h125, sz126, kc126, ks126⟩, e128, hf⟩ := ob_s hf
        try dsimp only at hf
        refine px_new (fs := [.null]) hx hb hts nX7_init_X2 tyX2 tyX2_ok hown mX7_init_cl_9 mX7_init_in_9 mX7_init_it_9 hK ⟨w, hwf⟩ rfl dvX7_init_X2 (by decide) e128 hcl hsl dX7_init_92 (fun i127 H cells slots hio w hcl hsl => ?_)
        obtain ⟨w, hwf⟩ := w
        rw [← hio.1 a0 lt_a0] at hl
        rw [← hio.1 v122 lt_v122]
        have hag := agr_trans hag hio
        refine lv_dup hx hb dX7_init_95 rfl ?_
        refine lv_bipush (v := (13 : Int32)) hx hb dX7_init_96 (by decide) ?_
        obtain ⟨u129, eu129, hf⟩ := ob_s hf
        have lt_a0 := lR_spec eu129
        obtain ⟨u130, eu130, hf⟩ := ob_s hf
        have lt_v122 := lR_spec eu130
        obtain ⟨u131, eu131, hf⟩ := ob_s hf
        have lt_sz119 := lR_spec eu131
        obtain ⟨⟨kc132, ks132⟩, eb132, hf⟩ := ob_s hf
        try dsimp only at hf
        obtain ⟨⟨h132, sz132⟩, ec132, hf⟩ := ob_s hf
        try dsimp only at hf
        refine px_callI (As := [.int (13 : Int32)]) (rest := [.ref (i127 sz119), .int z117, .ref (i127 v122)]) ⟨hx, hb, hml, hown, hts⟩ hC w (kX2_init l D dA b0 i127 N sz119 (13 : Int32) h125 sz126 h132 sz132 hwf ec132) (cwI 1 hts gX7_init_X2_init rfl rfl rfl (hts _ mX7_init_ci11) (hts _ mX7_init_cm11) (hts _ mX7_init_cn11) rfl (by decide +kernel) ⟨Nat.le_of_ble_eq_true rfl, Nat.le_of_ble_eq_true rfl⟩) eb132 hcl hsl rfl hl.1 rfl (Nat.le_of_ble_eq_true rfl) dX7_init_98 (fun i132 H locs cells slots hio w hwf hcl hsl => ?_)
        rw [← hio.1 a0 lt_a0] at hl
        rw [← hio.1 v122 lt_v122]
        rw [← hio.1 sz119 lt_sz119]
        have hag := agr_trans hag hio
        obtain ⟨u134, eu134, hf⟩ := ob_s hf
        obtain ⟨h133, eh133, hf⟩ := ob_s hf
        have hwf := wf_aRs hwf eh133 (lR_spec eu134)
        refine px_rast hx hb hK w eh133 rfl rfl dX7_init_101 (fun H locs w => ?_)
        obtain ⟨x135, ex135, hf⟩ := nm_s hf
        refine lv_iinc (v := x135) (lv' := [(1, .int x135), (0, .ref (i132 a0))]) hx hb dX7_init_102 hl (k := 1) rfl (by rw [ex135]; rfl) (by decide) rfl (fun ls hl => ?_)
        refine lv_goto (tgt := 82) hx hb dX7_init_105 (by decide) ?_
        exact ih82 x135 i132 h133 sz132 kc132 ks132 _ _ H locs ls hf (lv_sub hl [1, 0] rfl) w hwf hag hcl hsl
  exact hlp82 N (0 : Int32) i64 h66 sz63 kc63 ks63 _ _ H locs ls (by rw [eκ82]; exact hf) (lv_sub hl [1, 0] rfl) w hwf hag hcl hsl
theorem mX8_init_oil : Cond.methodLink RX8 1 objectInit ∈ wsX8_init := by decide +kernel
theorem mX8_init_oii : Cond.instanceMethod objectInit ∈ wsX8_init := by decide +kernel
theorem mX8_init_oic : Cond.code objectInit ⟨#[0xb1]⟩ 1 none ∈ wsX8_init := by decide +kernel
theorem mX8_init_arint : Cond.arrayClass .int ∈ wsX8_init := by decide +kernel
theorem nX8_init_X8 : ∀ w ∈ wsX80, w ∈ wsX8_init := by decide +kernel
theorem mX8_init_7 : Cond.fieldLink RX8 7 "NormalFormsModel" "entries" "[I" ∈ wsX8_init := by decide +kernel
theorem mX8_init_arboolean : Cond.arrayClass .boolean ∈ wsX8_init := by decide +kernel
theorem mX8_init_13 : Cond.fieldLink RX8 13 "NormalFormsModel" "there" "[Z" ∈ wsX8_init := by decide +kernel
theorem mX8_init_17 : Cond.fieldLink RX8 17 "NormalFormsModel" "forms" "[I" ∈ wsX8_init := by decide +kernel
theorem mX8_init_20 : Cond.fieldLink RX8 20 "NormalFormsModel" "minors" "[I" ∈ wsX8_init := by decide +kernel
theorem mX8_init_23 : Cond.fieldLink RX8 23 "NormalFormsModel" "work" "[I" ∈ wsX8_init := by decide +kernel
theorem mX8_init_26 : Cond.fieldLink RX8 26 "NormalFormsModel" "made" "[I" ∈ wsX8_init := by decide +kernel
theorem mX8_init_29 : Cond.fieldLink RX8 29 "NormalFormsModel" "pivot" "[I" ∈ wsX8_init := by decide +kernel
theorem mX8_init_32 : Cond.fieldLink RX8 32 "NormalFormsModel" "a" "[I" ∈ wsX8_init := by decide +kernel
theorem mX8_init_35 : Cond.fieldLink RX8 35 "NormalFormsModel" "b" "[I" ∈ wsX8_init := by decide +kernel
theorem mX8_init_38 : Cond.fieldLink RX8 38 "NormalFormsModel" "c" "[I" ∈ wsX8_init := by decide +kernel
theorem mX8_init_41 : Cond.fieldLink RX8 41 "NormalFormsModel" "before" "[I" ∈ wsX8_init := by decide +kernel
theorem mX8_init_44 : Cond.fieldLink RX8 44 "NormalFormsModel" "powers" "[I" ∈ wsX8_init := by decide +kernel
theorem mX8_init_47 : Cond.fieldLink RX8 47 "NormalFormsModel" "relation" "[I" ∈ wsX8_init := by decide +kernel
theorem mX8_init_50 : Cond.fieldLink RX8 50 "NormalFormsModel" "row" "[I" ∈ wsX8_init := by decide +kernel
theorem mX8_init_53 : Cond.fieldLink RX8 53 "NormalFormsModel" "mine" "[I" ∈ wsX8_init := by decide +kernel
theorem mX8_init_56 : Cond.fieldLink RX8 56 "NormalFormsModel" "cleared" "[I" ∈ wsX8_init := by decide +kernel
theorem mX8_init_59 : Cond.fieldLink RX8 59 "NormalFormsModel" "raised" "[I" ∈ wsX8_init := by decide +kernel
theorem mX8_init_62 : Cond.fieldLink RX8 62 "NormalFormsModel" "next" "[I" ∈ wsX8_init := by decide +kernel
abbrev rmX8_init : Room := { frames := 1, cells := 18, slots := 11765, locals := 20 }
set_option maxHeartbeats 4000000 in
set_option maxRecDepth 100000 in
theorem kX8_init (l : Launch) (D : va_G) (dA : Nat → ClassId) (b0 : Nat) (ι : Nat → Nat) (N : Nat) (a0 : Nat) (h : Hp) (sz : Nat) (h' : Hp) (sz' : Nat) (hwf : wf h sz) (hf : fX8_init N a0 h sz = some (h', sz')) : Met l yX8_init wsX8_init rmX8_init (PC D dA b0 ι [.ref (ι a0)] h) (QZ D dA b0 ι sz h' sz') 18 11765 (qA b0) := by
  unfold fX8_init at hf
  refine Met.ofW (cc := cX8_init) (maxL := 1) (ret := none) (by decide +kernel) rfl ?_
  intro p e s m args below meth c s₁ B hml hv
  obtain ⟨hav, w0⟩ := hv
  rw [show entryFrame m args 1 = entryFrame m ([.ref (ι a0)] : List Value).toArray 1 by rw [hav]]
  clear hav
  have hx := B.exec
  have hb := B.bytes
  have hr := B.returns
  have hts := atoms_spec (ws := wsX8_init) B.pre
  have hown : s.vm.findClass RX8 = some m.cls := findClass_of_methodNamed B.named
  have hin0 : meth.name = "<init>" := (name_of_methodNamed B.named B.method).1
  have hlocks := B.notSynchronized
  have hC := w0.c
  have hK := hC.1
  have w := WD.start w0
  clear w0
  have hl := lv_entry ([.ref (ι a0)]) (n := 1) (Nat.le_of_ble_eq_true rfl)
  rw [lg_entry_eq]
  generalize (lg_sl ([.ref (ι a0)]) ++ List.replicate (1 - (lg_sl ([.ref (ι a0)])).length) Slot.unset).toArray = ls at hl ⊢
  have hl : lv_has ls 1 [(0, .ref (ι a0))] := hl
  obtain ⟨H, hH⟩ : ∃ H : Heap, H = s.heap := ⟨_, rfl⟩
  obtain ⟨locs, hlo⟩ : ∃ locs : List Loc, locs = [] := ⟨_, rfl⟩
  rw [← hlo]
  have w : WD D dA b0 ι h s.heap H locs := by rw [hH, hlo]; exact w
  refine px_start hH ?_
  obtain ⟨kc, ekc, hf⟩ := nm_s hf
  obtain ⟨ks, eks, hf⟩ := nm_s hf
  have hag : agr ι sz ι sz := ⟨fun _ _ => rfl, Nat.le_refl _⟩
  have hcl : 0 + kc ≤ (headSpec wsX8_init rmX8_init).room.cells := by rw [ekc]; exact Nat.le_of_ble_eq_true rfl
  have hsl : 0 + ks ≤ (headSpec wsX8_init rmX8_init).room.slots := by rw [eks]; exact Nat.le_of_ble_eq_true rfl
  refine lv_aload_n hx hb dX8_init_0 rfl (lv_at hl 0 rfl) ?_
  refine W.objInit hx hb hown (hts _ mX8_init_oil) (hts _ mX8_init_oii) (hts _ mX8_init_oic) rfl (by rw [hml]; exact hl.1) rfl dX8_init_1 (Nat.le_of_ble_eq_true rfl) (Nat.le_of_ble_eq_true rfl) ?_
  refine lv_aload_n hx hb dX8_init_4 rfl (lv_at hl 0 rfl) ?_
  refine lv_bipush (v := (64 : Int32)) hx hb dX8_init_5 (by decide) ?_
  obtain ⟨u1, eu1, hf⟩ := ob_s hf
  have lt_a0 := lR_spec eu1
  obtain ⟨⟨h2, sz3, kc3, ks3⟩, e5, hf⟩ := ob_s hf
  try dsimp only at hf
  refine px_newa (atype := .int) (ty := .int) (a0 := (64, .inl (fun _ => 0))) hx hb hts rfl mX8_init_arint hK ⟨w, hwf⟩ 0 rfl (fun cA h1 h2 => Option.some.inj (h1.symm.trans h2)) (fun cA => rfl) (fun m => trivial) (fun j => rfl) (by decide) rfl (by decide) e5 hcl hsl dX8_init_7 (fun i4 H cells slots hio w hcl hsl => ?_)
  obtain ⟨w, hwf⟩ := w
  rw [← hio.1 a0 lt_a0] at hl ⊢
  have hag := agr_trans hag hio
  obtain ⟨u7, eu7, hf⟩ := ob_s hf
  obtain ⟨h6, eh6, hf⟩ := ob_s hf
  have hwf := wf_pV hwf eh6 (lR_spec eu7)
  refine px_putF hx hb hts nX8_init_X8 tyX8 tyX8_ok nmX8 hown hK w eh6 rfl (by decide) mX8_init_7 rfl rfl hin0 rfl rfl rfl dX8_init_9 rfl (fun H locs w => ?_)
  refine lv_aload_n hx hb dX8_init_12 rfl (lv_at hl 0 rfl) ?_
  refine lv_iconst (v := (3 : Int32)) hx hb dX8_init_13 (by decide) ?_
  obtain ⟨u8, eu8, hf⟩ := ob_s hf
  have lt_a0 := lR_spec eu8
  obtain ⟨⟨h9, sz10, kc10, ks10⟩, e12, hf⟩ := ob_s hf
  try dsimp only at hf
  refine px_newa (atype := .boolean) (ty := .boolean) (a0 := (3, .inl (fun _ => 0))) hx hb hts rfl mX8_init_arboolean hK ⟨w, hwf⟩ 2 rfl (fun cA h1 h2 => Option.some.inj (h1.symm.trans h2)) (fun cA => rfl) (fun m => trivial) (fun j => rfl) (by decide) rfl (by decide) e12 hcl hsl dX8_init_14 (fun i11 H cells slots hio w hcl hsl => ?_)
  obtain ⟨w, hwf⟩ := w
  rw [← hio.1 a0 lt_a0] at hl ⊢
  have hag := agr_trans hag hio
  obtain ⟨u14, eu14, hf⟩ := ob_s hf
  obtain ⟨h13, eh13, hf⟩ := ob_s hf
  have hwf := wf_pV hwf eh13 (lR_spec eu14)
  refine px_putF hx hb hts nX8_init_X8 tyX8 tyX8_ok nmX8 hown hK w eh13 rfl (by decide) mX8_init_13 rfl rfl hin0 rfl rfl rfl dX8_init_16 rfl (fun H locs w => ?_)
  refine lv_aload_n hx hb dX8_init_19 rfl (lv_at hl 0 rfl) ?_
  refine lv_sipush (v := (1920 : Int32)) hx hb dX8_init_20 (by decide) ?_
  obtain ⟨u15, eu15, hf⟩ := ob_s hf
  have lt_a0 := lR_spec eu15
  obtain ⟨⟨h16, sz17, kc17, ks17⟩, e19, hf⟩ := ob_s hf
  try dsimp only at hf
  refine px_newa (atype := .int) (ty := .int) (a0 := (1920, .inl (fun _ => 0))) hx hb hts rfl mX8_init_arint hK ⟨w, hwf⟩ 0 rfl (fun cA h1 h2 => Option.some.inj (h1.symm.trans h2)) (fun cA => rfl) (fun m => trivial) (fun j => rfl) (by decide) rfl (by decide) e19 hcl hsl dX8_init_23 (fun i18 H cells slots hio w hcl hsl => ?_)
  obtain ⟨w, hwf⟩ := w
  rw [← hio.1 a0 lt_a0] at hl ⊢
  have hag := agr_trans hag hio
  obtain ⟨u21, eu21, hf⟩ := ob_s hf
  obtain ⟨h20, eh20, hf⟩ := ob_s hf
  have hwf := wf_pV hwf eh20 (lR_spec eu21)
  refine px_putF hx hb hts nX8_init_X8 tyX8 tyX8_ok nmX8 hown hK w eh20 rfl (by decide) mX8_init_17 rfl rfl hin0 rfl rfl rfl dX8_init_25 rfl (fun H locs w => ?_)
  refine lv_aload_n hx hb dX8_init_28 rfl (lv_at hl 0 rfl) ?_
  refine lv_sipush (v := (3328 : Int32)) hx hb dX8_init_29 (by decide) ?_
  obtain ⟨u22, eu22, hf⟩ := ob_s hf
  have lt_a0 := lR_spec eu22
  obtain ⟨⟨h23, sz24, kc24, ks24⟩, e26, hf⟩ := ob_s hf
  try dsimp only at hf
  refine px_newa (atype := .int) (ty := .int) (a0 := (3328, .inl (fun _ => 0))) hx hb hts rfl mX8_init_arint hK ⟨w, hwf⟩ 0 rfl (fun cA h1 h2 => Option.some.inj (h1.symm.trans h2)) (fun cA => rfl) (fun m => trivial) (fun j => rfl) (by decide) rfl (by decide) e26 hcl hsl dX8_init_32 (fun i25 H cells slots hio w hcl hsl => ?_)
  obtain ⟨w, hwf⟩ := w
  rw [← hio.1 a0 lt_a0] at hl ⊢
  have hag := agr_trans hag hio
  obtain ⟨u28, eu28, hf⟩ := ob_s hf
  obtain ⟨h27, eh27, hf⟩ := ob_s hf
  have hwf := wf_pV hwf eh27 (lR_spec eu28)
  refine px_putF hx hb hts nX8_init_X8 tyX8 tyX8_ok nmX8 hown hK w eh27 rfl (by decide) mX8_init_20 rfl rfl hin0 rfl rfl rfl dX8_init_34 rfl (fun H locs w => ?_)
  refine lv_aload_n hx hb dX8_init_37 rfl (lv_at hl 0 rfl) ?_
  refine lv_bipush (v := (64 : Int32)) hx hb dX8_init_38 (by decide) ?_
  obtain ⟨u29, eu29, hf⟩ := ob_s hf
  have lt_a0 := lR_spec eu29
  obtain ⟨⟨h30, sz31, kc31, ks31⟩, e33, hf⟩ := ob_s hf
  try dsimp only at hf
  refine px_newa (atype := .int) (ty := .int) (a0 := (64, .inl (fun _ => 0))) hx hb hts rfl mX8_init_arint hK ⟨w, hwf⟩ 0 rfl (fun cA h1 h2 => Option.some.inj (h1.symm.trans h2)) (fun cA => rfl) (fun m => trivial) (fun j => rfl) (by decide) rfl (by decide) e33 hcl hsl dX8_init_40 (fun i32 H cells slots hio w hcl hsl => ?_)
  obtain ⟨w, hwf⟩ := w
  rw [← hio.1 a0 lt_a0] at hl ⊢
  have hag := agr_trans hag hio
  obtain ⟨u35, eu35, hf⟩ := ob_s hf
  obtain ⟨h34, eh34, hf⟩ := ob_s hf
  have hwf := wf_pV hwf eh34 (lR_spec eu35)
  refine px_putF hx hb hts nX8_init_X8 tyX8 tyX8_ok nmX8 hown hK w eh34 rfl (by decide) mX8_init_23 rfl rfl hin0 rfl rfl rfl dX8_init_42 rfl (fun H locs w => ?_)
  refine lv_aload_n hx hb dX8_init_45 rfl (lv_at hl 0 rfl) ?_
  refine lv_sipush (v := (5120 : Int32)) hx hb dX8_init_46 (by decide) ?_
  obtain ⟨u36, eu36, hf⟩ := ob_s hf
  have lt_a0 := lR_spec eu36
  obtain ⟨⟨h37, sz38, kc38, ks38⟩, e40, hf⟩ := ob_s hf
  try dsimp only at hf
  refine px_newa (atype := .int) (ty := .int) (a0 := (5120, .inl (fun _ => 0))) hx hb hts rfl mX8_init_arint hK ⟨w, hwf⟩ 0 rfl (fun cA h1 h2 => Option.some.inj (h1.symm.trans h2)) (fun cA => rfl) (fun m => trivial) (fun j => rfl) (by decide) rfl (by decide) e40 hcl hsl dX8_init_49 (fun i39 H cells slots hio w hcl hsl => ?_)
  obtain ⟨w, hwf⟩ := w
  rw [← hio.1 a0 lt_a0] at hl ⊢
  have hag := agr_trans hag hio
  obtain ⟨u42, eu42, hf⟩ := ob_s hf
  obtain ⟨h41, eh41, hf⟩ := ob_s hf
  have hwf := wf_pV hwf eh41 (lR_spec eu42)
  refine px_putF hx hb hts nX8_init_X8 tyX8 tyX8_ok nmX8 hown hK w eh41 rfl (by decide) mX8_init_26 rfl rfl hin0 rfl rfl rfl dX8_init_51 rfl (fun H locs w => ?_)
  refine lv_aload_n hx hb dX8_init_54 rfl (lv_at hl 0 rfl) ?_
  refine lv_iconst (v := (4 : Int32)) hx hb dX8_init_55 (by decide) ?_
  obtain ⟨u43, eu43, hf⟩ := ob_s hf
  have lt_a0 := lR_spec eu43
  obtain ⟨⟨h44, sz45, kc45, ks45⟩, e47, hf⟩ := ob_s hf
  try dsimp only at hf
  refine px_newa (atype := .int) (ty := .int) (a0 := (4, .inl (fun _ => 0))) hx hb hts rfl mX8_init_arint hK ⟨w, hwf⟩ 0 rfl (fun cA h1 h2 => Option.some.inj (h1.symm.trans h2)) (fun cA => rfl) (fun m => trivial) (fun j => rfl) (by decide) rfl (by decide) e47 hcl hsl dX8_init_56 (fun i46 H cells slots hio w hcl hsl => ?_)
  obtain ⟨w, hwf⟩ := w
  rw [← hio.1 a0 lt_a0] at hl ⊢
  have hag := agr_trans hag hio
  obtain ⟨u49, eu49, hf⟩ := ob_s hf
  obtain ⟨h48, eh48, hf⟩ := ob_s hf
  have hwf := wf_pV hwf eh48 (lR_spec eu49)
  refine px_putF hx hb hts nX8_init_X8 tyX8 tyX8_ok nmX8 hown hK w eh48 rfl (by decide) mX8_init_29 rfl rfl hin0 rfl rfl rfl dX8_init_58 rfl (fun H locs w => ?_)
  refine lv_aload_n hx hb dX8_init_61 rfl (lv_at hl 0 rfl) ?_
  refine lv_sipush (v := (256 : Int32)) hx hb dX8_init_62 (by decide) ?_
  obtain ⟨u50, eu50, hf⟩ := ob_s hf
  have lt_a0 := lR_spec eu50
  obtain ⟨⟨h51, sz52, kc52, ks52⟩, e54, hf⟩ := ob_s hf
  try dsimp only at hf
  refine px_newa (atype := .int) (ty := .int) (a0 := (256, .inl (fun _ => 0))) hx hb hts rfl mX8_init_arint hK ⟨w, hwf⟩ 0 rfl (fun cA h1 h2 => Option.some.inj (h1.symm.trans h2)) (fun cA => rfl) (fun m => trivial) (fun j => rfl) (by decide) rfl (by decide) e54 hcl hsl dX8_init_65 (fun i53 H cells slots hio w hcl hsl => ?_)
  obtain ⟨w, hwf⟩ := w
  rw [← hio.1 a0 lt_a0] at hl ⊢
  have hag := agr_trans hag hio
  obtain ⟨u56, eu56, hf⟩ := ob_s hf
  obtain ⟨h55, eh55, hf⟩ := ob_s hf
  have hwf := wf_pV hwf eh55 (lR_spec eu56)
  refine px_putF hx hb hts nX8_init_X8 tyX8 tyX8_ok nmX8 hown hK w eh55 rfl (by decide) mX8_init_32 rfl rfl hin0 rfl rfl rfl dX8_init_67 rfl (fun H locs w => ?_)
  refine lv_aload_n hx hb dX8_init_70 rfl (lv_at hl 0 rfl) ?_
  refine lv_sipush (v := (256 : Int32)) hx hb dX8_init_71 (by decide) ?_
  obtain ⟨u57, eu57, hf⟩ := ob_s hf
  have lt_a0 := lR_spec eu57
  obtain ⟨⟨h58, sz59, kc59, ks59⟩, e61, hf⟩ := ob_s hf
  try dsimp only at hf
  refine px_newa (atype := .int) (ty := .int) (a0 := (256, .inl (fun _ => 0))) hx hb hts rfl mX8_init_arint hK ⟨w, hwf⟩ 0 rfl (fun cA h1 h2 => Option.some.inj (h1.symm.trans h2)) (fun cA => rfl) (fun m => trivial) (fun j => rfl) (by decide) rfl (by decide) e61 hcl hsl dX8_init_74 (fun i60 H cells slots hio w hcl hsl => ?_)
  obtain ⟨w, hwf⟩ := w
  rw [← hio.1 a0 lt_a0] at hl ⊢
  have hag := agr_trans hag hio
  obtain ⟨u63, eu63, hf⟩ := ob_s hf
  obtain ⟨h62, eh62, hf⟩ := ob_s hf
  have hwf := wf_pV hwf eh62 (lR_spec eu63)
  refine px_putF hx hb hts nX8_init_X8 tyX8 tyX8_ok nmX8 hown hK w eh62 rfl (by decide) mX8_init_35 rfl rfl hin0 rfl rfl rfl dX8_init_76 rfl (fun H locs w => ?_)
  refine lv_aload_n hx hb dX8_init_79 rfl (lv_at hl 0 rfl) ?_
  refine lv_sipush (v := (256 : Int32)) hx hb dX8_init_80 (by decide) ?_
  obtain ⟨u64, eu64, hf⟩ := ob_s hf
  have lt_a0 := lR_spec eu64
  obtain ⟨⟨h65, sz66, kc66, ks66⟩, e68, hf⟩ := ob_s hf
  try dsimp only at hf
  refine px_newa (atype := .int) (ty := .int) (a0 := (256, .inl (fun _ => 0))) hx hb hts rfl mX8_init_arint hK ⟨w, hwf⟩ 0 rfl (fun cA h1 h2 => Option.some.inj (h1.symm.trans h2)) (fun cA => rfl) (fun m => trivial) (fun j => rfl) (by decide) rfl (by decide) e68 hcl hsl dX8_init_83 (fun i67 H cells slots hio w hcl hsl => ?_)
  obtain ⟨w, hwf⟩ := w
  rw [← hio.1 a0 lt_a0] at hl ⊢
  have hag := agr_trans hag hio
  obtain ⟨u70, eu70, hf⟩ := ob_s hf
  obtain ⟨h69, eh69, hf⟩ := ob_s hf
  have hwf := wf_pV hwf eh69 (lR_spec eu70)
  refine px_putF hx hb hts nX8_init_X8 tyX8 tyX8_ok nmX8 hown hK w eh69 rfl (by decide) mX8_init_38 rfl rfl hin0 rfl rfl rfl dX8_init_85 rfl (fun H locs w => ?_)
  refine lv_aload_n hx hb dX8_init_88 rfl (lv_at hl 0 rfl) ?_
  refine lv_sipush (v := (256 : Int32)) hx hb dX8_init_89 (by decide) ?_
  obtain ⟨u71, eu71, hf⟩ := ob_s hf
  have lt_a0 := lR_spec eu71
  obtain ⟨⟨h72, sz73, kc73, ks73⟩, e75, hf⟩ := ob_s hf
  try dsimp only at hf
  refine px_newa (atype := .int) (ty := .int) (a0 := (256, .inl (fun _ => 0))) hx hb hts rfl mX8_init_arint hK ⟨w, hwf⟩ 0 rfl (fun cA h1 h2 => Option.some.inj (h1.symm.trans h2)) (fun cA => rfl) (fun m => trivial) (fun j => rfl) (by decide) rfl (by decide) e75 hcl hsl dX8_init_92 (fun i74 H cells slots hio w hcl hsl => ?_)
  obtain ⟨w, hwf⟩ := w
  rw [← hio.1 a0 lt_a0] at hl ⊢
  have hag := agr_trans hag hio
  obtain ⟨u77, eu77, hf⟩ := ob_s hf
  obtain ⟨h76, eh76, hf⟩ := ob_s hf
  have hwf := wf_pV hwf eh76 (lR_spec eu77)
  refine px_putF hx hb hts nX8_init_X8 tyX8 tyX8_ok nmX8 hown hK w eh76 rfl (by decide) mX8_init_41 rfl rfl hin0 rfl rfl rfl dX8_init_94 rfl (fun H locs w => ?_)
  refine lv_aload_n hx hb dX8_init_97 rfl (lv_at hl 0 rfl) ?_
  refine lv_bipush (v := (80 : Int32)) hx hb dX8_init_98 (by decide) ?_
  obtain ⟨u78, eu78, hf⟩ := ob_s hf
  have lt_a0 := lR_spec eu78
  obtain ⟨⟨h79, sz80, kc80, ks80⟩, e82, hf⟩ := ob_s hf
  try dsimp only at hf
  refine px_newa (atype := .int) (ty := .int) (a0 := (80, .inl (fun _ => 0))) hx hb hts rfl mX8_init_arint hK ⟨w, hwf⟩ 0 rfl (fun cA h1 h2 => Option.some.inj (h1.symm.trans h2)) (fun cA => rfl) (fun m => trivial) (fun j => rfl) (by decide) rfl (by decide) e82 hcl hsl dX8_init_100 (fun i81 H cells slots hio w hcl hsl => ?_)
  obtain ⟨w, hwf⟩ := w
  rw [← hio.1 a0 lt_a0] at hl ⊢
  have hag := agr_trans hag hio
  obtain ⟨u84, eu84, hf⟩ := ob_s hf
  obtain ⟨h83, eh83, hf⟩ := ob_s hf
  have hwf := wf_pV hwf eh83 (lR_spec eu84)
  refine px_putF hx hb hts nX8_init_X8 tyX8 tyX8_ok nmX8 hown hK w eh83 rfl (by decide) mX8_init_44 rfl rfl hin0 rfl rfl rfl dX8_init_102 rfl (fun H locs w => ?_)
  refine lv_aload_n hx hb dX8_init_105 rfl (lv_at hl 0 rfl) ?_
  refine lv_bipush (v := (25 : Int32)) hx hb dX8_init_106 (by decide) ?_
  obtain ⟨u85, eu85, hf⟩ := ob_s hf
  have lt_a0 := lR_spec eu85
  obtain ⟨⟨h86, sz87, kc87, ks87⟩, e89, hf⟩ := ob_s hf
  try dsimp only at hf
  refine px_newa (atype := .int) (ty := .int) (a0 := (25, .inl (fun _ => 0))) hx hb hts rfl mX8_init_arint hK ⟨w, hwf⟩ 0 rfl (fun cA h1 h2 => Option.some.inj (h1.symm.trans h2)) (fun cA => rfl) (fun m => trivial) (fun j => rfl) (by decide) rfl (by decide) e89 hcl hsl dX8_init_108 (fun i88 H cells slots hio w hcl hsl => ?_)
  obtain ⟨w, hwf⟩ := w
  rw [← hio.1 a0 lt_a0] at hl ⊢
  have hag := agr_trans hag hio
  obtain ⟨u91, eu91, hf⟩ := ob_s hf
  obtain ⟨h90, eh90, hf⟩ := ob_s hf
  have hwf := wf_pV hwf eh90 (lR_spec eu91)
  refine px_putF hx hb hts nX8_init_X8 tyX8 tyX8_ok nmX8 hown hK w eh90 rfl (by decide) mX8_init_47 rfl rfl hin0 rfl rfl rfl dX8_init_110 rfl (fun H locs w => ?_)
  refine lv_aload_n hx hb dX8_init_113 rfl (lv_at hl 0 rfl) ?_
  refine lv_bipush (v := (16 : Int32)) hx hb dX8_init_114 (by decide) ?_
  obtain ⟨u92, eu92, hf⟩ := ob_s hf
  have lt_a0 := lR_spec eu92
  obtain ⟨⟨h93, sz94, kc94, ks94⟩, e96, hf⟩ := ob_s hf
  try dsimp only at hf
  refine px_newa (atype := .int) (ty := .int) (a0 := (16, .inl (fun _ => 0))) hx hb hts rfl mX8_init_arint hK ⟨w, hwf⟩ 0 rfl (fun cA h1 h2 => Option.some.inj (h1.symm.trans h2)) (fun cA => rfl) (fun m => trivial) (fun j => rfl) (by decide) rfl (by decide) e96 hcl hsl dX8_init_116 (fun i95 H cells slots hio w hcl hsl => ?_)
  obtain ⟨w, hwf⟩ := w
  rw [← hio.1 a0 lt_a0] at hl ⊢
  have hag := agr_trans hag hio
  obtain ⟨u98, eu98, hf⟩ := ob_s hf
  obtain ⟨h97, eh97, hf⟩ := ob_s hf
  have hwf := wf_pV hwf eh97 (lR_spec eu98)
  refine px_putF hx hb hts nX8_init_X8 tyX8 tyX8_ok nmX8 hown hK w eh97 rfl (by decide) mX8_init_50 rfl rfl hin0 rfl rfl rfl dX8_init_118 rfl (fun H locs w => ?_)
  refine lv_aload_n hx hb dX8_init_121 rfl (lv_at hl 0 rfl) ?_
  refine lv_iconst (v := (5 : Int32)) hx hb dX8_init_122 (by decide) ?_
  obtain ⟨u99, eu99, hf⟩ := ob_s hf
  have lt_a0 := lR_spec eu99
  obtain ⟨⟨h100, sz101, kc101, ks101⟩, e103, hf⟩ := ob_s hf
  try dsimp only at hf
  refine px_newa (atype := .int) (ty := .int) (a0 := (5, .inl (fun _ => 0))) hx hb hts rfl mX8_init_arint hK ⟨w, hwf⟩ 0 rfl (fun cA h1 h2 => Option.some.inj (h1.symm.trans h2)) (fun cA => rfl) (fun m => trivial) (fun j => rfl) (by decide) rfl (by decide) e103 hcl hsl dX8_init_123 (fun i102 H cells slots hio w hcl hsl => ?_)
  obtain ⟨w, hwf⟩ := w
  rw [← hio.1 a0 lt_a0] at hl ⊢
  have hag := agr_trans hag hio
  obtain ⟨u105, eu105, hf⟩ := ob_s hf
  obtain ⟨h104, eh104, hf⟩ := ob_s hf
  have hwf := wf_pV hwf eh104 (lR_spec eu105)
  refine px_putF hx hb hts nX8_init_X8 tyX8 tyX8_ok nmX8 hown hK w eh104 rfl (by decide) mX8_init_53 rfl rfl hin0 rfl rfl rfl dX8_init_125 rfl (fun H locs w => ?_)
  refine lv_aload_n hx hb dX8_init_128 rfl (lv_at hl 0 rfl) ?_
  refine lv_bipush (v := (80 : Int32)) hx hb dX8_init_129 (by decide) ?_
  obtain ⟨u106, eu106, hf⟩ := ob_s hf
  have lt_a0 := lR_spec eu106
  obtain ⟨⟨h107, sz108, kc108, ks108⟩, e110, hf⟩ := ob_s hf
  try dsimp only at hf
  refine px_newa (atype := .int) (ty := .int) (a0 := (80, .inl (fun _ => 0))) hx hb hts rfl mX8_init_arint hK ⟨w, hwf⟩ 0 rfl (fun cA h1 h2 => Option.some.inj (h1.symm.trans h2)) (fun cA => rfl) (fun m => trivial) (fun j => rfl) (by decide) rfl (by decide) e110 hcl hsl dX8_init_131 (fun i109 H cells slots hio w hcl hsl => ?_)
  obtain ⟨w, hwf⟩ := w
  rw [← hio.1 a0 lt_a0] at hl ⊢
  have hag := agr_trans hag hio
  obtain ⟨u112, eu112, hf⟩ := ob_s hf
  obtain ⟨h111, eh111, hf⟩ := ob_s hf
  have hwf := wf_pV hwf eh111 (lR_spec eu112)
  refine px_putF hx hb hts nX8_init_X8 tyX8 tyX8_ok nmX8 hown hK w eh111 rfl (by decide) mX8_init_56 rfl rfl hin0 rfl rfl rfl dX8_init_133 rfl (fun H locs w => ?_)
  refine lv_aload_n hx hb dX8_init_136 rfl (lv_at hl 0 rfl) ?_
  refine lv_bipush (v := (16 : Int32)) hx hb dX8_init_137 (by decide) ?_
  obtain ⟨u113, eu113, hf⟩ := ob_s hf
  have lt_a0 := lR_spec eu113
  obtain ⟨⟨h114, sz115, kc115, ks115⟩, e117, hf⟩ := ob_s hf
  try dsimp only at hf
  refine px_newa (atype := .int) (ty := .int) (a0 := (16, .inl (fun _ => 0))) hx hb hts rfl mX8_init_arint hK ⟨w, hwf⟩ 0 rfl (fun cA h1 h2 => Option.some.inj (h1.symm.trans h2)) (fun cA => rfl) (fun m => trivial) (fun j => rfl) (by decide) rfl (by decide) e117 hcl hsl dX8_init_139 (fun i116 H cells slots hio w hcl hsl => ?_)
  obtain ⟨w, hwf⟩ := w
  rw [← hio.1 a0 lt_a0] at hl ⊢
  have hag := agr_trans hag hio
  obtain ⟨u119, eu119, hf⟩ := ob_s hf
  obtain ⟨h118, eh118, hf⟩ := ob_s hf
  have hwf := wf_pV hwf eh118 (lR_spec eu119)
  refine px_putF hx hb hts nX8_init_X8 tyX8 tyX8_ok nmX8 hown hK w eh118 rfl (by decide) mX8_init_59 rfl rfl hin0 rfl rfl rfl dX8_init_141 rfl (fun H locs w => ?_)
  refine lv_aload_n hx hb dX8_init_144 rfl (lv_at hl 0 rfl) ?_
  refine lv_bipush (v := (16 : Int32)) hx hb dX8_init_145 (by decide) ?_
  obtain ⟨u120, eu120, hf⟩ := ob_s hf
  have lt_a0 := lR_spec eu120
  obtain ⟨⟨h121, sz122, kc122, ks122⟩, e124, hf⟩ := ob_s hf
  try dsimp only at hf
  refine px_newa (atype := .int) (ty := .int) (a0 := (16, .inl (fun _ => 0))) hx hb hts rfl mX8_init_arint hK ⟨w, hwf⟩ 0 rfl (fun cA h1 h2 => Option.some.inj (h1.symm.trans h2)) (fun cA => rfl) (fun m => trivial) (fun j => rfl) (by decide) rfl (by decide) e124 hcl hsl dX8_init_147 (fun i123 H cells slots hio w hcl hsl => ?_)
  obtain ⟨w, hwf⟩ := w
  rw [← hio.1 a0 lt_a0] at hl ⊢
  have hag := agr_trans hag hio
  obtain ⟨u126, eu126, hf⟩ := ob_s hf
  obtain ⟨h125, eh125, hf⟩ := ob_s hf
  have hwf := wf_pV hwf eh125 (lR_spec eu126)
  refine px_putF hx hb hts nX8_init_X8 tyX8 tyX8_ok nmX8 hown hK w eh125 rfl (by decide) mX8_init_62 rfl rfl hin0 rfl rfl rfl dX8_init_149 rfl (fun H locs w => ?_)
  refine W.widen (k := 18) (n := 11765) (Nat.le_trans (Nat.le_add_right _ _) hcl) (Nat.le_trans (Nat.le_add_right _ _) hsl) ?_
  exact W.vret hx hb hr (qz_end hf w hwf hag hC) w.locs_ok dX8_init_152
