theorem nX7_forgetEntries_X7 : ∀ w ∈ wsX70, w ∈ wsX7_forgetEntries := by decide +kernel
theorem mX7_forgetEntries_201 : Cond.fieldLink RX7 201 "NormalForms" "minorsKnown" "Z" ∈ wsX7_forgetEntries := by decide +kernel
theorem mX7_forgetEntries_49 : Cond.fieldLink RX7 49 "NormalForms" "formThere" "[Z" ∈ wsX7_forgetEntries := by decide +kernel
abbrev rmX7_forgetEntries : Room := { frames := 1, cells := 0, slots := 0, locals := 12 }
set_option maxHeartbeats 4000000 in
set_option maxRecDepth 100000 in
theorem kX7_forgetEntries (l : Launch) (D : va_G) (dA : Nat → ClassId) (b0 : Nat) (ι : Nat → Nat) (N : Nat) (a0 : Nat) (h : Hp) (h' : Hp) (hf : fX7_forgetEntries N a0 h = some h') : Met l yX7_forgetEntries wsX7_forgetEntries rmX7_forgetEntries (PC D dA b0 ι [.ref (ι a0)] h) (QV D dA b0 ι h') 0 0 (qA b0) := by
  unfold fX7_forgetEntries at hf
  refine Met.ofW (cc := cX7_forgetEntries) (maxL := 2) (ret := none) (by decide +kernel) rfl ?_
  intro p e s m args below meth c s₁ B hml hv
  obtain ⟨rfl, w0⟩ := hv
  have hx := B.exec
  have hb := B.bytes
  have hr := B.returns
  have hts := atoms_spec (ws := wsX7_forgetEntries) B.pre
  have hown : s.vm.findClass RX7 = some m.cls := findClass_of_methodNamed B.named
  have hlocks := B.notSynchronized
  have hC := w0.c
  have hK := hC.1
  have w := WD.start w0
  clear w0
  have hl := lv_entry ([.ref (ι a0)]) (n := 2) (Nat.le_of_ble_eq_true rfl)
  rw [lg_entry_eq]
  generalize (lg_sl ([.ref (ι a0)]) ++ List.replicate (2 - (lg_sl ([.ref (ι a0)])).length) Slot.unset).toArray = ls at hl ⊢
  have hl : lv_has ls 2 [(0, .ref (ι a0))] := hl
  obtain ⟨H, hH⟩ : ∃ H : Heap, H = s.heap := ⟨_, rfl⟩
  obtain ⟨locs, hlo⟩ : ∃ locs : List Loc, locs = [] := ⟨_, rfl⟩
  rw [← hlo]
  have w : WD D dA b0 ι h s.heap H locs := by rw [hH, hlo]; exact w
  refine px_start hH ?_
  refine lv_aload_n hx hb dX7_forgetEntries_0 rfl (lv_at hl 0 rfl) ?_
  refine lv_iconst (v := (0 : Int32)) hx hb dX7_forgetEntries_1 (by decide) ?_
  obtain ⟨h1, eh1, hf⟩ := ob_s hf
  refine px_put hx hb hts nX7_forgetEntries_X7 tyX7 tyX7_ok nmX7 hown hK w eh1 rfl (by decide) mX7_forgetEntries_201 rfl rfl rfl rfl dX7_forgetEntries_2 rfl (fun H locs w => ?_)
  refine lv_iconst (v := (0 : Int32)) hx hb dX7_forgetEntries_5 (by decide) ?_
  refine lv_istore_n (lv' := [(1, .int (0 : Int32)), (0, .ref (ι a0))]) hx hb dX7_forgetEntries_6 rfl hl (by decide) rfl (fun ls hl => ?_)
  have hx7 : ∀ (y2 : Int32) (h3 : Hp) (H : Heap) (locs : List Loc) (ls : Array Slot), (some h3) = some h' → lv_has ls 2 [(0, .ref (ι a0)), (1, .int y2)] → WD D dA b0 ι h3 s.heap H locs → W p l e (headSpec wsX7_forgetEntries rmX7_forgetEntries).room s m ([.ref (ι a0)] : List Value).toArray below meth c H locs 0 0 (MQ below (QV D dA b0 ι h') ([.ref (ι a0)] : List Value).toArray s 0 0 (qA b0)) (F0 m 25 ls []) := by
    intro y2 h3 H locs ls hf hl w
    exact W.vret hx hb hr (qv_end hf w hC) w.locs_ok dX7_forgetEntries_25
  obtain ⟨κ7, eκ7⟩ : ∃ k : Int32 → Hp → Option Hp, k = (fun y2 h3 => some h3) := ⟨_, rfl⟩
  have hlp7 : ∀ (n : Nat) (z11 : Int32) (h12 : Hp) (H : Heap) (locs : List Loc) (ls : Array Slot), lX7_forgetEntries_7 N a0 n z11 h12 κ7 = some h' → lv_has ls 2 [(0, .ref (ι a0)), (1, .int z11)] → WD D dA b0 ι h12 s.heap H locs → W p l e (headSpec wsX7_forgetEntries rmX7_forgetEntries).room s m ([.ref (ι a0)] : List Value).toArray below meth c H locs 0 0 (MQ below (QV D dA b0 ι h') ([.ref (ι a0)] : List Value).toArray s 0 0 (qA b0)) (F0 m 7 ls []) := by
    intro n7
    induction n7 with
    | zero => intro z11 h12 H locs ls hf; exact absurd hf (by rw [lX7_forgetEntries_7]; exact fun q => nomatch q)
    | succ n7 ih7 =>
      intro z11 h12 H locs ls hf hl w
      rw [lX7_forgetEntries_7] at hf
      refine lv_iload_n hx hb dX7_forgetEntries_7 rfl (lv_at hl 1 rfl) ?_
      refine lv_iconst (v := (3 : Int32)) hx hb dX7_forgetEntries_8 (by decide) ?_
      refine lv_icmp_ge (tgt := 25) hx hb dX7_forgetEntries_9 (by decide) (fun c13 => ?_) (fun c13 => ?_)
      · have hf := if_t hf c13
        exact hx7 z11 h12 H locs ls (by rw [eκ7] at hf; exact hf) (lv_sub hl [0, 1] rfl) w
      · have hf := if_f hf c13
        refine lv_aload_n hx hb dX7_forgetEntries_12 rfl (lv_at hl 0 rfl) ?_
        obtain ⟨v14, ev14, hf⟩ := ob_s hf
        refine px_getR hx hb hts nX7_forgetEntries_X7 hown hK w ev14 rfl (by decide) mX7_forgetEntries_49 rfl dX7_forgetEntries_13 ?_
        refine lv_iload_n hx hb dX7_forgetEntries_16 rfl (lv_at hl 1 rfl) ?_
        refine lv_iconst (v := (0 : Int32)) hx hb dX7_forgetEntries_17 (by decide) ?_
        obtain ⟨h15, eh15, hf⟩ := ob_s hf
        refine px_zast hx hb hK w eh15 dX7_forgetEntries_18 (fun H locs w => ?_)
        obtain ⟨x16, ex16, hf⟩ := nm_s hf
        refine lv_iinc (v := x16) (lv' := [(1, .int x16), (0, .ref (ι a0))]) hx hb dX7_forgetEntries_19 hl (k := 1) rfl (by rw [ex16]; rfl) (by decide) rfl (fun ls hl => ?_)
        refine lv_goto (tgt := 7) hx hb dX7_forgetEntries_22 (by decide) ?_
        exact ih7 x16 h15 H locs ls hf (lv_sub hl [1, 0] rfl) w
  exact hlp7 N (0 : Int32) h1 H locs ls (by rw [eκ7]; exact hf) (lv_sub hl [1, 0] rfl) w
theorem nX7_forgetNumbers_X7 : ∀ w ∈ wsX70, w ∈ wsX7_forgetNumbers := by decide +kernel
theorem mX7_forgetNumbers_205 : Cond.fieldLink RX7 205 "NormalForms" "numbersMinorsKnown" "Z" ∈ wsX7_forgetNumbers := by decide +kernel
theorem mX7_forgetNumbers_208 : Cond.fieldLink RX7 208 "NormalForms" "rootsKnown" "Z" ∈ wsX7_forgetNumbers := by decide +kernel
abbrev rmX7_forgetNumbers : Room := { frames := 1, cells := 0, slots := 0, locals := 12 }
set_option maxHeartbeats 4000000 in
set_option maxRecDepth 100000 in
theorem kX7_forgetNumbers (l : Launch) (D : va_G) (dA : Nat → ClassId) (b0 : Nat) (ι : Nat → Nat) (N : Nat) (a0 : Nat) (h : Hp) (h' : Hp) (hf : fX7_forgetNumbers N a0 h = some h') : Met l yX7_forgetNumbers wsX7_forgetNumbers rmX7_forgetNumbers (PC D dA b0 ι [.ref (ι a0)] h) (QV D dA b0 ι h') 0 0 (qA b0) := by
  unfold fX7_forgetNumbers at hf
  refine Met.ofW (cc := cX7_forgetNumbers) (maxL := 1) (ret := none) (by decide +kernel) rfl ?_
  intro p e s m args below meth c s₁ B hml hv
  obtain ⟨rfl, w0⟩ := hv
  have hx := B.exec
  have hb := B.bytes
  have hr := B.returns
  have hts := atoms_spec (ws := wsX7_forgetNumbers) B.pre
  have hown : s.vm.findClass RX7 = some m.cls := findClass_of_methodNamed B.named
  have hlocks := B.notSynchronized
  have hC := w0.c
  have hK := hC.1
  have w := WD.start w0
  clear w0
  have hl := lv_entry ([.ref (ι a0)]) (n := 1) (Nat.le_of_ble_eq_true rfl)
  rw [lg_entry_eq]
  generalize (lg_sl ([.ref (ι a0)]) ++ List.replicate (1 - (lg_sl ([.ref (ι a0)])).length) Slot.unset).toArray = ls at hl ⊢
  have hl : lv_has ls 1 [(0, .ref (ι a0))] := hl
  obtain ⟨H, hH⟩ : ∃ H : Heap, H = s.heap := ⟨_, rfl⟩
  obtain ⟨locs, hlo⟩ : ∃ locs : List Loc, locs = [] := ⟨_, rfl⟩
  rw [← hlo]
  have w : WD D dA b0 ι h s.heap H locs := by rw [hH, hlo]; exact w
  refine px_start hH ?_
  refine lv_aload_n hx hb dX7_forgetNumbers_0 rfl (lv_at hl 0 rfl) ?_
  refine lv_iconst (v := (0 : Int32)) hx hb dX7_forgetNumbers_1 (by decide) ?_
  obtain ⟨h1, eh1, hf⟩ := ob_s hf
  refine px_put hx hb hts nX7_forgetNumbers_X7 tyX7 tyX7_ok nmX7 hown hK w eh1 rfl (by decide) mX7_forgetNumbers_205 rfl rfl rfl rfl dX7_forgetNumbers_2 rfl (fun H locs w => ?_)
  refine lv_aload_n hx hb dX7_forgetNumbers_5 rfl (lv_at hl 0 rfl) ?_
  refine lv_iconst (v := (0 : Int32)) hx hb dX7_forgetNumbers_6 (by decide) ?_
  obtain ⟨h2, eh2, hf⟩ := ob_s hf
  refine px_put hx hb hts nX7_forgetNumbers_X7 tyX7 tyX7_ok nmX7 hown hK w eh2 rfl (by decide) mX7_forgetNumbers_208 rfl rfl rfl rfl dX7_forgetNumbers_7 rfl (fun H locs w => ?_)
  exact W.vret hx hb hr (qv_end hf w hC) w.locs_ok dX7_forgetNumbers_10
theorem nX7_knowMinors_X7 : ∀ w ∈ wsX70, w ∈ wsX7_knowMinors := by decide +kernel
theorem mX7_knowMinors_201 : Cond.fieldLink RX7 201 "NormalForms" "minorsKnown" "Z" ∈ wsX7_knowMinors := by decide +kernel
theorem mX7_knowMinors_21 : Cond.fieldLink RX7 21 "NormalForms" "minors" "LNormalForms$Minors;" ∈ wsX7_knowMinors := by decide +kernel
theorem mX7_knowMinors_14 : Cond.fieldLink RX7 14 "NormalForms" "entries" "LNormalForms$Matrix;" ∈ wsX7_knowMinors := by decide +kernel
abbrev rmX7_knowMinors : Room := { frames := 6, cells := 0, slots := 0, locals := 131 }
set_option maxHeartbeats 4000000 in
set_option maxRecDepth 100000 in
theorem kX7_knowMinors (l : Launch) (D : va_G) (dA : Nat → ClassId) (b0 : Nat) (ι : Nat → Nat) (N : Nat) (a0 : Nat) (h : Hp) (h' : Hp) (hf : fX7_knowMinors N a0 h = some h') : Met l yX7_knowMinors wsX7_knowMinors rmX7_knowMinors (PC D dA b0 ι [.ref (ι a0)] h) (QV D dA b0 ι h') 0 0 (qA b0) := by
  unfold fX7_knowMinors at hf
  refine Met.ofW (cc := cX7_knowMinors) (maxL := 1) (ret := none) (by decide +kernel) rfl ?_
  intro p e s m args below meth c s₁ B hml hv
  obtain ⟨rfl, w0⟩ := hv
  have hx := B.exec
  have hb := B.bytes
  have hr := B.returns
  have hts := atoms_spec (ws := wsX7_knowMinors) B.pre
  have hown : s.vm.findClass RX7 = some m.cls := findClass_of_methodNamed B.named
  have hlocks := B.notSynchronized
  have hC := w0.c
  have hK := hC.1
  have w := WD.start w0
  clear w0
  have hl := lv_entry ([.ref (ι a0)]) (n := 1) (Nat.le_of_ble_eq_true rfl)
  rw [lg_entry_eq]
  generalize (lg_sl ([.ref (ι a0)]) ++ List.replicate (1 - (lg_sl ([.ref (ι a0)])).length) Slot.unset).toArray = ls at hl ⊢
  have hl : lv_has ls 1 [(0, .ref (ι a0))] := hl
  obtain ⟨H, hH⟩ : ∃ H : Heap, H = s.heap := ⟨_, rfl⟩
  obtain ⟨locs, hlo⟩ : ∃ locs : List Loc, locs = [] := ⟨_, rfl⟩
  rw [← hlo]
  have w : WD D dA b0 ι h s.heap H locs := by rw [hH, hlo]; exact w
  refine px_start hH ?_
  refine lv_aload_n hx hb dX7_knowMinors_0 rfl (lv_at hl 0 rfl) ?_
  obtain ⟨v1, ev1, hf⟩ := ob_s hf
  refine px_getI hx hb hts nX7_knowMinors_X7 hown hK w ev1 rfl (by decide) mX7_knowMinors_201 rfl dX7_knowMinors_1 ?_
  have hj23 : ∀ (h3 : Hp) (H : Heap) (locs : List Loc) (ls : Array Slot), (some h3) = some h' → lv_has ls 1 [(0, .ref (ι a0))] → WD D dA b0 ι h3 s.heap H locs → W p l e (headSpec wsX7_knowMinors rmX7_knowMinors).room s m ([.ref (ι a0)] : List Value).toArray below meth c H locs 0 0 (MQ below (QV D dA b0 ι h') ([.ref (ι a0)] : List Value).toArray s 0 0 (qA b0)) (F0 m 23 ls []) := by
    intro h3 H locs ls hf hl w
    exact W.vret hx hb hr (qv_end hf w hC) w.locs_ok dX7_knowMinors_23
  obtain ⟨j2, ej2, hf⟩ := jn_s hf
  refine lv_if_ne (tgt := 23) hx hb dX7_knowMinors_4 (by decide) (fun c4 => ?_) (fun c4 => ?_)
  · have hf := if_f hf c4
    exact hj23 h H locs ls (by rw [ej2] at hf; exact hf) (lv_sub hl [0] rfl) w
  · have hf := if_t hf c4
    refine lv_aload_n hx hb dX7_knowMinors_7 rfl (lv_at hl 0 rfl) ?_
    obtain ⟨v5, ev5, hf⟩ := ob_s hf
    refine px_getR hx hb hts nX7_knowMinors_X7 hown hK w ev5 rfl (by decide) mX7_knowMinors_21 rfl dX7_knowMinors_8 ?_
    refine lv_aload_n hx hb dX7_knowMinors_11 rfl (lv_at hl 0 rfl) ?_
    obtain ⟨v6, ev6, hf⟩ := ob_s hf
    refine px_getR hx hb hts nX7_knowMinors_X7 hown hK w ev6 rfl (by decide) mX7_knowMinors_14 rfl dX7_knowMinors_12 ?_
    obtain ⟨u9, eu9, hf⟩ := ob_s hf
    obtain ⟨h8, eh8, hf⟩ := ob_s hf
    refine px_callVv (As := [.ref (ι v6)]) (rest := []) ⟨hx, hb, hml, hown, hts⟩ hC w (kX3_reckon l D dA b0 ι N v5 v6 h h8 eh8) (cwV 1 hts gX7_knowMinors_X3_reckon rfl rfl rfl (by decide +kernel) ⟨Nat.le_of_ble_eq_true rfl, Nat.le_of_ble_eq_true rfl⟩) eu9 rfl rfl hl.1 rfl (Nat.le_of_ble_eq_true rfl) dX7_knowMinors_15 ⟨Nat.le_of_ble_eq_true rfl, Nat.le_of_ble_eq_true rfl⟩ (fun H locs w => ?_)
    refine lv_aload_n hx hb dX7_knowMinors_18 rfl (lv_at hl 0 rfl) ?_
    refine lv_iconst (v := (1 : Int32)) hx hb dX7_knowMinors_19 (by decide) ?_
    obtain ⟨h10, eh10, hf⟩ := ob_s hf
    refine px_put hx hb hts nX7_knowMinors_X7 tyX7 tyX7_ok nmX7 hown hK w eh10 rfl (by decide) mX7_knowMinors_201 rfl rfl rfl rfl dX7_knowMinors_20 rfl (fun H locs w => ?_)
    exact hj23 h10 H locs ls (by rw [ej2] at hf; exact hf) (lv_sub hl [0] rfl) w
theorem nX7_knowNumbersMinors_X7 : ∀ w ∈ wsX70, w ∈ wsX7_knowNumbersMinors := by decide +kernel
theorem mX7_knowNumbersMinors_205 : Cond.fieldLink RX7 205 "NormalForms" "numbersMinorsKnown" "Z" ∈ wsX7_knowNumbersMinors := by decide +kernel
theorem mX7_knowNumbersMinors_25 : Cond.fieldLink RX7 25 "NormalForms" "xLessNumbers" "LNormalForms$Matrix;" ∈ wsX7_knowNumbersMinors := by decide +kernel
theorem mX7_knowNumbersMinors_28 : Cond.fieldLink RX7 28 "NormalForms" "numbersMinors" "LNormalForms$Minors;" ∈ wsX7_knowNumbersMinors := by decide +kernel
theorem mX7_knowNumbersMinors_79 : Cond.fieldLink RX7 79 "NormalForms" "rowCount" "I" ∈ wsX7_knowNumbersMinors := by decide +kernel
theorem mX7_knowNumbersMinors_83 : Cond.fieldLink RX7 83 "NormalForms" "columnCount" "I" ∈ wsX7_knowNumbersMinors := by decide +kernel
theorem mX7_knowNumbersMinors_14 : Cond.fieldLink RX7 14 "NormalForms" "entries" "LNormalForms$Matrix;" ∈ wsX7_knowNumbersMinors := by decide +kernel
abbrev rmX7_knowNumbersMinors : Room := { frames := 6, cells := 0, slots := 0, locals := 131 }
set_option maxHeartbeats 4000000 in
set_option maxRecDepth 100000 in
theorem kX7_knowNumbersMinors (l : Launch) (D : va_G) (dA : Nat → ClassId) (b0 : Nat) (ι : Nat → Nat) (N : Nat) (a0 : Nat) (h : Hp) (h' : Hp) (hf : fX7_knowNumbersMinors N a0 h = some h') : Met l yX7_knowNumbersMinors wsX7_knowNumbersMinors rmX7_knowNumbersMinors (PC D dA b0 ι [.ref (ι a0)] h) (QV D dA b0 ι h') 0 0 (qA b0) := by
  unfold fX7_knowNumbersMinors at hf
  refine Met.ofW (cc := cX7_knowNumbersMinors) (maxL := 3) (ret := none) (by decide +kernel) rfl ?_
  intro p e s m args below meth c s₁ B hml hv
  obtain ⟨rfl, w0⟩ := hv
  have hx := B.exec
  have hb := B.bytes
  have hr := B.returns
  have hts := atoms_spec (ws := wsX7_knowNumbersMinors) B.pre
  have hown : s.vm.findClass RX7 = some m.cls := findClass_of_methodNamed B.named
  have hlocks := B.notSynchronized
  have hC := w0.c
  have hK := hC.1
  have w := WD.start w0
  clear w0
  have hl := lv_entry ([.ref (ι a0)]) (n := 3) (Nat.le_of_ble_eq_true rfl)
  rw [lg_entry_eq]
  generalize (lg_sl ([.ref (ι a0)]) ++ List.replicate (3 - (lg_sl ([.ref (ι a0)])).length) Slot.unset).toArray = ls at hl ⊢
  have hl : lv_has ls 3 [(0, .ref (ι a0))] := hl
  obtain ⟨H, hH⟩ : ∃ H : Heap, H = s.heap := ⟨_, rfl⟩
  obtain ⟨locs, hlo⟩ : ∃ locs : List Loc, locs = [] := ⟨_, rfl⟩
  rw [← hlo]
  have w : WD D dA b0 ι h s.heap H locs := by rw [hH, hlo]; exact w
  refine px_start hH ?_
  refine lv_aload_n hx hb dX7_knowNumbersMinors_0 rfl (lv_at hl 0 rfl) ?_
  obtain ⟨v1, ev1, hf⟩ := ob_s hf
  refine px_getI hx hb hts nX7_knowNumbersMinors_X7 hown hK w ev1 rfl (by decide) mX7_knowNumbersMinors_205 rfl dX7_knowNumbersMinors_1 ?_
  refine lv_if_eq (tgt := 8) hx hb dX7_knowNumbersMinors_4 (by decide) (fun c2 => ?_) (fun c2 => ?_)
  · have hf := if_t hf c2
    refine lv_aload_n hx hb dX7_knowNumbersMinors_8 rfl (lv_at hl 0 rfl) ?_
    obtain ⟨v3, ev3, hf⟩ := ob_s hf
    refine px_getR hx hb hts nX7_knowNumbersMinors_X7 hown hK w ev3 rfl (by decide) mX7_knowNumbersMinors_25 rfl dX7_knowNumbersMinors_9 ?_
    obtain ⟨u6, eu6, hf⟩ := ob_s hf
    obtain ⟨h5, eh5, hf⟩ := ob_s hf
    refine px_callVv (As := []) (rest := []) ⟨hx, hb, hml, hown, hts⟩ hC w (kX2_clear l D dA b0 ι N v3 h h5 eh5) (cwV 0 hts gX7_knowNumbersMinors_X2_clear rfl rfl rfl (by decide +kernel) ⟨Nat.le_of_ble_eq_true rfl, Nat.le_of_ble_eq_true rfl⟩) eu6 rfl rfl hl.1 rfl (Nat.le_of_ble_eq_true rfl) dX7_knowNumbersMinors_12 ⟨Nat.le_of_ble_eq_true rfl, Nat.le_of_ble_eq_true rfl⟩ (fun H locs w => ?_)
    refine lv_iconst (v := (0 : Int32)) hx hb dX7_knowNumbersMinors_15 (by decide) ?_
    refine lv_istore_n (lv' := [(1, .int (0 : Int32)), (0, .ref (ι a0))]) hx hb dX7_knowNumbersMinors_16 rfl hl (by decide) rfl (fun ls hl => ?_)
    have hx17 : ∀ (y7 : Int32) (h8 : Hp) (H : Heap) (locs : List Loc) (ls : Array Slot), ((gR h8 a0 9 6).bind fun v9 => (gR h8 a0 9 5).bind fun v10 => (cK h8 v9 5).bind fun u13 => (fX3_reckon N v9 v10 h8).bind fun h12 => (pV h12 a0 9 7 (.int (1 : Int32))).bind fun h14 => some h14) = some h' → lv_has ls 3 [(0, .ref (ι a0)), (1, .int y7)] → WD D dA b0 ι h8 s.heap H locs → W p l e (headSpec wsX7_knowNumbersMinors rmX7_knowNumbersMinors).room s m ([.ref (ι a0)] : List Value).toArray below meth c H locs 0 0 (MQ below (QV D dA b0 ι h') ([.ref (ι a0)] : List Value).toArray s 0 0 (qA b0)) (F0 m 90 ls []) := by
      intro y7 h8 H locs ls hf hl w
      refine lv_aload_n hx hb dX7_knowNumbersMinors_90 rfl (lv_at hl 0 rfl) ?_
      obtain ⟨v9, ev9, hf⟩ := ob_s hf
      refine px_getR hx hb hts nX7_knowNumbersMinors_X7 hown hK w ev9 rfl (by decide) mX7_knowNumbersMinors_28 rfl dX7_knowNumbersMinors_91 ?_
      refine lv_aload_n hx hb dX7_knowNumbersMinors_94 rfl (lv_at hl 0 rfl) ?_
      obtain ⟨v10, ev10, hf⟩ := ob_s hf
      refine px_getR hx hb hts nX7_knowNumbersMinors_X7 hown hK w ev10 rfl (by decide) mX7_knowNumbersMinors_25 rfl dX7_knowNumbersMinors_95 ?_
      obtain ⟨u13, eu13, hf⟩ := ob_s hf
      obtain ⟨h12, eh12, hf⟩ := ob_s hf
      refine px_callVv (As := [.ref (ι v10)]) (rest := []) ⟨hx, hb, hml, hown, hts⟩ hC w (kX3_reckon l D dA b0 ι N v9 v10 h8 h12 eh12) (cwV 1 hts gX7_knowNumbersMinors_X3_reckon rfl rfl rfl (by decide +kernel) ⟨Nat.le_of_ble_eq_true rfl, Nat.le_of_ble_eq_true rfl⟩) eu13 rfl rfl hl.1 rfl (Nat.le_of_ble_eq_true rfl) dX7_knowNumbersMinors_98 ⟨Nat.le_of_ble_eq_true rfl, Nat.le_of_ble_eq_true rfl⟩ (fun H locs w => ?_)
      refine lv_aload_n hx hb dX7_knowNumbersMinors_101 rfl (lv_at hl 0 rfl) ?_
      refine lv_iconst (v := (1 : Int32)) hx hb dX7_knowNumbersMinors_102 (by decide) ?_
      obtain ⟨h14, eh14, hf⟩ := ob_s hf
      refine px_put hx hb hts nX7_knowNumbersMinors_X7 tyX7 tyX7_ok nmX7 hown hK w eh14 rfl (by decide) mX7_knowNumbersMinors_205 rfl rfl rfl rfl dX7_knowNumbersMinors_103 rfl (fun H locs w => ?_)
      exact W.vret hx hb hr (qv_end hf w hC) w.locs_ok dX7_knowNumbersMinors_106
    obtain ⟨κ17, eκ17⟩ : ∃ k : Int32 → Hp → Option Hp, k = (fun y7 h8 => (gR h8 a0 9 6).bind fun v9 => (gR h8 a0 9 5).bind fun v10 => (cK h8 v9 5).bind fun u13 => (fX3_reckon N v9 v10 h8).bind fun h12 => (pV h12 a0 9 7 (.int (1 : Int32))).bind fun h14 => some h14) := ⟨_, rfl⟩
    have hlp17 : ∀ (n : Nat) (z73 : Int32) (h74 : Hp) (H : Heap) (locs : List Loc) (ls : Array Slot), lX7_knowNumbersMinors_17 N a0 n z73 h74 κ17 = some h' → lv_has ls 3 [(0, .ref (ι a0)), (1, .int z73)] → WD D dA b0 ι h74 s.heap H locs → W p l e (headSpec wsX7_knowNumbersMinors rmX7_knowNumbersMinors).room s m ([.ref (ι a0)] : List Value).toArray below meth c H locs 0 0 (MQ below (QV D dA b0 ι h') ([.ref (ι a0)] : List Value).toArray s 0 0 (qA b0)) (F0 m 17 ls []) := by
      intro n17
      induction n17 with
      | zero => intro z73 h74 H locs ls hf; exact absurd hf (by rw [lX7_knowNumbersMinors_17]; exact fun q => nomatch q)
      | succ n17 ih17 =>
        intro z73 h74 H locs ls hf hl w
        rw [lX7_knowNumbersMinors_17] at hf
        refine lv_iload_n hx hb dX7_knowNumbersMinors_17 rfl (lv_at hl 1 rfl) ?_
        refine lv_aload_n hx hb dX7_knowNumbersMinors_18 rfl (lv_at hl 0 rfl) ?_
        obtain ⟨v75, ev75, hf⟩ := ob_s hf
        refine px_getI hx hb hts nX7_knowNumbersMinors_X7 hown hK w ev75 rfl (by decide) mX7_knowNumbersMinors_79 rfl dX7_knowNumbersMinors_19 ?_
        refine lv_icmp_ge (tgt := 90) hx hb dX7_knowNumbersMinors_22 (by decide) (fun c76 => ?_) (fun c76 => ?_)
        · have hf := if_t hf c76
          exact hx17 z73 h74 H locs ls (by rw [eκ17] at hf; exact hf) (lv_sub hl [0, 1] rfl) w
        · have hf := if_f hf c76
          refine lv_iconst (v := (0 : Int32)) hx hb dX7_knowNumbersMinors_25 (by decide) ?_
          refine lv_istore_n (lv' := [(2, .int (0 : Int32)), (0, .ref (ι a0)), (1, .int z73)]) hx hb dX7_knowNumbersMinors_26 rfl hl (by decide) rfl (fun ls hl => ?_)
          have hx27 : ∀ (y77 : Int32) (h78 : Hp) (H : Heap) (locs : List Loc) (ls : Array Slot), ((gR h78 a0 9 5).bind fun v79 => (cK h78 v79 4).bind fun u82 => (fX2_cell N v79 z73 z73 h78).bind fun (v80, h81) => (cK h81 v80 6).bind fun u85 => (fX4_setNumber N v80 (1 : Int32) (1 : Int32) h81).bind fun h84 => nm (z73 + (1 : Int32)) fun x86 => lX7_knowNumbersMinors_17 N a0 n17 x86 h84 κ17) = some h' → lv_has ls 3 [(0, .ref (ι a0)), (1, .int z73), (2, .int y77)] → WD D dA b0 ι h78 s.heap H locs → W p l e (headSpec wsX7_knowNumbersMinors rmX7_knowNumbersMinors).room s m ([.ref (ι a0)] : List Value).toArray below meth c H locs 0 0 (MQ below (QV D dA b0 ι h') ([.ref (ι a0)] : List Value).toArray s 0 0 (qA b0)) (F0 m 70 ls []) := by
            intro y77 h78 H locs ls hf hl w
            refine lv_aload_n hx hb dX7_knowNumbersMinors_70 rfl (lv_at hl 0 rfl) ?_
            obtain ⟨v79, ev79, hf⟩ := ob_s hf
            refine px_getR hx hb hts nX7_knowNumbersMinors_X7 hown hK w ev79 rfl (by decide) mX7_knowNumbersMinors_25 rfl dX7_knowNumbersMinors_71 ?_
            refine lv_iload_n hx hb dX7_knowNumbersMinors_74 rfl (lv_at hl 1 rfl) ?_
            refine lv_iload_n hx hb dX7_knowNumbersMinors_75 rfl (lv_at hl 1 rfl) ?_
            obtain ⟨u82, eu82, hf⟩ := ob_s hf
            obtain ⟨⟨v80, h81⟩, eh81, hf⟩ := ob_s hf
            dsimp only at hf
            refine px_callVr (As := [.int z73, .int z73]) (rest := []) ⟨hx, hb, hml, hown, hts⟩ hC w (kX2_cell l D dA b0 ι N v79 z73 z73 h78 v80 h81 eh81) (cwV 2 hts gX7_knowNumbersMinors_X2_cell rfl rfl rfl (by decide +kernel) ⟨Nat.le_of_ble_eq_true rfl, Nat.le_of_ble_eq_true rfl⟩) eu82 rfl rfl hl.1 rfl (Nat.le_of_ble_eq_true rfl) dX7_knowNumbersMinors_76 ⟨Nat.le_of_ble_eq_true rfl, Nat.le_of_ble_eq_true rfl⟩ (fun H locs w => ?_)
            refine lv_iconst (v := (1 : Int32)) hx hb dX7_knowNumbersMinors_79 (by decide) ?_
            refine lv_iconst (v := (1 : Int32)) hx hb dX7_knowNumbersMinors_80 (by decide) ?_
            obtain ⟨u85, eu85, hf⟩ := ob_s hf
            obtain ⟨h84, eh84, hf⟩ := ob_s hf
            refine px_callVv (As := [.int (1 : Int32), .int (1 : Int32)]) (rest := []) ⟨hx, hb, hml, hown, hts⟩ hC w (kX4_setNumber l D dA b0 ι N v80 (1 : Int32) (1 : Int32) h81 h84 eh84) (cwV 2 hts gX7_knowNumbersMinors_X4_setNumber rfl rfl rfl (by decide +kernel) ⟨Nat.le_of_ble_eq_true rfl, Nat.le_of_ble_eq_true rfl⟩) eu85 rfl rfl hl.1 rfl (Nat.le_of_ble_eq_true rfl) dX7_knowNumbersMinors_81 ⟨Nat.le_of_ble_eq_true rfl, Nat.le_of_ble_eq_true rfl⟩ (fun H locs w => ?_)
            obtain ⟨x86, ex86, hf⟩ := nm_s hf
            refine lv_iinc (v := x86) (lv' := [(1, .int x86), (0, .ref (ι a0)), (2, .int y77)]) hx hb dX7_knowNumbersMinors_84 hl (k := 1) rfl (by rw [ex86]; rfl) (by decide) rfl (fun ls hl => ?_)
            refine lv_goto (tgt := 17) hx hb dX7_knowNumbersMinors_87 (by decide) ?_
            exact ih17 x86 h84 H locs ls hf (lv_sub hl [1, 0] rfl) w
          obtain ⟨κ27, eκ27⟩ : ∃ k : Int32 → Hp → Option Hp, k = (fun y77 h78 => (gR h78 a0 9 5).bind fun v79 => (cK h78 v79 4).bind fun u82 => (fX2_cell N v79 z73 z73 h78).bind fun (v80, h81) => (cK h81 v80 6).bind fun u85 => (fX4_setNumber N v80 (1 : Int32) (1 : Int32) h81).bind fun h84 => nm (z73 + (1 : Int32)) fun x86 => lX7_knowNumbersMinors_17 N a0 n17 x86 h84 κ17) := ⟨_, rfl⟩
          have hlp27 : ∀ (n : Nat) (z109 : Int32) (h110 : Hp) (H : Heap) (locs : List Loc) (ls : Array Slot), lX7_knowNumbersMinors_27 N a0 z73 n z109 h110 κ27 = some h' → lv_has ls 3 [(0, .ref (ι a0)), (1, .int z73), (2, .int z109)] → WD D dA b0 ι h110 s.heap H locs → W p l e (headSpec wsX7_knowNumbersMinors rmX7_knowNumbersMinors).room s m ([.ref (ι a0)] : List Value).toArray below meth c H locs 0 0 (MQ below (QV D dA b0 ι h') ([.ref (ι a0)] : List Value).toArray s 0 0 (qA b0)) (F0 m 27 ls []) := by
            intro n27
            induction n27 with
            | zero => intro z109 h110 H locs ls hf; exact absurd hf (by rw [lX7_knowNumbersMinors_27]; exact fun q => nomatch q)
            | succ n27 ih27 =>
              intro z109 h110 H locs ls hf hl w
              rw [lX7_knowNumbersMinors_27] at hf
              refine lv_iload_n hx hb dX7_knowNumbersMinors_27 rfl (lv_at hl 2 rfl) ?_
              refine lv_aload_n hx hb dX7_knowNumbersMinors_28 rfl (lv_at hl 0 rfl) ?_
              obtain ⟨v111, ev111, hf⟩ := ob_s hf
              refine px_getI hx hb hts nX7_knowNumbersMinors_X7 hown hK w ev111 rfl (by decide) mX7_knowNumbersMinors_83 rfl dX7_knowNumbersMinors_29 ?_
              refine lv_icmp_ge (tgt := 70) hx hb dX7_knowNumbersMinors_32 (by decide) (fun c112 => ?_) (fun c112 => ?_)
              · have hf := if_t hf c112
                exact hx27 z109 h110 H locs ls (by rw [eκ27] at hf; exact hf) (lv_sub hl [0, 1, 2] rfl) w
              · have hf := if_f hf c112
                refine lv_aload_n hx hb dX7_knowNumbersMinors_35 rfl (lv_at hl 0 rfl) ?_
                obtain ⟨v113, ev113, hf⟩ := ob_s hf
                refine px_getR hx hb hts nX7_knowNumbersMinors_X7 hown hK w ev113 rfl (by decide) mX7_knowNumbersMinors_25 rfl dX7_knowNumbersMinors_36 ?_
                refine lv_iload_n hx hb dX7_knowNumbersMinors_39 rfl (lv_at hl 1 rfl) ?_
                refine lv_iload_n hx hb dX7_knowNumbersMinors_40 rfl (lv_at hl 2 rfl) ?_
                obtain ⟨u116, eu116, hf⟩ := ob_s hf
                obtain ⟨⟨v114, h115⟩, eh115, hf⟩ := ob_s hf
                dsimp only at hf
                refine px_callVr (As := [.int z73, .int z109]) (rest := []) ⟨hx, hb, hml, hown, hts⟩ hC w (kX2_cell l D dA b0 ι N v113 z73 z109 h110 v114 h115 eh115) (cwV 2 hts gX7_knowNumbersMinors_X2_cell rfl rfl rfl (by decide +kernel) ⟨Nat.le_of_ble_eq_true rfl, Nat.le_of_ble_eq_true rfl⟩) eu116 rfl rfl hl.1 rfl (Nat.le_of_ble_eq_true rfl) dX7_knowNumbersMinors_41 ⟨Nat.le_of_ble_eq_true rfl, Nat.le_of_ble_eq_true rfl⟩ (fun H locs w => ?_)
                refine lv_iconst (v := (0 : Int32)) hx hb dX7_knowNumbersMinors_44 (by decide) ?_
                refine lv_aload_n hx hb dX7_knowNumbersMinors_45 rfl (lv_at hl 0 rfl) ?_
                obtain ⟨v117, ev117, hf⟩ := ob_s hf
                refine px_getR hx hb hts nX7_knowNumbersMinors_X7 hown hK w ev117 rfl (by decide) mX7_knowNumbersMinors_14 rfl dX7_knowNumbersMinors_46 ?_
                refine lv_iload_n hx hb dX7_knowNumbersMinors_49 rfl (lv_at hl 1 rfl) ?_
                refine lv_iload_n hx hb dX7_knowNumbersMinors_50 rfl (lv_at hl 2 rfl) ?_
                obtain ⟨u120, eu120, hf⟩ := ob_s hf
                obtain ⟨⟨v118, h119⟩, eh119, hf⟩ := ob_s hf
                dsimp only at hf
                refine px_callVr (As := [.int z73, .int z109]) (rest := [.int (0 : Int32), .ref (ι v114)]) ⟨hx, hb, hml, hown, hts⟩ hC w (kX2_cell l D dA b0 ι N v117 z73 z109 h115 v118 h119 eh119) (cwV 2 hts gX7_knowNumbersMinors_X2_cell rfl rfl rfl (by decide +kernel) ⟨Nat.le_of_ble_eq_true rfl, Nat.le_of_ble_eq_true rfl⟩) eu120 rfl rfl hl.1 rfl (Nat.le_of_ble_eq_true rfl) dX7_knowNumbersMinors_51 ⟨Nat.le_of_ble_eq_true rfl, Nat.le_of_ble_eq_true rfl⟩ (fun H locs w => ?_)
                refine lv_iconst (v := (0 : Int32)) hx hb dX7_knowNumbersMinors_54 (by decide) ?_
                obtain ⟨u123, eu123, hf⟩ := ob_s hf
                obtain ⟨⟨v121, h122⟩, eh122, hf⟩ := ob_s hf
                dsimp only at hf
                refine px_callVi (As := [.int (0 : Int32)]) (rest := [.int (0 : Int32), .ref (ι v114)]) ⟨hx, hb, hml, hown, hts⟩ hC w (kX4_numberAt l D dA b0 ι N v118 (0 : Int32) h119 v121 h122 eh122) (cwV 1 hts gX7_knowNumbersMinors_X4_numberAt rfl rfl rfl (by decide +kernel) ⟨Nat.le_of_ble_eq_true rfl, Nat.le_of_ble_eq_true rfl⟩) eu123 rfl rfl hl.1 rfl (Nat.le_of_ble_eq_true rfl) dX7_knowNumbersMinors_55 ⟨Nat.le_of_ble_eq_true rfl, Nat.le_of_ble_eq_true rfl⟩ (fun H locs w => ?_)
                obtain ⟨⟨v124, h125⟩, eh125, hf⟩ := ob_s hf
                dsimp only at hf
                refine px_callSi (As := [.int v121]) (rest := [.int (0 : Int32), .ref (ι v114)]) ⟨hx, hb, hml, hown, hts⟩ hC w (kX7_negative l D dA b0 ι N v121 h122 v124 h125 eh125) (va_cwS 1 hts gX7_knowNumbersMinors_X7_negative rfl rfl rfl (by decide +kernel) ⟨Nat.le_of_ble_eq_true rfl, Nat.le_of_ble_eq_true rfl⟩) rfl hl.1 rfl (Nat.le_of_ble_eq_true rfl) dX7_knowNumbersMinors_58 ⟨Nat.le_of_ble_eq_true rfl, Nat.le_of_ble_eq_true rfl⟩ (fun H locs w => ?_)
                obtain ⟨u128, eu128, hf⟩ := ob_s hf
                obtain ⟨h127, eh127, hf⟩ := ob_s hf
                refine px_callVv (As := [.int (0 : Int32), .int v124]) (rest := []) ⟨hx, hb, hml, hown, hts⟩ hC w (kX4_setNumber l D dA b0 ι N v114 (0 : Int32) v124 h125 h127 eh127) (cwV 2 hts gX7_knowNumbersMinors_X4_setNumber rfl rfl rfl (by decide +kernel) ⟨Nat.le_of_ble_eq_true rfl, Nat.le_of_ble_eq_true rfl⟩) eu128 rfl rfl hl.1 rfl (Nat.le_of_ble_eq_true rfl) dX7_knowNumbersMinors_61 ⟨Nat.le_of_ble_eq_true rfl, Nat.le_of_ble_eq_true rfl⟩ (fun H locs w => ?_)
                obtain ⟨x129, ex129, hf⟩ := nm_s hf
                refine lv_iinc (v := x129) (lv' := [(2, .int x129), (0, .ref (ι a0)), (1, .int z73)]) hx hb dX7_knowNumbersMinors_64 hl (k := 2) rfl (by rw [ex129]; rfl) (by decide) rfl (fun ls hl => ?_)
                refine lv_goto (tgt := 27) hx hb dX7_knowNumbersMinors_67 (by decide) ?_
                exact ih27 x129 h127 H locs ls hf (lv_sub hl [1, 2, 0] rfl) w
          exact hlp27 N (0 : Int32) h74 H locs ls (by rw [eκ27]; exact hf) (lv_sub hl [1, 2, 0] rfl) w
    exact hlp17 N (0 : Int32) h5 H locs ls (by rw [eκ17]; exact hf) (lv_sub hl [1, 0] rfl) w
  · have hf := if_f hf c2
    exact W.vret hx hb hr (qv_end hf w hC) w.locs_ok dX7_knowNumbersMinors_7
theorem nX7_knowRoots_X7 : ∀ w ∈ wsX70, w ∈ wsX7_knowRoots := by decide +kernel
theorem mX7_knowRoots_208 : Cond.fieldLink RX7 208 "NormalForms" "rootsKnown" "Z" ∈ wsX7_knowRoots := by decide +kernel
theorem mX7_knowRoots_34 : Cond.fieldLink RX7 34 "NormalForms" "roots" "LNormalForms$Roots;" ∈ wsX7_knowRoots := by decide +kernel
theorem mX7_knowRoots_28 : Cond.fieldLink RX7 28 "NormalForms" "numbersMinors" "LNormalForms$Minors;" ∈ wsX7_knowRoots := by decide +kernel
theorem mX7_knowRoots_79 : Cond.fieldLink RX7 79 "NormalForms" "rowCount" "I" ∈ wsX7_knowRoots := by decide +kernel
abbrev rmX7_knowRoots : Room := { frames := 7, cells := 0, slots := 0, locals := 153 }
set_option maxHeartbeats 4000000 in
set_option maxRecDepth 100000 in
theorem kX7_knowRoots (l : Launch) (D : va_G) (dA : Nat → ClassId) (b0 : Nat) (ι : Nat → Nat) (N : Nat) (a0 : Nat) (h : Hp) (h' : Hp) (hf : fX7_knowRoots N a0 h = some h') : Met l yX7_knowRoots wsX7_knowRoots rmX7_knowRoots (PC D dA b0 ι [.ref (ι a0)] h) (QV D dA b0 ι h') 0 0 (qA b0) := by
  unfold fX7_knowRoots at hf
  refine Met.ofW (cc := cX7_knowRoots) (maxL := 1) (ret := none) (by decide +kernel) rfl ?_
  intro p e s m args below meth c s₁ B hml hv
  obtain ⟨rfl, w0⟩ := hv
  have hx := B.exec
  have hb := B.bytes
  have hr := B.returns
  have hts := atoms_spec (ws := wsX7_knowRoots) B.pre
  have hown : s.vm.findClass RX7 = some m.cls := findClass_of_methodNamed B.named
  have hlocks := B.notSynchronized
  have hC := w0.c
  have hK := hC.1
  have w := WD.start w0
  clear w0
  have hl := lv_entry ([.ref (ι a0)]) (n := 1) (Nat.le_of_ble_eq_true rfl)
  rw [lg_entry_eq]
  generalize (lg_sl ([.ref (ι a0)]) ++ List.replicate (1 - (lg_sl ([.ref (ι a0)])).length) Slot.unset).toArray = ls at hl ⊢
  have hl : lv_has ls 1 [(0, .ref (ι a0))] := hl
  obtain ⟨H, hH⟩ : ∃ H : Heap, H = s.heap := ⟨_, rfl⟩
  obtain ⟨locs, hlo⟩ : ∃ locs : List Loc, locs = [] := ⟨_, rfl⟩
  rw [← hlo]
  have w : WD D dA b0 ι h s.heap H locs := by rw [hH, hlo]; exact w
  refine px_start hH ?_
  refine lv_aload_n hx hb dX7_knowRoots_0 rfl (lv_at hl 0 rfl) ?_
  obtain ⟨u3, eu3, hf⟩ := ob_s hf
  obtain ⟨h2, eh2, hf⟩ := ob_s hf
  refine px_callVv (As := []) (rest := []) ⟨hx, hb, hml, hown, hts⟩ hC w (kX7_knowNumbersMinors l D dA b0 ι N a0 h h2 eh2) (cwV 0 hts gX7_knowRoots_X7_knowNumbersMinors rfl rfl rfl (by decide +kernel) ⟨Nat.le_of_ble_eq_true rfl, Nat.le_of_ble_eq_true rfl⟩) eu3 rfl rfl hl.1 rfl (Nat.le_of_ble_eq_true rfl) dX7_knowRoots_1 ⟨Nat.le_of_ble_eq_true rfl, Nat.le_of_ble_eq_true rfl⟩ (fun H locs w => ?_)
  refine lv_aload_n hx hb dX7_knowRoots_4 rfl (lv_at hl 0 rfl) ?_
  obtain ⟨v4, ev4, hf⟩ := ob_s hf
  refine px_getI hx hb hts nX7_knowRoots_X7 hown hK w ev4 rfl (by decide) mX7_knowRoots_208 rfl dX7_knowRoots_5 ?_
  have hj34 : ∀ (h6 : Hp) (H : Heap) (locs : List Loc) (ls : Array Slot), (some h6) = some h' → lv_has ls 1 [(0, .ref (ι a0))] → WD D dA b0 ι h6 s.heap H locs → W p l e (headSpec wsX7_knowRoots rmX7_knowRoots).room s m ([.ref (ι a0)] : List Value).toArray below meth c H locs 0 0 (MQ below (QV D dA b0 ι h') ([.ref (ι a0)] : List Value).toArray s 0 0 (qA b0)) (F0 m 34 ls []) := by
    intro h6 H locs ls hf hl w
    exact W.vret hx hb hr (qv_end hf w hC) w.locs_ok dX7_knowRoots_34
  obtain ⟨j5, ej5, hf⟩ := jn_s hf
  refine lv_if_ne (tgt := 34) hx hb dX7_knowRoots_8 (by decide) (fun c7 => ?_) (fun c7 => ?_)
  · have hf := if_f hf c7
    exact hj34 h2 H locs ls (by rw [ej5] at hf; exact hf) (lv_sub hl [0] rfl) w
  · have hf := if_t hf c7
    refine lv_aload_n hx hb dX7_knowRoots_11 rfl (lv_at hl 0 rfl) ?_
    obtain ⟨v8, ev8, hf⟩ := ob_s hf
    refine px_getR hx hb hts nX7_knowRoots_X7 hown hK w ev8 rfl (by decide) mX7_knowRoots_34 rfl dX7_knowRoots_12 ?_
    refine lv_aload_n hx hb dX7_knowRoots_15 rfl (lv_at hl 0 rfl) ?_
    obtain ⟨v9, ev9, hf⟩ := ob_s hf
    refine px_getR hx hb hts nX7_knowRoots_X7 hown hK w ev9 rfl (by decide) mX7_knowRoots_28 rfl dX7_knowRoots_16 ?_
    refine lv_aload_n hx hb dX7_knowRoots_19 rfl (lv_at hl 0 rfl) ?_
    obtain ⟨v10, ev10, hf⟩ := ob_s hf
    refine px_getI hx hb hts nX7_knowRoots_X7 hown hK w ev10 rfl (by decide) mX7_knowRoots_79 rfl dX7_knowRoots_20 ?_
    obtain ⟨u13, eu13, hf⟩ := ob_s hf
    obtain ⟨⟨v11, h12⟩, eh12, hf⟩ := ob_s hf
    dsimp only at hf
    refine px_callVr (As := [.int v10]) (rest := [.ref (ι v8)]) ⟨hx, hb, hml, hown, hts⟩ hC w (kX3_leading l D dA b0 ι N v9 v10 h2 v11 h12 eh12) (cwV 1 hts gX7_knowRoots_X3_leading rfl rfl rfl (by decide +kernel) ⟨Nat.le_of_ble_eq_true rfl, Nat.le_of_ble_eq_true rfl⟩) eu13 rfl rfl hl.1 rfl (Nat.le_of_ble_eq_true rfl) dX7_knowRoots_23 ⟨Nat.le_of_ble_eq_true rfl, Nat.le_of_ble_eq_true rfl⟩ (fun H locs w => ?_)
    obtain ⟨u16, eu16, hf⟩ := ob_s hf
    obtain ⟨h15, eh15, hf⟩ := ob_s hf
    refine px_callVv (As := [.ref (ι v11)]) (rest := []) ⟨hx, hb, hml, hown, hts⟩ hC w (kX5_reckon l D dA b0 ι N v8 v11 h12 h15 eh15) (cwV 1 hts gX7_knowRoots_X5_reckon rfl rfl rfl (by decide +kernel) ⟨Nat.le_of_ble_eq_true rfl, Nat.le_of_ble_eq_true rfl⟩) eu16 rfl rfl hl.1 rfl (Nat.le_of_ble_eq_true rfl) dX7_knowRoots_26 ⟨Nat.le_of_ble_eq_true rfl, Nat.le_of_ble_eq_true rfl⟩ (fun H locs w => ?_)
    refine lv_aload_n hx hb dX7_knowRoots_29 rfl (lv_at hl 0 rfl) ?_
    refine lv_iconst (v := (1 : Int32)) hx hb dX7_knowRoots_30 (by decide) ?_
    obtain ⟨h17, eh17, hf⟩ := ob_s hf
    refine px_put hx hb hts nX7_knowRoots_X7 tyX7 tyX7_ok nmX7 hown hK w eh17 rfl (by decide) mX7_knowRoots_208 rfl rfl rfl rfl dX7_knowRoots_31 rfl (fun H locs w => ?_)
    exact hj34 h17 H locs ls (by rw [ej5] at hf; exact hf) (lv_sub hl [0] rfl) w
theorem nX7_makeSmith_X7 : ∀ w ∈ wsX70, w ∈ wsX7_makeSmith := by decide +kernel
theorem mX7_makeSmith_45 : Cond.fieldLink RX7 45 "NormalForms" "forms" "[LNormalForms$Matrix;" ∈ wsX7_makeSmith := by decide +kernel
theorem mX7_makeSmith_21 : Cond.fieldLink RX7 21 "NormalForms" "minors" "LNormalForms$Minors;" ∈ wsX7_makeSmith := by decide +kernel
theorem nX7_makeSmith_X3 : ∀ w ∈ wsX30, w ∈ wsX7_makeSmith := by decide +kernel
abbrev rmX7_makeSmith : Room := { frames := 4, cells := 0, slots := 0, locals := 75 }
set_option maxHeartbeats 4000000 in
set_option maxRecDepth 100000 in
theorem kX7_makeSmith (l : Launch) (D : va_G) (dA : Nat → ClassId) (b0 : Nat) (ι : Nat → Nat) (N : Nat) (a0 : Nat) (h : Hp) (h' : Hp) (hf : fX7_makeSmith N a0 h = some h') : Met l yX7_makeSmith wsX7_makeSmith rmX7_makeSmith (PC D dA b0 ι [.ref (ι a0)] h) (QV D dA b0 ι h') 0 0 (qA b0) := by
  unfold fX7_makeSmith at hf
  refine Met.ofW (cc := cX7_makeSmith) (maxL := 3) (ret := none) (by decide +kernel) rfl ?_
  intro p e s m args below meth c s₁ B hml hv
  obtain ⟨rfl, w0⟩ := hv
  have hx := B.exec
  have hb := B.bytes
  have hr := B.returns
  have hts := atoms_spec (ws := wsX7_makeSmith) B.pre
  have hown : s.vm.findClass RX7 = some m.cls := findClass_of_methodNamed B.named
  have hlocks := B.notSynchronized
  have hC := w0.c
  have hK := hC.1
  have w := WD.start w0
  clear w0
  have hl := lv_entry ([.ref (ι a0)]) (n := 3) (Nat.le_of_ble_eq_true rfl)
  rw [lg_entry_eq]
  generalize (lg_sl ([.ref (ι a0)]) ++ List.replicate (3 - (lg_sl ([.ref (ι a0)])).length) Slot.unset).toArray = ls at hl ⊢
  have hl : lv_has ls 3 [(0, .ref (ι a0))] := hl
  obtain ⟨H, hH⟩ : ∃ H : Heap, H = s.heap := ⟨_, rfl⟩
  obtain ⟨locs, hlo⟩ : ∃ locs : List Loc, locs = [] := ⟨_, rfl⟩
  rw [← hlo]
  have w : WD D dA b0 ι h s.heap H locs := by rw [hH, hlo]; exact w
  refine px_start hH ?_
  refine lv_aload_n hx hb dX7_makeSmith_0 rfl (lv_at hl 0 rfl) ?_
  obtain ⟨v1, ev1, hf⟩ := ob_s hf
  refine px_getR hx hb hts nX7_makeSmith_X7 hown hK w ev1 rfl (by decide) mX7_makeSmith_45 rfl dX7_makeSmith_1 ?_
  refine lv_iconst (v := (1 : Int32)) hx hb dX7_makeSmith_4 (by decide) ?_
  obtain ⟨v2, ev2, hf⟩ := ob_s hf
  refine px_rald hx hb hK w ev2 rfl dX7_makeSmith_5 ?_
  refine lv_astore_n (lv' := [(1, .ref (ι v2)), (0, .ref (ι a0))]) hx hb dX7_makeSmith_6 rfl hl (by decide) rfl (fun ls hl => ?_)
  refine lv_aload_n hx hb dX7_makeSmith_7 rfl (lv_at hl 0 rfl) ?_
  obtain ⟨u5, eu5, hf⟩ := ob_s hf
  obtain ⟨h4, eh4, hf⟩ := ob_s hf
  refine px_callVv (As := []) (rest := []) ⟨hx, hb, hml, hown, hts⟩ hC w (kX2_clear l D dA b0 ι N v2 h h4 eh4) (cwV 0 hts gX7_makeSmith_X2_clear rfl rfl rfl (by decide +kernel) ⟨Nat.le_of_ble_eq_true rfl, Nat.le_of_ble_eq_true rfl⟩) eu5 rfl rfl hl.1 rfl (Nat.le_of_ble_eq_true rfl) dX7_makeSmith_8 ⟨Nat.le_of_ble_eq_true rfl, Nat.le_of_ble_eq_true rfl⟩ (fun H locs w => ?_)
  refine lv_iconst (v := (0 : Int32)) hx hb dX7_makeSmith_11 (by decide) ?_
  refine lv_istore_n (lv' := [(2, .int (0 : Int32)), (1, .ref (ι v2)), (0, .ref (ι a0))]) hx hb dX7_makeSmith_12 rfl hl (by decide) rfl (fun ls hl => ?_)
  have hx13 : ∀ (y6 : Int32) (h7 : Hp) (H : Heap) (locs : List Loc) (ls : Array Slot), (some h7) = some h' → lv_has ls 3 [(0, .ref (ι a0)), (1, .ref (ι v2)), (2, .int y6)] → WD D dA b0 ι h7 s.heap H locs → W p l e (headSpec wsX7_makeSmith rmX7_makeSmith).room s m ([.ref (ι a0)] : List Value).toArray below meth c H locs 0 0 (MQ below (QV D dA b0 ι h') ([.ref (ι a0)] : List Value).toArray s 0 0 (qA b0)) (F0 m 48 ls []) := by
    intro y6 h7 H locs ls hf hl w
    exact W.vret hx hb hr (qv_end hf w hC) w.locs_ok dX7_makeSmith_48
  obtain ⟨κ13, eκ13⟩ : ∃ k : Int32 → Hp → Option Hp, k = (fun y6 h7 => some h7) := ⟨_, rfl⟩
  have hlp13 : ∀ (n : Nat) (z24 : Int32) (h25 : Hp) (H : Heap) (locs : List Loc) (ls : Array Slot), lX7_makeSmith_13 N a0 v2 n z24 h25 κ13 = some h' → lv_has ls 3 [(0, .ref (ι a0)), (1, .ref (ι v2)), (2, .int z24)] → WD D dA b0 ι h25 s.heap H locs → W p l e (headSpec wsX7_makeSmith rmX7_makeSmith).room s m ([.ref (ι a0)] : List Value).toArray below meth c H locs 0 0 (MQ below (QV D dA b0 ι h') ([.ref (ι a0)] : List Value).toArray s 0 0 (qA b0)) (F0 m 13 ls []) := by
    intro n13
    induction n13 with
    | zero => intro z24 h25 H locs ls hf; exact absurd hf (by rw [lX7_makeSmith_13]; exact fun q => nomatch q)
    | succ n13 ih13 =>
      intro z24 h25 H locs ls hf hl w
      rw [lX7_makeSmith_13] at hf
      refine lv_iload_n hx hb dX7_makeSmith_13 rfl (lv_at hl 2 rfl) ?_
      refine lv_aload_n hx hb dX7_makeSmith_14 rfl (lv_at hl 0 rfl) ?_
      obtain ⟨v26, ev26, hf⟩ := ob_s hf
      refine px_getR hx hb hts nX7_makeSmith_X7 hown hK w ev26 rfl (by decide) mX7_makeSmith_21 rfl dX7_makeSmith_15 ?_
      obtain ⟨v27, ev27, hf⟩ := ob_s hf
      refine px_getIN hx hb hts nX7_makeSmith_X3 hown hK w ev27 rfl (by decide) (hC.2.1 _ nest_11) rfl dX7_makeSmith_18 ?_
      refine lv_icmp_ge (tgt := 48) hx hb dX7_makeSmith_21 (by decide) (fun c28 => ?_) (fun c28 => ?_)
      · have hf := if_t hf c28
        exact hx13 z24 h25 H locs ls (by rw [eκ13] at hf; exact hf) (lv_sub hl [0, 1, 2] rfl) w
      · have hf := if_f hf c28
        refine lv_aload_n hx hb dX7_makeSmith_24 rfl (lv_at hl 1 rfl) ?_
        refine lv_iload_n hx hb dX7_makeSmith_25 rfl (lv_at hl 2 rfl) ?_
        refine lv_iload_n hx hb dX7_makeSmith_26 rfl (lv_at hl 2 rfl) ?_
        obtain ⟨u31, eu31, hf⟩ := ob_s hf
        obtain ⟨⟨v29, h30⟩, eh30, hf⟩ := ob_s hf
        dsimp only at hf
        refine px_callVr (As := [.int z24, .int z24]) (rest := []) ⟨hx, hb, hml, hown, hts⟩ hC w (kX2_cell l D dA b0 ι N v2 z24 z24 h25 v29 h30 eh30) (cwV 2 hts gX7_makeSmith_X2_cell rfl rfl rfl (by decide +kernel) ⟨Nat.le_of_ble_eq_true rfl, Nat.le_of_ble_eq_true rfl⟩) eu31 rfl rfl hl.1 rfl (Nat.le_of_ble_eq_true rfl) dX7_makeSmith_27 ⟨Nat.le_of_ble_eq_true rfl, Nat.le_of_ble_eq_true rfl⟩ (fun H locs w => ?_)
        refine lv_aload_n hx hb dX7_makeSmith_30 rfl (lv_at hl 0 rfl) ?_
        obtain ⟨v32, ev32, hf⟩ := ob_s hf
        refine px_getR hx hb hts nX7_makeSmith_X7 hown hK w ev32 rfl (by decide) mX7_makeSmith_21 rfl dX7_makeSmith_31 ?_
        obtain ⟨v33, ev33, hf⟩ := ob_s hf
        refine px_getRN hx hb hts nX7_makeSmith_X3 hown hK w ev33 rfl (by decide) (hC.2.1 _ nest_12) rfl dX7_makeSmith_34 ?_
        refine lv_iload_n hx hb dX7_makeSmith_37 rfl (lv_at hl 2 rfl) ?_
        obtain ⟨v34, ev34, hf⟩ := ob_s hf
        refine px_rald hx hb hK w ev34 rfl dX7_makeSmith_38 ?_
        obtain ⟨u37, eu37, hf⟩ := ob_s hf
        obtain ⟨h36, eh36, hf⟩ := ob_s hf
        refine px_callVv (As := [.ref (ι v34)]) (rest := []) ⟨hx, hb, hml, hown, hts⟩ hC w (kX4_copyFrom l D dA b0 ι N v29 v34 h30 h36 eh36) (cwV 1 hts gX7_makeSmith_X4_copyFrom rfl rfl rfl (by decide +kernel) ⟨Nat.le_of_ble_eq_true rfl, Nat.le_of_ble_eq_true rfl⟩) eu37 rfl rfl hl.1 rfl (Nat.le_of_ble_eq_true rfl) dX7_makeSmith_39 ⟨Nat.le_of_ble_eq_true rfl, Nat.le_of_ble_eq_true rfl⟩ (fun H locs w => ?_)
        obtain ⟨x38, ex38, hf⟩ := nm_s hf
        refine lv_iinc (v := x38) (lv' := [(2, .int x38), (0, .ref (ι a0)), (1, .ref (ι v2))]) hx hb dX7_makeSmith_42 hl (k := 2) rfl (by rw [ex38]; rfl) (by decide) rfl (fun ls hl => ?_)
        refine lv_goto (tgt := 13) hx hb dX7_makeSmith_45 (by decide) ?_
        exact ih13 x38 h36 H locs ls hf (lv_sub hl [1, 2, 0] rfl) w
  exact hlp13 N (0 : Int32) h4 H locs ls (by rw [eκ13]; exact hf) (lv_sub hl [2, 1, 0] rfl) w
theorem nX7_makeInverse_X7 : ∀ w ∈ wsX70, w ∈ wsX7_makeInverse := by decide +kernel
theorem mX7_makeInverse_21 : Cond.fieldLink RX7 21 "NormalForms" "minors" "LNormalForms$Minors;" ∈ wsX7_makeInverse := by decide +kernel
theorem mX7_makeInverse_79 : Cond.fieldLink RX7 79 "NormalForms" "rowCount" "I" ∈ wsX7_makeInverse := by decide +kernel
theorem mX7_makeInverse_83 : Cond.fieldLink RX7 83 "NormalForms" "columnCount" "I" ∈ wsX7_makeInverse := by decide +kernel
theorem nX7_makeInverse_X4 : ∀ w ∈ wsX40, w ∈ wsX7_makeInverse := by decide +kernel
theorem mX7_makeInverse_45 : Cond.fieldLink RX7 45 "NormalForms" "forms" "[LNormalForms$Matrix;" ∈ wsX7_makeInverse := by decide +kernel
theorem mX7_makeInverse_49 : Cond.fieldLink RX7 49 "NormalForms" "formThere" "[Z" ∈ wsX7_makeInverse := by decide +kernel
abbrev rmX7_makeInverse : Room := { frames := 3, cells := 0, slots := 0, locals := 56 }
set_option maxHeartbeats 4000000 in
set_option maxRecDepth 100000 in
theorem kX7_makeInverse (l : Launch) (D : va_G) (dA : Nat → ClassId) (b0 : Nat) (ι : Nat → Nat) (N : Nat) (a0 : Nat) (h : Hp) (r : Int32) (h' : Hp) (hf : fX7_makeInverse N a0 h = some (r, h')) : Met l yX7_makeInverse wsX7_makeInverse rmX7_makeInverse (PC D dA b0 ι [.ref (ι a0)] h) (QI D dA b0 ι r h') 0 0 (qA b0) := by
  unfold fX7_makeInverse at hf
  refine Met.ofW (cc := cX7_makeInverse) (maxL := 8) (ret := (some .int)) (by decide +kernel) rfl ?_
  intro p e s m args below meth c s₁ B hml hv
  obtain ⟨rfl, w0⟩ := hv
  have hx := B.exec
  have hb := B.bytes
  have hr := B.returns
  have hts := atoms_spec (ws := wsX7_makeInverse) B.pre
  have hown : s.vm.findClass RX7 = some m.cls := findClass_of_methodNamed B.named
  have hlocks := B.notSynchronized
  have hC := w0.c
  have hK := hC.1
  have w := WD.start w0
  clear w0
  have hl := lv_entry ([.ref (ι a0)]) (n := 8) (Nat.le_of_ble_eq_true rfl)
  rw [lg_entry_eq]
  generalize (lg_sl ([.ref (ι a0)]) ++ List.replicate (8 - (lg_sl ([.ref (ι a0)])).length) Slot.unset).toArray = ls at hl ⊢
  have hl : lv_has ls 8 [(0, .ref (ι a0))] := hl
  obtain ⟨H, hH⟩ : ∃ H : Heap, H = s.heap := ⟨_, rfl⟩
  obtain ⟨locs, hlo⟩ : ∃ locs : List Loc, locs = [] := ⟨_, rfl⟩
  rw [← hlo]
  have w : WD D dA b0 ι h s.heap H locs := by rw [hH, hlo]; exact w
  refine px_start hH ?_
  refine lv_aload_n hx hb dX7_makeInverse_0 rfl (lv_at hl 0 rfl) ?_
  obtain ⟨v1, ev1, hf⟩ := ob_s hf
  refine px_getR hx hb hts nX7_makeInverse_X7 hown hK w ev1 rfl (by decide) mX7_makeInverse_21 rfl dX7_makeInverse_1 ?_
  refine lv_aload_n hx hb dX7_makeInverse_4 rfl (lv_at hl 0 rfl) ?_
  obtain ⟨v2, ev2, hf⟩ := ob_s hf
  refine px_getI hx hb hts nX7_makeInverse_X7 hown hK w ev2 rfl (by decide) mX7_makeInverse_79 rfl dX7_makeInverse_5 ?_
  obtain ⟨u5, eu5, hf⟩ := ob_s hf
  obtain ⟨⟨v3, h4⟩, eh4, hf⟩ := ob_s hf
  dsimp only at hf
  refine px_callVr (As := [.int v2]) (rest := []) ⟨hx, hb, hml, hown, hts⟩ hC w (kX3_leading l D dA b0 ι N v1 v2 h v3 h4 eh4) (cwV 1 hts gX7_makeInverse_X3_leading rfl rfl rfl (by decide +kernel) ⟨Nat.le_of_ble_eq_true rfl, Nat.le_of_ble_eq_true rfl⟩) eu5 rfl rfl hl.1 rfl (Nat.le_of_ble_eq_true rfl) dX7_makeInverse_8 ⟨Nat.le_of_ble_eq_true rfl, Nat.le_of_ble_eq_true rfl⟩ (fun H locs w => ?_)
  refine lv_astore_n (lv' := [(1, .ref (ι v3)), (0, .ref (ι a0))]) hx hb dX7_makeInverse_11 rfl hl (by decide) rfl (fun ls hl => ?_)
  refine lv_aload_n hx hb dX7_makeInverse_12 rfl (lv_at hl 1 rfl) ?_
  obtain ⟨v6, ev6, hf⟩ := ob_s hf
  refine px_getI hx hb hts nX7_makeInverse_X7 hown hK w ev6 rfl (by decide) mX7_makeInverse_79 rfl dX7_makeInverse_13 ?_
  refine lv_aload_n hx hb dX7_makeInverse_16 rfl (lv_at hl 1 rfl) ?_
  obtain ⟨v7, ev7, hf⟩ := ob_s hf
  refine px_getI hx hb hts nX7_makeInverse_X7 hown hK w ev7 rfl (by decide) mX7_makeInverse_83 rfl dX7_makeInverse_17 ?_
  have hj30 : ∀ (h9 : Hp) (H : Heap) (locs : List Loc) (ls : Array Slot), (some ((-1 : Int32), h9)) = some (r, h') → lv_has ls 8 [(0, .ref (ι a0)), (1, .ref (ι v3))] → WD D dA b0 ι h9 s.heap H locs → W p l e (headSpec wsX7_makeInverse rmX7_makeInverse).room s m ([.ref (ι a0)] : List Value).toArray below meth c H locs 0 0 (MQ below (QI D dA b0 ι r h') ([.ref (ι a0)] : List Value).toArray s 0 0 (qA b0)) (F0 m 30 ls []) := by
    intro h9 H locs ls hf hl w
    refine lv_iconst (v := (-1 : Int32)) hx hb dX7_makeInverse_30 (by decide) ?_
    exact W.iret hx hb hr (qi_end hf w hC) w.locs_ok dX7_makeInverse_31
  obtain ⟨j8, ej8, hf⟩ := jn_s hf
  refine lv_icmp_ne (tgt := 30) hx hb dX7_makeInverse_20 (by decide) (fun c10 => ?_) (fun c10 => ?_)
  · have hf := if_f hf c10
    exact hj30 h4 H locs ls (by rw [ej8] at hf; exact hf) (lv_sub hl [1, 0] rfl) w
  · have hf := if_t hf c10
    refine lv_aload_n hx hb dX7_makeInverse_23 rfl (lv_at hl 0 rfl) ?_
    obtain ⟨v11, ev11, hf⟩ := ob_s hf
    refine px_getIN hx hb hts nX7_makeInverse_X4 hown hK w ev11 rfl (by decide) (hC.2.1 _ nest_13) rfl dX7_makeInverse_24 ?_
    refine lv_if_eq (tgt := 32) hx hb dX7_makeInverse_27 (by decide) (fun c12 => ?_) (fun c12 => ?_)
    · have hf := if_t hf c12
      refine lv_aload_n hx hb dX7_makeInverse_32 rfl (lv_at hl 0 rfl) ?_
      refine lv_iconst (v := (0 : Int32)) hx hb dX7_makeInverse_33 (by decide) ?_
      obtain ⟨u15, eu15, hf⟩ := ob_s hf
      obtain ⟨⟨v13, h14⟩, eh14, hf⟩ := ob_s hf
      dsimp only at hf
      refine px_callVi (As := [.int (0 : Int32)]) (rest := []) ⟨hx, hb, hml, hown, hts⟩ hC w (kX4_numberAt l D dA b0 ι N v3 (0 : Int32) h4 v13 h14 eh14) (cwV 1 hts gX7_makeInverse_X4_numberAt rfl rfl rfl (by decide +kernel) ⟨Nat.le_of_ble_eq_true rfl, Nat.le_of_ble_eq_true rfl⟩) eu15 rfl rfl hl.1 rfl (Nat.le_of_ble_eq_true rfl) dX7_makeInverse_34 ⟨Nat.le_of_ble_eq_true rfl, Nat.le_of_ble_eq_true rfl⟩ (fun H locs w => ?_)
      obtain ⟨⟨v16, h17⟩, eh17, hf⟩ := ob_s hf
      dsimp only at hf
      refine px_callSi (As := [.int v13]) (rest := []) ⟨hx, hb, hml, hown, hts⟩ hC w (kX7_inverseOf l D dA b0 ι N v13 h14 v16 h17 eh17) (va_cwS 1 hts gX7_makeInverse_X7_inverseOf rfl rfl rfl (by decide +kernel) ⟨Nat.le_of_ble_eq_true rfl, Nat.le_of_ble_eq_true rfl⟩) rfl hl.1 rfl (Nat.le_of_ble_eq_true rfl) dX7_makeInverse_37 ⟨Nat.le_of_ble_eq_true rfl, Nat.le_of_ble_eq_true rfl⟩ (fun H locs w => ?_)
      refine lv_istore_n (lv' := [(2, .int v16), (1, .ref (ι v3)), (0, .ref (ι a0))]) hx hb dX7_makeInverse_40 rfl hl (by decide) rfl (fun ls hl => ?_)
      refine lv_iconst (v := (1 : Int32)) hx hb dX7_makeInverse_41 (by decide) ?_
      refine lv_aload_n hx hb dX7_makeInverse_42 rfl (lv_at hl 2 rfl) ?_
      obtain ⟨v18, ev18, hf⟩ := ob_s hf
      refine px_getI hx hb hts nX7_makeInverse_X7 hown hK w ev18 rfl (by decide) mX7_makeInverse_79 rfl dX7_makeInverse_43 ?_
      refine lv_ishl hx hb dX7_makeInverse_46 ?_
      refine lv_iconst (v := (1 : Int32)) hx hb dX7_makeInverse_47 (by decide) ?_
      refine lv_isub hx hb dX7_makeInverse_48 ?_
      obtain ⟨x19, ex19, hf⟩ := nm_s hf
      refine px_nmI ex19 ?_
      refine lv_istore_n (lv' := [(3, .int x19), (2, .int v16), (1, .ref (ι v3)), (0, .ref (ι a0))]) hx hb dX7_makeInverse_49 rfl hl (by decide) rfl (fun ls hl => ?_)
      refine lv_aload_n hx hb dX7_makeInverse_50 rfl (lv_at hl 3 rfl) ?_
      obtain ⟨v20, ev20, hf⟩ := ob_s hf
      refine px_getR hx hb hts nX7_makeInverse_X7 hown hK w ev20 rfl (by decide) mX7_makeInverse_45 rfl dX7_makeInverse_51 ?_
      refine lv_iconst (v := (2 : Int32)) hx hb dX7_makeInverse_54 (by decide) ?_
      obtain ⟨v21, ev21, hf⟩ := ob_s hf
      refine px_rald hx hb hK w ev21 rfl dX7_makeInverse_55 ?_
      refine lv_astore (lv' := [(4, .ref (ι v21)), (3, .int x19), (2, .int v16), (1, .ref (ι v3)), (0, .ref (ι a0))]) hx hb dX7_makeInverse_56 hl (by decide) rfl (fun ls hl => ?_)
      refine lv_iconst (v := (0 : Int32)) hx hb dX7_makeInverse_58 (by decide) ?_
      refine lv_istore (lv' := [(5, .int (0 : Int32)), (4, .ref (ι v21)), (3, .int x19), (2, .int v16), (1, .ref (ι v3)), (0, .ref (ι a0))]) hx hb dX7_makeInverse_59 hl (by decide) rfl (fun ls hl => ?_)
      have hx61 : ∀ (y22 : Int32) (h23 : Hp) (H : Heap) (locs : List Loc) (ls : Array Slot), ((gR h23 a0 9 12).bind fun v24 => (aZs h23 v24 (2 : Int32) (1 : Int32)).bind fun h25 => (gI h25 a0 9 0).bind fun v26 => some (v26, h25)) = some (r, h') → lv_has ls 8 [(0, .ref (ι a0)), (1, .ref (ι v3)), (2, .int v16), (3, .int x19), (4, .ref (ι v21)), (5, .int y22)] → WD D dA b0 ι h23 s.heap H locs → W p l e (headSpec wsX7_makeInverse rmX7_makeInverse).room s m ([.ref (ι a0)] : List Value).toArray below meth c H locs 0 0 (MQ below (QI D dA b0 ι r h') ([.ref (ι a0)] : List Value).toArray s 0 0 (qA b0)) (F0 m 156 ls []) := by
        intro y22 h23 H locs ls hf hl w
        refine lv_aload_n hx hb dX7_makeInverse_156 rfl (lv_at hl 0 rfl) ?_
        obtain ⟨v24, ev24, hf⟩ := ob_s hf
        refine px_getR hx hb hts nX7_makeInverse_X7 hown hK w ev24 rfl (by decide) mX7_makeInverse_49 rfl dX7_makeInverse_157 ?_
        refine lv_iconst (v := (2 : Int32)) hx hb dX7_makeInverse_160 (by decide) ?_
        refine lv_iconst (v := (1 : Int32)) hx hb dX7_makeInverse_161 (by decide) ?_
        obtain ⟨h25, eh25, hf⟩ := ob_s hf
        refine px_zast hx hb hK w eh25 dX7_makeInverse_162 (fun H locs w => ?_)
        refine lv_aload_n hx hb dX7_makeInverse_163 rfl (lv_at hl 0 rfl) ?_
        obtain ⟨v26, ev26, hf⟩ := ob_s hf
        refine px_getI hx hb hts nX7_makeInverse_X7 hown hK w ev26 rfl (by decide) mX7_makeInverse_79 rfl dX7_makeInverse_164 ?_
        exact W.iret hx hb hr (qi_end hf w hC) w.locs_ok dX7_makeInverse_167
      obtain ⟨κ61, eκ61⟩ : ∃ k : Int32 → Hp → Option (Int32 × Hp), k = (fun y22 h23 => (gR h23 a0 9 12).bind fun v24 => (aZs h23 v24 (2 : Int32) (1 : Int32)).bind fun h25 => (gI h25 a0 9 0).bind fun v26 => some (v26, h25)) := ⟨_, rfl⟩
      have hlp61 : ∀ (n : Nat) (z84 : Int32) (h85 : Hp) (H : Heap) (locs : List Loc) (ls : Array Slot), lX7_makeInverse_61 N a0 v3 v16 x19 v21 n z84 h85 κ61 = some (r, h') → lv_has ls 8 [(0, .ref (ι a0)), (1, .ref (ι v3)), (2, .int v16), (3, .int x19), (4, .ref (ι v21)), (5, .int z84)] → WD D dA b0 ι h85 s.heap H locs → W p l e (headSpec wsX7_makeInverse rmX7_makeInverse).room s m ([.ref (ι a0)] : List Value).toArray below meth c H locs 0 0 (MQ below (QI D dA b0 ι r h') ([.ref (ι a0)] : List Value).toArray s 0 0 (qA b0)) (F0 m 61 ls []) := by
        intro n61
        induction n61 with
        | zero => intro z84 h85 H locs ls hf; exact absurd hf (by rw [lX7_makeInverse_61]; exact fun q => nomatch q)
        | succ n61 ih61 =>
          intro z84 h85 H locs ls hf hl w
          rw [lX7_makeInverse_61] at hf
          refine lv_iload hx hb dX7_makeInverse_61 (lv_at hl 5 rfl) ?_
          refine lv_aload_n hx hb dX7_makeInverse_63 rfl (lv_at hl 0 rfl) ?_
          obtain ⟨v86, ev86, hf⟩ := ob_s hf
          refine px_getI hx hb hts nX7_makeInverse_X7 hown hK w ev86 rfl (by decide) mX7_makeInverse_79 rfl dX7_makeInverse_64 ?_
          refine lv_icmp_ge (tgt := 156) hx hb dX7_makeInverse_67 (by decide) (fun c87 => ?_) (fun c87 => ?_)
          · have hf := if_t hf c87
            exact hx61 z84 h85 H locs ls (by rw [eκ61] at hf; exact hf) (lv_sub hl [0, 1, 2, 3, 4, 5] rfl) w
          · have hf := if_f hf c87
            refine lv_iconst (v := (0 : Int32)) hx hb dX7_makeInverse_70 (by decide) ?_
            refine lv_istore (lv' := [(6, .int (0 : Int32)), (0, .ref (ι a0)), (1, .ref (ι v3)), (2, .int v16), (3, .int x19), (4, .ref (ι v21)), (5, .int z84)]) hx hb dX7_makeInverse_71 hl (by decide) rfl (fun ls hl => ?_)
            have hx73 : ∀ (y88 : Int32) (h89 : Hp) (H : Heap) (locs : List Loc) (ls : Array Slot), (nm (z84 + (1 : Int32)) fun x90 => lX7_makeInverse_61 N a0 v3 v16 x19 v21 n61 x90 h89 κ61) = some (r, h') → lv_has ls 8 [(0, .ref (ι a0)), (1, .ref (ι v3)), (2, .int v16), (3, .int x19), (4, .ref (ι v21)), (5, .int z84), (6, .int y88)] → WD D dA b0 ι h89 s.heap H locs → W p l e (headSpec wsX7_makeInverse rmX7_makeInverse).room s m ([.ref (ι a0)] : List Value).toArray below meth c H locs 0 0 (MQ below (QI D dA b0 ι r h') ([.ref (ι a0)] : List Value).toArray s 0 0 (qA b0)) (F0 m 150 ls []) := by
              intro y88 h89 H locs ls hf hl w
              obtain ⟨x90, ex90, hf⟩ := nm_s hf
              refine lv_iinc (v := x90) (lv' := [(5, .int x90), (0, .ref (ι a0)), (1, .ref (ι v3)), (2, .int v16), (3, .int x19), (4, .ref (ι v21)), (6, .int y88)]) hx hb dX7_makeInverse_150 hl (k := 5) rfl (by rw [ex90]; rfl) (by decide) rfl (fun ls hl => ?_)
              refine lv_goto (tgt := 61) hx hb dX7_makeInverse_153 (by decide) ?_
              exact ih61 x90 h89 H locs ls hf (lv_sub hl [1, 2, 3, 4, 5, 0] rfl) w
            obtain ⟨κ73, eκ73⟩ : ∃ k : Int32 → Hp → Option (Int32 × Hp), k = (fun y88 h89 => nm (z84 + (1 : Int32)) fun x90 => lX7_makeInverse_61 N a0 v3 v16 x19 v21 n61 x90 h89 κ61) := ⟨_, rfl⟩
            have hlp73 : ∀ (n : Nat) (z116 : Int32) (h117 : Hp) (H : Heap) (locs : List Loc) (ls : Array Slot), lX7_makeInverse_73 N a0 v3 v16 x19 v21 z84 n z116 h117 κ73 = some (r, h') → lv_has ls 8 [(0, .ref (ι a0)), (1, .ref (ι v3)), (2, .int v16), (3, .int x19), (4, .ref (ι v21)), (5, .int z84), (6, .int z116)] → WD D dA b0 ι h117 s.heap H locs → W p l e (headSpec wsX7_makeInverse rmX7_makeInverse).room s m ([.ref (ι a0)] : List Value).toArray below meth c H locs 0 0 (MQ below (QI D dA b0 ι r h') ([.ref (ι a0)] : List Value).toArray s 0 0 (qA b0)) (F0 m 73 ls []) := by
              intro n73
              induction n73 with
              | zero => intro z116 h117 H locs ls hf; exact absurd hf (by rw [lX7_makeInverse_73]; exact fun q => nomatch q)
              | succ n73 ih73 =>
                intro z116 h117 H locs ls hf hl w
                rw [lX7_makeInverse_73] at hf
                refine lv_iload hx hb dX7_makeInverse_73 (lv_at hl 6 rfl) ?_
                refine lv_aload_n hx hb dX7_makeInverse_75 rfl (lv_at hl 0 rfl) ?_
                obtain ⟨v118, ev118, hf⟩ := ob_s hf
                refine px_getI hx hb hts nX7_makeInverse_X7 hown hK w ev118 rfl (by decide) mX7_makeInverse_83 rfl dX7_makeInverse_76 ?_
                refine lv_icmp_ge (tgt := 150) hx hb dX7_makeInverse_79 (by decide) (fun c119 => ?_) (fun c119 => ?_)
                · have hf := if_t hf c119
                  exact hx73 z116 h117 H locs ls (by rw [eκ73] at hf; exact hf) (lv_sub hl [0, 1, 2, 3, 4, 5, 6] rfl) w
                · have hf := if_f hf c119
                  refine lv_aload hx hb dX7_makeInverse_82 (lv_at hl 4 rfl) ?_
                  refine lv_iload hx hb dX7_makeInverse_84 (lv_at hl 5 rfl) ?_
                  refine lv_iload hx hb dX7_makeInverse_86 (lv_at hl 6 rfl) ?_
                  obtain ⟨u122, eu122, hf⟩ := ob_s hf
                  obtain ⟨⟨v120, h121⟩, eh121, hf⟩ := ob_s hf
                  dsimp only at hf
                  refine px_callVr (As := [.int z84, .int z116]) (rest := []) ⟨hx, hb, hml, hown, hts⟩ hC w (kX2_cell l D dA b0 ι N v21 z84 z116 h117 v120 h121 eh121) (cwV 2 hts gX7_makeInverse_X2_cell rfl rfl rfl (by decide +kernel) ⟨Nat.le_of_ble_eq_true rfl, Nat.le_of_ble_eq_true rfl⟩) eu122 rfl rfl hl.1 rfl (Nat.le_of_ble_eq_true rfl) dX7_makeInverse_88 ⟨Nat.le_of_ble_eq_true rfl, Nat.le_of_ble_eq_true rfl⟩ (fun H locs w => ?_)
                  refine lv_astore (lv' := [(7, .ref (ι v120)), (0, .ref (ι a0)), (1, .ref (ι v3)), (2, .int v16), (3, .int x19), (4, .ref (ι v21)), (5, .int z84), (6, .int z116)]) hx hb dX7_makeInverse_91 hl (by decide) rfl (fun ls hl => ?_)
                  refine lv_aload hx hb dX7_makeInverse_93 (lv_at hl 0 rfl) ?_
                  refine lv_aload_n hx hb dX7_makeInverse_95 rfl (lv_at hl 1 rfl) ?_
                  obtain ⟨v123, ev123, hf⟩ := ob_s hf
                  refine px_getR hx hb hts nX7_makeInverse_X7 hown hK w ev123 rfl (by decide) mX7_makeInverse_21 rfl dX7_makeInverse_96 ?_
                  refine lv_iload_n hx hb dX7_makeInverse_99 rfl (lv_at hl 4 rfl) ?_
                  refine lv_iconst (v := (1 : Int32)) hx hb dX7_makeInverse_100 (by decide) ?_
                  refine lv_iload hx hb dX7_makeInverse_101 (lv_at hl 7 rfl) ?_
                  refine lv_ishl hx hb dX7_makeInverse_103 ?_
                  refine lv_iconst (v := (-1 : Int32)) hx hb dX7_makeInverse_104 (by decide) ?_
                  refine lv_ixor hx hb dX7_makeInverse_105 ?_
                  refine lv_iand hx hb dX7_makeInverse_106 ?_
                  refine lv_iload_n hx hb dX7_makeInverse_107 rfl (lv_at hl 4 rfl) ?_
                  refine lv_iconst (v := (1 : Int32)) hx hb dX7_makeInverse_108 (by decide) ?_
                  refine lv_iload hx hb dX7_makeInverse_109 (lv_at hl 6 rfl) ?_
                  refine lv_ishl hx hb dX7_makeInverse_111 ?_
                  refine lv_iconst (v := (-1 : Int32)) hx hb dX7_makeInverse_112 (by decide) ?_
                  refine lv_ixor hx hb dX7_makeInverse_113 ?_
                  refine lv_iand hx hb dX7_makeInverse_114 ?_
                  obtain ⟨u126, eu126, hf⟩ := ob_s hf
                  obtain ⟨⟨v124, h125⟩, eh125, hf⟩ := ob_s hf
                  dsimp only at hf
                  refine px_callVr (As := [.int (x19 &&& (((1 : Int32) <<< (z116 &&& 31)) ^^^ (-1 : Int32))), .int (x19 &&& (((1 : Int32) <<< (z84 &&& 31)) ^^^ (-1 : Int32)))]) (rest := [.ref (ι v120)]) ⟨hx, hb, hml, hown, hts⟩ hC w (kX3_of l D dA b0 ι N v123 (x19 &&& (((1 : Int32) <<< (z116 &&& 31)) ^^^ (-1 : Int32))) (x19 &&& (((1 : Int32) <<< (z84 &&& 31)) ^^^ (-1 : Int32))) h121 v124 h125 eh125) (cwV 2 hts gX7_makeInverse_X3_of rfl rfl rfl (by decide +kernel) ⟨Nat.le_of_ble_eq_true rfl, Nat.le_of_ble_eq_true rfl⟩) eu126 rfl rfl hl.1 rfl (Nat.le_of_ble_eq_true rfl) dX7_makeInverse_115 ⟨Nat.le_of_ble_eq_true rfl, Nat.le_of_ble_eq_true rfl⟩ (fun H locs w => ?_)
                  obtain ⟨u129, eu129, hf⟩ := ob_s hf
                  obtain ⟨h128, eh128, hf⟩ := ob_s hf
                  refine px_callVv (As := [.ref (ι v124)]) (rest := []) ⟨hx, hb, hml, hown, hts⟩ hC w (kX4_copyFrom l D dA b0 ι N v120 v124 h125 h128 eh128) (cwV 1 hts gX7_makeInverse_X4_copyFrom rfl rfl rfl (by decide +kernel) ⟨Nat.le_of_ble_eq_true rfl, Nat.le_of_ble_eq_true rfl⟩) eu129 rfl rfl hl.1 rfl (Nat.le_of_ble_eq_true rfl) dX7_makeInverse_118 ⟨Nat.le_of_ble_eq_true rfl, Nat.le_of_ble_eq_true rfl⟩ (fun H locs w => ?_)
                  refine lv_aload hx hb dX7_makeInverse_121 (lv_at hl 0 rfl) ?_
                  refine lv_iload hx hb dX7_makeInverse_123 (lv_at hl 6 rfl) ?_
                  refine lv_iload hx hb dX7_makeInverse_125 (lv_at hl 7 rfl) ?_
                  refine lv_iadd hx hb dX7_makeInverse_127 ?_
                  refine lv_iconst (v := (2 : Int32)) hx hb dX7_makeInverse_128 (by decide) ?_
                  refine px_irem hx hb dX7_makeInverse_129 (by decide) ?_
                  have hj141 : ∀ (t132 : Int32) (h131 : Hp) (H : Heap) (locs : List Loc) (ls : Array Slot), ((cK h131 v120 6).bind fun u135 => (fX4_multiply N v120 t132 h131).bind fun h134 => nm (z116 + (1 : Int32)) fun x136 => lX7_makeInverse_73 N a0 v3 v16 x19 v21 z84 n73 x136 h134 κ73) = some (r, h') → lv_has ls 8 [(0, .ref (ι a0)), (1, .ref (ι v3)), (2, .int v16), (3, .int x19), (4, .ref (ι v21)), (5, .int z84), (6, .int z116), (7, .ref (ι v120))] → WD D dA b0 ι h131 s.heap H locs → W p l e (headSpec wsX7_makeInverse rmX7_makeInverse).room s m ([.ref (ι a0)] : List Value).toArray below meth c H locs 0 0 (MQ below (QI D dA b0 ι r h') ([.ref (ι a0)] : List Value).toArray s 0 0 (qA b0)) (F0 m 141 ls [.int t132, .ref (ι v120)]) := by
                    intro t132 h131 H locs ls hf hl w
                    obtain ⟨u135, eu135, hf⟩ := ob_s hf
                    obtain ⟨h134, eh134, hf⟩ := ob_s hf
                    refine px_callVv (As := [.int t132]) (rest := []) ⟨hx, hb, hml, hown, hts⟩ hC w (kX4_multiply l D dA b0 ι N v120 t132 h131 h134 eh134) (cwV 1 hts gX7_makeInverse_X4_multiply rfl rfl rfl (by decide +kernel) ⟨Nat.le_of_ble_eq_true rfl, Nat.le_of_ble_eq_true rfl⟩) eu135 rfl rfl hl.1 rfl (Nat.le_of_ble_eq_true rfl) dX7_makeInverse_141 ⟨Nat.le_of_ble_eq_true rfl, Nat.le_of_ble_eq_true rfl⟩ (fun H locs w => ?_)
                    obtain ⟨x136, ex136, hf⟩ := nm_s hf
                    refine lv_iinc (v := x136) (lv' := [(6, .int x136), (0, .ref (ι a0)), (1, .ref (ι v3)), (2, .int v16), (3, .int x19), (4, .ref (ι v21)), (5, .int z84), (7, .ref (ι v120))]) hx hb dX7_makeInverse_144 hl (k := 6) rfl (by rw [ex136]; rfl) (by decide) rfl (fun ls hl => ?_)
                    refine lv_goto (tgt := 73) hx hb dX7_makeInverse_147 (by decide) ?_
                    exact ih73 x136 h134 H locs ls hf (lv_sub hl [1, 2, 3, 4, 5, 6, 0] rfl) w
                  obtain ⟨j130, ej130, hf⟩ := jn_s hf
                  refine lv_if_ne (tgt := 137) hx hb dX7_makeInverse_130 (by decide) (fun c137 => ?_) (fun c137 => ?_)
                  · have hf := if_f hf c137
                    refine lv_iload_n hx hb dX7_makeInverse_137 rfl (lv_at hl 3 rfl) ?_
                    obtain ⟨⟨v138, h139⟩, eh139, hf⟩ := ob_s hf
                    dsimp only at hf
                    refine px_callSi (As := [.int v16]) (rest := [.ref (ι v120)]) ⟨hx, hb, hml, hown, hts⟩ hC w (kX7_negative l D dA b0 ι N v16 h128 v138 h139 eh139) (va_cwS 1 hts gX7_makeInverse_X7_negative rfl rfl rfl (by decide +kernel) ⟨Nat.le_of_ble_eq_true rfl, Nat.le_of_ble_eq_true rfl⟩) rfl hl.1 rfl (Nat.le_of_ble_eq_true rfl) dX7_makeInverse_138 ⟨Nat.le_of_ble_eq_true rfl, Nat.le_of_ble_eq_true rfl⟩ (fun H locs w => ?_)
                    exact hj141 v138 h139 H locs ls (by rw [ej130] at hf; exact hf) (lv_sub hl [1, 2, 3, 4, 5, 6, 7, 0] rfl) w
                  · have hf := if_t hf c137
                    refine lv_iload_n hx hb dX7_makeInverse_133 rfl (lv_at hl 3 rfl) ?_
                    refine lv_goto (tgt := 141) hx hb dX7_makeInverse_134 (by decide) ?_
                    exact hj141 v16 h128 H locs ls (by rw [ej130] at hf; exact hf) (lv_sub hl [1, 2, 3, 4, 5, 6, 7, 0] rfl) w
            exact hlp73 N (0 : Int32) h85 H locs ls (by rw [eκ73]; exact hf) (lv_sub hl [1, 2, 3, 4, 5, 6, 0] rfl) w
      exact hlp61 N (0 : Int32) h17 H locs ls (by rw [eκ61]; exact hf) (lv_sub hl [5, 4, 3, 2, 1, 0] rfl) w
    · have hf := if_f hf c12
      exact hj30 h4 H locs ls (by rw [ej8] at hf; exact hf) (lv_sub hl [1, 0] rfl) w
theorem nX7_rank_X7 : ∀ w ∈ wsX70, w ∈ wsX7_rank := by decide +kernel
theorem mX7_rank_21 : Cond.fieldLink RX7 21 "NormalForms" "minors" "LNormalForms$Minors;" ∈ wsX7_rank := by decide +kernel
theorem nX7_rank_X3 : ∀ w ∈ wsX30, w ∈ wsX7_rank := by decide +kernel
abbrev rmX7_rank : Room := { frames := 7, cells := 0, slots := 0, locals := 151 }
set_option maxHeartbeats 4000000 in
set_option maxRecDepth 100000 in
theorem kX7_rank (l : Launch) (D : va_G) (dA : Nat → ClassId) (b0 : Nat) (ι : Nat → Nat) (N : Nat) (a0 : Nat) (h : Hp) (r : Int32) (h' : Hp) (hf : fX7_rank N a0 h = some (r, h')) : Met l yX7_rank wsX7_rank rmX7_rank (PC D dA b0 ι [.ref (ι a0)] h) (QI D dA b0 ι r h') 0 0 (qA b0) := by
  unfold fX7_rank at hf
  refine Met.ofW (cc := cX7_rank) (maxL := 1) (ret := (some .int)) (by decide +kernel) rfl ?_
  intro p e s m args below meth c s₁ B hml hv
  obtain ⟨rfl, w0⟩ := hv
  have hx := B.exec
  have hb := B.bytes
  have hr := B.returns
  have hts := atoms_spec (ws := wsX7_rank) B.pre
  have hown : s.vm.findClass RX7 = some m.cls := findClass_of_methodNamed B.named
  have hlocks := B.notSynchronized
  have hC := w0.c
  have hK := hC.1
  have w := WD.start w0
  clear w0
  have hl := lv_entry ([.ref (ι a0)]) (n := 1) (Nat.le_of_ble_eq_true rfl)
  rw [lg_entry_eq]
  generalize (lg_sl ([.ref (ι a0)]) ++ List.replicate (1 - (lg_sl ([.ref (ι a0)])).length) Slot.unset).toArray = ls at hl ⊢
  have hl : lv_has ls 1 [(0, .ref (ι a0))] := hl
  obtain ⟨H, hH⟩ : ∃ H : Heap, H = s.heap := ⟨_, rfl⟩
  obtain ⟨locs, hlo⟩ : ∃ locs : List Loc, locs = [] := ⟨_, rfl⟩
  rw [← hlo]
  have w : WD D dA b0 ι h s.heap H locs := by rw [hH, hlo]; exact w
  refine px_start hH ?_
  refine lv_aload_n hx hb dX7_rank_0 rfl (lv_at hl 0 rfl) ?_
  obtain ⟨u3, eu3, hf⟩ := ob_s hf
  obtain ⟨h2, eh2, hf⟩ := ob_s hf
  refine px_callVv (As := []) (rest := []) ⟨hx, hb, hml, hown, hts⟩ hC w (kX7_knowMinors l D dA b0 ι N a0 h h2 eh2) (cwV 0 hts gX7_rank_X7_knowMinors rfl rfl rfl (by decide +kernel) ⟨Nat.le_of_ble_eq_true rfl, Nat.le_of_ble_eq_true rfl⟩) eu3 rfl rfl hl.1 rfl (Nat.le_of_ble_eq_true rfl) dX7_rank_1 ⟨Nat.le_of_ble_eq_true rfl, Nat.le_of_ble_eq_true rfl⟩ (fun H locs w => ?_)
  refine lv_aload_n hx hb dX7_rank_4 rfl (lv_at hl 0 rfl) ?_
  obtain ⟨v4, ev4, hf⟩ := ob_s hf
  refine px_getR hx hb hts nX7_rank_X7 hown hK w ev4 rfl (by decide) mX7_rank_21 rfl dX7_rank_5 ?_
  obtain ⟨v5, ev5, hf⟩ := ob_s hf
  refine px_getIN hx hb hts nX7_rank_X3 hown hK w ev5 rfl (by decide) (hC.2.1 _ nest_11) rfl dX7_rank_8 ?_
  exact W.iret hx hb hr (qi_end hf w hC) w.locs_ok dX7_rank_11
theorem nX7_count_X7 : ∀ w ∈ wsX70, w ∈ wsX7_count := by decide +kernel
theorem mX7_count_49 : Cond.fieldLink RX7 49 "NormalForms" "formThere" "[Z" ∈ wsX7_count := by decide +kernel
theorem mX7_count_83 : Cond.fieldLink RX7 83 "NormalForms" "columnCount" "I" ∈ wsX7_count := by decide +kernel
theorem mX7_count_79 : Cond.fieldLink RX7 79 "NormalForms" "rowCount" "I" ∈ wsX7_count := by decide +kernel
abbrev rmX7_count : Room := { frames := 1, cells := 0, slots := 0, locals := 12 }
set_option maxHeartbeats 4000000 in
set_option maxRecDepth 100000 in
theorem kX7_count (l : Launch) (D : va_G) (dA : Nat → ClassId) (b0 : Nat) (ι : Nat → Nat) (N : Nat) (a0 : Nat) (a1 : Int32) (h : Hp) (r : Int32) (h' : Hp) (hf : fX7_count N a0 a1 h = some (r, h')) : Met l yX7_count wsX7_count rmX7_count (PC D dA b0 ι [.ref (ι a0), .int a1] h) (QI D dA b0 ι r h') 0 0 (qA b0) := by
  unfold fX7_count at hf
  refine Met.ofW (cc := cX7_count) (maxL := 4) (ret := (some .int)) (by decide +kernel) rfl ?_
  intro p e s m args below meth c s₁ B hml hv
  obtain ⟨rfl, w0⟩ := hv
  have hx := B.exec
  have hb := B.bytes
  have hr := B.returns
  have hts := atoms_spec (ws := wsX7_count) B.pre
  have hown : s.vm.findClass RX7 = some m.cls := findClass_of_methodNamed B.named
  have hlocks := B.notSynchronized
  have hC := w0.c
  have hK := hC.1
  have w := WD.start w0
  clear w0
  have hl := lv_entry ([.ref (ι a0), .int a1]) (n := 4) (Nat.le_of_ble_eq_true rfl)
  rw [lg_entry_eq]
  generalize (lg_sl ([.ref (ι a0), .int a1]) ++ List.replicate (4 - (lg_sl ([.ref (ι a0), .int a1])).length) Slot.unset).toArray = ls at hl ⊢
  have hl : lv_has ls 4 [(0, .ref (ι a0)), (1, .int a1)] := hl
  obtain ⟨H, hH⟩ : ∃ H : Heap, H = s.heap := ⟨_, rfl⟩
  obtain ⟨locs, hlo⟩ : ∃ locs : List Loc, locs = [] := ⟨_, rfl⟩
  rw [← hlo]
  have w : WD D dA b0 ι h s.heap H locs := by rw [hH, hlo]; exact w
  refine px_start hH ?_
  refine lv_iload_n hx hb dX7_count_0 rfl (lv_at hl 1 rfl) ?_
  refine lv_if_ne (tgt := 9) hx hb dX7_count_1 (by decide) (fun c1 => ?_) (fun c1 => ?_)
  · have hf := if_f hf c1
    refine lv_iload_n hx hb dX7_count_9 rfl (lv_at hl 1 rfl) ?_
    refine lv_iconst (v := (1 : Int32)) hx hb dX7_count_10 (by decide) ?_
    refine lv_icmp_ne (tgt := 19) hx hb dX7_count_11 (by decide) (fun c2 => ?_) (fun c2 => ?_)
    · have hf := if_f hf c2
      refine lv_iload_n hx hb dX7_count_19 rfl (lv_at hl 1 rfl) ?_
      refine lv_iconst (v := (2 : Int32)) hx hb dX7_count_20 (by decide) ?_
      refine lv_icmp_eq (tgt := 26) hx hb dX7_count_21 (by decide) (fun c3 => ?_) (fun c3 => ?_)
      · have hf := if_t hf c3
        refine lv_iconst (v := (0 : Int32)) hx hb dX7_count_26 (by decide) ?_
        refine lv_istore_n (lv' := [(2, .int (0 : Int32)), (0, .ref (ι a0)), (1, .int a1)]) hx hb dX7_count_27 rfl hl (by decide) rfl (fun ls hl => ?_)
        refine lv_iconst (v := (0 : Int32)) hx hb dX7_count_28 (by decide) ?_
        refine lv_istore_n (lv' := [(3, .int (0 : Int32)), (2, .int (0 : Int32)), (0, .ref (ι a0)), (1, .int a1)]) hx hb dX7_count_29 rfl hl (by decide) rfl (fun ls hl => ?_)
        have hx30 : ∀ (y4 : Int32) (y5 : Int32) (h6 : Hp) (H : Heap) (locs : List Loc) (ls : Array Slot), (some (y4, h6)) = some (r, h') → lv_has ls 4 [(0, .ref (ι a0)), (1, .int a1), (2, .int y4), (3, .int y5)] → WD D dA b0 ι h6 s.heap H locs → W p l e (headSpec wsX7_count rmX7_count).room s m ([.ref (ι a0), .int a1] : List Value).toArray below meth c H locs 0 0 (MQ below (QI D dA b0 ι r h') ([.ref (ι a0), .int a1] : List Value).toArray s 0 0 (qA b0)) (F0 m 53 ls []) := by
          intro y4 y5 h6 H locs ls hf hl w
          refine lv_iload_n hx hb dX7_count_53 rfl (lv_at hl 2 rfl) ?_
          exact W.iret hx hb hr (qi_end hf w hC) w.locs_ok dX7_count_54
        obtain ⟨κ30, eκ30⟩ : ∃ k : Int32 → Int32 → Hp → Option (Int32 × Hp), k = (fun y4 y5 h6 => some (y4, h6)) := ⟨_, rfl⟩
        have hlp30 : ∀ (n : Nat) (z20 : Int32) (z21 : Int32) (h22 : Hp) (H : Heap) (locs : List Loc) (ls : Array Slot), lX7_count_30 N a0 a1 n z20 z21 h22 κ30 = some (r, h') → lv_has ls 4 [(0, .ref (ι a0)), (1, .int a1), (2, .int z20), (3, .int z21)] → WD D dA b0 ι h22 s.heap H locs → W p l e (headSpec wsX7_count rmX7_count).room s m ([.ref (ι a0), .int a1] : List Value).toArray below meth c H locs 0 0 (MQ below (QI D dA b0 ι r h') ([.ref (ι a0), .int a1] : List Value).toArray s 0 0 (qA b0)) (F0 m 30 ls []) := by
          intro n30
          induction n30 with
          | zero => intro z20 z21 h22 H locs ls hf; exact absurd hf (by rw [lX7_count_30]; exact fun q => nomatch q)
          | succ n30 ih30 =>
            intro z20 z21 h22 H locs ls hf hl w
            rw [lX7_count_30] at hf
            refine lv_iload_n hx hb dX7_count_30 rfl (lv_at hl 3 rfl) ?_
            refine lv_iconst (v := (3 : Int32)) hx hb dX7_count_31 (by decide) ?_
            refine lv_icmp_ge (tgt := 53) hx hb dX7_count_32 (by decide) (fun c23 => ?_) (fun c23 => ?_)
            · have hf := if_t hf c23
              exact hx30 z20 z21 h22 H locs ls (by rw [eκ30] at hf; exact hf) (lv_sub hl [0, 1, 2, 3] rfl) w
            · have hf := if_f hf c23
              refine lv_aload_n hx hb dX7_count_35 rfl (lv_at hl 0 rfl) ?_
              obtain ⟨v24, ev24, hf⟩ := ob_s hf
              refine px_getR hx hb hts nX7_count_X7 hown hK w ev24 rfl (by decide) mX7_count_49 rfl dX7_count_36 ?_
              refine lv_iload_n hx hb dX7_count_39 rfl (lv_at hl 3 rfl) ?_
              obtain ⟨v25, ev25, hf⟩ := ob_s hf
              refine px_zald hx hb hK w ev25 dX7_count_40 ?_
              have hj47 : ∀ (y27 : Int32) (h28 : Hp) (H : Heap) (locs : List Loc) (ls : Array Slot), (nm (z21 + (1 : Int32)) fun x29 => lX7_count_30 N a0 a1 n30 y27 x29 h28 κ30) = some (r, h') → lv_has ls 4 [(0, .ref (ι a0)), (1, .int a1), (2, .int y27), (3, .int z21)] → WD D dA b0 ι h28 s.heap H locs → W p l e (headSpec wsX7_count rmX7_count).room s m ([.ref (ι a0), .int a1] : List Value).toArray below meth c H locs 0 0 (MQ below (QI D dA b0 ι r h') ([.ref (ι a0), .int a1] : List Value).toArray s 0 0 (qA b0)) (F0 m 47 ls []) := by
                intro y27 h28 H locs ls hf hl w
                obtain ⟨x29, ex29, hf⟩ := nm_s hf
                refine lv_iinc (v := x29) (lv' := [(3, .int x29), (0, .ref (ι a0)), (1, .int a1), (2, .int y27)]) hx hb dX7_count_47 hl (k := 3) rfl (by rw [ex29]; rfl) (by decide) rfl (fun ls hl => ?_)
                refine lv_goto (tgt := 30) hx hb dX7_count_50 (by decide) ?_
                exact ih30 y27 x29 h28 H locs ls hf (lv_sub hl [1, 2, 3, 0] rfl) w
              obtain ⟨j26, ej26, hf⟩ := jn_s hf
              refine lv_if_eq (tgt := 47) hx hb dX7_count_41 (by decide) (fun c30 => ?_) (fun c30 => ?_)
              · have hf := if_t hf c30
                exact hj47 z20 h22 H locs ls (by rw [ej26] at hf; exact hf) (lv_sub hl [0, 1, 2, 3] rfl) w
              · have hf := if_f hf c30
                obtain ⟨x31, ex31, hf⟩ := nm_s hf
                refine lv_iinc (v := x31) (lv' := [(2, .int x31), (0, .ref (ι a0)), (1, .int a1), (3, .int z21)]) hx hb dX7_count_44 hl (k := 2) rfl (by rw [ex31]; rfl) (by decide) rfl (fun ls hl => ?_)
                exact hj47 x31 h22 H locs ls (by rw [ej26] at hf; exact hf) (lv_sub hl [1, 2, 0, 3] rfl) w
        exact hlp30 N (0 : Int32) (0 : Int32) h H locs ls (by rw [eκ30]; exact hf) (lv_sub hl [2, 3, 1, 0] rfl) w
      · have hf := if_f hf c3
        refine lv_iconst (v := (-1 : Int32)) hx hb dX7_count_24 (by decide) ?_
        exact W.iret hx hb hr (qi_end hf w hC) w.locs_ok dX7_count_25
    · have hf := if_t hf c2
      refine lv_aload_n hx hb dX7_count_14 rfl (lv_at hl 0 rfl) ?_
      obtain ⟨v32, ev32, hf⟩ := ob_s hf
      refine px_getI hx hb hts nX7_count_X7 hown hK w ev32 rfl (by decide) mX7_count_83 rfl dX7_count_15 ?_
      exact W.iret hx hb hr (qi_end hf w hC) w.locs_ok dX7_count_18
  · have hf := if_t hf c1
    refine lv_aload_n hx hb dX7_count_4 rfl (lv_at hl 0 rfl) ?_
    obtain ⟨v33, ev33, hf⟩ := ob_s hf
    refine px_getI hx hb hts nX7_count_X7 hown hK w ev33 rfl (by decide) mX7_count_79 rfl dX7_count_5 ?_
    exact W.iret hx hb hr (qi_end hf w hC) w.locs_ok dX7_count_8
