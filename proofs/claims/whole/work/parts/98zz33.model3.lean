theorem nX8_lower_X8 : ∀ w ∈ wsX80, w ∈ wsX8_lower := by decide +kernel
theorem mX8_lower_29 : Cond.fieldLink RX8 29 "NormalFormsModel" "pivot" "[I" ∈ wsX8_lower := by decide +kernel
theorem mX8_lower_32 : Cond.fieldLink RX8 32 "NormalFormsModel" "a" "[I" ∈ wsX8_lower := by decide +kernel
theorem mX8_lower_35 : Cond.fieldLink RX8 35 "NormalFormsModel" "b" "[I" ∈ wsX8_lower := by decide +kernel
abbrev rmX8_lower : Room := { frames := 3, cells := 0, slots := 0, locals := 66 }
set_option maxHeartbeats 4000000 in
set_option maxRecDepth 100000 in
theorem kX8_lower (l : Launch) (D : va_G) (dA : Nat → ClassId) (b0 : Nat) (ι : Nat → Nat) (N : Nat) (a0 : Nat) (a1 : Int32) (a2 : Int32) (h : Hp) (h' : Hp) (hf : fX8_lower N a0 a1 a2 h = some h') : Met l yX8_lower wsX8_lower rmX8_lower (PC D dA b0 ι [.ref (ι a0), .int a1, .int a2] h) (QV D dA b0 ι h') 0 0 (qA b0) := by
  unfold fX8_lower at hf
  refine Met.ofW (cc := cX8_lower) (maxL := 3) (ret := none) (by decide +kernel) rfl ?_
  intro p e s m args below meth c s₁ B hml hv
  obtain ⟨rfl, w0⟩ := hv
  have hx := B.exec
  have hb := B.bytes
  have hr := B.returns
  have hts := atoms_spec (ws := wsX8_lower) B.pre
  have hown : s.vm.findClass RX8 = some m.cls := findClass_of_methodNamed B.named
  have hlocks := B.notSynchronized
  have hC := w0.c
  have hK := hC.1
  have w := WD.start w0
  clear w0
  have hl := lv_entry ([.ref (ι a0), .int a1, .int a2]) (n := 3) (Nat.le_of_ble_eq_true rfl)
  rw [lg_entry_eq]
  generalize (lg_sl ([.ref (ι a0), .int a1, .int a2]) ++ List.replicate (3 - (lg_sl ([.ref (ι a0), .int a1, .int a2])).length) Slot.unset).toArray = ls at hl ⊢
  have hl : lv_has ls 3 [(0, .ref (ι a0)), (1, .int a1), (2, .int a2)] := hl
  obtain ⟨H, hH⟩ : ∃ H : Heap, H = s.heap := ⟨_, rfl⟩
  obtain ⟨locs, hlo⟩ : ∃ locs : List Loc, locs = [] := ⟨_, rfl⟩
  rw [← hlo]
  have w : WD D dA b0 ι h s.heap H locs := by rw [hH, hlo]; exact w
  refine px_start hH ?_
  refine lv_aload_n hx hb dX8_lower_0 rfl (lv_at hl 0 rfl) ?_
  obtain ⟨v1, ev1, hf⟩ := ob_s hf
  refine px_getR hx hb hts nX8_lower_X8 hown hK w ev1 rfl (by decide) mX8_lower_29 rfl dX8_lower_1 ?_
  refine lv_iload_n hx hb dX8_lower_4 rfl (lv_at hl 2 rfl) ?_
  obtain ⟨v2, ev2, hf⟩ := ob_s hf
  refine px_iald hx hb hK w ev2 dX8_lower_5 ?_
  refine lv_iconst (v := (-1 : Int32)) hx hb dX8_lower_6 (by decide) ?_
  have hj25 : ∀ (h4 : Hp) (H : Heap) (locs : List Loc) (ls : Array Slot), (some h4) = some h' → lv_has ls 3 [(0, .ref (ι a0)), (1, .int a1), (2, .int a2)] → WD D dA b0 ι h4 s.heap H locs → W p l e (headSpec wsX8_lower rmX8_lower).room s m ([.ref (ι a0), .int a1, .int a2] : List Value).toArray below meth c H locs 0 0 (MQ below (QV D dA b0 ι h') ([.ref (ι a0), .int a1, .int a2] : List Value).toArray s 0 0 (qA b0)) (F0 m 25 ls []) := by
    intro h4 H locs ls hf hl w
    exact W.vret hx hb hr (qv_end hf w hC) w.locs_ok dX8_lower_25
  obtain ⟨j3, ej3, hf⟩ := jn_s hf
  refine lv_icmp_eq (tgt := 25) hx hb dX8_lower_7 (by decide) (fun c5 => ?_) (fun c5 => ?_)
  · have hf := if_t hf c5
    exact hj25 h H locs ls (by rw [ej3] at hf; exact hf) (lv_sub hl [0, 1, 2] rfl) w
  · have hf := if_f hf c5
    refine lv_iload_n hx hb dX8_lower_10 rfl (lv_at hl 1 rfl) ?_
    refine lv_iconst (v := (4 : Int32)) hx hb dX8_lower_11 (by decide) ?_
    have hj26 : ∀ (h7 : Hp) (H : Heap) (locs : List Loc) (ls : Array Slot), ((gR h7 a0 10 10).bind fun v8 => (cK h7 a0 10).bind fun u11 => (fX8_take N a0 v8 a1 a2 h7).bind fun h10 => (gR h10 a0 10 11).bind fun v12 => (cK h10 a0 10).bind fun u15 => (fX8_take N a0 v12 a2 a2 h10).bind fun h14 => (gR h14 a0 10 10).bind fun v16 => (fX8_high N v16 h14).bind fun (v17, h18) => (gR h18 a0 10 11).bind fun v19 => (fX8_high N v19 h18).bind fun (v20, h21) => if v20 ≤ v17 then (gR h21 a0 10 10).bind fun v23 => (gR h21 a0 10 11).bind fun v24 => (cK h21 a0 10).bind fun u27 => (fX8_divide N a0 v23 v24 h21).bind fun h26 => (cK h26 a0 10).bind fun u30 => (fX8_takeOff N a0 a1 a2 h26).bind fun h29 => some h29 else some h21) = some h' → lv_has ls 3 [(0, .ref (ι a0)), (1, .int a1), (2, .int a2)] → WD D dA b0 ι h7 s.heap H locs → W p l e (headSpec wsX8_lower rmX8_lower).room s m ([.ref (ι a0), .int a1, .int a2] : List Value).toArray below meth c H locs 0 0 (MQ below (QV D dA b0 ι h') ([.ref (ι a0), .int a1, .int a2] : List Value).toArray s 0 0 (qA b0)) (F0 m 26 ls []) := by
      intro h7 H locs ls hf hl w
      refine lv_aload_n hx hb dX8_lower_26 rfl (lv_at hl 0 rfl) ?_
      refine lv_aload_n hx hb dX8_lower_27 rfl (lv_at hl 0 rfl) ?_
      obtain ⟨v8, ev8, hf⟩ := ob_s hf
      refine px_getR hx hb hts nX8_lower_X8 hown hK w ev8 rfl (by decide) mX8_lower_32 rfl dX8_lower_28 ?_
      refine lv_iload_n hx hb dX8_lower_31 rfl (lv_at hl 1 rfl) ?_
      refine lv_iload_n hx hb dX8_lower_32 rfl (lv_at hl 2 rfl) ?_
      obtain ⟨u11, eu11, hf⟩ := ob_s hf
      obtain ⟨h10, eh10, hf⟩ := ob_s hf
      refine px_callVv (As := [.ref (ι v8), .int a1, .int a2]) (rest := []) ⟨hx, hb, hml, hown, hts⟩ hC w (kX8_take l D dA b0 ι N a0 v8 a1 a2 h7 h10 eh10) (cwV 3 hts gX8_lower_X8_take rfl rfl rfl (by decide +kernel) ⟨Nat.le_of_ble_eq_true rfl, Nat.le_of_ble_eq_true rfl⟩) eu11 rfl rfl hl.1 rfl (Nat.le_of_ble_eq_true rfl) dX8_lower_33 ⟨Nat.le_of_ble_eq_true rfl, Nat.le_of_ble_eq_true rfl⟩ (fun H locs w => ?_)
      refine lv_aload_n hx hb dX8_lower_36 rfl (lv_at hl 0 rfl) ?_
      refine lv_aload_n hx hb dX8_lower_37 rfl (lv_at hl 0 rfl) ?_
      obtain ⟨v12, ev12, hf⟩ := ob_s hf
      refine px_getR hx hb hts nX8_lower_X8 hown hK w ev12 rfl (by decide) mX8_lower_35 rfl dX8_lower_38 ?_
      refine lv_iload_n hx hb dX8_lower_41 rfl (lv_at hl 2 rfl) ?_
      refine lv_iload_n hx hb dX8_lower_42 rfl (lv_at hl 2 rfl) ?_
      obtain ⟨u15, eu15, hf⟩ := ob_s hf
      obtain ⟨h14, eh14, hf⟩ := ob_s hf
      refine px_callVv (As := [.ref (ι v12), .int a2, .int a2]) (rest := []) ⟨hx, hb, hml, hown, hts⟩ hC w (kX8_take l D dA b0 ι N a0 v12 a2 a2 h10 h14 eh14) (cwV 3 hts gX8_lower_X8_take rfl rfl rfl (by decide +kernel) ⟨Nat.le_of_ble_eq_true rfl, Nat.le_of_ble_eq_true rfl⟩) eu15 rfl rfl hl.1 rfl (Nat.le_of_ble_eq_true rfl) dX8_lower_43 ⟨Nat.le_of_ble_eq_true rfl, Nat.le_of_ble_eq_true rfl⟩ (fun H locs w => ?_)
      refine lv_aload_n hx hb dX8_lower_46 rfl (lv_at hl 0 rfl) ?_
      obtain ⟨v16, ev16, hf⟩ := ob_s hf
      refine px_getR hx hb hts nX8_lower_X8 hown hK w ev16 rfl (by decide) mX8_lower_32 rfl dX8_lower_47 ?_
      obtain ⟨⟨v17, h18⟩, eh18, hf⟩ := ob_s hf
      dsimp only at hf
      refine px_callSi (As := [.ref (ι v16)]) (rest := []) ⟨hx, hb, hml, hown, hts⟩ hC w (kX8_high l D dA b0 ι N v16 h14 v17 h18 eh18) (va_cwS 1 hts gX8_lower_X8_high rfl rfl rfl (by decide +kernel) ⟨Nat.le_of_ble_eq_true rfl, Nat.le_of_ble_eq_true rfl⟩) rfl hl.1 rfl (Nat.le_of_ble_eq_true rfl) dX8_lower_50 ⟨Nat.le_of_ble_eq_true rfl, Nat.le_of_ble_eq_true rfl⟩ (fun H locs w => ?_)
      refine lv_aload_n hx hb dX8_lower_53 rfl (lv_at hl 0 rfl) ?_
      obtain ⟨v19, ev19, hf⟩ := ob_s hf
      refine px_getR hx hb hts nX8_lower_X8 hown hK w ev19 rfl (by decide) mX8_lower_35 rfl dX8_lower_54 ?_
      obtain ⟨⟨v20, h21⟩, eh21, hf⟩ := ob_s hf
      dsimp only at hf
      refine px_callSi (As := [.ref (ι v19)]) (rest := [.int v17]) ⟨hx, hb, hml, hown, hts⟩ hC w (kX8_high l D dA b0 ι N v19 h18 v20 h21 eh21) (va_cwS 1 hts gX8_lower_X8_high rfl rfl rfl (by decide +kernel) ⟨Nat.le_of_ble_eq_true rfl, Nat.le_of_ble_eq_true rfl⟩) rfl hl.1 rfl (Nat.le_of_ble_eq_true rfl) dX8_lower_57 ⟨Nat.le_of_ble_eq_true rfl, Nat.le_of_ble_eq_true rfl⟩ (fun H locs w => ?_)
      refine lv_icmp_ge (tgt := 64) hx hb dX8_lower_60 (by decide) (fun c22 => ?_) (fun c22 => ?_)
      · have hf := if_t hf c22
        refine lv_aload_n hx hb dX8_lower_64 rfl (lv_at hl 0 rfl) ?_
        refine lv_aload_n hx hb dX8_lower_65 rfl (lv_at hl 0 rfl) ?_
        obtain ⟨v23, ev23, hf⟩ := ob_s hf
        refine px_getR hx hb hts nX8_lower_X8 hown hK w ev23 rfl (by decide) mX8_lower_32 rfl dX8_lower_66 ?_
        refine lv_aload_n hx hb dX8_lower_69 rfl (lv_at hl 0 rfl) ?_
        obtain ⟨v24, ev24, hf⟩ := ob_s hf
        refine px_getR hx hb hts nX8_lower_X8 hown hK w ev24 rfl (by decide) mX8_lower_35 rfl dX8_lower_70 ?_
        obtain ⟨u27, eu27, hf⟩ := ob_s hf
        obtain ⟨h26, eh26, hf⟩ := ob_s hf
        refine px_callVv (As := [.ref (ι v23), .ref (ι v24)]) (rest := []) ⟨hx, hb, hml, hown, hts⟩ hC w (kX8_divide l D dA b0 ι N a0 v23 v24 h21 h26 eh26) (cwV 2 hts gX8_lower_X8_divide rfl rfl rfl (by decide +kernel) ⟨Nat.le_of_ble_eq_true rfl, Nat.le_of_ble_eq_true rfl⟩) eu27 rfl rfl hl.1 rfl (Nat.le_of_ble_eq_true rfl) dX8_lower_73 ⟨Nat.le_of_ble_eq_true rfl, Nat.le_of_ble_eq_true rfl⟩ (fun H locs w => ?_)
        refine lv_aload_n hx hb dX8_lower_76 rfl (lv_at hl 0 rfl) ?_
        refine lv_iload_n hx hb dX8_lower_77 rfl (lv_at hl 1 rfl) ?_
        refine lv_iload_n hx hb dX8_lower_78 rfl (lv_at hl 2 rfl) ?_
        obtain ⟨u30, eu30, hf⟩ := ob_s hf
        obtain ⟨h29, eh29, hf⟩ := ob_s hf
        refine px_callVv (As := [.int a1, .int a2]) (rest := []) ⟨hx, hb, hml, hown, hts⟩ hC w (kX8_takeOff l D dA b0 ι N a0 a1 a2 h26 h29 eh29) (cwV 2 hts gX8_lower_X8_takeOff rfl rfl rfl (by decide +kernel) ⟨Nat.le_of_ble_eq_true rfl, Nat.le_of_ble_eq_true rfl⟩) eu30 rfl rfl hl.1 rfl (Nat.le_of_ble_eq_true rfl) dX8_lower_79 ⟨Nat.le_of_ble_eq_true rfl, Nat.le_of_ble_eq_true rfl⟩ (fun H locs w => ?_)
        exact W.vret hx hb hr (qv_end hf w hC) w.locs_ok dX8_lower_82
      · have hf := if_f hf c22
        exact W.vret hx hb hr (qv_end hf w hC) w.locs_ok dX8_lower_63
    obtain ⟨j6, ej6, hf⟩ := jn_s hf
    refine lv_icmp_ge (tgt := 26) hx hb dX8_lower_12 (by decide) (fun c31 => ?_) (fun c31 => ?_)
    · have hf := if_t hf c31
      exact hj26 h H locs ls (by rw [ej6] at hf; exact hf) (lv_sub hl [0, 1, 2] rfl) w
    · have hf := if_f hf c31
      refine lv_aload_n hx hb dX8_lower_15 rfl (lv_at hl 0 rfl) ?_
      obtain ⟨v32, ev32, hf⟩ := ob_s hf
      refine px_getR hx hb hts nX8_lower_X8 hown hK w ev32 rfl (by decide) mX8_lower_29 rfl dX8_lower_16 ?_
      refine lv_iload_n hx hb dX8_lower_19 rfl (lv_at hl 1 rfl) ?_
      obtain ⟨v33, ev33, hf⟩ := ob_s hf
      refine px_iald hx hb hK w ev33 dX8_lower_20 ?_
      refine lv_iconst (v := (-1 : Int32)) hx hb dX8_lower_21 (by decide) ?_
      refine lv_icmp_ne (tgt := 26) hx hb dX8_lower_22 (by decide) (fun c34 => ?_) (fun c34 => ?_)
      · have hf := if_f hf c34
        exact hj26 h H locs ls (by rw [ej6] at hf; exact hf) (lv_sub hl [0, 1, 2] rfl) w
      · have hf := if_t hf c34
        exact hj25 h H locs ls (by rw [ej3] at hf; exact hf) (lv_sub hl [0, 1, 2] rfl) w
theorem nX8_settle_X8 : ∀ w ∈ wsX80, w ∈ wsX8_settle := by decide +kernel
theorem mX8_settle_74 : Cond.fieldLink RX8 74 "NormalFormsModel" "columns" "I" ∈ wsX8_settle := by decide +kernel
theorem mX8_settle_29 : Cond.fieldLink RX8 29 "NormalFormsModel" "pivot" "[I" ∈ wsX8_settle := by decide +kernel
theorem mX8_settle_35 : Cond.fieldLink RX8 35 "NormalFormsModel" "b" "[I" ∈ wsX8_settle := by decide +kernel
theorem mX8_settle_26 : Cond.fieldLink RX8 26 "NormalFormsModel" "made" "[I" ∈ wsX8_settle := by decide +kernel
theorem mX8_settle_69 : Cond.constantLong RX8 69 (32003) ∈ wsX8_settle := by decide +kernel
abbrev rmX8_settle : Room := { frames := 4, cells := 0, slots := 0, locals := 88 }
set_option maxHeartbeats 4000000 in
set_option maxRecDepth 100000 in
theorem kX8_settle (l : Launch) (D : va_G) (dA : Nat → ClassId) (b0 : Nat) (ι : Nat → Nat) (N : Nat) (a0 : Nat) (h : Hp) (h' : Hp) (hf : fX8_settle N a0 h = some h') : Met l yX8_settle wsX8_settle rmX8_settle (PC D dA b0 ι [.ref (ι a0)] h) (QV D dA b0 ι h') 0 0 (qA b0) := by
  unfold fX8_settle at hf
  refine Met.ofW (cc := cX8_settle) (maxL := 5) (ret := none) (by decide +kernel) rfl ?_
  intro p e s m args below meth c s₁ B hml hv
  obtain ⟨rfl, w0⟩ := hv
  have hx := B.exec
  have hb := B.bytes
  have hr := B.returns
  have hts := atoms_spec (ws := wsX8_settle) B.pre
  have hown : s.vm.findClass RX8 = some m.cls := findClass_of_methodNamed B.named
  have hlocks := B.notSynchronized
  have hC := w0.c
  have hK := hC.1
  have w := WD.start w0
  clear w0
  have hl := lv_entry ([.ref (ι a0)]) (n := 5) (Nat.le_of_ble_eq_true rfl)
  rw [lg_entry_eq]
  generalize (lg_sl ([.ref (ι a0)]) ++ List.replicate (5 - (lg_sl ([.ref (ι a0)])).length) Slot.unset).toArray = ls at hl ⊢
  have hl : lv_has ls 5 [(0, .ref (ι a0))] := hl
  obtain ⟨H, hH⟩ : ∃ H : Heap, H = s.heap := ⟨_, rfl⟩
  obtain ⟨locs, hlo⟩ : ∃ locs : List Loc, locs = [] := ⟨_, rfl⟩
  rw [← hlo]
  have w : WD D dA b0 ι h s.heap H locs := by rw [hH, hlo]; exact w
  refine px_start hH ?_
  refine lv_iconst (v := (0 : Int32)) hx hb dX8_settle_0 (by decide) ?_
  refine lv_istore_n (lv' := [(1, .int (0 : Int32)), (0, .ref (ι a0))]) hx hb dX8_settle_1 rfl hl (by decide) rfl (fun ls hl => ?_)
  have hx2 : ∀ (y1 : Int32) (h2 : Hp) (H : Heap) (locs : List Loc) (ls : Array Slot), ((gI h2 a0 10 2).bind fun v3 => nm (v3 - (1 : Int32)) fun x4 => lX8_settle_114 N a0 N x4 h2 (fun y5 h6 => lX8_settle_150 N a0 N (0 : Int32) h6 (fun y7 h8 => some h8))) = some h' → lv_has ls 5 [(0, .ref (ι a0)), (1, .int y1)] → WD D dA b0 ι h2 s.heap H locs → W p l e (headSpec wsX8_settle rmX8_settle).room s m ([.ref (ι a0)] : List Value).toArray below meth c H locs 0 0 (MQ below (QV D dA b0 ι h') ([.ref (ι a0)] : List Value).toArray s 0 0 (qA b0)) (F0 m 107 ls []) := by
    intro y1 h2 H locs ls hf hl w
    refine lv_aload_n hx hb dX8_settle_107 rfl (lv_at hl 0 rfl) ?_
    obtain ⟨v3, ev3, hf⟩ := ob_s hf
    refine px_getI hx hb hts nX8_settle_X8 hown hK w ev3 rfl (by decide) mX8_settle_74 rfl dX8_settle_108 ?_
    refine lv_iconst (v := (1 : Int32)) hx hb dX8_settle_111 (by decide) ?_
    refine lv_isub hx hb dX8_settle_112 ?_
    obtain ⟨x4, ex4, hf⟩ := nm_s hf
    refine px_nmI ex4 ?_
    refine lv_istore_n (lv' := [(1, .int x4), (0, .ref (ι a0))]) hx hb dX8_settle_113 rfl hl (by decide) rfl (fun ls hl => ?_)
    have hx114 : ∀ (y5 : Int32) (h6 : Hp) (H : Heap) (locs : List Loc) (ls : Array Slot), (lX8_settle_150 N a0 N (0 : Int32) h6 (fun y7 h8 => some h8)) = some h' → lv_has ls 5 [(0, .ref (ι a0)), (1, .int y5)] → WD D dA b0 ι h6 s.heap H locs → W p l e (headSpec wsX8_settle rmX8_settle).room s m ([.ref (ι a0)] : List Value).toArray below meth c H locs 0 0 (MQ below (QV D dA b0 ι h') ([.ref (ι a0)] : List Value).toArray s 0 0 (qA b0)) (F0 m 148 ls []) := by
      intro y5 h6 H locs ls hf hl w
      refine lv_iconst (v := (0 : Int32)) hx hb dX8_settle_148 (by decide) ?_
      refine lv_istore_n (lv' := [(1, .int (0 : Int32)), (0, .ref (ι a0))]) hx hb dX8_settle_149 rfl hl (by decide) rfl (fun ls hl => ?_)
      have hx150 : ∀ (y7 : Int32) (h8 : Hp) (H : Heap) (locs : List Loc) (ls : Array Slot), (some h8) = some h' → lv_has ls 5 [(0, .ref (ι a0)), (1, .int y7)] → WD D dA b0 ι h8 s.heap H locs → W p l e (headSpec wsX8_settle rmX8_settle).room s m ([.ref (ι a0)] : List Value).toArray below meth c H locs 0 0 (MQ below (QV D dA b0 ι h') ([.ref (ι a0)] : List Value).toArray s 0 0 (qA b0)) (F0 m 180 ls []) := by
        intro y7 h8 H locs ls hf hl w
        exact W.vret hx hb hr (qv_end hf w hC) w.locs_ok dX8_settle_180
      obtain ⟨κ150, eκ150⟩ : ∃ k : Int32 → Hp → Option Hp, k = (fun y7 h8 => some h8) := ⟨_, rfl⟩
      have hlp150 : ∀ (n : Nat) (z23 : Int32) (h24 : Hp) (H : Heap) (locs : List Loc) (ls : Array Slot), lX8_settle_150 N a0 n z23 h24 κ150 = some h' → lv_has ls 5 [(0, .ref (ι a0)), (1, .int z23)] → WD D dA b0 ι h24 s.heap H locs → W p l e (headSpec wsX8_settle rmX8_settle).room s m ([.ref (ι a0)] : List Value).toArray below meth c H locs 0 0 (MQ below (QV D dA b0 ι h') ([.ref (ι a0)] : List Value).toArray s 0 0 (qA b0)) (F0 m 150 ls []) := by
        intro n150
        induction n150 with
        | zero => intro z23 h24 H locs ls hf; exact absurd hf (by rw [lX8_settle_150]; exact fun q => nomatch q)
        | succ n150 ih150 =>
          intro z23 h24 H locs ls hf hl w
          rw [lX8_settle_150] at hf
          refine lv_iload_n hx hb dX8_settle_150 rfl (lv_at hl 1 rfl) ?_
          refine lv_aload_n hx hb dX8_settle_151 rfl (lv_at hl 0 rfl) ?_
          obtain ⟨v25, ev25, hf⟩ := ob_s hf
          refine px_getI hx hb hts nX8_settle_X8 hown hK w ev25 rfl (by decide) mX8_settle_74 rfl dX8_settle_152 ?_
          refine lv_icmp_ge (tgt := 180) hx hb dX8_settle_155 (by decide) (fun c26 => ?_) (fun c26 => ?_)
          · have hf := if_t hf c26
            exact hx150 z23 h24 H locs ls (by rw [eκ150] at hf; exact hf) (lv_sub hl [0, 1] rfl) w
          · have hf := if_f hf c26
            refine lv_aload_n hx hb dX8_settle_158 rfl (lv_at hl 0 rfl) ?_
            obtain ⟨v27, ev27, hf⟩ := ob_s hf
            refine px_getR hx hb hts nX8_settle_X8 hown hK w ev27 rfl (by decide) mX8_settle_29 rfl dX8_settle_159 ?_
            refine lv_iload_n hx hb dX8_settle_162 rfl (lv_at hl 1 rfl) ?_
            obtain ⟨v28, ev28, hf⟩ := ob_s hf
            refine px_iald hx hb hK w ev28 dX8_settle_163 ?_
            refine lv_iconst (v := (-1 : Int32)) hx hb dX8_settle_164 (by decide) ?_
            have hj174 : ∀ (h30 : Hp) (H : Heap) (locs : List Loc) (ls : Array Slot), (nm (z23 + (1 : Int32)) fun x31 => lX8_settle_150 N a0 n150 x31 h30 κ150) = some h' → lv_has ls 5 [(0, .ref (ι a0)), (1, .int z23)] → WD D dA b0 ι h30 s.heap H locs → W p l e (headSpec wsX8_settle rmX8_settle).room s m ([.ref (ι a0)] : List Value).toArray below meth c H locs 0 0 (MQ below (QV D dA b0 ι h') ([.ref (ι a0)] : List Value).toArray s 0 0 (qA b0)) (F0 m 174 ls []) := by
              intro h30 H locs ls hf hl w
              obtain ⟨x31, ex31, hf⟩ := nm_s hf
              refine lv_iinc (v := x31) (lv' := [(1, .int x31), (0, .ref (ι a0))]) hx hb dX8_settle_174 hl (k := 1) rfl (by rw [ex31]; rfl) (by decide) rfl (fun ls hl => ?_)
              refine lv_goto (tgt := 150) hx hb dX8_settle_177 (by decide) ?_
              exact ih150 x31 h30 H locs ls hf (lv_sub hl [1, 0] rfl) w
            obtain ⟨j29, ej29, hf⟩ := jn_s hf
            refine lv_icmp_eq (tgt := 174) hx hb dX8_settle_165 (by decide) (fun c32 => ?_) (fun c32 => ?_)
            · have hf := if_t hf c32
              exact hj174 h24 H locs ls (by rw [ej29] at hf; exact hf) (lv_sub hl [0, 1] rfl) w
            · have hf := if_f hf c32
              refine lv_aload_n hx hb dX8_settle_168 rfl (lv_at hl 0 rfl) ?_
              refine lv_iconst (v := (4 : Int32)) hx hb dX8_settle_169 (by decide) ?_
              refine lv_iload_n hx hb dX8_settle_170 rfl (lv_at hl 1 rfl) ?_
              obtain ⟨u35, eu35, hf⟩ := ob_s hf
              obtain ⟨h34, eh34, hf⟩ := ob_s hf
              refine px_callVv (As := [.int (4 : Int32), .int z23]) (rest := []) ⟨hx, hb, hml, hown, hts⟩ hC w (kX8_lower l D dA b0 ι N a0 (4 : Int32) z23 h24 h34 eh34) (cwV 2 hts gX8_settle_X8_lower rfl rfl rfl (by decide +kernel) ⟨Nat.le_of_ble_eq_true rfl, Nat.le_of_ble_eq_true rfl⟩) eu35 rfl rfl hl.1 rfl (Nat.le_of_ble_eq_true rfl) dX8_settle_171 ⟨Nat.le_of_ble_eq_true rfl, Nat.le_of_ble_eq_true rfl⟩ (fun H locs w => ?_)
              exact hj174 h34 H locs ls (by rw [ej29] at hf; exact hf) (lv_sub hl [0, 1] rfl) w
      exact hlp150 N (0 : Int32) h6 H locs ls (by rw [eκ150]; exact hf) (lv_sub hl [1, 0] rfl) w
    obtain ⟨κ114, eκ114⟩ : ∃ k : Int32 → Hp → Option Hp, k = (fun y5 h6 => lX8_settle_150 N a0 N (0 : Int32) h6 (fun y7 h8 => some h8)) := ⟨_, rfl⟩
    have hlp114 : ∀ (n : Nat) (z61 : Int32) (h62 : Hp) (H : Heap) (locs : List Loc) (ls : Array Slot), lX8_settle_114 N a0 n z61 h62 κ114 = some h' → lv_has ls 5 [(0, .ref (ι a0)), (1, .int z61)] → WD D dA b0 ι h62 s.heap H locs → W p l e (headSpec wsX8_settle rmX8_settle).room s m ([.ref (ι a0)] : List Value).toArray below meth c H locs 0 0 (MQ below (QV D dA b0 ι h') ([.ref (ι a0)] : List Value).toArray s 0 0 (qA b0)) (F0 m 114 ls []) := by
      intro n114
      induction n114 with
      | zero => intro z61 h62 H locs ls hf; exact absurd hf (by rw [lX8_settle_114]; exact fun q => nomatch q)
      | succ n114 ih114 =>
        intro z61 h62 H locs ls hf hl w
        rw [lX8_settle_114] at hf
        refine lv_iload_n hx hb dX8_settle_114 rfl (lv_at hl 1 rfl) ?_
        refine lv_if_lt (tgt := 148) hx hb dX8_settle_115 (by decide) (fun c63 => ?_) (fun c63 => ?_)
        · have hf := if_t hf c63
          exact hx114 z61 h62 H locs ls (by rw [eκ114] at hf; exact hf) (lv_sub hl [0, 1] rfl) w
        · have hf := if_f hf c63
          refine lv_iload_n hx hb dX8_settle_118 rfl (lv_at hl 1 rfl) ?_
          refine lv_iconst (v := (1 : Int32)) hx hb dX8_settle_119 (by decide) ?_
          refine lv_iadd hx hb dX8_settle_120 ?_
          obtain ⟨x64, ex64, hf⟩ := nm_s hf
          refine px_nmI ex64 ?_
          refine lv_istore_n (lv' := [(2, .int x64), (0, .ref (ι a0)), (1, .int z61)]) hx hb dX8_settle_121 rfl hl (by decide) rfl (fun ls hl => ?_)
          have hx122 : ∀ (y65 : Int32) (h66 : Hp) (H : Heap) (locs : List Loc) (ls : Array Slot), (nm (z61 + (-1 : Int32)) fun x67 => lX8_settle_114 N a0 n114 x67 h66 κ114) = some h' → lv_has ls 5 [(0, .ref (ι a0)), (1, .int z61), (2, .int y65)] → WD D dA b0 ι h66 s.heap H locs → W p l e (headSpec wsX8_settle rmX8_settle).room s m ([.ref (ι a0)] : List Value).toArray below meth c H locs 0 0 (MQ below (QV D dA b0 ι h') ([.ref (ι a0)] : List Value).toArray s 0 0 (qA b0)) (F0 m 142 ls []) := by
            intro y65 h66 H locs ls hf hl w
            obtain ⟨x67, ex67, hf⟩ := nm_s hf
            refine lv_iinc (v := x67) (lv' := [(1, .int x67), (0, .ref (ι a0)), (2, .int y65)]) hx hb dX8_settle_142 hl (k := 1) rfl (by rw [ex67]; rfl) (by decide) rfl (fun ls hl => ?_)
            refine lv_goto (tgt := 114) hx hb dX8_settle_145 (by decide) ?_
            exact ih114 x67 h66 H locs ls hf (lv_sub hl [1, 0] rfl) w
          obtain ⟨κ122, eκ122⟩ : ∃ k : Int32 → Hp → Option Hp, k = (fun y65 h66 => nm (z61 + (-1 : Int32)) fun x67 => lX8_settle_114 N a0 n114 x67 h66 κ114) := ⟨_, rfl⟩
          have hlp122 : ∀ (n : Nat) (z77 : Int32) (h78 : Hp) (H : Heap) (locs : List Loc) (ls : Array Slot), lX8_settle_122 N a0 z61 n z77 h78 κ122 = some h' → lv_has ls 5 [(0, .ref (ι a0)), (1, .int z61), (2, .int z77)] → WD D dA b0 ι h78 s.heap H locs → W p l e (headSpec wsX8_settle rmX8_settle).room s m ([.ref (ι a0)] : List Value).toArray below meth c H locs 0 0 (MQ below (QV D dA b0 ι h') ([.ref (ι a0)] : List Value).toArray s 0 0 (qA b0)) (F0 m 122 ls []) := by
            intro n122
            induction n122 with
            | zero => intro z77 h78 H locs ls hf; exact absurd hf (by rw [lX8_settle_122]; exact fun q => nomatch q)
            | succ n122 ih122 =>
              intro z77 h78 H locs ls hf hl w
              rw [lX8_settle_122] at hf
              refine lv_iload_n hx hb dX8_settle_122 rfl (lv_at hl 2 rfl) ?_
              refine lv_aload_n hx hb dX8_settle_123 rfl (lv_at hl 0 rfl) ?_
              obtain ⟨v79, ev79, hf⟩ := ob_s hf
              refine px_getI hx hb hts nX8_settle_X8 hown hK w ev79 rfl (by decide) mX8_settle_74 rfl dX8_settle_124 ?_
              refine lv_icmp_ge (tgt := 142) hx hb dX8_settle_127 (by decide) (fun c80 => ?_) (fun c80 => ?_)
              · have hf := if_t hf c80
                exact hx122 z77 h78 H locs ls (by rw [eκ122] at hf; exact hf) (lv_sub hl [0, 1, 2] rfl) w
              · have hf := if_f hf c80
                refine lv_aload_n hx hb dX8_settle_130 rfl (lv_at hl 0 rfl) ?_
                refine lv_iload_n hx hb dX8_settle_131 rfl (lv_at hl 1 rfl) ?_
                refine lv_iload_n hx hb dX8_settle_132 rfl (lv_at hl 2 rfl) ?_
                obtain ⟨u83, eu83, hf⟩ := ob_s hf
                obtain ⟨h82, eh82, hf⟩ := ob_s hf
                refine px_callVv (As := [.int z61, .int z77]) (rest := []) ⟨hx, hb, hml, hown, hts⟩ hC w (kX8_lower l D dA b0 ι N a0 z61 z77 h78 h82 eh82) (cwV 2 hts gX8_settle_X8_lower rfl rfl rfl (by decide +kernel) ⟨Nat.le_of_ble_eq_true rfl, Nat.le_of_ble_eq_true rfl⟩) eu83 rfl rfl hl.1 rfl (Nat.le_of_ble_eq_true rfl) dX8_settle_133 ⟨Nat.le_of_ble_eq_true rfl, Nat.le_of_ble_eq_true rfl⟩ (fun H locs w => ?_)
                obtain ⟨x84, ex84, hf⟩ := nm_s hf
                refine lv_iinc (v := x84) (lv' := [(2, .int x84), (0, .ref (ι a0)), (1, .int z61)]) hx hb dX8_settle_136 hl (k := 2) rfl (by rw [ex84]; rfl) (by decide) rfl (fun ls hl => ?_)
                refine lv_goto (tgt := 122) hx hb dX8_settle_139 (by decide) ?_
                exact ih122 x84 h82 H locs ls hf (lv_sub hl [1, 2, 0] rfl) w
          exact hlp122 N x64 h62 H locs ls (by rw [eκ122]; exact hf) (lv_sub hl [1, 2, 0] rfl) w
    exact hlp114 N x4 h2 H locs ls (by rw [eκ114]; exact hf) (lv_sub hl [1, 0] rfl) w
  obtain ⟨κ2, eκ2⟩ : ∃ k : Int32 → Hp → Option Hp, k = (fun y1 h2 => (gI h2 a0 10 2).bind fun v3 => nm (v3 - (1 : Int32)) fun x4 => lX8_settle_114 N a0 N x4 h2 (fun y5 h6 => lX8_settle_150 N a0 N (0 : Int32) h6 (fun y7 h8 => some h8))) := ⟨_, rfl⟩
  have hlp2 : ∀ (n : Nat) (z127 : Int32) (h128 : Hp) (H : Heap) (locs : List Loc) (ls : Array Slot), lX8_settle_2 N a0 n z127 h128 κ2 = some h' → lv_has ls 5 [(0, .ref (ι a0)), (1, .int z127)] → WD D dA b0 ι h128 s.heap H locs → W p l e (headSpec wsX8_settle rmX8_settle).room s m ([.ref (ι a0)] : List Value).toArray below meth c H locs 0 0 (MQ below (QV D dA b0 ι h') ([.ref (ι a0)] : List Value).toArray s 0 0 (qA b0)) (F0 m 2 ls []) := by
    intro n2
    induction n2 with
    | zero => intro z127 h128 H locs ls hf; exact absurd hf (by rw [lX8_settle_2]; exact fun q => nomatch q)
    | succ n2 ih2 =>
      intro z127 h128 H locs ls hf hl w
      rw [lX8_settle_2] at hf
      refine lv_iload_n hx hb dX8_settle_2 rfl (lv_at hl 1 rfl) ?_
      refine lv_aload_n hx hb dX8_settle_3 rfl (lv_at hl 0 rfl) ?_
      obtain ⟨v129, ev129, hf⟩ := ob_s hf
      refine px_getI hx hb hts nX8_settle_X8 hown hK w ev129 rfl (by decide) mX8_settle_74 rfl dX8_settle_4 ?_
      refine lv_icmp_ge (tgt := 107) hx hb dX8_settle_7 (by decide) (fun c130 => ?_) (fun c130 => ?_)
      · have hf := if_t hf c130
        exact hx2 z127 h128 H locs ls (by rw [eκ2] at hf; exact hf) (lv_sub hl [0, 1] rfl) w
      · have hf := if_f hf c130
        refine lv_aload_n hx hb dX8_settle_10 rfl (lv_at hl 0 rfl) ?_
        obtain ⟨v131, ev131, hf⟩ := ob_s hf
        refine px_getR hx hb hts nX8_settle_X8 hown hK w ev131 rfl (by decide) mX8_settle_29 rfl dX8_settle_11 ?_
        refine lv_iload_n hx hb dX8_settle_14 rfl (lv_at hl 1 rfl) ?_
        obtain ⟨v132, ev132, hf⟩ := ob_s hf
        refine px_iald hx hb hK w ev132 dX8_settle_15 ?_
        refine lv_iconst (v := (-1 : Int32)) hx hb dX8_settle_16 (by decide) ?_
        have hj101 : ∀ (h134 : Hp) (H : Heap) (locs : List Loc) (ls : Array Slot), (nm (z127 + (1 : Int32)) fun x135 => lX8_settle_2 N a0 n2 x135 h134 κ2) = some h' → lv_has ls 5 [(0, .ref (ι a0)), (1, .int z127)] → WD D dA b0 ι h134 s.heap H locs → W p l e (headSpec wsX8_settle rmX8_settle).room s m ([.ref (ι a0)] : List Value).toArray below meth c H locs 0 0 (MQ below (QV D dA b0 ι h') ([.ref (ι a0)] : List Value).toArray s 0 0 (qA b0)) (F0 m 101 ls []) := by
          intro h134 H locs ls hf hl w
          obtain ⟨x135, ex135, hf⟩ := nm_s hf
          refine lv_iinc (v := x135) (lv' := [(1, .int x135), (0, .ref (ι a0))]) hx hb dX8_settle_101 hl (k := 1) rfl (by rw [ex135]; rfl) (by decide) rfl (fun ls hl => ?_)
          refine lv_goto (tgt := 2) hx hb dX8_settle_104 (by decide) ?_
          exact ih2 x135 h134 H locs ls hf (lv_sub hl [1, 0] rfl) w
        obtain ⟨j133, ej133, hf⟩ := jn_s hf
        refine lv_icmp_ne (tgt := 23) hx hb dX8_settle_17 (by decide) (fun c136 => ?_) (fun c136 => ?_)
        · have hf := if_f hf c136
          refine lv_aload_n hx hb dX8_settle_23 rfl (lv_at hl 0 rfl) ?_
          refine lv_aload_n hx hb dX8_settle_24 rfl (lv_at hl 0 rfl) ?_
          obtain ⟨v137, ev137, hf⟩ := ob_s hf
          refine px_getR hx hb hts nX8_settle_X8 hown hK w ev137 rfl (by decide) mX8_settle_35 rfl dX8_settle_25 ?_
          refine lv_iload_n hx hb dX8_settle_28 rfl (lv_at hl 1 rfl) ?_
          refine lv_iload_n hx hb dX8_settle_29 rfl (lv_at hl 1 rfl) ?_
          obtain ⟨u140, eu140, hf⟩ := ob_s hf
          obtain ⟨h139, eh139, hf⟩ := ob_s hf
          refine px_callVv (As := [.ref (ι v137), .int z127, .int z127]) (rest := []) ⟨hx, hb, hml, hown, hts⟩ hC w (kX8_take l D dA b0 ι N a0 v137 z127 z127 h128 h139 eh139) (cwV 3 hts gX8_settle_X8_take rfl rfl rfl (by decide +kernel) ⟨Nat.le_of_ble_eq_true rfl, Nat.le_of_ble_eq_true rfl⟩) eu140 rfl rfl hl.1 rfl (Nat.le_of_ble_eq_true rfl) dX8_settle_30 ⟨Nat.le_of_ble_eq_true rfl, Nat.le_of_ble_eq_true rfl⟩ (fun H locs w => ?_)
          refine lv_aload_n hx hb dX8_settle_33 rfl (lv_at hl 0 rfl) ?_
          obtain ⟨v141, ev141, hf⟩ := ob_s hf
          refine px_getR hx hb hts nX8_settle_X8 hown hK w ev141 rfl (by decide) mX8_settle_35 rfl dX8_settle_34 ?_
          refine lv_aload_n hx hb dX8_settle_37 rfl (lv_at hl 0 rfl) ?_
          obtain ⟨v142, ev142, hf⟩ := ob_s hf
          refine px_getR hx hb hts nX8_settle_X8 hown hK w ev142 rfl (by decide) mX8_settle_35 rfl dX8_settle_38 ?_
          obtain ⟨⟨v143, h144⟩, eh144, hf⟩ := ob_s hf
          dsimp only at hf
          refine px_callSi (As := [.ref (ι v142)]) (rest := [.ref (ι v141)]) ⟨hx, hb, hml, hown, hts⟩ hC w (kX8_high l D dA b0 ι N v142 h139 v143 h144 eh144) (va_cwS 1 hts gX8_settle_X8_high rfl rfl rfl (by decide +kernel) ⟨Nat.le_of_ble_eq_true rfl, Nat.le_of_ble_eq_true rfl⟩) rfl hl.1 rfl (Nat.le_of_ble_eq_true rfl) dX8_settle_41 ⟨Nat.le_of_ble_eq_true rfl, Nat.le_of_ble_eq_true rfl⟩ (fun H locs w => ?_)
          obtain ⟨v145, ev145, hf⟩ := ob_s hf
          refine px_iald hx hb hK w ev145 dX8_settle_44 ?_
          obtain ⟨⟨v146, h147⟩, eh147, hf⟩ := ob_s hf
          dsimp only at hf
          refine px_callSi (As := [.int v145]) (rest := []) ⟨hx, hb, hml, hown, hts⟩ hC w (kX8_inverse l D dA b0 ι N v145 h144 v146 h147 eh147) (va_cwS 1 hts gX8_settle_X8_inverse rfl rfl rfl (by decide +kernel) ⟨Nat.le_of_ble_eq_true rfl, Nat.le_of_ble_eq_true rfl⟩) rfl hl.1 rfl (Nat.le_of_ble_eq_true rfl) dX8_settle_45 ⟨Nat.le_of_ble_eq_true rfl, Nat.le_of_ble_eq_true rfl⟩ (fun H locs w => ?_)
          refine lv_i2l hx hb dX8_settle_48 rfl ?_
          obtain ⟨x148, ex148, hf⟩ := nm_s hf
          refine px_nmJ ex148 ?_
          refine lv_lstore_n (lv' := [(2, .long x148), (0, .ref (ι a0)), (1, .int z127)]) hx hb dX8_settle_49 rfl hl (by decide) rfl (fun ls hl => ?_)
          refine lv_iconst (v := (0 : Int32)) hx hb dX8_settle_50 (by decide) ?_
          refine lv_istore (lv' := [(4, .int (0 : Int32)), (2, .long x148), (0, .ref (ι a0)), (1, .int z127)]) hx hb dX8_settle_51 hl (by decide) rfl (fun ls hl => ?_)
          have hx53 : ∀ (y149 : Int32) (h150 : Hp) (H : Heap) (locs : List Loc) (ls : Array Slot), (j133 h150) = some h' → lv_has ls 5 [(0, .ref (ι a0)), (1, .int z127), (2, .long x148), (4, .int y149)] → WD D dA b0 ι h150 s.heap H locs → W p l e (headSpec wsX8_settle rmX8_settle).room s m ([.ref (ι a0)] : List Value).toArray below meth c H locs 0 0 (MQ below (QV D dA b0 ι h') ([.ref (ι a0)] : List Value).toArray s 0 0 (qA b0)) (F0 m 101 ls []) := by
            intro y149 h150 H locs ls hf hl w
            exact hj101 h150 H locs ls (by rw [ej133] at hf; exact hf) (lv_sub hl [0, 1] rfl) w
          obtain ⟨κ53, eκ53⟩ : ∃ k : Int32 → Hp → Option Hp, k = (fun y149 h150 => j133 h150) := ⟨_, rfl⟩
          have hlp53 : ∀ (n : Nat) (z160 : Int32) (h161 : Hp) (H : Heap) (locs : List Loc) (ls : Array Slot), lX8_settle_53 N a0 z127 x148 n z160 h161 κ53 = some h' → lv_has ls 5 [(0, .ref (ι a0)), (1, .int z127), (2, .long x148), (4, .int z160)] → WD D dA b0 ι h161 s.heap H locs → W p l e (headSpec wsX8_settle rmX8_settle).room s m ([.ref (ι a0)] : List Value).toArray below meth c H locs 0 0 (MQ below (QV D dA b0 ι h') ([.ref (ι a0)] : List Value).toArray s 0 0 (qA b0)) (F0 m 53 ls []) := by
            intro n53
            induction n53 with
            | zero => intro z160 h161 H locs ls hf; exact absurd hf (by rw [lX8_settle_53]; exact fun q => nomatch q)
            | succ n53 ih53 =>
              intro z160 h161 H locs ls hf hl w
              rw [lX8_settle_53] at hf
              refine lv_iload hx hb dX8_settle_53 (lv_at hl 3 rfl) ?_
              refine lv_sipush (v := (1024 : Int32)) hx hb dX8_settle_55 (by decide) ?_
              refine lv_icmp_ge (tgt := 101) hx hb dX8_settle_58 (by decide) (fun c162 => ?_) (fun c162 => ?_)
              · have hf := if_t hf c162
                exact hx53 z160 h161 H locs ls (by rw [eκ53] at hf; exact hf) (lv_sub hl [0, 1, 2, 3] rfl) w
              · have hf := if_f hf c162
                refine lv_aload_n hx hb dX8_settle_61 rfl (lv_at hl 0 rfl) ?_
                obtain ⟨v163, ev163, hf⟩ := ob_s hf
                refine px_getR hx hb hts nX8_settle_X8 hown hK w ev163 rfl (by decide) mX8_settle_26 rfl dX8_settle_62 ?_
                refine lv_sipush (v := (1024 : Int32)) hx hb dX8_settle_65 (by decide) ?_
                refine lv_iload_n hx hb dX8_settle_68 rfl (lv_at hl 1 rfl) ?_
                refine lv_imul hx hb dX8_settle_69 ?_
                refine lv_iload hx hb dX8_settle_70 (lv_at hl 3 rfl) ?_
                refine lv_iadd hx hb dX8_settle_72 ?_
                refine lv_aload_n hx hb dX8_settle_73 rfl (lv_at hl 0 rfl) ?_
                obtain ⟨v164, ev164, hf⟩ := ob_s hf
                refine px_getR hx hb hts nX8_settle_X8 hown hK w ev164 rfl (by decide) mX8_settle_26 rfl dX8_settle_74 ?_
                refine lv_sipush (v := (1024 : Int32)) hx hb dX8_settle_77 (by decide) ?_
                refine lv_iload_n hx hb dX8_settle_80 rfl (lv_at hl 1 rfl) ?_
                refine lv_imul hx hb dX8_settle_81 ?_
                refine lv_iload hx hb dX8_settle_82 (lv_at hl 3 rfl) ?_
                refine lv_iadd hx hb dX8_settle_84 ?_
                obtain ⟨v165, ev165, hf⟩ := ob_s hf
                refine px_iald hx hb hK w ev165 dX8_settle_85 ?_
                refine lv_i2l hx hb dX8_settle_86 rfl ?_
                refine lv_lload_n hx hb dX8_settle_87 rfl (lv_at hl 2 rfl) ?_
                refine lv_lmul hx hb dX8_settle_88 ?_
                refine lv_ldc2 (v := 32003) hx hb hown (hts _ mX8_settle_69) dX8_settle_89 ?_
                refine px_lrem hx hb dX8_settle_92 (by decide) ?_
                refine lv_l2i hx hb dX8_settle_93 rfl ?_
                obtain ⟨h166, eh166, hf⟩ := ob_s hf
                refine px_iast hx hb hK w eh166 dX8_settle_94 (fun H locs w => ?_)
                obtain ⟨x167, ex167, hf⟩ := nm_s hf
                refine lv_iinc (v := x167) (lv' := [(4, .int x167), (0, .ref (ι a0)), (1, .int z127), (2, .long x148)]) hx hb dX8_settle_95 hl (k := 3) rfl (by rw [ex167]; rfl) (by decide) rfl (fun ls hl => ?_)
                refine lv_goto (tgt := 53) hx hb dX8_settle_98 (by decide) ?_
                exact ih53 x167 h166 H locs ls hf (lv_sub hl [1, 2, 3, 0] rfl) w
          exact hlp53 N (0 : Int32) h147 H locs ls (by rw [eκ53]; exact hf) (lv_sub hl [2, 3, 1, 0] rfl) w
        · have hf := if_t hf c136
          refine lv_goto (tgt := 101) hx hb dX8_settle_20 (by decide) ?_
          exact hj101 h128 H locs ls (by rw [ej133] at hf; exact hf) (lv_sub hl [0, 1] rfl) w
  exact hlp2 N (0 : Int32) h H locs ls (by rw [eκ2]; exact hf) (lv_sub hl [1, 0] rfl) w
theorem nX8_insert_X8 : ∀ w ∈ wsX80, w ∈ wsX8_insert := by decide +kernel
theorem mX8_insert_74 : Cond.fieldLink RX8 74 "NormalFormsModel" "columns" "I" ∈ wsX8_insert := by decide +kernel
theorem mX8_insert_29 : Cond.fieldLink RX8 29 "NormalFormsModel" "pivot" "[I" ∈ wsX8_insert := by decide +kernel
theorem mX8_insert_32 : Cond.fieldLink RX8 32 "NormalFormsModel" "a" "[I" ∈ wsX8_insert := by decide +kernel
theorem mX8_insert_35 : Cond.fieldLink RX8 35 "NormalFormsModel" "b" "[I" ∈ wsX8_insert := by decide +kernel
abbrev rmX8_insert : Room := { frames := 5, cells := 0, slots := 0, locals := 112 }
set_option maxHeartbeats 4000000 in
set_option maxRecDepth 100000 in
theorem kX8_insert (l : Launch) (D : va_G) (dA : Nat → ClassId) (b0 : Nat) (ι : Nat → Nat) (N : Nat) (a0 : Nat) (h : Hp) (h' : Hp) (hf : fX8_insert N a0 h = some h') : Met l yX8_insert wsX8_insert rmX8_insert (PC D dA b0 ι [.ref (ι a0)] h) (QV D dA b0 ι h') 0 0 (qA b0) := by
  unfold fX8_insert at hf
  refine Met.ofW (cc := cX8_insert) (maxL := 3) (ret := none) (by decide +kernel) rfl ?_
  intro p e s m args below meth c s₁ B hml hv
  obtain ⟨rfl, w0⟩ := hv
  have hx := B.exec
  have hb := B.bytes
  have hr := B.returns
  have hts := atoms_spec (ws := wsX8_insert) B.pre
  have hown : s.vm.findClass RX8 = some m.cls := findClass_of_methodNamed B.named
  have hlocks := B.notSynchronized
  have hC := w0.c
  have hK := hC.1
  have w := WD.start w0
  clear w0
  have hl := lv_entry ([.ref (ι a0)]) (n := 3) (Nat.le_of_ble_eq_true rfl)
  rw [lg_entry_eq]
  generalize (lg_sl ([.ref (ι a0)]) ++ List.replicate (3 - (lg_sl ([.ref (ι a0)])).length) Slot.unset).toArray = ls at hl ⊢
  have hl : lv_has ls 3 [(0, .ref (ι a0))] := hl
  obtain ⟨H, hH⟩ : ∃ H : Heap, H = s.heap := ⟨_, rfl⟩
  obtain ⟨locs, hlo⟩ : ∃ locs : List Loc, locs = [] := ⟨_, rfl⟩
  rw [← hlo]
  have w : WD D dA b0 ι h s.heap H locs := by rw [hH, hlo]; exact w
  refine px_start hH ?_
  refine lv_iconst (v := (0 : Int32)) hx hb dX8_insert_0 (by decide) ?_
  refine lv_istore_n (lv' := [(1, .int (0 : Int32)), (0, .ref (ι a0))]) hx hb dX8_insert_1 rfl hl (by decide) rfl (fun ls hl => ?_)
  have hx2 : ∀ (y1 : Int32) (h2 : Hp) (H : Heap) (locs : List Loc) (ls : Array Slot), (some h2) = some h' → lv_has ls 3 [(0, .ref (ι a0)), (1, .int y1)] → WD D dA b0 ι h2 s.heap H locs → W p l e (headSpec wsX8_insert rmX8_insert).room s m ([.ref (ι a0)] : List Value).toArray below meth c H locs 0 0 (MQ below (QV D dA b0 ι h') ([.ref (ι a0)] : List Value).toArray s 0 0 (qA b0)) (F0 m 118 ls []) := by
    intro y1 h2 H locs ls hf hl w
    exact W.vret hx hb hr (qv_end hf w hC) w.locs_ok dX8_insert_118
  obtain ⟨κ2, eκ2⟩ : ∃ k : Int32 → Hp → Option Hp, k = (fun y1 h2 => some h2) := ⟨_, rfl⟩
  have hlp2 : ∀ (n : Nat) (z79 : Int32) (h80 : Hp) (H : Heap) (locs : List Loc) (ls : Array Slot), lX8_insert_2 N a0 n z79 h80 κ2 = some h' → lv_has ls 3 [(0, .ref (ι a0)), (1, .int z79)] → WD D dA b0 ι h80 s.heap H locs → W p l e (headSpec wsX8_insert rmX8_insert).room s m ([.ref (ι a0)] : List Value).toArray below meth c H locs 0 0 (MQ below (QV D dA b0 ι h') ([.ref (ι a0)] : List Value).toArray s 0 0 (qA b0)) (F0 m 2 ls []) := by
    intro n2
    induction n2 with
    | zero => intro z79 h80 H locs ls hf; exact absurd hf (by rw [lX8_insert_2]; exact fun q => nomatch q)
    | succ n2 ih2 =>
      intro z79 h80 H locs ls hf hl w
      rw [lX8_insert_2] at hf
      refine lv_iload_n hx hb dX8_insert_2 rfl (lv_at hl 1 rfl) ?_
      refine lv_aload_n hx hb dX8_insert_3 rfl (lv_at hl 0 rfl) ?_
      obtain ⟨v81, ev81, hf⟩ := ob_s hf
      refine px_getI hx hb hts nX8_insert_X8 hown hK w ev81 rfl (by decide) mX8_insert_74 rfl dX8_insert_4 ?_
      refine lv_icmp_ge (tgt := 118) hx hb dX8_insert_7 (by decide) (fun c82 => ?_) (fun c82 => ?_)
      · have hf := if_t hf c82
        exact hx2 z79 h80 H locs ls (by rw [eκ2] at hf; exact hf) (lv_sub hl [0, 1] rfl) w
      · have hf := if_f hf c82
        refine lv_aload_n hx hb dX8_insert_10 rfl (lv_at hl 0 rfl) ?_
        refine lv_iconst (v := (4 : Int32)) hx hb dX8_insert_11 (by decide) ?_
        refine lv_iload_n hx hb dX8_insert_12 rfl (lv_at hl 1 rfl) ?_
        obtain ⟨u85, eu85, hf⟩ := ob_s hf
        obtain ⟨⟨v83, h84⟩, eh84, hf⟩ := ob_s hf
        dsimp only at hf
        refine px_callVi (As := [.int (4 : Int32), .int z79]) (rest := []) ⟨hx, hb, hml, hown, hts⟩ hC w (kX8_isNone l D dA b0 ι N a0 (4 : Int32) z79 h80 v83 h84 eh84) (cwV 2 hts gX8_insert_X8_isNone rfl rfl rfl (by decide +kernel) ⟨Nat.le_of_ble_eq_true rfl, Nat.le_of_ble_eq_true rfl⟩) eu85 rfl rfl hl.1 rfl (Nat.le_of_ble_eq_true rfl) dX8_insert_13 ⟨Nat.le_of_ble_eq_true rfl, Nat.le_of_ble_eq_true rfl⟩ (fun H locs w => ?_)
        have hj112 : ∀ (h87 : Hp) (H : Heap) (locs : List Loc) (ls : Array Slot), (nm (z79 + (1 : Int32)) fun x88 => lX8_insert_2 N a0 n2 x88 h87 κ2) = some h' → lv_has ls 3 [(0, .ref (ι a0)), (1, .int z79)] → WD D dA b0 ι h87 s.heap H locs → W p l e (headSpec wsX8_insert rmX8_insert).room s m ([.ref (ι a0)] : List Value).toArray below meth c H locs 0 0 (MQ below (QV D dA b0 ι h') ([.ref (ι a0)] : List Value).toArray s 0 0 (qA b0)) (F0 m 112 ls []) := by
          intro h87 H locs ls hf hl w
          obtain ⟨x88, ex88, hf⟩ := nm_s hf
          refine lv_iinc (v := x88) (lv' := [(1, .int x88), (0, .ref (ι a0))]) hx hb dX8_insert_112 hl (k := 1) rfl (by rw [ex88]; rfl) (by decide) rfl (fun ls hl => ?_)
          refine lv_goto (tgt := 2) hx hb dX8_insert_115 (by decide) ?_
          exact ih2 x88 h87 H locs ls hf (lv_sub hl [1, 0] rfl) w
        obtain ⟨j86, ej86, hf⟩ := jn_s hf
        refine lv_if_eq (tgt := 22) hx hb dX8_insert_16 (by decide) (fun c89 => ?_) (fun c89 => ?_)
        · have hf := if_t hf c89
          refine lv_aload_n hx hb dX8_insert_22 rfl (lv_at hl 0 rfl) ?_
          obtain ⟨v90, ev90, hf⟩ := ob_s hf
          refine px_getR hx hb hts nX8_insert_X8 hown hK w ev90 rfl (by decide) mX8_insert_29 rfl dX8_insert_23 ?_
          refine lv_iload_n hx hb dX8_insert_26 rfl (lv_at hl 1 rfl) ?_
          obtain ⟨v91, ev91, hf⟩ := ob_s hf
          refine px_iald hx hb hK w ev91 dX8_insert_27 ?_
          refine lv_istore_n (lv' := [(2, .int v91), (0, .ref (ι a0)), (1, .int z79)]) hx hb dX8_insert_28 rfl hl (by decide) rfl (fun ls hl => ?_)
          refine lv_iload_n hx hb dX8_insert_29 rfl (lv_at hl 0 rfl) ?_
          refine lv_iconst (v := (-1 : Int32)) hx hb dX8_insert_30 (by decide) ?_
          refine lv_icmp_ne (tgt := 52) hx hb dX8_insert_31 (by decide) (fun c92 => ?_) (fun c92 => ?_)
          · have hf := if_f hf c92
            have hx52 : ∀ (h93 : Hp) (H : Heap) (locs : List Loc) (ls : Array Slot), ((cK h93 a0 10).bind fun u96 => (fX8_settle N a0 h93).bind fun h95 => j86 h95) = some h' → lv_has ls 3 [(0, .ref (ι a0)), (1, .int z79), (2, .int v91)] → WD D dA b0 ι h93 s.heap H locs → W p l e (headSpec wsX8_insert rmX8_insert).room s m ([.ref (ι a0)] : List Value).toArray below meth c H locs 0 0 (MQ below (QV D dA b0 ι h') ([.ref (ι a0)] : List Value).toArray s 0 0 (qA b0)) (F0 m 108 ls []) := by
              intro  h93 H locs ls hf hl w
              refine lv_aload_n hx hb dX8_insert_108 rfl (lv_at hl 0 rfl) ?_
              obtain ⟨u96, eu96, hf⟩ := ob_s hf
              obtain ⟨h95, eh95, hf⟩ := ob_s hf
              refine px_callVv (As := []) (rest := []) ⟨hx, hb, hml, hown, hts⟩ hC w (kX8_settle l D dA b0 ι N a0 h93 h95 eh95) (cwV 0 hts gX8_insert_X8_settle rfl rfl rfl (by decide +kernel) ⟨Nat.le_of_ble_eq_true rfl, Nat.le_of_ble_eq_true rfl⟩) eu96 rfl rfl hl.1 rfl (Nat.le_of_ble_eq_true rfl) dX8_insert_109 ⟨Nat.le_of_ble_eq_true rfl, Nat.le_of_ble_eq_true rfl⟩ (fun H locs w => ?_)
              exact hj112 h95 H locs ls (by rw [ej86] at hf; exact hf) (lv_sub hl [0, 1] rfl) w
            obtain ⟨κ52, eκ52⟩ : ∃ k : Hp → Option Hp, k = (fun h93 => (cK h93 a0 10).bind fun u96 => (fX8_settle N a0 h93).bind fun h95 => j86 h95) := ⟨_, rfl⟩
            have hlp52 : ∀ (n : Nat) (h122 : Hp) (H : Heap) (locs : List Loc) (ls : Array Slot), lX8_insert_52 N a0 z79 v91 n  h122 κ52 = some h' → lv_has ls 3 [(0, .ref (ι a0)), (1, .int z79), (2, .int v91)] → WD D dA b0 ι h122 s.heap H locs → W p l e (headSpec wsX8_insert rmX8_insert).room s m ([.ref (ι a0)] : List Value).toArray below meth c H locs 0 0 (MQ below (QV D dA b0 ι h') ([.ref (ι a0)] : List Value).toArray s 0 0 (qA b0)) (F0 m 52 ls []) := by
              intro n52
              induction n52 with
              | zero => intro  h122 H locs ls hf; exact absurd hf (by rw [lX8_insert_52]; exact fun q => nomatch q)
              | succ n52 ih52 =>
                intro  h122 H locs ls hf hl w
                rw [lX8_insert_52] at hf
                refine lv_aload_n hx hb dX8_insert_52 rfl (lv_at hl 0 rfl) ?_
                refine lv_iconst (v := (4 : Int32)) hx hb dX8_insert_53 (by decide) ?_
                refine lv_iload_n hx hb dX8_insert_54 rfl (lv_at hl 1 rfl) ?_
                obtain ⟨u125, eu125, hf⟩ := ob_s hf
                obtain ⟨⟨v123, h124⟩, eh124, hf⟩ := ob_s hf
                dsimp only at hf
                refine px_callVi (As := [.int (4 : Int32), .int z79]) (rest := []) ⟨hx, hb, hml, hown, hts⟩ hC w (kX8_isNone l D dA b0 ι N a0 (4 : Int32) z79 h122 v123 h124 eh124) (cwV 2 hts gX8_insert_X8_isNone rfl rfl rfl (by decide +kernel) ⟨Nat.le_of_ble_eq_true rfl, Nat.le_of_ble_eq_true rfl⟩) eu125 rfl rfl hl.1 rfl (Nat.le_of_ble_eq_true rfl) dX8_insert_55 ⟨Nat.le_of_ble_eq_true rfl, Nat.le_of_ble_eq_true rfl⟩ (fun H locs w => ?_)
                refine lv_if_ne (tgt := 108) hx hb dX8_insert_58 (by decide) (fun c126 => ?_) (fun c126 => ?_)
                · have hf := if_f hf c126
                  exact hx52 h124 H locs ls (by rw [eκ52] at hf; exact hf) (lv_sub hl [0, 1, 2] rfl) w
                · have hf := if_t hf c126
                  refine lv_aload_n hx hb dX8_insert_61 rfl (lv_at hl 0 rfl) ?_
                  refine lv_aload_n hx hb dX8_insert_62 rfl (lv_at hl 0 rfl) ?_
                  obtain ⟨v127, ev127, hf⟩ := ob_s hf
                  refine px_getR hx hb hts nX8_insert_X8 hown hK w ev127 rfl (by decide) mX8_insert_32 rfl dX8_insert_63 ?_
                  refine lv_iload_n hx hb dX8_insert_66 rfl (lv_at hl 2 rfl) ?_
                  refine lv_iload_n hx hb dX8_insert_67 rfl (lv_at hl 1 rfl) ?_
                  obtain ⟨u130, eu130, hf⟩ := ob_s hf
                  obtain ⟨h129, eh129, hf⟩ := ob_s hf
                  refine px_callVv (As := [.ref (ι v127), .int v91, .int z79]) (rest := []) ⟨hx, hb, hml, hown, hts⟩ hC w (kX8_take l D dA b0 ι N a0 v127 v91 z79 h124 h129 eh129) (cwV 3 hts gX8_insert_X8_take rfl rfl rfl (by decide +kernel) ⟨Nat.le_of_ble_eq_true rfl, Nat.le_of_ble_eq_true rfl⟩) eu130 rfl rfl hl.1 rfl (Nat.le_of_ble_eq_true rfl) dX8_insert_68 ⟨Nat.le_of_ble_eq_true rfl, Nat.le_of_ble_eq_true rfl⟩ (fun H locs w => ?_)
                  refine lv_aload_n hx hb dX8_insert_71 rfl (lv_at hl 0 rfl) ?_
                  refine lv_aload_n hx hb dX8_insert_72 rfl (lv_at hl 0 rfl) ?_
                  obtain ⟨v131, ev131, hf⟩ := ob_s hf
                  refine px_getR hx hb hts nX8_insert_X8 hown hK w ev131 rfl (by decide) mX8_insert_35 rfl dX8_insert_73 ?_
                  refine lv_iconst (v := (4 : Int32)) hx hb dX8_insert_76 (by decide) ?_
                  refine lv_iload_n hx hb dX8_insert_77 rfl (lv_at hl 1 rfl) ?_
                  obtain ⟨u134, eu134, hf⟩ := ob_s hf
                  obtain ⟨h133, eh133, hf⟩ := ob_s hf
                  refine px_callVv (As := [.ref (ι v131), .int (4 : Int32), .int z79]) (rest := []) ⟨hx, hb, hml, hown, hts⟩ hC w (kX8_take l D dA b0 ι N a0 v131 (4 : Int32) z79 h129 h133 eh133) (cwV 3 hts gX8_insert_X8_take rfl rfl rfl (by decide +kernel) ⟨Nat.le_of_ble_eq_true rfl, Nat.le_of_ble_eq_true rfl⟩) eu134 rfl rfl hl.1 rfl (Nat.le_of_ble_eq_true rfl) dX8_insert_78 ⟨Nat.le_of_ble_eq_true rfl, Nat.le_of_ble_eq_true rfl⟩ (fun H locs w => ?_)
                  refine lv_aload_n hx hb dX8_insert_81 rfl (lv_at hl 0 rfl) ?_
                  refine lv_aload_n hx hb dX8_insert_82 rfl (lv_at hl 0 rfl) ?_
                  obtain ⟨v135, ev135, hf⟩ := ob_s hf
                  refine px_getR hx hb hts nX8_insert_X8 hown hK w ev135 rfl (by decide) mX8_insert_32 rfl dX8_insert_83 ?_
                  refine lv_aload_n hx hb dX8_insert_86 rfl (lv_at hl 0 rfl) ?_
                  obtain ⟨v136, ev136, hf⟩ := ob_s hf
                  refine px_getR hx hb hts nX8_insert_X8 hown hK w ev136 rfl (by decide) mX8_insert_35 rfl dX8_insert_87 ?_
                  obtain ⟨u139, eu139, hf⟩ := ob_s hf
                  obtain ⟨h138, eh138, hf⟩ := ob_s hf
                  refine px_callVv (As := [.ref (ι v135), .ref (ι v136)]) (rest := []) ⟨hx, hb, hml, hown, hts⟩ hC w (kX8_divide l D dA b0 ι N a0 v135 v136 h133 h138 eh138) (cwV 2 hts gX8_insert_X8_divide rfl rfl rfl (by decide +kernel) ⟨Nat.le_of_ble_eq_true rfl, Nat.le_of_ble_eq_true rfl⟩) eu139 rfl rfl hl.1 rfl (Nat.le_of_ble_eq_true rfl) dX8_insert_90 ⟨Nat.le_of_ble_eq_true rfl, Nat.le_of_ble_eq_true rfl⟩ (fun H locs w => ?_)
                  refine lv_aload_n hx hb dX8_insert_93 rfl (lv_at hl 0 rfl) ?_
                  refine lv_iload_n hx hb dX8_insert_94 rfl (lv_at hl 2 rfl) ?_
                  refine lv_iconst (v := (4 : Int32)) hx hb dX8_insert_95 (by decide) ?_
                  obtain ⟨u142, eu142, hf⟩ := ob_s hf
                  obtain ⟨h141, eh141, hf⟩ := ob_s hf
                  refine px_callVv (As := [.int v91, .int (4 : Int32)]) (rest := []) ⟨hx, hb, hml, hown, hts⟩ hC w (kX8_takeOff l D dA b0 ι N a0 v91 (4 : Int32) h138 h141 eh141) (cwV 2 hts gX8_insert_X8_takeOff rfl rfl rfl (by decide +kernel) ⟨Nat.le_of_ble_eq_true rfl, Nat.le_of_ble_eq_true rfl⟩) eu142 rfl rfl hl.1 rfl (Nat.le_of_ble_eq_true rfl) dX8_insert_96 ⟨Nat.le_of_ble_eq_true rfl, Nat.le_of_ble_eq_true rfl⟩ (fun H locs w => ?_)
                  refine lv_aload_n hx hb dX8_insert_99 rfl (lv_at hl 0 rfl) ?_
                  refine lv_iload_n hx hb dX8_insert_100 rfl (lv_at hl 2 rfl) ?_
                  refine lv_iconst (v := (4 : Int32)) hx hb dX8_insert_101 (by decide) ?_
                  obtain ⟨u145, eu145, hf⟩ := ob_s hf
                  obtain ⟨h144, eh144, hf⟩ := ob_s hf
                  refine px_callVv (As := [.int v91, .int (4 : Int32)]) (rest := []) ⟨hx, hb, hml, hown, hts⟩ hC w (kX8_exchange l D dA b0 ι N a0 v91 (4 : Int32) h141 h144 eh144) (cwV 2 hts gX8_insert_X8_exchange rfl rfl rfl (by decide +kernel) ⟨Nat.le_of_ble_eq_true rfl, Nat.le_of_ble_eq_true rfl⟩) eu145 rfl rfl hl.1 rfl (Nat.le_of_ble_eq_true rfl) dX8_insert_102 ⟨Nat.le_of_ble_eq_true rfl, Nat.le_of_ble_eq_true rfl⟩ (fun H locs w => ?_)
                  refine lv_goto (tgt := 52) hx hb dX8_insert_105 (by decide) ?_
                  exact ih52 h144 H locs ls hf (lv_sub hl [0, 1, 2] rfl) w
            exact hlp52 N  h84 H locs ls (by rw [eκ52]; exact hf) (lv_sub hl [1, 2, 0] rfl) w
          · have hf := if_t hf c92
            refine lv_aload_n hx hb dX8_insert_34 rfl (lv_at hl 1 rfl) ?_
            obtain ⟨v146, ev146, hf⟩ := ob_s hf
            refine px_getR hx hb hts nX8_insert_X8 hown hK w ev146 rfl (by decide) mX8_insert_29 rfl dX8_insert_35 ?_
            refine lv_iload_n hx hb dX8_insert_38 rfl (lv_at hl 2 rfl) ?_
            refine lv_iload_n hx hb dX8_insert_39 rfl (lv_at hl 2 rfl) ?_
            obtain ⟨h147, eh147, hf⟩ := ob_s hf
            refine px_iast hx hb hK w eh147 dX8_insert_40 (fun H locs w => ?_)
            refine lv_aload_n hx hb dX8_insert_41 rfl (lv_at hl 1 rfl) ?_
            refine lv_iconst (v := (4 : Int32)) hx hb dX8_insert_42 (by decide) ?_
            refine lv_iload_n hx hb dX8_insert_43 rfl (lv_at hl 2 rfl) ?_
            obtain ⟨u150, eu150, hf⟩ := ob_s hf
            obtain ⟨h149, eh149, hf⟩ := ob_s hf
            refine px_callVv (As := [.int (4 : Int32), .int z79]) (rest := []) ⟨hx, hb, hml, hown, hts⟩ hC w (kX8_exchange l D dA b0 ι N a0 (4 : Int32) z79 h147 h149 eh149) (cwV 2 hts gX8_insert_X8_exchange rfl rfl rfl (by decide +kernel) ⟨Nat.le_of_ble_eq_true rfl, Nat.le_of_ble_eq_true rfl⟩) eu150 rfl rfl hl.1 rfl (Nat.le_of_ble_eq_true rfl) dX8_insert_44 ⟨Nat.le_of_ble_eq_true rfl, Nat.le_of_ble_eq_true rfl⟩ (fun H locs w => ?_)
            refine lv_aload_n hx hb dX8_insert_47 rfl (lv_at hl 1 rfl) ?_
            obtain ⟨u153, eu153, hf⟩ := ob_s hf
            obtain ⟨h152, eh152, hf⟩ := ob_s hf
            refine px_callVv (As := []) (rest := []) ⟨hx, hb, hml, hown, hts⟩ hC w (kX8_settle l D dA b0 ι N a0 h149 h152 eh152) (cwV 0 hts gX8_insert_X8_settle rfl rfl rfl (by decide +kernel) ⟨Nat.le_of_ble_eq_true rfl, Nat.le_of_ble_eq_true rfl⟩) eu153 rfl rfl hl.1 rfl (Nat.le_of_ble_eq_true rfl) dX8_insert_48 ⟨Nat.le_of_ble_eq_true rfl, Nat.le_of_ble_eq_true rfl⟩ (fun H locs w => ?_)
            exact W.vret hx hb hr (qv_end hf w hC) w.locs_ok dX8_insert_51
        · have hf := if_f hf c89
          refine lv_goto (tgt := 112) hx hb dX8_insert_19 (by decide) ?_
          exact hj112 h84 H locs ls (by rw [ej86] at hf; exact hf) (lv_sub hl [0, 1] rfl) w
  exact hlp2 N (0 : Int32) h H locs ls (by rw [eκ2]; exact hf) (lv_sub hl [1, 0] rfl) w
theorem nX8_makeHermite_X8 : ∀ w ∈ wsX80, w ∈ wsX8_makeHermite := by decide +kernel
theorem mX8_makeHermite_74 : Cond.fieldLink RX8 74 "NormalFormsModel" "columns" "I" ∈ wsX8_makeHermite := by decide +kernel
theorem mX8_makeHermite_29 : Cond.fieldLink RX8 29 "NormalFormsModel" "pivot" "[I" ∈ wsX8_makeHermite := by decide +kernel
theorem mX8_makeHermite_32 : Cond.fieldLink RX8 32 "NormalFormsModel" "a" "[I" ∈ wsX8_makeHermite := by decide +kernel
theorem mX8_makeHermite_71 : Cond.fieldLink RX8 71 "NormalFormsModel" "rows" "I" ∈ wsX8_makeHermite := by decide +kernel
theorem mX8_makeHermite_7 : Cond.fieldLink RX8 7 "NormalFormsModel" "entries" "[I" ∈ wsX8_makeHermite := by decide +kernel
theorem mX8_makeHermite_26 : Cond.fieldLink RX8 26 "NormalFormsModel" "made" "[I" ∈ wsX8_makeHermite := by decide +kernel
abbrev rmX8_makeHermite : Room := { frames := 6, cells := 0, slots := 0, locals := 134 }
set_option maxHeartbeats 4000000 in
set_option maxRecDepth 100000 in
theorem kX8_makeHermite (l : Launch) (D : va_G) (dA : Nat → ClassId) (b0 : Nat) (ι : Nat → Nat) (N : Nat) (a0 : Nat) (h : Hp) (h' : Hp) (hf : fX8_makeHermite N a0 h = some h') : Met l yX8_makeHermite wsX8_makeHermite rmX8_makeHermite (PC D dA b0 ι [.ref (ι a0)] h) (QV D dA b0 ι h') 0 0 (qA b0) := by
  unfold fX8_makeHermite at hf
  refine Met.ofW (cc := cX8_makeHermite) (maxL := 4) (ret := none) (by decide +kernel) rfl ?_
  intro p e s m args below meth c s₁ B hml hv
  obtain ⟨rfl, w0⟩ := hv
  have hx := B.exec
  have hb := B.bytes
  have hr := B.returns
  have hts := atoms_spec (ws := wsX8_makeHermite) B.pre
  have hown : s.vm.findClass RX8 = some m.cls := findClass_of_methodNamed B.named
  have hlocks := B.notSynchronized
  have hC := w0.c
  have hK := hC.1
  have w := WD.start w0
  clear w0
  have hl := lv_entry ([.ref (ι a0)]) (n := 4) (Nat.le_of_ble_eq_true rfl)
  rw [lg_entry_eq]
  generalize (lg_sl ([.ref (ι a0)]) ++ List.replicate (4 - (lg_sl ([.ref (ι a0)])).length) Slot.unset).toArray = ls at hl ⊢
  have hl : lv_has ls 4 [(0, .ref (ι a0))] := hl
  obtain ⟨H, hH⟩ : ∃ H : Heap, H = s.heap := ⟨_, rfl⟩
  obtain ⟨locs, hlo⟩ : ∃ locs : List Loc, locs = [] := ⟨_, rfl⟩
  rw [← hlo]
  have w : WD D dA b0 ι h s.heap H locs := by rw [hH, hlo]; exact w
  refine px_start hH ?_
  refine lv_iconst (v := (0 : Int32)) hx hb dX8_makeHermite_0 (by decide) ?_
  refine lv_istore_n (lv' := [(1, .int (0 : Int32)), (0, .ref (ι a0))]) hx hb dX8_makeHermite_1 rfl hl (by decide) rfl (fun ls hl => ?_)
  have hx2 : ∀ (y1 : Int32) (h2 : Hp) (H : Heap) (locs : List Loc) (ls : Array Slot), (lX8_makeHermite_24 N a0 N (0 : Int32) h2 (fun y3 h4 => lX8_makeHermite_44 N a0 N (0 : Int32) h4 (fun y5 h6 => lX8_makeHermite_130 N a0 N (0 : Int32) (0 : Int32) h6 (fun y7 y8 h9 => some h9)))) = some h' → lv_has ls 4 [(0, .ref (ι a0)), (1, .int y1)] → WD D dA b0 ι h2 s.heap H locs → W p l e (headSpec wsX8_makeHermite rmX8_makeHermite).room s m ([.ref (ι a0)] : List Value).toArray below meth c H locs 0 0 (MQ below (QV D dA b0 ι h') ([.ref (ι a0)] : List Value).toArray s 0 0 (qA b0)) (F0 m 22 ls []) := by
    intro y1 h2 H locs ls hf hl w
    refine lv_iconst (v := (0 : Int32)) hx hb dX8_makeHermite_22 (by decide) ?_
    refine lv_istore_n (lv' := [(1, .int (0 : Int32)), (0, .ref (ι a0))]) hx hb dX8_makeHermite_23 rfl hl (by decide) rfl (fun ls hl => ?_)
    have hx24 : ∀ (y3 : Int32) (h4 : Hp) (H : Heap) (locs : List Loc) (ls : Array Slot), (lX8_makeHermite_44 N a0 N (0 : Int32) h4 (fun y5 h6 => lX8_makeHermite_130 N a0 N (0 : Int32) (0 : Int32) h6 (fun y7 y8 h9 => some h9))) = some h' → lv_has ls 4 [(0, .ref (ι a0)), (1, .int y3)] → WD D dA b0 ι h4 s.heap H locs → W p l e (headSpec wsX8_makeHermite rmX8_makeHermite).room s m ([.ref (ι a0)] : List Value).toArray below meth c H locs 0 0 (MQ below (QV D dA b0 ι h') ([.ref (ι a0)] : List Value).toArray s 0 0 (qA b0)) (F0 m 42 ls []) := by
      intro y3 h4 H locs ls hf hl w
      refine lv_iconst (v := (0 : Int32)) hx hb dX8_makeHermite_42 (by decide) ?_
      refine lv_istore_n (lv' := [(1, .int (0 : Int32)), (0, .ref (ι a0))]) hx hb dX8_makeHermite_43 rfl hl (by decide) rfl (fun ls hl => ?_)
      have hx44 : ∀ (y5 : Int32) (h6 : Hp) (H : Heap) (locs : List Loc) (ls : Array Slot), (lX8_makeHermite_130 N a0 N (0 : Int32) (0 : Int32) h6 (fun y7 y8 h9 => some h9)) = some h' → lv_has ls 4 [(0, .ref (ι a0)), (1, .int y5)] → WD D dA b0 ι h6 s.heap H locs → W p l e (headSpec wsX8_makeHermite rmX8_makeHermite).room s m ([.ref (ι a0)] : List Value).toArray below meth c H locs 0 0 (MQ below (QV D dA b0 ι h') ([.ref (ι a0)] : List Value).toArray s 0 0 (qA b0)) (F0 m 126 ls []) := by
        intro y5 h6 H locs ls hf hl w
        refine lv_iconst (v := (0 : Int32)) hx hb dX8_makeHermite_126 (by decide) ?_
        refine lv_istore_n (lv' := [(1, .int (0 : Int32)), (0, .ref (ι a0))]) hx hb dX8_makeHermite_127 rfl hl (by decide) rfl (fun ls hl => ?_)
        refine lv_iconst (v := (0 : Int32)) hx hb dX8_makeHermite_128 (by decide) ?_
        refine lv_istore_n (lv' := [(2, .int (0 : Int32)), (1, .int (0 : Int32)), (0, .ref (ι a0))]) hx hb dX8_makeHermite_129 rfl hl (by decide) rfl (fun ls hl => ?_)
        have hx130 : ∀ (y7 : Int32) (y8 : Int32) (h9 : Hp) (H : Heap) (locs : List Loc) (ls : Array Slot), (some h9) = some h' → lv_has ls 4 [(0, .ref (ι a0)), (1, .int y7), (2, .int y8)] → WD D dA b0 ι h9 s.heap H locs → W p l e (headSpec wsX8_makeHermite rmX8_makeHermite).room s m ([.ref (ι a0)] : List Value).toArray below meth c H locs 0 0 (MQ below (QV D dA b0 ι h') ([.ref (ι a0)] : List Value).toArray s 0 0 (qA b0)) (F0 m 197 ls []) := by
          intro y7 y8 h9 H locs ls hf hl w
          exact W.vret hx hb hr (qv_end hf w hC) w.locs_ok dX8_makeHermite_197
        obtain ⟨κ130, eκ130⟩ : ∃ k : Int32 → Int32 → Hp → Option Hp, k = (fun y7 y8 h9 => some h9) := ⟨_, rfl⟩
        have hlp130 : ∀ (n : Nat) (z53 : Int32) (z54 : Int32) (h55 : Hp) (H : Heap) (locs : List Loc) (ls : Array Slot), lX8_makeHermite_130 N a0 n z53 z54 h55 κ130 = some h' → lv_has ls 4 [(0, .ref (ι a0)), (1, .int z53), (2, .int z54)] → WD D dA b0 ι h55 s.heap H locs → W p l e (headSpec wsX8_makeHermite rmX8_makeHermite).room s m ([.ref (ι a0)] : List Value).toArray below meth c H locs 0 0 (MQ below (QV D dA b0 ι h') ([.ref (ι a0)] : List Value).toArray s 0 0 (qA b0)) (F0 m 130 ls []) := by
          intro n130
          induction n130 with
          | zero => intro z53 z54 h55 H locs ls hf; exact absurd hf (by rw [lX8_makeHermite_130]; exact fun q => nomatch q)
          | succ n130 ih130 =>
            intro z53 z54 h55 H locs ls hf hl w
            rw [lX8_makeHermite_130] at hf
            refine lv_iload_n hx hb dX8_makeHermite_130 rfl (lv_at hl 2 rfl) ?_
            refine lv_aload_n hx hb dX8_makeHermite_131 rfl (lv_at hl 0 rfl) ?_
            obtain ⟨v56, ev56, hf⟩ := ob_s hf
            refine px_getI hx hb hts nX8_makeHermite_X8 hown hK w ev56 rfl (by decide) mX8_makeHermite_74 rfl dX8_makeHermite_132 ?_
            refine lv_icmp_ge (tgt := 197) hx hb dX8_makeHermite_135 (by decide) (fun c57 => ?_) (fun c57 => ?_)
            · have hf := if_t hf c57
              exact hx130 z53 z54 h55 H locs ls (by rw [eκ130] at hf; exact hf) (lv_sub hl [0, 1, 2] rfl) w
            · have hf := if_f hf c57
              refine lv_aload_n hx hb dX8_makeHermite_138 rfl (lv_at hl 0 rfl) ?_
              obtain ⟨v58, ev58, hf⟩ := ob_s hf
              refine px_getR hx hb hts nX8_makeHermite_X8 hown hK w ev58 rfl (by decide) mX8_makeHermite_29 rfl dX8_makeHermite_139 ?_
              refine lv_iload_n hx hb dX8_makeHermite_142 rfl (lv_at hl 2 rfl) ?_
              obtain ⟨v59, ev59, hf⟩ := ob_s hf
              refine px_iald hx hb hK w ev59 dX8_makeHermite_143 ?_
              refine lv_iconst (v := (-1 : Int32)) hx hb dX8_makeHermite_144 (by decide) ?_
              have hj191 : ∀ (y61 : Int32) (h62 : Hp) (H : Heap) (locs : List Loc) (ls : Array Slot), (nm (z54 + (1 : Int32)) fun x63 => lX8_makeHermite_130 N a0 n130 y61 x63 h62 κ130) = some h' → lv_has ls 4 [(0, .ref (ι a0)), (1, .int y61), (2, .int z54)] → WD D dA b0 ι h62 s.heap H locs → W p l e (headSpec wsX8_makeHermite rmX8_makeHermite).room s m ([.ref (ι a0)] : List Value).toArray below meth c H locs 0 0 (MQ below (QV D dA b0 ι h') ([.ref (ι a0)] : List Value).toArray s 0 0 (qA b0)) (F0 m 191 ls []) := by
                intro y61 h62 H locs ls hf hl w
                obtain ⟨x63, ex63, hf⟩ := nm_s hf
                refine lv_iinc (v := x63) (lv' := [(2, .int x63), (0, .ref (ι a0)), (1, .int y61)]) hx hb dX8_makeHermite_191 hl (k := 2) rfl (by rw [ex63]; rfl) (by decide) rfl (fun ls hl => ?_)
                refine lv_goto (tgt := 130) hx hb dX8_makeHermite_194 (by decide) ?_
                exact ih130 y61 x63 h62 H locs ls hf (lv_sub hl [1, 2, 0] rfl) w
              obtain ⟨j60, ej60, hf⟩ := jn_s hf
              refine lv_icmp_ne (tgt := 151) hx hb dX8_makeHermite_145 (by decide) (fun c64 => ?_) (fun c64 => ?_)
              · have hf := if_f hf c64
                refine lv_iconst (v := (0 : Int32)) hx hb dX8_makeHermite_151 (by decide) ?_
                refine lv_istore_n (lv' := [(3, .int (0 : Int32)), (0, .ref (ι a0)), (1, .int z53), (2, .int z54)]) hx hb dX8_makeHermite_152 rfl hl (by decide) rfl (fun ls hl => ?_)
                have hx153 : ∀ (y65 : Int32) (h66 : Hp) (H : Heap) (locs : List Loc) (ls : Array Slot), (nm (z53 + (1 : Int32)) fun x67 => j60 x67 h66) = some h' → lv_has ls 4 [(0, .ref (ι a0)), (1, .int z53), (2, .int z54), (3, .int y65)] → WD D dA b0 ι h66 s.heap H locs → W p l e (headSpec wsX8_makeHermite rmX8_makeHermite).room s m ([.ref (ι a0)] : List Value).toArray below meth c H locs 0 0 (MQ below (QV D dA b0 ι h') ([.ref (ι a0)] : List Value).toArray s 0 0 (qA b0)) (F0 m 188 ls []) := by
                  intro y65 h66 H locs ls hf hl w
                  obtain ⟨x67, ex67, hf⟩ := nm_s hf
                  refine lv_iinc (v := x67) (lv' := [(1, .int x67), (0, .ref (ι a0)), (2, .int z54), (3, .int y65)]) hx hb dX8_makeHermite_188 hl (k := 1) rfl (by rw [ex67]; rfl) (by decide) rfl (fun ls hl => ?_)
                  exact hj191 x67 h66 H locs ls (by rw [ej60] at hf; exact hf) (lv_sub hl [1, 0, 2] rfl) w
                obtain ⟨κ153, eκ153⟩ : ∃ k : Int32 → Hp → Option Hp, k = (fun y65 h66 => nm (z53 + (1 : Int32)) fun x67 => j60 x67 h66) := ⟨_, rfl⟩
                have hlp153 : ∀ (n : Nat) (z82 : Int32) (h83 : Hp) (H : Heap) (locs : List Loc) (ls : Array Slot), lX8_makeHermite_153 N a0 z53 z54 n z82 h83 κ153 = some h' → lv_has ls 4 [(0, .ref (ι a0)), (1, .int z53), (2, .int z54), (3, .int z82)] → WD D dA b0 ι h83 s.heap H locs → W p l e (headSpec wsX8_makeHermite rmX8_makeHermite).room s m ([.ref (ι a0)] : List Value).toArray below meth c H locs 0 0 (MQ below (QV D dA b0 ι h') ([.ref (ι a0)] : List Value).toArray s 0 0 (qA b0)) (F0 m 153 ls []) := by
                  intro n153
                  induction n153 with
                  | zero => intro z82 h83 H locs ls hf; exact absurd hf (by rw [lX8_makeHermite_153]; exact fun q => nomatch q)
                  | succ n153 ih153 =>
                    intro z82 h83 H locs ls hf hl w
                    rw [lX8_makeHermite_153] at hf
                    refine lv_iload_n hx hb dX8_makeHermite_153 rfl (lv_at hl 3 rfl) ?_
                    refine lv_aload_n hx hb dX8_makeHermite_154 rfl (lv_at hl 0 rfl) ?_
                    obtain ⟨v84, ev84, hf⟩ := ob_s hf
                    refine px_getI hx hb hts nX8_makeHermite_X8 hown hK w ev84 rfl (by decide) mX8_makeHermite_74 rfl dX8_makeHermite_155 ?_
                    refine lv_icmp_ge (tgt := 188) hx hb dX8_makeHermite_158 (by decide) (fun c85 => ?_) (fun c85 => ?_)
                    · have hf := if_t hf c85
                      exact hx153 z82 h83 H locs ls (by rw [eκ153] at hf; exact hf) (lv_sub hl [0, 1, 2, 3] rfl) w
                    · have hf := if_f hf c85
                      refine lv_aload_n hx hb dX8_makeHermite_161 rfl (lv_at hl 0 rfl) ?_
                      refine lv_aload_n hx hb dX8_makeHermite_162 rfl (lv_at hl 0 rfl) ?_
                      obtain ⟨v86, ev86, hf⟩ := ob_s hf
                      refine px_getR hx hb hts nX8_makeHermite_X8 hown hK w ev86 rfl (by decide) mX8_makeHermite_32 rfl dX8_makeHermite_163 ?_
                      refine lv_iload_n hx hb dX8_makeHermite_166 rfl (lv_at hl 2 rfl) ?_
                      refine lv_iload_n hx hb dX8_makeHermite_167 rfl (lv_at hl 3 rfl) ?_
                      obtain ⟨u89, eu89, hf⟩ := ob_s hf
                      obtain ⟨h88, eh88, hf⟩ := ob_s hf
                      refine px_callVv (As := [.ref (ι v86), .int z54, .int z82]) (rest := []) ⟨hx, hb, hml, hown, hts⟩ hC w (kX8_take l D dA b0 ι N a0 v86 z54 z82 h83 h88 eh88) (cwV 3 hts gX8_makeHermite_X8_take rfl rfl rfl (by decide +kernel) ⟨Nat.le_of_ble_eq_true rfl, Nat.le_of_ble_eq_true rfl⟩) eu89 rfl rfl hl.1 rfl (Nat.le_of_ble_eq_true rfl) dX8_makeHermite_168 ⟨Nat.le_of_ble_eq_true rfl, Nat.le_of_ble_eq_true rfl⟩ (fun H locs w => ?_)
                      refine lv_aload_n hx hb dX8_makeHermite_171 rfl (lv_at hl 0 rfl) ?_
                      refine lv_iconst (v := (0 : Int32)) hx hb dX8_makeHermite_172 (by decide) ?_
                      refine lv_iload_n hx hb dX8_makeHermite_173 rfl (lv_at hl 1 rfl) ?_
                      refine lv_iload_n hx hb dX8_makeHermite_174 rfl (lv_at hl 3 rfl) ?_
                      refine lv_aload_n hx hb dX8_makeHermite_175 rfl (lv_at hl 0 rfl) ?_
                      obtain ⟨v90, ev90, hf⟩ := ob_s hf
                      refine px_getR hx hb hts nX8_makeHermite_X8 hown hK w ev90 rfl (by decide) mX8_makeHermite_32 rfl dX8_makeHermite_176 ?_
                      obtain ⟨u93, eu93, hf⟩ := ob_s hf
                      obtain ⟨h92, eh92, hf⟩ := ob_s hf
                      refine px_callVv (As := [.int (0 : Int32), .int z53, .int z82, .ref (ι v90)]) (rest := []) ⟨hx, hb, hml, hown, hts⟩ hC w (kX8_put0 l D dA b0 ι N a0 (0 : Int32) z53 z82 v90 h88 h92 eh92) (cwV 4 hts gX8_makeHermite_X8_put0 rfl rfl rfl (by decide +kernel) ⟨Nat.le_of_ble_eq_true rfl, Nat.le_of_ble_eq_true rfl⟩) eu93 rfl rfl hl.1 rfl (Nat.le_of_ble_eq_true rfl) dX8_makeHermite_179 ⟨Nat.le_of_ble_eq_true rfl, Nat.le_of_ble_eq_true rfl⟩ (fun H locs w => ?_)
                      obtain ⟨x94, ex94, hf⟩ := nm_s hf
                      refine lv_iinc (v := x94) (lv' := [(3, .int x94), (0, .ref (ι a0)), (1, .int z53), (2, .int z54)]) hx hb dX8_makeHermite_182 hl (k := 3) rfl (by rw [ex94]; rfl) (by decide) rfl (fun ls hl => ?_)
                      refine lv_goto (tgt := 153) hx hb dX8_makeHermite_185 (by decide) ?_
                      exact ih153 x94 h92 H locs ls hf (lv_sub hl [1, 2, 3, 0] rfl) w
                exact hlp153 N (0 : Int32) h55 H locs ls (by rw [eκ153]; exact hf) (lv_sub hl [1, 2, 3, 0] rfl) w
              · have hf := if_t hf c64
                refine lv_goto (tgt := 191) hx hb dX8_makeHermite_148 (by decide) ?_
                exact hj191 z53 h55 H locs ls (by rw [ej60] at hf; exact hf) (lv_sub hl [0, 1, 2] rfl) w
        exact hlp130 N (0 : Int32) (0 : Int32) h6 H locs ls (by rw [eκ130]; exact hf) (lv_sub hl [2, 1, 0] rfl) w
      obtain ⟨κ44, eκ44⟩ : ∃ k : Int32 → Hp → Option Hp, k = (fun y5 h6 => lX8_makeHermite_130 N a0 N (0 : Int32) (0 : Int32) h6 (fun y7 y8 h9 => some h9)) := ⟨_, rfl⟩
      have hlp44 : ∀ (n : Nat) (z167 : Int32) (h168 : Hp) (H : Heap) (locs : List Loc) (ls : Array Slot), lX8_makeHermite_44 N a0 n z167 h168 κ44 = some h' → lv_has ls 4 [(0, .ref (ι a0)), (1, .int z167)] → WD D dA b0 ι h168 s.heap H locs → W p l e (headSpec wsX8_makeHermite rmX8_makeHermite).room s m ([.ref (ι a0)] : List Value).toArray below meth c H locs 0 0 (MQ below (QV D dA b0 ι h') ([.ref (ι a0)] : List Value).toArray s 0 0 (qA b0)) (F0 m 44 ls []) := by
        intro n44
        induction n44 with
        | zero => intro z167 h168 H locs ls hf; exact absurd hf (by rw [lX8_makeHermite_44]; exact fun q => nomatch q)
        | succ n44 ih44 =>
          intro z167 h168 H locs ls hf hl w
          rw [lX8_makeHermite_44] at hf
          refine lv_iload_n hx hb dX8_makeHermite_44 rfl (lv_at hl 1 rfl) ?_
          refine lv_aload_n hx hb dX8_makeHermite_45 rfl (lv_at hl 0 rfl) ?_
          obtain ⟨v169, ev169, hf⟩ := ob_s hf
          refine px_getI hx hb hts nX8_makeHermite_X8 hown hK w ev169 rfl (by decide) mX8_makeHermite_71 rfl dX8_makeHermite_46 ?_
          refine lv_icmp_ge (tgt := 126) hx hb dX8_makeHermite_49 (by decide) (fun c170 => ?_) (fun c170 => ?_)
          · have hf := if_t hf c170
            exact hx44 z167 h168 H locs ls (by rw [eκ44] at hf; exact hf) (lv_sub hl [0, 1] rfl) w
          · have hf := if_f hf c170
            refine lv_iconst (v := (0 : Int32)) hx hb dX8_makeHermite_52 (by decide) ?_
            refine lv_istore_n (lv' := [(2, .int (0 : Int32)), (0, .ref (ι a0)), (1, .int z167)]) hx hb dX8_makeHermite_53 rfl hl (by decide) rfl (fun ls hl => ?_)
            have hx54 : ∀ (y171 : Int32) (h172 : Hp) (H : Heap) (locs : List Loc) (ls : Array Slot), ((cK h172 a0 10).bind fun u175 => (fX8_insert N a0 h172).bind fun h174 => nm (z167 + (1 : Int32)) fun x176 => lX8_makeHermite_44 N a0 n44 x176 h174 κ44) = some h' → lv_has ls 4 [(0, .ref (ι a0)), (1, .int z167), (2, .int y171)] → WD D dA b0 ι h172 s.heap H locs → W p l e (headSpec wsX8_makeHermite rmX8_makeHermite).room s m ([.ref (ι a0)] : List Value).toArray below meth c H locs 0 0 (MQ below (QV D dA b0 ι h') ([.ref (ι a0)] : List Value).toArray s 0 0 (qA b0)) (F0 m 116 ls []) := by
              intro y171 h172 H locs ls hf hl w
              refine lv_aload_n hx hb dX8_makeHermite_116 rfl (lv_at hl 0 rfl) ?_
              obtain ⟨u175, eu175, hf⟩ := ob_s hf
              obtain ⟨h174, eh174, hf⟩ := ob_s hf
              refine px_callVv (As := []) (rest := []) ⟨hx, hb, hml, hown, hts⟩ hC w (kX8_insert l D dA b0 ι N a0 h172 h174 eh174) (cwV 0 hts gX8_makeHermite_X8_insert rfl rfl rfl (by decide +kernel) ⟨Nat.le_of_ble_eq_true rfl, Nat.le_of_ble_eq_true rfl⟩) eu175 rfl rfl hl.1 rfl (Nat.le_of_ble_eq_true rfl) dX8_makeHermite_117 ⟨Nat.le_of_ble_eq_true rfl, Nat.le_of_ble_eq_true rfl⟩ (fun H locs w => ?_)
              obtain ⟨x176, ex176, hf⟩ := nm_s hf
              refine lv_iinc (v := x176) (lv' := [(1, .int x176), (0, .ref (ι a0)), (2, .int y171)]) hx hb dX8_makeHermite_120 hl (k := 1) rfl (by rw [ex176]; rfl) (by decide) rfl (fun ls hl => ?_)
              refine lv_goto (tgt := 44) hx hb dX8_makeHermite_123 (by decide) ?_
              exact ih44 x176 h174 H locs ls hf (lv_sub hl [1, 0] rfl) w
            obtain ⟨κ54, eκ54⟩ : ∃ k : Int32 → Hp → Option Hp, k = (fun y171 h172 => (cK h172 a0 10).bind fun u175 => (fX8_insert N a0 h172).bind fun h174 => nm (z167 + (1 : Int32)) fun x176 => lX8_makeHermite_44 N a0 n44 x176 h174 κ44) := ⟨_, rfl⟩
            have hlp54 : ∀ (n : Nat) (z208 : Int32) (h209 : Hp) (H : Heap) (locs : List Loc) (ls : Array Slot), lX8_makeHermite_54 N a0 z167 n z208 h209 κ54 = some h' → lv_has ls 4 [(0, .ref (ι a0)), (1, .int z167), (2, .int z208)] → WD D dA b0 ι h209 s.heap H locs → W p l e (headSpec wsX8_makeHermite rmX8_makeHermite).room s m ([.ref (ι a0)] : List Value).toArray below meth c H locs 0 0 (MQ below (QV D dA b0 ι h') ([.ref (ι a0)] : List Value).toArray s 0 0 (qA b0)) (F0 m 54 ls []) := by
              intro n54
              induction n54 with
              | zero => intro z208 h209 H locs ls hf; exact absurd hf (by rw [lX8_makeHermite_54]; exact fun q => nomatch q)
              | succ n54 ih54 =>
                intro z208 h209 H locs ls hf hl w
                rw [lX8_makeHermite_54] at hf
                refine lv_iload_n hx hb dX8_makeHermite_54 rfl (lv_at hl 2 rfl) ?_
                refine lv_iconst (v := (4 : Int32)) hx hb dX8_makeHermite_55 (by decide) ?_
                refine lv_icmp_ge (tgt := 116) hx hb dX8_makeHermite_56 (by decide) (fun c210 => ?_) (fun c210 => ?_)
                · have hf := if_t hf c210
                  exact hx54 z208 h209 H locs ls (by rw [eκ54] at hf; exact hf) (lv_sub hl [0, 1, 2] rfl) w
                · have hf := if_f hf c210
                  refine lv_aload_n hx hb dX8_makeHermite_59 rfl (lv_at hl 0 rfl) ?_
                  obtain ⟨v211, ev211, hf⟩ := ob_s hf
                  refine px_getR hx hb hts nX8_makeHermite_X8 hown hK w ev211 rfl (by decide) mX8_makeHermite_32 rfl dX8_makeHermite_60 ?_
                  obtain ⟨h213, eh213, hf⟩ := ob_s hf
                  refine px_callSv (As := [.ref (ι v211)]) (rest := []) ⟨hx, hb, hml, hown, hts⟩ hC w (kX8_empty l D dA b0 ι N v211 h209 h213 eh213) (va_cwS 1 hts gX8_makeHermite_X8_empty rfl rfl rfl (by decide +kernel) ⟨Nat.le_of_ble_eq_true rfl, Nat.le_of_ble_eq_true rfl⟩) rfl hl.1 rfl (Nat.le_of_ble_eq_true rfl) dX8_makeHermite_63 ⟨Nat.le_of_ble_eq_true rfl, Nat.le_of_ble_eq_true rfl⟩ (fun H locs w => ?_)
                  refine lv_iconst (v := (0 : Int32)) hx hb dX8_makeHermite_66 (by decide) ?_
                  refine lv_istore_n (lv' := [(3, .int (0 : Int32)), (0, .ref (ι a0)), (1, .int z167), (2, .int z208)]) hx hb dX8_makeHermite_67 rfl hl (by decide) rfl (fun ls hl => ?_)
                  have hx68 : ∀ (y214 : Int32) (h215 : Hp) (H : Heap) (locs : List Loc) (ls : Array Slot), ((gR h215 a0 10 10).bind fun v216 => (cK h215 a0 10).bind fun u219 => (fX8_give N a0 v216 (4 : Int32) z208 h215).bind fun h218 => nm (z208 + (1 : Int32)) fun x220 => lX8_makeHermite_54 N a0 z167 n54 x220 h218 κ54) = some h' → lv_has ls 4 [(0, .ref (ι a0)), (1, .int z167), (2, .int z208), (3, .int y214)] → WD D dA b0 ι h215 s.heap H locs → W p l e (headSpec wsX8_makeHermite rmX8_makeHermite).room s m ([.ref (ι a0)] : List Value).toArray below meth c H locs 0 0 (MQ below (QV D dA b0 ι h') ([.ref (ι a0)] : List Value).toArray s 0 0 (qA b0)) (F0 m 100 ls []) := by
                    intro y214 h215 H locs ls hf hl w
                    refine lv_aload_n hx hb dX8_makeHermite_100 rfl (lv_at hl 0 rfl) ?_
                    refine lv_aload_n hx hb dX8_makeHermite_101 rfl (lv_at hl 0 rfl) ?_
                    obtain ⟨v216, ev216, hf⟩ := ob_s hf
                    refine px_getR hx hb hts nX8_makeHermite_X8 hown hK w ev216 rfl (by decide) mX8_makeHermite_32 rfl dX8_makeHermite_102 ?_
                    refine lv_iconst (v := (4 : Int32)) hx hb dX8_makeHermite_105 (by decide) ?_
                    refine lv_iload_n hx hb dX8_makeHermite_106 rfl (lv_at hl 2 rfl) ?_
                    obtain ⟨u219, eu219, hf⟩ := ob_s hf
                    obtain ⟨h218, eh218, hf⟩ := ob_s hf
                    refine px_callVv (As := [.ref (ι v216), .int (4 : Int32), .int z208]) (rest := []) ⟨hx, hb, hml, hown, hts⟩ hC w (kX8_give l D dA b0 ι N a0 v216 (4 : Int32) z208 h215 h218 eh218) (cwV 3 hts gX8_makeHermite_X8_give rfl rfl rfl (by decide +kernel) ⟨Nat.le_of_ble_eq_true rfl, Nat.le_of_ble_eq_true rfl⟩) eu219 rfl rfl hl.1 rfl (Nat.le_of_ble_eq_true rfl) dX8_makeHermite_107 ⟨Nat.le_of_ble_eq_true rfl, Nat.le_of_ble_eq_true rfl⟩ (fun H locs w => ?_)
                    obtain ⟨x220, ex220, hf⟩ := nm_s hf
                    refine lv_iinc (v := x220) (lv' := [(2, .int x220), (0, .ref (ι a0)), (1, .int z167), (3, .int y214)]) hx hb dX8_makeHermite_110 hl (k := 2) rfl (by rw [ex220]; rfl) (by decide) rfl (fun ls hl => ?_)
                    refine lv_goto (tgt := 54) hx hb dX8_makeHermite_113 (by decide) ?_
                    exact ih54 x220 h218 H locs ls hf (lv_sub hl [1, 2, 0] rfl) w
                  obtain ⟨κ68, eκ68⟩ : ∃ k : Int32 → Hp → Option Hp, k = (fun y214 h215 => (gR h215 a0 10 10).bind fun v216 => (cK h215 a0 10).bind fun u219 => (fX8_give N a0 v216 (4 : Int32) z208 h215).bind fun h218 => nm (z208 + (1 : Int32)) fun x220 => lX8_makeHermite_54 N a0 z167 n54 x220 h218 κ54) := ⟨_, rfl⟩
                  have hlp68 : ∀ (n : Nat) (z230 : Int32) (h231 : Hp) (H : Heap) (locs : List Loc) (ls : Array Slot), lX8_makeHermite_68 N a0 z167 z208 n z230 h231 κ68 = some h' → lv_has ls 4 [(0, .ref (ι a0)), (1, .int z167), (2, .int z208), (3, .int z230)] → WD D dA b0 ι h231 s.heap H locs → W p l e (headSpec wsX8_makeHermite rmX8_makeHermite).room s m ([.ref (ι a0)] : List Value).toArray below meth c H locs 0 0 (MQ below (QV D dA b0 ι h') ([.ref (ι a0)] : List Value).toArray s 0 0 (qA b0)) (F0 m 68 ls []) := by
                    intro n68
                    induction n68 with
                    | zero => intro z230 h231 H locs ls hf; exact absurd hf (by rw [lX8_makeHermite_68]; exact fun q => nomatch q)
                    | succ n68 ih68 =>
                      intro z230 h231 H locs ls hf hl w
                      rw [lX8_makeHermite_68] at hf
                      refine lv_iload_n hx hb dX8_makeHermite_68 rfl (lv_at hl 3 rfl) ?_
                      refine lv_iconst (v := (4 : Int32)) hx hb dX8_makeHermite_69 (by decide) ?_
                      refine lv_icmp_ge (tgt := 100) hx hb dX8_makeHermite_70 (by decide) (fun c232 => ?_) (fun c232 => ?_)
                      · have hf := if_t hf c232
                        exact hx68 z230 h231 H locs ls (by rw [eκ68] at hf; exact hf) (lv_sub hl [0, 1, 2, 3] rfl) w
                      · have hf := if_f hf c232
                        refine lv_aload_n hx hb dX8_makeHermite_73 rfl (lv_at hl 0 rfl) ?_
                        obtain ⟨v233, ev233, hf⟩ := ob_s hf
                        refine px_getR hx hb hts nX8_makeHermite_X8 hown hK w ev233 rfl (by decide) mX8_makeHermite_32 rfl dX8_makeHermite_74 ?_
                        refine lv_iload_n hx hb dX8_makeHermite_77 rfl (lv_at hl 3 rfl) ?_
                        refine lv_aload_n hx hb dX8_makeHermite_78 rfl (lv_at hl 0 rfl) ?_
                        obtain ⟨v234, ev234, hf⟩ := ob_s hf
                        refine px_getR hx hb hts nX8_makeHermite_X8 hown hK w ev234 rfl (by decide) mX8_makeHermite_7 rfl dX8_makeHermite_79 ?_
                        refine lv_bipush (v := (16 : Int32)) hx hb dX8_makeHermite_82 (by decide) ?_
                        refine lv_iload_n hx hb dX8_makeHermite_84 rfl (lv_at hl 1 rfl) ?_
                        refine lv_imul hx hb dX8_makeHermite_85 ?_
                        refine lv_iconst (v := (4 : Int32)) hx hb dX8_makeHermite_86 (by decide) ?_
                        refine lv_iload_n hx hb dX8_makeHermite_87 rfl (lv_at hl 2 rfl) ?_
                        refine lv_imul hx hb dX8_makeHermite_88 ?_
                        refine lv_iadd hx hb dX8_makeHermite_89 ?_
                        refine lv_iload_n hx hb dX8_makeHermite_90 rfl (lv_at hl 3 rfl) ?_
                        refine lv_iadd hx hb dX8_makeHermite_91 ?_
                        obtain ⟨v235, ev235, hf⟩ := ob_s hf
                        refine px_iald hx hb hK w ev235 dX8_makeHermite_92 ?_
                        obtain ⟨h236, eh236, hf⟩ := ob_s hf
                        refine px_iast hx hb hK w eh236 dX8_makeHermite_93 (fun H locs w => ?_)
                        obtain ⟨x237, ex237, hf⟩ := nm_s hf
                        refine lv_iinc (v := x237) (lv' := [(3, .int x237), (0, .ref (ι a0)), (1, .int z167), (2, .int z208)]) hx hb dX8_makeHermite_94 hl (k := 3) rfl (by rw [ex237]; rfl) (by decide) rfl (fun ls hl => ?_)
                        refine lv_goto (tgt := 68) hx hb dX8_makeHermite_97 (by decide) ?_
                        exact ih68 x237 h236 H locs ls hf (lv_sub hl [1, 2, 3, 0] rfl) w
                  exact hlp68 N (0 : Int32) h213 H locs ls (by rw [eκ68]; exact hf) (lv_sub hl [1, 2, 3, 0] rfl) w
            exact hlp54 N (0 : Int32) h168 H locs ls (by rw [eκ54]; exact hf) (lv_sub hl [1, 2, 0] rfl) w
      exact hlp44 N (0 : Int32) h4 H locs ls (by rw [eκ44]; exact hf) (lv_sub hl [1, 0] rfl) w
    obtain ⟨κ24, eκ24⟩ : ∃ k : Int32 → Hp → Option Hp, k = (fun y3 h4 => lX8_makeHermite_44 N a0 N (0 : Int32) h4 (fun y5 h6 => lX8_makeHermite_130 N a0 N (0 : Int32) (0 : Int32) h6 (fun y7 y8 h9 => some h9))) := ⟨_, rfl⟩
    have hlp24 : ∀ (n : Nat) (z245 : Int32) (h246 : Hp) (H : Heap) (locs : List Loc) (ls : Array Slot), lX8_makeHermite_24 N a0 n z245 h246 κ24 = some h' → lv_has ls 4 [(0, .ref (ι a0)), (1, .int z245)] → WD D dA b0 ι h246 s.heap H locs → W p l e (headSpec wsX8_makeHermite rmX8_makeHermite).room s m ([.ref (ι a0)] : List Value).toArray below meth c H locs 0 0 (MQ below (QV D dA b0 ι h') ([.ref (ι a0)] : List Value).toArray s 0 0 (qA b0)) (F0 m 24 ls []) := by
      intro n24
      induction n24 with
      | zero => intro z245 h246 H locs ls hf; exact absurd hf (by rw [lX8_makeHermite_24]; exact fun q => nomatch q)
      | succ n24 ih24 =>
        intro z245 h246 H locs ls hf hl w
        rw [lX8_makeHermite_24] at hf
        refine lv_iload_n hx hb dX8_makeHermite_24 rfl (lv_at hl 1 rfl) ?_
        refine lv_iconst (v := (4 : Int32)) hx hb dX8_makeHermite_25 (by decide) ?_
        refine lv_icmp_ge (tgt := 42) hx hb dX8_makeHermite_26 (by decide) (fun c247 => ?_) (fun c247 => ?_)
        · have hf := if_t hf c247
          exact hx24 z245 h246 H locs ls (by rw [eκ24] at hf; exact hf) (lv_sub hl [0, 1] rfl) w
        · have hf := if_f hf c247
          refine lv_aload_n hx hb dX8_makeHermite_29 rfl (lv_at hl 0 rfl) ?_
          obtain ⟨v248, ev248, hf⟩ := ob_s hf
          refine px_getR hx hb hts nX8_makeHermite_X8 hown hK w ev248 rfl (by decide) mX8_makeHermite_29 rfl dX8_makeHermite_30 ?_
          refine lv_iload_n hx hb dX8_makeHermite_33 rfl (lv_at hl 1 rfl) ?_
          refine lv_iconst (v := (-1 : Int32)) hx hb dX8_makeHermite_34 (by decide) ?_
          obtain ⟨h249, eh249, hf⟩ := ob_s hf
          refine px_iast hx hb hK w eh249 dX8_makeHermite_35 (fun H locs w => ?_)
          obtain ⟨x250, ex250, hf⟩ := nm_s hf
          refine lv_iinc (v := x250) (lv' := [(1, .int x250), (0, .ref (ι a0))]) hx hb dX8_makeHermite_36 hl (k := 1) rfl (by rw [ex250]; rfl) (by decide) rfl (fun ls hl => ?_)
          refine lv_goto (tgt := 24) hx hb dX8_makeHermite_39 (by decide) ?_
          exact ih24 x250 h249 H locs ls hf (lv_sub hl [1, 0] rfl) w
    exact hlp24 N (0 : Int32) h2 H locs ls (by rw [eκ24]; exact hf) (lv_sub hl [1, 0] rfl) w
  obtain ⟨κ2, eκ2⟩ : ∃ k : Int32 → Hp → Option Hp, k = (fun y1 h2 => lX8_makeHermite_24 N a0 N (0 : Int32) h2 (fun y3 h4 => lX8_makeHermite_44 N a0 N (0 : Int32) h4 (fun y5 h6 => lX8_makeHermite_130 N a0 N (0 : Int32) (0 : Int32) h6 (fun y7 y8 h9 => some h9)))) := ⟨_, rfl⟩
  have hlp2 : ∀ (n : Nat) (z258 : Int32) (h259 : Hp) (H : Heap) (locs : List Loc) (ls : Array Slot), lX8_makeHermite_2 N a0 n z258 h259 κ2 = some h' → lv_has ls 4 [(0, .ref (ι a0)), (1, .int z258)] → WD D dA b0 ι h259 s.heap H locs → W p l e (headSpec wsX8_makeHermite rmX8_makeHermite).room s m ([.ref (ι a0)] : List Value).toArray below meth c H locs 0 0 (MQ below (QV D dA b0 ι h') ([.ref (ι a0)] : List Value).toArray s 0 0 (qA b0)) (F0 m 2 ls []) := by
    intro n2
    induction n2 with
    | zero => intro z258 h259 H locs ls hf; exact absurd hf (by rw [lX8_makeHermite_2]; exact fun q => nomatch q)
    | succ n2 ih2 =>
      intro z258 h259 H locs ls hf hl w
      rw [lX8_makeHermite_2] at hf
      refine lv_iload_n hx hb dX8_makeHermite_2 rfl (lv_at hl 1 rfl) ?_
      refine lv_sipush (v := (5120 : Int32)) hx hb dX8_makeHermite_3 (by decide) ?_
      refine lv_icmp_ge (tgt := 22) hx hb dX8_makeHermite_6 (by decide) (fun c260 => ?_) (fun c260 => ?_)
      · have hf := if_t hf c260
        exact hx2 z258 h259 H locs ls (by rw [eκ2] at hf; exact hf) (lv_sub hl [0, 1] rfl) w
      · have hf := if_f hf c260
        refine lv_aload_n hx hb dX8_makeHermite_9 rfl (lv_at hl 0 rfl) ?_
        obtain ⟨v261, ev261, hf⟩ := ob_s hf
        refine px_getR hx hb hts nX8_makeHermite_X8 hown hK w ev261 rfl (by decide) mX8_makeHermite_26 rfl dX8_makeHermite_10 ?_
        refine lv_iload_n hx hb dX8_makeHermite_13 rfl (lv_at hl 1 rfl) ?_
        refine lv_iconst (v := (0 : Int32)) hx hb dX8_makeHermite_14 (by decide) ?_
        obtain ⟨h262, eh262, hf⟩ := ob_s hf
        refine px_iast hx hb hK w eh262 dX8_makeHermite_15 (fun H locs w => ?_)
        obtain ⟨x263, ex263, hf⟩ := nm_s hf
        refine lv_iinc (v := x263) (lv' := [(1, .int x263), (0, .ref (ι a0))]) hx hb dX8_makeHermite_16 hl (k := 1) rfl (by rw [ex263]; rfl) (by decide) rfl (fun ls hl => ?_)
        refine lv_goto (tgt := 2) hx hb dX8_makeHermite_19 (by decide) ?_
        exact ih2 x263 h262 H locs ls hf (lv_sub hl [1, 0] rfl) w
  exact hlp2 N (0 : Int32) h H locs ls (by rw [eκ2]; exact hf) (lv_sub hl [1, 0] rfl) w
theorem mX8_make_140 : Cond.constantLong RX8 140 (2) ∈ wsX8_make := by decide +kernel
theorem nX8_make_X8 : ∀ w ∈ wsX80, w ∈ wsX8_make := by decide +kernel
theorem mX8_make_65 : Cond.fieldLink RX8 65 "NormalFormsModel" "code" "I" ∈ wsX8_make := by decide +kernel
theorem mX8_make_13 : Cond.fieldLink RX8 13 "NormalFormsModel" "there" "[Z" ∈ wsX8_make := by decide +kernel
theorem mX8_make_71 : Cond.fieldLink RX8 71 "NormalFormsModel" "rows" "I" ∈ wsX8_make := by decide +kernel
theorem mX8_make_74 : Cond.fieldLink RX8 74 "NormalFormsModel" "columns" "I" ∈ wsX8_make := by decide +kernel
abbrev rmX8_make : Room := { frames := 7, cells := 0, slots := 0, locals := 157 }
set_option maxHeartbeats 4000000 in
set_option maxRecDepth 100000 in
theorem kX8_make (l : Launch) (D : va_G) (dA : Nat → ClassId) (b0 : Nat) (ι : Nat → Nat) (N : Nat) (a0 : Nat) (a1 : Int32) (h : Hp) (r : Int32) (h' : Hp) (hf : fX8_make N a0 a1 h = some (r, h')) : Met l yX8_make wsX8_make rmX8_make (PC D dA b0 ι [.ref (ι a0), .int a1] h) (QI D dA b0 ι r h') 0 0 (qA b0) := by
  unfold fX8_make at hf
  refine Met.ofW (cc := cX8_make) (maxL := 2) (ret := (some .int)) (by decide +kernel) rfl ?_
  intro p e s m args below meth c s₁ B hml hv
  obtain ⟨rfl, w0⟩ := hv
  have hx := B.exec
  have hb := B.bytes
  have hr := B.returns
  have hts := atoms_spec (ws := wsX8_make) B.pre
  have hown : s.vm.findClass RX8 = some m.cls := findClass_of_methodNamed B.named
  have hlocks := B.notSynchronized
  have hC := w0.c
  have hK := hC.1
  have w := WD.start w0
  clear w0
  have hl := lv_entry ([.ref (ι a0), .int a1]) (n := 2) (Nat.le_of_ble_eq_true rfl)
  rw [lg_entry_eq]
  generalize (lg_sl ([.ref (ι a0), .int a1]) ++ List.replicate (2 - (lg_sl ([.ref (ι a0), .int a1])).length) Slot.unset).toArray = ls at hl ⊢
  have hl : lv_has ls 2 [(0, .ref (ι a0)), (1, .int a1)] := hl
  obtain ⟨H, hH⟩ : ∃ H : Heap, H = s.heap := ⟨_, rfl⟩
  obtain ⟨locs, hlo⟩ : ∃ locs : List Loc, locs = [] := ⟨_, rfl⟩
  rw [← hlo]
  have w : WD D dA b0 ι h s.heap H locs := by rw [hH, hlo]; exact w
  refine px_start hH ?_
  refine lv_aload_n hx hb dX8_make_0 rfl (lv_at hl 0 rfl) ?_
  refine lv_iload_n hx hb dX8_make_1 rfl (lv_at hl 1 rfl) ?_
  refine lv_i2l hx hb dX8_make_2 rfl ?_
  refine lv_lconst (v := 0) hx hb dX8_make_3 (by decide) ?_
  refine lv_ldc2 (v := 2) hx hb hown (hts _ mX8_make_140) dX8_make_4 ?_
  obtain ⟨⟨v1, h2⟩, eh2, hf⟩ := ob_s hf
  dsimp only at hf
  refine px_callSi (As := [.long (a1.toInt64), .long (0 : Int64), .long (2 : Int64)]) (rest := [.ref (ι a0)]) ⟨hx, hb, hml, hown, hts⟩ hC w (kX8_in l D dA b0 ι N (a1.toInt64) (0 : Int64) (2 : Int64) h v1 h2 eh2) (va_cwS 3 hts gX8_make_X8_in rfl rfl rfl (by decide +kernel) ⟨Nat.le_of_ble_eq_true rfl, Nat.le_of_ble_eq_true rfl⟩) rfl hl.1 rfl (Nat.le_of_ble_eq_true rfl) dX8_make_7 ⟨Nat.le_of_ble_eq_true rfl, Nat.le_of_ble_eq_true rfl⟩ (fun H locs w => ?_)
  have hj18 : ∀ (t5 : Int32) (h4 : Hp) (H : Heap) (locs : List Loc) (ls : Array Slot), ((pV h4 a0 10 0 (.int t5)).bind fun h6 => (gI h6 a0 10 0).bind fun v7 => if v7 ≤ 0 then (cK h6 a0 10).bind fun u11 => (fX8_loadEntries N a0 h6).bind fun h10 => (cK h10 a0 10).bind fun u14 => (fX8_clearForm N a0 a1 h10).bind fun h13 => (gR h13 a0 10 4).bind fun v15 => (aZs h13 v15 a1 (1 : Int32)).bind fun h16 => jn (fun h18 => jn (fun h20 => if (2 : Int32) ≤ a1 then (gR h20 a0 10 4).bind fun v22 => (gI h20 a0 10 1).bind fun v23 => (gI h20 a0 10 2).bind fun v24 => jn (fun t27 h26 => (aZs h26 v22 (2 : Int32) t27).bind fun h28 => (gR h28 a0 10 4).bind fun v29 => (aZ h28 v29 (2 : Int32)).bind fun v30 => jn (fun t33 h32 => some (t33, h32)) fun (j31 : Int32 → Hp → Option (Int32 × Hp)) => if v30 = 0 then j31 (-1 : Int32) h28 else (gI h28 a0 10 1).bind fun v35 => j31 v35 h28) fun (j25 : Int32 → Hp → Option (Int32 × Hp)) => jn (fun h37 => j25 (0 : Int32) h37) fun (j36 : Hp → Option (Int32 × Hp)) => if v23 = v24 then (cK h20 a0 10).bind fun u41 => (fX8_makeInverse N a0 h20).bind fun (v39, h40) => if v39 = 0 then j36 h40 else j25 (1 : Int32) h40 else j36 h20 else (cK h20 a0 10).bind fun u45 => (fX8_rankNow N a0 h20).bind fun (v43, h44) => some (v43, h44)) fun (j19 : Hp → Option (Int32 × Hp)) => if a1 = (1 : Int32) then (cK h18 a0 10).bind fun u49 => (fX8_makeSmith N a0 h18).bind fun h48 => j19 h48 else j19 h18) fun (j17 : Hp → Option (Int32 × Hp)) => if a1 = 0 then (cK h16 a0 10).bind fun u53 => (fX8_makeHermite N a0 h16).bind fun h52 => j17 h52 else j17 h16 else some ((0 : Int32), h6)) = some (r, h') → lv_has ls 2 [(0, .ref (ι a0)), (1, .int a1)] → WD D dA b0 ι h4 s.heap H locs → W p l e (headSpec wsX8_make rmX8_make).room s m ([.ref (ι a0), .int a1] : List Value).toArray below meth c H locs 0 0 (MQ below (QI D dA b0 ι r h') ([.ref (ι a0), .int a1] : List Value).toArray s 0 0 (qA b0)) (F0 m 18 ls [.int t5, .ref (ι a0)]) := by
    intro t5 h4 H locs ls hf hl w
    obtain ⟨h6, eh6, hf⟩ := ob_s hf
    refine px_put hx hb hts nX8_make_X8 tyX8 tyX8_ok nmX8 hown hK w eh6 rfl (by decide) mX8_make_65 rfl rfl rfl rfl dX8_make_18 rfl (fun H locs w => ?_)
    refine lv_aload_n hx hb dX8_make_21 rfl (lv_at hl 0 rfl) ?_
    obtain ⟨v7, ev7, hf⟩ := ob_s hf
    refine px_getI hx hb hts nX8_make_X8 hown hK w ev7 rfl (by decide) mX8_make_65 rfl dX8_make_22 ?_
    refine lv_if_le (tgt := 30) hx hb dX8_make_25 (by decide) (fun c8 => ?_) (fun c8 => ?_)
    · have hf := if_t hf c8
      refine lv_aload_n hx hb dX8_make_30 rfl (lv_at hl 0 rfl) ?_
      obtain ⟨u11, eu11, hf⟩ := ob_s hf
      obtain ⟨h10, eh10, hf⟩ := ob_s hf
      refine px_callVv (As := []) (rest := []) ⟨hx, hb, hml, hown, hts⟩ hC w (kX8_loadEntries l D dA b0 ι N a0 h6 h10 eh10) (cwV 0 hts gX8_make_X8_loadEntries rfl rfl rfl (by decide +kernel) ⟨Nat.le_of_ble_eq_true rfl, Nat.le_of_ble_eq_true rfl⟩) eu11 rfl rfl hl.1 rfl (Nat.le_of_ble_eq_true rfl) dX8_make_31 ⟨Nat.le_of_ble_eq_true rfl, Nat.le_of_ble_eq_true rfl⟩ (fun H locs w => ?_)
      refine lv_aload_n hx hb dX8_make_34 rfl (lv_at hl 0 rfl) ?_
      refine lv_iload_n hx hb dX8_make_35 rfl (lv_at hl 1 rfl) ?_
      obtain ⟨u14, eu14, hf⟩ := ob_s hf
      obtain ⟨h13, eh13, hf⟩ := ob_s hf
      refine px_callVv (As := [.int a1]) (rest := []) ⟨hx, hb, hml, hown, hts⟩ hC w (kX8_clearForm l D dA b0 ι N a0 a1 h10 h13 eh13) (cwV 1 hts gX8_make_X8_clearForm rfl rfl rfl (by decide +kernel) ⟨Nat.le_of_ble_eq_true rfl, Nat.le_of_ble_eq_true rfl⟩) eu14 rfl rfl hl.1 rfl (Nat.le_of_ble_eq_true rfl) dX8_make_36 ⟨Nat.le_of_ble_eq_true rfl, Nat.le_of_ble_eq_true rfl⟩ (fun H locs w => ?_)
      refine lv_aload_n hx hb dX8_make_39 rfl (lv_at hl 0 rfl) ?_
      obtain ⟨v15, ev15, hf⟩ := ob_s hf
      refine px_getR hx hb hts nX8_make_X8 hown hK w ev15 rfl (by decide) mX8_make_13 rfl dX8_make_40 ?_
      refine lv_iload_n hx hb dX8_make_43 rfl (lv_at hl 1 rfl) ?_
      refine lv_iconst (v := (1 : Int32)) hx hb dX8_make_44 (by decide) ?_
      obtain ⟨h16, eh16, hf⟩ := ob_s hf
      refine px_zast hx hb hK w eh16 dX8_make_45 (fun H locs w => ?_)
      refine lv_iload_n hx hb dX8_make_46 rfl (lv_at hl 1 rfl) ?_
      have hj54 : ∀ (h18 : Hp) (H : Heap) (locs : List Loc) (ls : Array Slot), (jn (fun h20 => if (2 : Int32) ≤ a1 then (gR h20 a0 10 4).bind fun v22 => (gI h20 a0 10 1).bind fun v23 => (gI h20 a0 10 2).bind fun v24 => jn (fun t27 h26 => (aZs h26 v22 (2 : Int32) t27).bind fun h28 => (gR h28 a0 10 4).bind fun v29 => (aZ h28 v29 (2 : Int32)).bind fun v30 => jn (fun t33 h32 => some (t33, h32)) fun (j31 : Int32 → Hp → Option (Int32 × Hp)) => if v30 = 0 then j31 (-1 : Int32) h28 else (gI h28 a0 10 1).bind fun v35 => j31 v35 h28) fun (j25 : Int32 → Hp → Option (Int32 × Hp)) => jn (fun h37 => j25 (0 : Int32) h37) fun (j36 : Hp → Option (Int32 × Hp)) => if v23 = v24 then (cK h20 a0 10).bind fun u41 => (fX8_makeInverse N a0 h20).bind fun (v39, h40) => if v39 = 0 then j36 h40 else j25 (1 : Int32) h40 else j36 h20 else (cK h20 a0 10).bind fun u45 => (fX8_rankNow N a0 h20).bind fun (v43, h44) => some (v43, h44)) fun (j19 : Hp → Option (Int32 × Hp)) => if a1 = (1 : Int32) then (cK h18 a0 10).bind fun u49 => (fX8_makeSmith N a0 h18).bind fun h48 => j19 h48 else j19 h18) = some (r, h') → lv_has ls 2 [(0, .ref (ι a0)), (1, .int a1)] → WD D dA b0 ι h18 s.heap H locs → W p l e (headSpec wsX8_make rmX8_make).room s m ([.ref (ι a0), .int a1] : List Value).toArray below meth c H locs 0 0 (MQ below (QI D dA b0 ι r h') ([.ref (ι a0), .int a1] : List Value).toArray s 0 0 (qA b0)) (F0 m 54 ls []) := by
        intro h18 H locs ls hf hl w
        refine lv_iload_n hx hb dX8_make_54 rfl (lv_at hl 1 rfl) ?_
        refine lv_iconst (v := (1 : Int32)) hx hb dX8_make_55 (by decide) ?_
        have hj63 : ∀ (h20 : Hp) (H : Heap) (locs : List Loc) (ls : Array Slot), (if (2 : Int32) ≤ a1 then (gR h20 a0 10 4).bind fun v22 => (gI h20 a0 10 1).bind fun v23 => (gI h20 a0 10 2).bind fun v24 => jn (fun t27 h26 => (aZs h26 v22 (2 : Int32) t27).bind fun h28 => (gR h28 a0 10 4).bind fun v29 => (aZ h28 v29 (2 : Int32)).bind fun v30 => jn (fun t33 h32 => some (t33, h32)) fun (j31 : Int32 → Hp → Option (Int32 × Hp)) => if v30 = 0 then j31 (-1 : Int32) h28 else (gI h28 a0 10 1).bind fun v35 => j31 v35 h28) fun (j25 : Int32 → Hp → Option (Int32 × Hp)) => jn (fun h37 => j25 (0 : Int32) h37) fun (j36 : Hp → Option (Int32 × Hp)) => if v23 = v24 then (cK h20 a0 10).bind fun u41 => (fX8_makeInverse N a0 h20).bind fun (v39, h40) => if v39 = 0 then j36 h40 else j25 (1 : Int32) h40 else j36 h20 else (cK h20 a0 10).bind fun u45 => (fX8_rankNow N a0 h20).bind fun (v43, h44) => some (v43, h44)) = some (r, h') → lv_has ls 2 [(0, .ref (ι a0)), (1, .int a1)] → WD D dA b0 ι h20 s.heap H locs → W p l e (headSpec wsX8_make rmX8_make).room s m ([.ref (ι a0), .int a1] : List Value).toArray below meth c H locs 0 0 (MQ below (QI D dA b0 ι r h') ([.ref (ι a0), .int a1] : List Value).toArray s 0 0 (qA b0)) (F0 m 63 ls []) := by
          intro h20 H locs ls hf hl w
          refine lv_iload_n hx hb dX8_make_63 rfl (lv_at hl 1 rfl) ?_
          refine lv_iconst (v := (2 : Int32)) hx hb dX8_make_64 (by decide) ?_
          refine lv_icmp_ge (tgt := 73) hx hb dX8_make_65 (by decide) (fun c21 => ?_) (fun c21 => ?_)
          · have hf := if_t hf c21
            refine lv_aload_n hx hb dX8_make_73 rfl (lv_at hl 0 rfl) ?_
            obtain ⟨v22, ev22, hf⟩ := ob_s hf
            refine px_getR hx hb hts nX8_make_X8 hown hK w ev22 rfl (by decide) mX8_make_13 rfl dX8_make_74 ?_
            refine lv_iconst (v := (2 : Int32)) hx hb dX8_make_77 (by decide) ?_
            refine lv_aload_n hx hb dX8_make_78 rfl (lv_at hl 0 rfl) ?_
            obtain ⟨v23, ev23, hf⟩ := ob_s hf
            refine px_getI hx hb hts nX8_make_X8 hown hK w ev23 rfl (by decide) mX8_make_71 rfl dX8_make_79 ?_
            refine lv_aload_n hx hb dX8_make_82 rfl (lv_at hl 0 rfl) ?_
            obtain ⟨v24, ev24, hf⟩ := ob_s hf
            refine px_getI hx hb hts nX8_make_X8 hown hK w ev24 rfl (by decide) mX8_make_74 rfl dX8_make_83 ?_
            have hj101 : ∀ (t27 : Int32) (h26 : Hp) (H : Heap) (locs : List Loc) (ls : Array Slot), ((aZs h26 v22 (2 : Int32) t27).bind fun h28 => (gR h28 a0 10 4).bind fun v29 => (aZ h28 v29 (2 : Int32)).bind fun v30 => jn (fun t33 h32 => some (t33, h32)) fun (j31 : Int32 → Hp → Option (Int32 × Hp)) => if v30 = 0 then j31 (-1 : Int32) h28 else (gI h28 a0 10 1).bind fun v35 => j31 v35 h28) = some (r, h') → lv_has ls 2 [(0, .ref (ι a0)), (1, .int a1)] → WD D dA b0 ι h26 s.heap H locs → W p l e (headSpec wsX8_make rmX8_make).room s m ([.ref (ι a0), .int a1] : List Value).toArray below meth c H locs 0 0 (MQ below (QI D dA b0 ι r h') ([.ref (ι a0), .int a1] : List Value).toArray s 0 0 (qA b0)) (F0 m 101 ls [.int t27, .int (2 : Int32), .ref (ι v22)]) := by
              intro t27 h26 H locs ls hf hl w
              obtain ⟨h28, eh28, hf⟩ := ob_s hf
              refine px_zast hx hb hK w eh28 dX8_make_101 (fun H locs w => ?_)
              refine lv_aload_n hx hb dX8_make_102 rfl (lv_at hl 0 rfl) ?_
              obtain ⟨v29, ev29, hf⟩ := ob_s hf
              refine px_getR hx hb hts nX8_make_X8 hown hK w ev29 rfl (by decide) mX8_make_13 rfl dX8_make_103 ?_
              refine lv_iconst (v := (2 : Int32)) hx hb dX8_make_106 (by decide) ?_
              obtain ⟨v30, ev30, hf⟩ := ob_s hf
              refine px_zald hx hb hK w ev30 dX8_make_107 ?_
              have hj119 : ∀ (t33 : Int32) (h32 : Hp) (H : Heap) (locs : List Loc) (ls : Array Slot), (some (t33, h32)) = some (r, h') → lv_has ls 2 [(0, .ref (ι a0)), (1, .int a1)] → WD D dA b0 ι h32 s.heap H locs → W p l e (headSpec wsX8_make rmX8_make).room s m ([.ref (ι a0), .int a1] : List Value).toArray below meth c H locs 0 0 (MQ below (QI D dA b0 ι r h') ([.ref (ι a0), .int a1] : List Value).toArray s 0 0 (qA b0)) (F0 m 119 ls [.int t33]) := by
                intro t33 h32 H locs ls hf hl w
                exact W.iret hx hb hr (qi_end hf w hC) w.locs_ok dX8_make_119
              obtain ⟨j31, ej31, hf⟩ := jn_s hf
              refine lv_if_eq (tgt := 118) hx hb dX8_make_108 (by decide) (fun c34 => ?_) (fun c34 => ?_)
              · have hf := if_t hf c34
                refine lv_iconst (v := (-1 : Int32)) hx hb dX8_make_118 (by decide) ?_
                exact hj119 (-1 : Int32) h28 H locs ls (by rw [ej31] at hf; exact hf) (lv_sub hl [0, 1] rfl) w
              · have hf := if_f hf c34
                refine lv_aload_n hx hb dX8_make_111 rfl (lv_at hl 0 rfl) ?_
                obtain ⟨v35, ev35, hf⟩ := ob_s hf
                refine px_getI hx hb hts nX8_make_X8 hown hK w ev35 rfl (by decide) mX8_make_71 rfl dX8_make_112 ?_
                refine lv_goto (tgt := 119) hx hb dX8_make_115 (by decide) ?_
                exact hj119 v35 h28 H locs ls (by rw [ej31] at hf; exact hf) (lv_sub hl [0, 1] rfl) w
            obtain ⟨j25, ej25, hf⟩ := jn_s hf
            have hj100 : ∀ (h37 : Hp) (H : Heap) (locs : List Loc) (ls : Array Slot), (j25 (0 : Int32) h37) = some (r, h') → lv_has ls 2 [(0, .ref (ι a0)), (1, .int a1)] → WD D dA b0 ι h37 s.heap H locs → W p l e (headSpec wsX8_make rmX8_make).room s m ([.ref (ι a0), .int a1] : List Value).toArray below meth c H locs 0 0 (MQ below (QI D dA b0 ι r h') ([.ref (ι a0), .int a1] : List Value).toArray s 0 0 (qA b0)) (F0 m 100 ls [.int (2 : Int32), .ref (ι v22)]) := by
              intro h37 H locs ls hf hl w
              refine lv_iconst (v := (0 : Int32)) hx hb dX8_make_100 (by decide) ?_
              exact hj101 (0 : Int32) h37 H locs ls (by rw [ej25] at hf; exact hf) (lv_sub hl [0, 1] rfl) w
            obtain ⟨j36, ej36, hf⟩ := jn_s hf
            refine lv_icmp_ne (tgt := 100) hx hb dX8_make_86 (by decide) (fun c38 => ?_) (fun c38 => ?_)
            · have hf := if_f hf c38
              exact hj100 h20 H locs ls (by rw [ej36] at hf; exact hf) (lv_sub hl [0, 1] rfl) w
            · have hf := if_t hf c38
              refine lv_aload_n hx hb dX8_make_89 rfl (lv_at hl 0 rfl) ?_
              obtain ⟨u41, eu41, hf⟩ := ob_s hf
              obtain ⟨⟨v39, h40⟩, eh40, hf⟩ := ob_s hf
              dsimp only at hf
              refine px_callVi (As := []) (rest := [.int (2 : Int32), .ref (ι v22)]) ⟨hx, hb, hml, hown, hts⟩ hC w (kX8_makeInverse l D dA b0 ι N a0 h20 v39 h40 eh40) (cwV 0 hts gX8_make_X8_makeInverse rfl rfl rfl (by decide +kernel) ⟨Nat.le_of_ble_eq_true rfl, Nat.le_of_ble_eq_true rfl⟩) eu41 rfl rfl hl.1 rfl (Nat.le_of_ble_eq_true rfl) dX8_make_90 ⟨Nat.le_of_ble_eq_true rfl, Nat.le_of_ble_eq_true rfl⟩ (fun H locs w => ?_)
              refine lv_if_eq (tgt := 100) hx hb dX8_make_93 (by decide) (fun c42 => ?_) (fun c42 => ?_)
              · have hf := if_t hf c42
                exact hj100 h40 H locs ls (by rw [ej36] at hf; exact hf) (lv_sub hl [0, 1] rfl) w
              · have hf := if_f hf c42
                refine lv_iconst (v := (1 : Int32)) hx hb dX8_make_96 (by decide) ?_
                refine lv_goto (tgt := 101) hx hb dX8_make_97 (by decide) ?_
                exact hj101 (1 : Int32) h40 H locs ls (by rw [ej25] at hf; exact hf) (lv_sub hl [0, 1] rfl) w
          · have hf := if_f hf c21
            refine lv_aload_n hx hb dX8_make_68 rfl (lv_at hl 0 rfl) ?_
            obtain ⟨u45, eu45, hf⟩ := ob_s hf
            obtain ⟨⟨v43, h44⟩, eh44, hf⟩ := ob_s hf
            dsimp only at hf
            refine px_callVi (As := []) (rest := []) ⟨hx, hb, hml, hown, hts⟩ hC w (kX8_rankNow l D dA b0 ι N a0 h20 v43 h44 eh44) (cwV 0 hts gX8_make_X8_rankNow rfl rfl rfl (by decide +kernel) ⟨Nat.le_of_ble_eq_true rfl, Nat.le_of_ble_eq_true rfl⟩) eu45 rfl rfl hl.1 rfl (Nat.le_of_ble_eq_true rfl) dX8_make_69 ⟨Nat.le_of_ble_eq_true rfl, Nat.le_of_ble_eq_true rfl⟩ (fun H locs w => ?_)
            exact W.iret hx hb hr (qi_end hf w hC) w.locs_ok dX8_make_72
        obtain ⟨j19, ej19, hf⟩ := jn_s hf
        refine lv_icmp_ne (tgt := 63) hx hb dX8_make_56 (by decide) (fun c46 => ?_) (fun c46 => ?_)
        · have hf := if_f hf c46
          exact hj63 h18 H locs ls (by rw [ej19] at hf; exact hf) (lv_sub hl [0, 1] rfl) w
        · have hf := if_t hf c46
          refine lv_aload_n hx hb dX8_make_59 rfl (lv_at hl 0 rfl) ?_
          obtain ⟨u49, eu49, hf⟩ := ob_s hf
          obtain ⟨h48, eh48, hf⟩ := ob_s hf
          refine px_callVv (As := []) (rest := []) ⟨hx, hb, hml, hown, hts⟩ hC w (kX8_makeSmith l D dA b0 ι N a0 h18 h48 eh48) (cwV 0 hts gX8_make_X8_makeSmith rfl rfl rfl (by decide +kernel) ⟨Nat.le_of_ble_eq_true rfl, Nat.le_of_ble_eq_true rfl⟩) eu49 rfl rfl hl.1 rfl (Nat.le_of_ble_eq_true rfl) dX8_make_60 ⟨Nat.le_of_ble_eq_true rfl, Nat.le_of_ble_eq_true rfl⟩ (fun H locs w => ?_)
          exact hj63 h48 H locs ls (by rw [ej19] at hf; exact hf) (lv_sub hl [0, 1] rfl) w
      obtain ⟨j17, ej17, hf⟩ := jn_s hf
      refine lv_if_ne (tgt := 54) hx hb dX8_make_47 (by decide) (fun c50 => ?_) (fun c50 => ?_)
      · have hf := if_f hf c50
        exact hj54 h16 H locs ls (by rw [ej17] at hf; exact hf) (lv_sub hl [0, 1] rfl) w
      · have hf := if_t hf c50
        refine lv_aload_n hx hb dX8_make_50 rfl (lv_at hl 0 rfl) ?_
        obtain ⟨u53, eu53, hf⟩ := ob_s hf
        obtain ⟨h52, eh52, hf⟩ := ob_s hf
        refine px_callVv (As := []) (rest := []) ⟨hx, hb, hml, hown, hts⟩ hC w (kX8_makeHermite l D dA b0 ι N a0 h16 h52 eh52) (cwV 0 hts gX8_make_X8_makeHermite rfl rfl rfl (by decide +kernel) ⟨Nat.le_of_ble_eq_true rfl, Nat.le_of_ble_eq_true rfl⟩) eu53 rfl rfl hl.1 rfl (Nat.le_of_ble_eq_true rfl) dX8_make_51 ⟨Nat.le_of_ble_eq_true rfl, Nat.le_of_ble_eq_true rfl⟩ (fun H locs w => ?_)
        exact hj54 h52 H locs ls (by rw [ej17] at hf; exact hf) (lv_sub hl [0, 1] rfl) w
    · have hf := if_f hf c8
      refine lv_iconst (v := (0 : Int32)) hx hb dX8_make_28 (by decide) ?_
      exact W.iret hx hb hr (qi_end hf w hC) w.locs_ok dX8_make_29
  obtain ⟨j3, ej3, hf⟩ := jn_s hf
  refine lv_if_eq (tgt := 17) hx hb dX8_make_10 (by decide) (fun c54 => ?_) (fun c54 => ?_)
  · have hf := if_t hf c54
    refine lv_iconst (v := (1 : Int32)) hx hb dX8_make_17 (by decide) ?_
    exact hj18 (1 : Int32) h2 H locs ls (by rw [ej3] at hf; exact hf) (lv_sub hl [0, 1] rfl) w
  · have hf := if_f hf c54
    refine lv_iconst (v := (0 : Int32)) hx hb dX8_make_13 (by decide) ?_
    refine lv_goto (tgt := 18) hx hb dX8_make_14 (by decide) ?_
    exact hj18 (0 : Int32) h2 H locs ls (by rw [ej3] at hf; exact hf) (lv_sub hl [0, 1] rfl) w
theorem mX8_isThere_140 : Cond.constantLong RX8 140 (2) ∈ wsX8_isThere := by decide +kernel
theorem nX8_isThere_X8 : ∀ w ∈ wsX80, w ∈ wsX8_isThere := by decide +kernel
theorem mX8_isThere_65 : Cond.fieldLink RX8 65 "NormalFormsModel" "code" "I" ∈ wsX8_isThere := by decide +kernel
theorem mX8_isThere_13 : Cond.fieldLink RX8 13 "NormalFormsModel" "there" "[Z" ∈ wsX8_isThere := by decide +kernel
theorem mX8_isThere_71 : Cond.fieldLink RX8 71 "NormalFormsModel" "rows" "I" ∈ wsX8_isThere := by decide +kernel
theorem mX8_isThere_74 : Cond.fieldLink RX8 74 "NormalFormsModel" "columns" "I" ∈ wsX8_isThere := by decide +kernel
abbrev rmX8_isThere : Room := { frames := 2, cells := 0, slots := 0, locals := 37 }
set_option maxHeartbeats 4000000 in
set_option maxRecDepth 100000 in
theorem kX8_isThere (l : Launch) (D : va_G) (dA : Nat → ClassId) (b0 : Nat) (ι : Nat → Nat) (N : Nat) (a0 : Nat) (a1 : Int32) (a2 : Int32) (a3 : Int32) (h : Hp) (r : Int32) (h' : Hp) (hf : fX8_isThere N a0 a1 a2 a3 h = some (r, h')) : Met l yX8_isThere wsX8_isThere rmX8_isThere (PC D dA b0 ι [.ref (ι a0), .int a1, .int a2, .int a3] h) (QI D dA b0 ι r h') 0 0 (qA b0) := by
  unfold fX8_isThere at hf
  refine Met.ofW (cc := cX8_isThere) (maxL := 4) (ret := (some .boolean)) (by decide +kernel) rfl ?_
  intro p e s m args below meth c s₁ B hml hv
  obtain ⟨rfl, w0⟩ := hv
  have hx := B.exec
  have hb := B.bytes
  have hr := B.returns
  have hts := atoms_spec (ws := wsX8_isThere) B.pre
  have hown : s.vm.findClass RX8 = some m.cls := findClass_of_methodNamed B.named
  have hlocks := B.notSynchronized
  have hC := w0.c
  have hK := hC.1
  have w := WD.start w0
  clear w0
  have hl := lv_entry ([.ref (ι a0), .int a1, .int a2, .int a3]) (n := 4) (Nat.le_of_ble_eq_true rfl)
  rw [lg_entry_eq]
  generalize (lg_sl ([.ref (ι a0), .int a1, .int a2, .int a3]) ++ List.replicate (4 - (lg_sl ([.ref (ι a0), .int a1, .int a2, .int a3])).length) Slot.unset).toArray = ls at hl ⊢
  have hl : lv_has ls 4 [(0, .ref (ι a0)), (1, .int a1), (2, .int a2), (3, .int a3)] := hl
  obtain ⟨H, hH⟩ : ∃ H : Heap, H = s.heap := ⟨_, rfl⟩
  obtain ⟨locs, hlo⟩ : ∃ locs : List Loc, locs = [] := ⟨_, rfl⟩
  rw [← hlo]
  have w : WD D dA b0 ι h s.heap H locs := by rw [hH, hlo]; exact w
  refine px_start hH ?_
  refine lv_aload_n hx hb dX8_isThere_0 rfl (lv_at hl 0 rfl) ?_
  refine lv_iload_n hx hb dX8_isThere_1 rfl (lv_at hl 1 rfl) ?_
  refine lv_i2l hx hb dX8_isThere_2 rfl ?_
  refine lv_lconst (v := 0) hx hb dX8_isThere_3 (by decide) ?_
  refine lv_ldc2 (v := 2) hx hb hown (hts _ mX8_isThere_140) dX8_isThere_4 ?_
  obtain ⟨⟨v1, h2⟩, eh2, hf⟩ := ob_s hf
  dsimp only at hf
  refine px_callSi (As := [.long (a1.toInt64), .long (0 : Int64), .long (2 : Int64)]) (rest := [.ref (ι a0)]) ⟨hx, hb, hml, hown, hts⟩ hC w (kX8_in l D dA b0 ι N (a1.toInt64) (0 : Int64) (2 : Int64) h v1 h2 eh2) (va_cwS 3 hts gX8_isThere_X8_in rfl rfl rfl (by decide +kernel) ⟨Nat.le_of_ble_eq_true rfl, Nat.le_of_ble_eq_true rfl⟩) rfl hl.1 rfl (Nat.le_of_ble_eq_true rfl) dX8_isThere_7 ⟨Nat.le_of_ble_eq_true rfl, Nat.le_of_ble_eq_true rfl⟩ (fun H locs w => ?_)
  have hj67 : ∀ (t5 : Int32) (h4 : Hp) (H : Heap) (locs : List Loc) (ls : Array Slot), ((pV h4 a0 10 0 (.int t5)).bind fun h6 => (gI h6 a0 10 0).bind fun v7 => jn (fun t10 h9 => if t10 = 0 ∨ t10 = 1 then some (t10, h9) else none) fun (j8 : Int32 → Hp → Option (Int32 × Hp)) => if v7 = 0 then j8 (1 : Int32) h6 else j8 (0 : Int32) h6) = some (r, h') → lv_has ls 4 [(0, .ref (ι a0)), (1, .int a1), (2, .int a2), (3, .int a3)] → WD D dA b0 ι h4 s.heap H locs → W p l e (headSpec wsX8_isThere rmX8_isThere).room s m ([.ref (ι a0), .int a1, .int a2, .int a3] : List Value).toArray below meth c H locs 0 0 (MQ below (QI D dA b0 ι r h') ([.ref (ι a0), .int a1, .int a2, .int a3] : List Value).toArray s 0 0 (qA b0)) (F0 m 67 ls [.int t5, .ref (ι a0)]) := by
    intro t5 h4 H locs ls hf hl w
    obtain ⟨h6, eh6, hf⟩ := ob_s hf
    refine px_put hx hb hts nX8_isThere_X8 tyX8 tyX8_ok nmX8 hown hK w eh6 rfl (by decide) mX8_isThere_65 rfl rfl rfl rfl dX8_isThere_67 rfl (fun H locs w => ?_)
    refine lv_aload_n hx hb dX8_isThere_70 rfl (lv_at hl 0 rfl) ?_
    obtain ⟨v7, ev7, hf⟩ := ob_s hf
    refine px_getI hx hb hts nX8_isThere_X8 hown hK w ev7 rfl (by decide) mX8_isThere_65 rfl dX8_isThere_71 ?_
    have hj82 : ∀ (t10 : Int32) (h9 : Hp) (H : Heap) (locs : List Loc) (ls : Array Slot), (if t10 = 0 ∨ t10 = 1 then some (t10, h9) else none) = some (r, h') → lv_has ls 4 [(0, .ref (ι a0)), (1, .int a1), (2, .int a2), (3, .int a3)] → WD D dA b0 ι h9 s.heap H locs → W p l e (headSpec wsX8_isThere rmX8_isThere).room s m ([.ref (ι a0), .int a1, .int a2, .int a3] : List Value).toArray below meth c H locs 0 0 (MQ below (QI D dA b0 ι r h') ([.ref (ι a0), .int a1, .int a2, .int a3] : List Value).toArray s 0 0 (qA b0)) (F0 m 82 ls [.int t10]) := by
      intro t10 h9 H locs ls hf hl w
      obtain ⟨hz, hf⟩ := if_s hf
      exact W.zret hx hb hr (nar01 hz) (qi_end hf w hC) w.locs_ok dX8_isThere_82
    obtain ⟨j8, ej8, hf⟩ := jn_s hf
    refine lv_if_ne (tgt := 81) hx hb dX8_isThere_74 (by decide) (fun c11 => ?_) (fun c11 => ?_)
    · have hf := if_f hf c11
      refine lv_iconst (v := (0 : Int32)) hx hb dX8_isThere_81 (by decide) ?_
      exact hj82 (0 : Int32) h6 H locs ls (by rw [ej8] at hf; exact hf) (lv_sub hl [0, 1, 2, 3] rfl) w
    · have hf := if_t hf c11
      refine lv_iconst (v := (1 : Int32)) hx hb dX8_isThere_77 (by decide) ?_
      refine lv_goto (tgt := 82) hx hb dX8_isThere_78 (by decide) ?_
      exact hj82 (1 : Int32) h6 H locs ls (by rw [ej8] at hf; exact hf) (lv_sub hl [0, 1, 2, 3] rfl) w
  obtain ⟨j3, ej3, hf⟩ := jn_s hf
  refine lv_if_ne (tgt := 17) hx hb dX8_isThere_10 (by decide) (fun c12 => ?_) (fun c12 => ?_)
  · have hf := if_f hf c12
    refine lv_aload_n hx hb dX8_isThere_17 rfl (lv_at hl 0 rfl) ?_
    obtain ⟨v13, ev13, hf⟩ := ob_s hf
    refine px_getR hx hb hts nX8_isThere_X8 hown hK w ev13 rfl (by decide) mX8_isThere_13 rfl dX8_isThere_18 ?_
    refine lv_iload_n hx hb dX8_isThere_21 rfl (lv_at hl 1 rfl) ?_
    obtain ⟨v14, ev14, hf⟩ := ob_s hf
    refine px_zald hx hb hK w ev14 dX8_isThere_22 ?_
    refine lv_if_ne (tgt := 30) hx hb dX8_isThere_23 (by decide) (fun c15 => ?_) (fun c15 => ?_)
    · have hf := if_f hf c15
      refine lv_iload_n hx hb dX8_isThere_30 rfl (lv_at hl 2 rfl) ?_
      refine lv_i2l hx hb dX8_isThere_31 rfl ?_
      refine lv_lconst (v := 0) hx hb dX8_isThere_32 (by decide) ?_
      refine lv_aload_n hx hb dX8_isThere_33 rfl (lv_at hl 0 rfl) ?_
      obtain ⟨v16, ev16, hf⟩ := ob_s hf
      refine px_getI hx hb hts nX8_isThere_X8 hown hK w ev16 rfl (by decide) mX8_isThere_71 rfl dX8_isThere_34 ?_
      refine lv_iconst (v := (1 : Int32)) hx hb dX8_isThere_37 (by decide) ?_
      refine lv_isub hx hb dX8_isThere_38 ?_
      refine lv_i2l hx hb dX8_isThere_39 rfl ?_
      obtain ⟨⟨v17, h18⟩, eh18, hf⟩ := ob_s hf
      dsimp only at hf
      refine px_callSi (As := [.long (a2.toInt64), .long (0 : Int64), .long ((v16 - (1 : Int32)).toInt64)]) (rest := [.ref (ι a0)]) ⟨hx, hb, hml, hown, hts⟩ hC w (kX8_in l D dA b0 ι N (a2.toInt64) (0 : Int64) ((v16 - (1 : Int32)).toInt64) h2 v17 h18 eh18) (va_cwS 3 hts gX8_isThere_X8_in rfl rfl rfl (by decide +kernel) ⟨Nat.le_of_ble_eq_true rfl, Nat.le_of_ble_eq_true rfl⟩) rfl hl.1 rfl (Nat.le_of_ble_eq_true rfl) dX8_isThere_40 ⟨Nat.le_of_ble_eq_true rfl, Nat.le_of_ble_eq_true rfl⟩ (fun H locs w => ?_)
      have hj62 : ∀ (h20 : Hp) (H : Heap) (locs : List Loc) (ls : Array Slot), (j3 (3 : Int32) h20) = some (r, h') → lv_has ls 4 [(0, .ref (ι a0)), (1, .int a1), (2, .int a2), (3, .int a3)] → WD D dA b0 ι h20 s.heap H locs → W p l e (headSpec wsX8_isThere rmX8_isThere).room s m ([.ref (ι a0), .int a1, .int a2, .int a3] : List Value).toArray below meth c H locs 0 0 (MQ below (QI D dA b0 ι r h') ([.ref (ι a0), .int a1, .int a2, .int a3] : List Value).toArray s 0 0 (qA b0)) (F0 m 62 ls [.ref (ι a0)]) := by
        intro h20 H locs ls hf hl w
        refine lv_iconst (v := (3 : Int32)) hx hb dX8_isThere_62 (by decide) ?_
        refine lv_goto (tgt := 67) hx hb dX8_isThere_63 (by decide) ?_
        exact hj67 (3 : Int32) h20 H locs ls (by rw [ej3] at hf; exact hf) (lv_sub hl [0, 1, 2, 3] rfl) w
      obtain ⟨j19, ej19, hf⟩ := jn_s hf
      refine lv_if_eq (tgt := 62) hx hb dX8_isThere_43 (by decide) (fun c21 => ?_) (fun c21 => ?_)
      · have hf := if_t hf c21
        exact hj62 h18 H locs ls (by rw [ej19] at hf; exact hf) (lv_sub hl [0, 1, 2, 3] rfl) w
      · have hf := if_f hf c21
        refine lv_iload_n hx hb dX8_isThere_46 rfl (lv_at hl 3 rfl) ?_
        refine lv_i2l hx hb dX8_isThere_47 rfl ?_
        refine lv_lconst (v := 0) hx hb dX8_isThere_48 (by decide) ?_
        refine lv_aload_n hx hb dX8_isThere_49 rfl (lv_at hl 0 rfl) ?_
        obtain ⟨v22, ev22, hf⟩ := ob_s hf
        refine px_getI hx hb hts nX8_isThere_X8 hown hK w ev22 rfl (by decide) mX8_isThere_74 rfl dX8_isThere_50 ?_
        refine lv_iconst (v := (1 : Int32)) hx hb dX8_isThere_53 (by decide) ?_
        refine lv_isub hx hb dX8_isThere_54 ?_
        refine lv_i2l hx hb dX8_isThere_55 rfl ?_
        obtain ⟨⟨v23, h24⟩, eh24, hf⟩ := ob_s hf
        dsimp only at hf
        refine px_callSi (As := [.long (a3.toInt64), .long (0 : Int64), .long ((v22 - (1 : Int32)).toInt64)]) (rest := [.ref (ι a0)]) ⟨hx, hb, hml, hown, hts⟩ hC w (kX8_in l D dA b0 ι N (a3.toInt64) (0 : Int64) ((v22 - (1 : Int32)).toInt64) h18 v23 h24 eh24) (va_cwS 3 hts gX8_isThere_X8_in rfl rfl rfl (by decide +kernel) ⟨Nat.le_of_ble_eq_true rfl, Nat.le_of_ble_eq_true rfl⟩) rfl hl.1 rfl (Nat.le_of_ble_eq_true rfl) dX8_isThere_56 ⟨Nat.le_of_ble_eq_true rfl, Nat.le_of_ble_eq_true rfl⟩ (fun H locs w => ?_)
        refine lv_if_ne (tgt := 66) hx hb dX8_isThere_59 (by decide) (fun c25 => ?_) (fun c25 => ?_)
        · have hf := if_f hf c25
          refine lv_iconst (v := (0 : Int32)) hx hb dX8_isThere_66 (by decide) ?_
          exact hj67 (0 : Int32) h24 H locs ls (by rw [ej3] at hf; exact hf) (lv_sub hl [0, 1, 2, 3] rfl) w
        · have hf := if_t hf c25
          exact hj62 h24 H locs ls (by rw [ej19] at hf; exact hf) (lv_sub hl [0, 1, 2, 3] rfl) w
    · have hf := if_t hf c15
      refine lv_iconst (v := (2 : Int32)) hx hb dX8_isThere_26 (by decide) ?_
      refine lv_goto (tgt := 67) hx hb dX8_isThere_27 (by decide) ?_
      exact hj67 (2 : Int32) h2 H locs ls (by rw [ej3] at hf; exact hf) (lv_sub hl [0, 1, 2, 3] rfl) w
  · have hf := if_t hf c12
    refine lv_iconst (v := (1 : Int32)) hx hb dX8_isThere_13 (by decide) ?_
    refine lv_goto (tgt := 67) hx hb dX8_isThere_14 (by decide) ?_
    exact hj67 (1 : Int32) h2 H locs ls (by rw [ej3] at hf; exact hf) (lv_sub hl [0, 1, 2, 3] rfl) w
theorem nX8_degree_X8 : ∀ w ∈ wsX80, w ∈ wsX8_degree := by decide +kernel
theorem mX8_degree_17 : Cond.fieldLink RX8 17 "NormalFormsModel" "forms" "[I" ∈ wsX8_degree := by decide +kernel
abbrev rmX8_degree : Room := { frames := 3, cells := 0, slots := 0, locals := 60 }
set_option maxHeartbeats 4000000 in
set_option maxRecDepth 100000 in
theorem kX8_degree (l : Launch) (D : va_G) (dA : Nat → ClassId) (b0 : Nat) (ι : Nat → Nat) (N : Nat) (a0 : Nat) (a1 : Int32) (a2 : Int32) (a3 : Int32) (h : Hp) (r : Int32) (h' : Hp) (hf : fX8_degree N a0 a1 a2 a3 h = some (r, h')) : Met l yX8_degree wsX8_degree rmX8_degree (PC D dA b0 ι [.ref (ι a0), .int a1, .int a2, .int a3] h) (QI D dA b0 ι r h') 0 0 (qA b0) := by
  unfold fX8_degree at hf
  refine Met.ofW (cc := cX8_degree) (maxL := 5) (ret := (some .int)) (by decide +kernel) rfl ?_
  intro p e s m args below meth c s₁ B hml hv
  obtain ⟨rfl, w0⟩ := hv
  have hx := B.exec
  have hb := B.bytes
  have hr := B.returns
  have hts := atoms_spec (ws := wsX8_degree) B.pre
  have hown : s.vm.findClass RX8 = some m.cls := findClass_of_methodNamed B.named
  have hlocks := B.notSynchronized
  have hC := w0.c
  have hK := hC.1
  have w := WD.start w0
  clear w0
  have hl := lv_entry ([.ref (ι a0), .int a1, .int a2, .int a3]) (n := 5) (Nat.le_of_ble_eq_true rfl)
  rw [lg_entry_eq]
  generalize (lg_sl ([.ref (ι a0), .int a1, .int a2, .int a3]) ++ List.replicate (5 - (lg_sl ([.ref (ι a0), .int a1, .int a2, .int a3])).length) Slot.unset).toArray = ls at hl ⊢
  have hl : lv_has ls 5 [(0, .ref (ι a0)), (1, .int a1), (2, .int a2), (3, .int a3)] := hl
  obtain ⟨H, hH⟩ : ∃ H : Heap, H = s.heap := ⟨_, rfl⟩
  obtain ⟨locs, hlo⟩ : ∃ locs : List Loc, locs = [] := ⟨_, rfl⟩
  rw [← hlo]
  have w : WD D dA b0 ι h s.heap H locs := by rw [hH, hlo]; exact w
  refine px_start hH ?_
  refine lv_aload_n hx hb dX8_degree_0 rfl (lv_at hl 0 rfl) ?_
  refine lv_iload_n hx hb dX8_degree_1 rfl (lv_at hl 1 rfl) ?_
  refine lv_iload_n hx hb dX8_degree_2 rfl (lv_at hl 2 rfl) ?_
  refine lv_iload_n hx hb dX8_degree_3 rfl (lv_at hl 3 rfl) ?_
  obtain ⟨u3, eu3, hf⟩ := ob_s hf
  obtain ⟨⟨v1, h2⟩, eh2, hf⟩ := ob_s hf
  dsimp only at hf
  refine px_callVi (As := [.int a1, .int a2, .int a3]) (rest := []) ⟨hx, hb, hml, hown, hts⟩ hC w (kX8_isThere l D dA b0 ι N a0 a1 a2 a3 h v1 h2 eh2) (cwV 3 hts gX8_degree_X8_isThere rfl rfl rfl (by decide +kernel) ⟨Nat.le_of_ble_eq_true rfl, Nat.le_of_ble_eq_true rfl⟩) eu3 rfl rfl hl.1 rfl (Nat.le_of_ble_eq_true rfl) dX8_degree_4 ⟨Nat.le_of_ble_eq_true rfl, Nat.le_of_ble_eq_true rfl⟩ (fun H locs w => ?_)
  refine lv_if_ne (tgt := 12) hx hb dX8_degree_7 (by decide) (fun c4 => ?_) (fun c4 => ?_)
  · have hf := if_f hf c4
    refine lv_bipush (v := (39 : Int32)) hx hb dX8_degree_12 (by decide) ?_
    refine lv_istore (lv' := [(4, .int (39 : Int32)), (0, .ref (ι a0)), (1, .int a1), (2, .int a2), (3, .int a3)]) hx hb dX8_degree_14 hl (by decide) rfl (fun ls hl => ?_)
    have hx16 : ∀ (y5 : Int32) (h6 : Hp) (H : Heap) (locs : List Loc) (ls : Array Slot), (some (y5, h6)) = some (r, h') → lv_has ls 5 [(0, .ref (ι a0)), (1, .int a1), (2, .int a2), (3, .int a3), (4, .int y5)] → WD D dA b0 ι h6 s.heap H locs → W p l e (headSpec wsX8_degree rmX8_degree).room s m ([.ref (ι a0), .int a1, .int a2, .int a3] : List Value).toArray below meth c H locs 0 0 (MQ below (QI D dA b0 ι r h') ([.ref (ι a0), .int a1, .int a2, .int a3] : List Value).toArray s 0 0 (qA b0)) (F0 m 51 ls []) := by
      intro y5 h6 H locs ls hf hl w
      refine lv_iload hx hb dX8_degree_51 (lv_at hl 4 rfl) ?_
      exact W.iret hx hb hr (qi_end hf w hC) w.locs_ok dX8_degree_53
    obtain ⟨κ16, eκ16⟩ : ∃ k : Int32 → Hp → Option (Int32 × Hp), k = (fun y5 h6 => some (y5, h6)) := ⟨_, rfl⟩
    have hlp16 : ∀ (n : Nat) (z15 : Int32) (h16 : Hp) (H : Heap) (locs : List Loc) (ls : Array Slot), lX8_degree_16 N a0 a1 a2 a3 n z15 h16 κ16 = some (r, h') → lv_has ls 5 [(0, .ref (ι a0)), (1, .int a1), (2, .int a2), (3, .int a3), (4, .int z15)] → WD D dA b0 ι h16 s.heap H locs → W p l e (headSpec wsX8_degree rmX8_degree).room s m ([.ref (ι a0), .int a1, .int a2, .int a3] : List Value).toArray below meth c H locs 0 0 (MQ below (QI D dA b0 ι r h') ([.ref (ι a0), .int a1, .int a2, .int a3] : List Value).toArray s 0 0 (qA b0)) (F0 m 16 ls []) := by
      intro n16
      induction n16 with
      | zero => intro z15 h16 H locs ls hf; exact absurd hf (by rw [lX8_degree_16]; exact fun q => nomatch q)
      | succ n16 ih16 =>
        intro z15 h16 H locs ls hf hl w
        rw [lX8_degree_16] at hf
        refine lv_iload hx hb dX8_degree_16 (lv_at hl 4 rfl) ?_
        refine lv_if_lt (tgt := 51) hx hb dX8_degree_18 (by decide) (fun c17 => ?_) (fun c17 => ?_)
        · have hf := if_t hf c17
          exact hx16 z15 h16 H locs ls (by rw [eκ16] at hf; exact hf) (lv_sub hl [0, 1, 2, 3, 4] rfl) w
        · have hf := if_f hf c17
          refine lv_aload_n hx hb dX8_degree_21 rfl (lv_at hl 0 rfl) ?_
          obtain ⟨v18, ev18, hf⟩ := ob_s hf
          refine px_getR hx hb hts nX8_degree_X8 hown hK w ev18 rfl (by decide) mX8_degree_17 rfl dX8_degree_22 ?_
          refine lv_bipush (v := (40 : Int32)) hx hb dX8_degree_25 (by decide) ?_
          refine lv_bipush (v := (16 : Int32)) hx hb dX8_degree_27 (by decide) ?_
          refine lv_iload_n hx hb dX8_degree_29 rfl (lv_at hl 1 rfl) ?_
          refine lv_imul hx hb dX8_degree_30 ?_
          refine lv_iconst (v := (4 : Int32)) hx hb dX8_degree_31 (by decide) ?_
          refine lv_iload_n hx hb dX8_degree_32 rfl (lv_at hl 2 rfl) ?_
          refine lv_imul hx hb dX8_degree_33 ?_
          refine lv_iadd hx hb dX8_degree_34 ?_
          refine lv_iload_n hx hb dX8_degree_35 rfl (lv_at hl 3 rfl) ?_
          refine lv_iadd hx hb dX8_degree_36 ?_
          refine lv_imul hx hb dX8_degree_37 ?_
          refine lv_iload hx hb dX8_degree_38 (lv_at hl 4 rfl) ?_
          refine lv_iadd hx hb dX8_degree_40 ?_
          obtain ⟨v19, ev19, hf⟩ := ob_s hf
          refine px_iald hx hb hK w ev19 dX8_degree_41 ?_
          refine lv_if_ne (tgt := 51) hx hb dX8_degree_42 (by decide) (fun c20 => ?_) (fun c20 => ?_)
          · have hf := if_f hf c20
            exact hx16 z15 h16 H locs ls (by rw [eκ16] at hf; exact hf) (lv_sub hl [0, 1, 2, 3, 4] rfl) w
          · have hf := if_t hf c20
            obtain ⟨x21, ex21, hf⟩ := nm_s hf
            refine lv_iinc (v := x21) (lv' := [(4, .int x21), (0, .ref (ι a0)), (1, .int a1), (2, .int a2), (3, .int a3)]) hx hb dX8_degree_45 hl (k := 4) rfl (by rw [ex21]; rfl) (by decide) rfl (fun ls hl => ?_)
            refine lv_goto (tgt := 16) hx hb dX8_degree_48 (by decide) ?_
            exact ih16 x21 h16 H locs ls hf (lv_sub hl [1, 2, 3, 4, 0] rfl) w
    exact hlp16 N (39 : Int32) h2 H locs ls (by rw [eκ16]; exact hf) (lv_sub hl [1, 2, 3, 4, 0] rfl) w
  · have hf := if_t hf c4
    refine lv_iconst (v := (0 : Int32)) hx hb dX8_degree_10 (by decide) ?_
    exact W.iret hx hb hr (qi_end hf w hC) w.locs_ok dX8_degree_11
theorem mX8_at_190 : Cond.constantLong RX8 190 (39) ∈ wsX8_at := by decide +kernel
theorem nX8_at_X8 : ∀ w ∈ wsX80, w ∈ wsX8_at := by decide +kernel
theorem mX8_at_17 : Cond.fieldLink RX8 17 "NormalFormsModel" "forms" "[I" ∈ wsX8_at := by decide +kernel
abbrev rmX8_at : Room := { frames := 3, cells := 0, slots := 0, locals := 60 }
set_option maxHeartbeats 4000000 in
set_option maxRecDepth 100000 in
theorem kX8_at (l : Launch) (D : va_G) (dA : Nat → ClassId) (b0 : Nat) (ι : Nat → Nat) (N : Nat) (a0 : Nat) (a1 : Int32) (a2 : Int32) (a3 : Int32) (a4 : Int32) (h : Hp) (r : Int32) (h' : Hp) (hf : fX8_at N a0 a1 a2 a3 a4 h = some (r, h')) : Met l yX8_at wsX8_at rmX8_at (PC D dA b0 ι [.ref (ι a0), .int a1, .int a2, .int a3, .int a4] h) (QI D dA b0 ι r h') 0 0 (qA b0) := by
  unfold fX8_at at hf
  refine Met.ofW (cc := cX8_at) (maxL := 5) (ret := (some .int)) (by decide +kernel) rfl ?_
  intro p e s m args below meth c s₁ B hml hv
  obtain ⟨rfl, w0⟩ := hv
  have hx := B.exec
  have hb := B.bytes
  have hr := B.returns
  have hts := atoms_spec (ws := wsX8_at) B.pre
  have hown : s.vm.findClass RX8 = some m.cls := findClass_of_methodNamed B.named
  have hlocks := B.notSynchronized
  have hC := w0.c
  have hK := hC.1
  have w := WD.start w0
  clear w0
  have hl := lv_entry ([.ref (ι a0), .int a1, .int a2, .int a3, .int a4]) (n := 5) (Nat.le_of_ble_eq_true rfl)
  rw [lg_entry_eq]
  generalize (lg_sl ([.ref (ι a0), .int a1, .int a2, .int a3, .int a4]) ++ List.replicate (5 - (lg_sl ([.ref (ι a0), .int a1, .int a2, .int a3, .int a4])).length) Slot.unset).toArray = ls at hl ⊢
  have hl : lv_has ls 5 [(0, .ref (ι a0)), (1, .int a1), (2, .int a2), (3, .int a3), (4, .int a4)] := hl
  obtain ⟨H, hH⟩ : ∃ H : Heap, H = s.heap := ⟨_, rfl⟩
  obtain ⟨locs, hlo⟩ : ∃ locs : List Loc, locs = [] := ⟨_, rfl⟩
  rw [← hlo]
  have w : WD D dA b0 ι h s.heap H locs := by rw [hH, hlo]; exact w
  refine px_start hH ?_
  refine lv_aload_n hx hb dX8_at_0 rfl (lv_at hl 0 rfl) ?_
  refine lv_iload_n hx hb dX8_at_1 rfl (lv_at hl 1 rfl) ?_
  refine lv_iload_n hx hb dX8_at_2 rfl (lv_at hl 2 rfl) ?_
  refine lv_iload_n hx hb dX8_at_3 rfl (lv_at hl 3 rfl) ?_
  obtain ⟨u3, eu3, hf⟩ := ob_s hf
  obtain ⟨⟨v1, h2⟩, eh2, hf⟩ := ob_s hf
  dsimp only at hf
  refine px_callVi (As := [.int a1, .int a2, .int a3]) (rest := []) ⟨hx, hb, hml, hown, hts⟩ hC w (kX8_isThere l D dA b0 ι N a0 a1 a2 a3 h v1 h2 eh2) (cwV 3 hts gX8_at_X8_isThere rfl rfl rfl (by decide +kernel) ⟨Nat.le_of_ble_eq_true rfl, Nat.le_of_ble_eq_true rfl⟩) eu3 rfl rfl hl.1 rfl (Nat.le_of_ble_eq_true rfl) dX8_at_4 ⟨Nat.le_of_ble_eq_true rfl, Nat.le_of_ble_eq_true rfl⟩ (fun H locs w => ?_)
  refine lv_if_ne (tgt := 12) hx hb dX8_at_7 (by decide) (fun c4 => ?_) (fun c4 => ?_)
  · have hf := if_f hf c4
    refine lv_iload hx hb dX8_at_12 (lv_at hl 4 rfl) ?_
    refine lv_i2l hx hb dX8_at_14 rfl ?_
    refine lv_lconst (v := 0) hx hb dX8_at_15 (by decide) ?_
    refine lv_ldc2 (v := 39) hx hb hown (hts _ mX8_at_190) dX8_at_16 ?_
    obtain ⟨⟨v5, h6⟩, eh6, hf⟩ := ob_s hf
    dsimp only at hf
    refine px_callSi (As := [.long (a4.toInt64), .long (0 : Int64), .long (39 : Int64)]) (rest := []) ⟨hx, hb, hml, hown, hts⟩ hC w (kX8_in l D dA b0 ι N (a4.toInt64) (0 : Int64) (39 : Int64) h2 v5 h6 eh6) (va_cwS 3 hts gX8_at_X8_in rfl rfl rfl (by decide +kernel) ⟨Nat.le_of_ble_eq_true rfl, Nat.le_of_ble_eq_true rfl⟩) rfl hl.1 rfl (Nat.le_of_ble_eq_true rfl) dX8_at_19 ⟨Nat.le_of_ble_eq_true rfl, Nat.le_of_ble_eq_true rfl⟩ (fun H locs w => ?_)
    have hj50 : ∀ (t9 : Int32) (h8 : Hp) (H : Heap) (locs : List Loc) (ls : Array Slot), (some (t9, h8)) = some (r, h') → lv_has ls 5 [(0, .ref (ι a0)), (1, .int a1), (2, .int a2), (3, .int a3), (4, .int a4)] → WD D dA b0 ι h8 s.heap H locs → W p l e (headSpec wsX8_at rmX8_at).room s m ([.ref (ι a0), .int a1, .int a2, .int a3, .int a4] : List Value).toArray below meth c H locs 0 0 (MQ below (QI D dA b0 ι r h') ([.ref (ι a0), .int a1, .int a2, .int a3, .int a4] : List Value).toArray s 0 0 (qA b0)) (F0 m 50 ls [.int t9]) := by
      intro t9 h8 H locs ls hf hl w
      exact W.iret hx hb hr (qi_end hf w hC) w.locs_ok dX8_at_50
    obtain ⟨j7, ej7, hf⟩ := jn_s hf
    refine lv_if_eq (tgt := 49) hx hb dX8_at_22 (by decide) (fun c10 => ?_) (fun c10 => ?_)
    · have hf := if_t hf c10
      refine lv_iconst (v := (0 : Int32)) hx hb dX8_at_49 (by decide) ?_
      exact hj50 (0 : Int32) h6 H locs ls (by rw [ej7] at hf; exact hf) (lv_sub hl [0, 1, 2, 3, 4] rfl) w
    · have hf := if_f hf c10
      refine lv_aload_n hx hb dX8_at_25 rfl (lv_at hl 0 rfl) ?_
      obtain ⟨v11, ev11, hf⟩ := ob_s hf
      refine px_getR hx hb hts nX8_at_X8 hown hK w ev11 rfl (by decide) mX8_at_17 rfl dX8_at_26 ?_
      refine lv_bipush (v := (40 : Int32)) hx hb dX8_at_29 (by decide) ?_
      refine lv_bipush (v := (16 : Int32)) hx hb dX8_at_31 (by decide) ?_
      refine lv_iload_n hx hb dX8_at_33 rfl (lv_at hl 1 rfl) ?_
      refine lv_imul hx hb dX8_at_34 ?_
      refine lv_iconst (v := (4 : Int32)) hx hb dX8_at_35 (by decide) ?_
      refine lv_iload_n hx hb dX8_at_36 rfl (lv_at hl 2 rfl) ?_
      refine lv_imul hx hb dX8_at_37 ?_
      refine lv_iadd hx hb dX8_at_38 ?_
      refine lv_iload_n hx hb dX8_at_39 rfl (lv_at hl 3 rfl) ?_
      refine lv_iadd hx hb dX8_at_40 ?_
      refine lv_imul hx hb dX8_at_41 ?_
      refine lv_iload hx hb dX8_at_42 (lv_at hl 4 rfl) ?_
      refine lv_iadd hx hb dX8_at_44 ?_
      obtain ⟨v12, ev12, hf⟩ := ob_s hf
      refine px_iald hx hb hK w ev12 dX8_at_45 ?_
      refine lv_goto (tgt := 50) hx hb dX8_at_46 (by decide) ?_
      exact hj50 v12 h6 H locs ls (by rw [ej7] at hf; exact hf) (lv_sub hl [0, 1, 2, 3, 4] rfl) w
  · have hf := if_t hf c4
    refine lv_iconst (v := (0 : Int32)) hx hb dX8_at_10 (by decide) ?_
    exact W.iret hx hb hr (qi_end hf w hC) w.locs_ok dX8_at_11
