theorem nX7_needCell_X7 : ∀ w ∈ wsX70, w ∈ wsX7_needCell := by decide +kernel
theorem mX7_needCell_79 : Cond.fieldLink RX7 79 "NormalForms" "rowCount" "I" ∈ wsX7_needCell := by decide +kernel
theorem mX7_needCell_83 : Cond.fieldLink RX7 83 "NormalForms" "columnCount" "I" ∈ wsX7_needCell := by decide +kernel
abbrev rmX7_needCell : Room := { frames := 1, cells := 0, slots := 0, locals := 12 }
abbrev rtX7_needCell : Room := { frames := 7, cells := 1, slots := 6, locals := 103 }
abbrev wtX7_needCell : List Cond := wsX7_needCell ++ exG
set_option maxHeartbeats 4000000 in
set_option maxRecDepth 100000 in
theorem kX7_needCell (l : Launch) (D : va_G) (dA : Nat → ClassId) (b0 : Nat) (ι : Nat → Nat) (N : Nat) (a0 : Nat) (a1 : Int32) (a2 : Int32) (h : Hp) (h' : Hp) (hf : fX7_needCell N a0 a1 a2 h = (some (Sum.inr (), h') : Option ((Nat ⊕ Unit) × Hp))) : Met l yX7_needCell wsX7_needCell rmX7_needCell (PC D dA b0 ι [.ref (ι a0), .int a1, .int a2] h) (QV D dA b0 ι h') 0 0 (qA b0) := by
  unfold fX7_needCell at hf
  refine Met.ofW (cc := cX7_needCell) (maxL := 3) (ret := none) (by decide +kernel) rfl ?_
  intro p e s m args below meth c s₁ B hml hv
  obtain ⟨rfl, w0⟩ := hv
  have hx := B.exec
  have hb := B.bytes
  have hr := B.returns
  have hts := atoms_spec (ws := wsX7_needCell) B.pre
  have hown : s.vm.findClass RX7 = some m.cls := findClass_of_methodNamed B.named
  have hlocks := B.notSynchronized
  have hC := w0.c
  have hK := hC.1
  have w := WD.start w0
  clear w0
  have hl := lv_entry ([.ref (ι a0), .int a1, .int a2]) (n := 3) (Nat.le_of_ble_eq_true rfl)
  rw [lg_entry_eq]
  generalize (lg_sl ([.ref (ι a0), .int a1, .int a2]) ++ List.replicate (3 - (lg_sl ([.ref (ι a0), .int a1, .int a2])).length) Slot.unset).toArray = ls at hl ⊢
  have hl : lv_has ls 3 [(0, .ref (ι a0)), (1, .int a1), (2, .int a2)] := hl
  obtain ⟨H, hH⟩ : ∃ H : Heap, H = s.heap := ⟨_, rfl⟩
  obtain ⟨locs, hlo⟩ : ∃ locs : List Loc, locs = [] := ⟨_, rfl⟩
  rw [← hlo]
  have w : WD D dA b0 ι h s.heap H locs := by rw [hH, hlo]; exact w
  refine px_start hH ?_
  refine lv_iload_n hx hb dX7_needCell_0 rfl (lv_at hl 1 rfl) ?_
  have hj24 : ∀ (h2 : Hp) (H : Heap) (locs : List Loc) (ls : Array Slot), (some (Sum.inl 3, h2)) = (some (Sum.inr (), h') : Option ((Nat ⊕ Unit) × Hp)) → lv_has ls 3 [(0, .ref (ι a0)), (1, .int a1), (2, .int a2)] → WD D dA b0 ι h2 s.heap H locs → W p l e (headSpec wsX7_needCell rmX7_needCell).room s m ([.ref (ι a0), .int a1, .int a2] : List Value).toArray below meth c H locs 0 0 (MQ below (QV D dA b0 ι h') ([.ref (ι a0), .int a1, .int a2] : List Value).toArray s 0 0 (qA b0)) (F0 m 24 ls []) := by
    intro h2 H locs ls hf hl w
    cases hf
  obtain ⟨j1, ej1, hf⟩ := jn_s hf
  refine lv_if_lt (tgt := 24) hx hb dX7_needCell_1 (by decide) (fun c3 => ?_) (fun c3 => ?_)
  · have hf := if_t hf c3
    exact hj24 h H locs ls (by rw [ej1] at hf; exact hf) (lv_sub hl [0, 1, 2] rfl) w
  · have hf := if_f hf c3
    refine lv_iload_n hx hb dX7_needCell_4 rfl (lv_at hl 1 rfl) ?_
    refine lv_aload_n hx hb dX7_needCell_5 rfl (lv_at hl 0 rfl) ?_
    obtain ⟨v4, ev4, hf⟩ := ob_s hf
    refine px_getI hx hb hts nX7_needCell_X7 hown hK w ev4 rfl (by decide) mX7_needCell_79 rfl dX7_needCell_6 ?_
    refine lv_icmp_ge (tgt := 24) hx hb dX7_needCell_9 (by decide) (fun c5 => ?_) (fun c5 => ?_)
    · have hf := if_t hf c5
      exact hj24 h H locs ls (by rw [ej1] at hf; exact hf) (lv_sub hl [0, 1, 2] rfl) w
    · have hf := if_f hf c5
      refine lv_iload_n hx hb dX7_needCell_12 rfl (lv_at hl 2 rfl) ?_
      refine lv_if_lt (tgt := 24) hx hb dX7_needCell_13 (by decide) (fun c6 => ?_) (fun c6 => ?_)
      · have hf := if_t hf c6
        exact hj24 h H locs ls (by rw [ej1] at hf; exact hf) (lv_sub hl [0, 1, 2] rfl) w
      · have hf := if_f hf c6
        refine lv_iload_n hx hb dX7_needCell_16 rfl (lv_at hl 2 rfl) ?_
        refine lv_aload_n hx hb dX7_needCell_17 rfl (lv_at hl 0 rfl) ?_
        obtain ⟨v7, ev7, hf⟩ := ob_s hf
        refine px_getI hx hb hts nX7_needCell_X7 hown hK w ev7 rfl (by decide) mX7_needCell_83 rfl dX7_needCell_18 ?_
        refine lv_icmp_lt (tgt := 34) hx hb dX7_needCell_21 (by decide) (fun c8 => ?_) (fun c8 => ?_)
        · have hf := if_t hf c8
          exact W.vret hx hb hr (qv_end (inr_v hf) w hC) w.locs_ok dX7_needCell_34
        · have hf := if_f hf c8
          exact hj24 h H locs ls (by rw [ej1] at hf; exact hf) (lv_sub hl [0, 1, 2] rfl) w
set_option maxHeartbeats 4000000 in
set_option maxRecDepth 100000 in
theorem tX7_needCell (l : Launch) (hl0 : l.stackTraces = false) (D : va_G) (dA : Nat → ClassId) (b0 : Nat) (ι : Nat → Nat) (N : Nat) (a0 : Nat) (a1 : Int32) (a2 : Int32) (h : Hp) (k : Nat) (h' : Hp) (hf : fX7_needCell N a0 a1 a2 h = (some (Sum.inl k, h') : Option ((Nat ⊕ Unit) × Hp))) : vx_Met l yX7_needCell wtX7_needCell rtX7_needCell (PX D dA b0 ι [.ref (ι a0), .int a1, .int a2] h) QF (XQ D dA b0 ι k h') 1 6 (qA b0) := by
  unfold fX7_needCell at hf
  refine vx_ofW (cc := cX7_needCell) (maxL := 3) (ret := none) (by decide +kernel) rfl ?_
  intro p e s m args below meth c s₁ B hml hnoh hv
  obtain ⟨rfl, w0, xt⟩ := hv
  have hx := B.exec
  have hb := B.bytes
  have hr := B.returns
  have htx := atoms_spec (ws := wtX7_needCell) B.pre
  have hts : ∀ w ∈ wsX7_needCell, w.before _ s = true := fun w hw => htx w (List.mem_append_left _ hw)
  have hown : s.vm.findClass RX7 = some m.cls := findClass_of_methodNamed B.named
  have hlocks := B.notSynchronized
  have hC := w0.c
  have hK := hC.1
  have w := WD.start w0
  clear w0
  have hl := lv_entry ([.ref (ι a0), .int a1, .int a2]) (n := 3) (Nat.le_of_ble_eq_true rfl)
  rw [lg_entry_eq]
  generalize (lg_sl ([.ref (ι a0), .int a1, .int a2]) ++ List.replicate (3 - (lg_sl ([.ref (ι a0), .int a1, .int a2])).length) Slot.unset).toArray = ls at hl ⊢
  have hl : lv_has ls 3 [(0, .ref (ι a0)), (1, .int a1), (2, .int a2)] := hl
  obtain ⟨H, hH⟩ : ∃ H : Heap, H = s.heap := ⟨_, rfl⟩
  obtain ⟨locs, hlo⟩ : ∃ locs : List Loc, locs = [] := ⟨_, rfl⟩
  rw [← hlo]
  have w : WD D dA b0 ι h s.heap H locs := by rw [hH, hlo]; exact w
  refine px_start hH ?_
  refine lv_iload_n hx hb dX7_needCell_0 rfl (lv_at hl 1 rfl) ?_
  have hj24 : ∀ (h2 : Hp) (H : Heap) (locs : List Loc) (ls : Array Slot), (some (Sum.inl 3, h2)) = (some (Sum.inl k, h') : Option ((Nat ⊕ Unit) × Hp)) → lv_has ls 3 [(0, .ref (ι a0)), (1, .int a1), (2, .int a2)] → WD D dA b0 ι h2 s.heap H locs → W p l e (headSpec wtX7_needCell rtX7_needCell).room s m ([.ref (ι a0), .int a1, .int a2] : List Value).toArray below meth c H locs 0 0 (vx_MQ below QF (XQ D dA b0 ι k h') ([.ref (ι a0), .int a1, .int a2] : List Value).toArray s 1 6 (qA b0)) (F0 m 24 ls []) := by
    intro h2 H locs ls hf hl w
    exact px_throw hx hb hl0 htx (fun w hw => List.mem_append_right _ hw) hown w xt 3 (by decide) (by decide +kernel) (by decide +kernel) (is := 190) (List.mem_of_getElem? (i := 5) rfl) (hl.1.trans hml.symm) dX7_needCell_24 dX7_needCell_27 dX7_needCell_28 dX7_needCell_30 dX7_needCell_33 hnoh (Nat.le_of_ble_eq_true rfl) (Nat.le_of_ble_eq_true rfl) (Nat.le_of_ble_eq_true rfl) (Nat.le_of_ble_eq_true rfl) hlocks hf
  obtain ⟨j1, ej1, hf⟩ := jn_s hf
  refine lv_if_lt (tgt := 24) hx hb dX7_needCell_1 (by decide) (fun c3 => ?_) (fun c3 => ?_)
  · have hf := if_t hf c3
    exact hj24 h H locs ls (by rw [ej1] at hf; exact hf) (lv_sub hl [0, 1, 2] rfl) w
  · have hf := if_f hf c3
    refine lv_iload_n hx hb dX7_needCell_4 rfl (lv_at hl 1 rfl) ?_
    refine lv_aload_n hx hb dX7_needCell_5 rfl (lv_at hl 0 rfl) ?_
    obtain ⟨v4, ev4, hf⟩ := ob_s hf
    refine px_getI hx hb hts nX7_needCell_X7 hown hK w ev4 rfl (by decide) mX7_needCell_79 rfl dX7_needCell_6 ?_
    refine lv_icmp_ge (tgt := 24) hx hb dX7_needCell_9 (by decide) (fun c5 => ?_) (fun c5 => ?_)
    · have hf := if_t hf c5
      exact hj24 h H locs ls (by rw [ej1] at hf; exact hf) (lv_sub hl [0, 1, 2] rfl) w
    · have hf := if_f hf c5
      refine lv_iload_n hx hb dX7_needCell_12 rfl (lv_at hl 2 rfl) ?_
      refine lv_if_lt (tgt := 24) hx hb dX7_needCell_13 (by decide) (fun c6 => ?_) (fun c6 => ?_)
      · have hf := if_t hf c6
        exact hj24 h H locs ls (by rw [ej1] at hf; exact hf) (lv_sub hl [0, 1, 2] rfl) w
      · have hf := if_f hf c6
        refine lv_iload_n hx hb dX7_needCell_16 rfl (lv_at hl 2 rfl) ?_
        refine lv_aload_n hx hb dX7_needCell_17 rfl (lv_at hl 0 rfl) ?_
        obtain ⟨v7, ev7, hf⟩ := ob_s hf
        refine px_getI hx hb hts nX7_needCell_X7 hown hK w ev7 rfl (by decide) mX7_needCell_83 rfl dX7_needCell_18 ?_
        refine lv_icmp_lt (tgt := 34) hx hb dX7_needCell_21 (by decide) (fun c8 => ?_) (fun c8 => ?_)
        · have hf := if_t hf c8
          cases hf
        · have hf := if_f hf c8
          exact hj24 h H locs ls (by rw [ej1] at hf; exact hf) (lv_sub hl [0, 1, 2] rfl) w
abbrev rmX7_needEntry : Room := { frames := 2, cells := 0, slots := 0, locals := 34 }
abbrev rtX7_needEntry : Room := { frames := 8, cells := 1, slots := 6, locals := 125 }
abbrev wtX7_needEntry : List Cond := wsX7_needEntry ++ exG
set_option maxHeartbeats 4000000 in
set_option maxRecDepth 100000 in
theorem kX7_needEntry (l : Launch) (D : va_G) (dA : Nat → ClassId) (b0 : Nat) (ι : Nat → Nat) (N : Nat) (a0 : Nat) (a1 : Int32) (a2 : Int32) (a3 : Int32) (h : Hp) (h' : Hp) (hf : fX7_needEntry N a0 a1 a2 a3 h = (some (Sum.inr (), h') : Option ((Nat ⊕ Unit) × Hp))) : Met l yX7_needEntry wsX7_needEntry rmX7_needEntry (PC D dA b0 ι [.ref (ι a0), .int a1, .int a2, .int a3] h) (QV D dA b0 ι h') 0 0 (qA b0) := by
  unfold fX7_needEntry at hf
  refine Met.ofW (cc := cX7_needEntry) (maxL := 4) (ret := none) (by decide +kernel) rfl ?_
  intro p e s m args below meth c s₁ B hml hv
  obtain ⟨rfl, w0⟩ := hv
  have hx := B.exec
  have hb := B.bytes
  have hr := B.returns
  have hts := atoms_spec (ws := wsX7_needEntry) B.pre
  have hown : s.vm.findClass RX7 = some m.cls := findClass_of_methodNamed B.named
  have hlocks := B.notSynchronized
  have hC := w0.c
  have hK := hC.1
  have w := WD.start w0
  clear w0
  have hl := lv_entry ([.ref (ι a0), .int a1, .int a2, .int a3]) (n := 4) (Nat.le_of_ble_eq_true rfl)
  rw [lg_entry_eq]
  generalize (lg_sl ([.ref (ι a0), .int a1, .int a2, .int a3]) ++ List.replicate (4 - (lg_sl ([.ref (ι a0), .int a1, .int a2, .int a3])).length) Slot.unset).toArray = ls at hl ⊢
  have hl : lv_has ls 4 [(0, .ref (ι a0)), (1, .int a1), (2, .int a2), (3, .int a3)] := hl
  obtain ⟨H, hH⟩ : ∃ H : Heap, H = s.heap := ⟨_, rfl⟩
  obtain ⟨locs, hlo⟩ : ∃ locs : List Loc, locs = [] := ⟨_, rfl⟩
  rw [← hlo]
  have w : WD D dA b0 ι h s.heap H locs := by rw [hH, hlo]; exact w
  refine px_start hH ?_
  refine lv_aload_n hx hb dX7_needEntry_0 rfl (lv_at hl 0 rfl) ?_
  refine lv_iload_n hx hb dX7_needEntry_1 rfl (lv_at hl 1 rfl) ?_
  refine lv_iload_n hx hb dX7_needEntry_2 rfl (lv_at hl 2 rfl) ?_
  obtain ⟨u1, eu1, hf⟩ := ob_s hf
  obtain ⟨⟨q4, h3⟩, eh3, hf⟩ := ob_s hf
  try dsimp only at hf
  rcases q4 with c5 | v2
  · have hf := thr_l hf
    cases hf
  have hf := thr_r hf
  refine px_callVv (As := [.int a1, .int a2]) (rest := []) ⟨hx, hb, hml, hown, hts⟩ hC w (kX7_needCell l D dA b0 ι N a0 a1 a2 h h3 eh3) (cwV 2 hts gX7_needEntry_X7_needCell rfl rfl rfl (by decide +kernel) ⟨Nat.le_of_ble_eq_true rfl, Nat.le_of_ble_eq_true rfl⟩) eu1 rfl rfl hl.1 rfl (Nat.le_of_ble_eq_true rfl) dX7_needEntry_3 ⟨Nat.le_of_ble_eq_true rfl, Nat.le_of_ble_eq_true rfl⟩ (fun H locs w => ?_)
  refine lv_iload_n hx hb dX7_needEntry_6 rfl (lv_at hl 3 rfl) ?_
  have hj15 : ∀ (h7 : Hp) (H : Heap) (locs : List Loc) (ls : Array Slot), (some (Sum.inl 3, h7)) = (some (Sum.inr (), h') : Option ((Nat ⊕ Unit) × Hp)) → lv_has ls 4 [(0, .ref (ι a0)), (1, .int a1), (2, .int a2), (3, .int a3)] → WD D dA b0 ι h7 s.heap H locs → W p l e (headSpec wsX7_needEntry rmX7_needEntry).room s m ([.ref (ι a0), .int a1, .int a2, .int a3] : List Value).toArray below meth c H locs 0 0 (MQ below (QV D dA b0 ι h') ([.ref (ι a0), .int a1, .int a2, .int a3] : List Value).toArray s 0 0 (qA b0)) (F0 m 15 ls []) := by
    intro h7 H locs ls hf hl w
    cases hf
  obtain ⟨j6, ej6, hf⟩ := jn_s hf
  refine lv_if_lt (tgt := 15) hx hb dX7_needEntry_7 (by decide) (fun c8 => ?_) (fun c8 => ?_)
  · have hf := if_t hf c8
    exact hj15 h3 H locs ls (by rw [ej6] at hf; exact hf) (lv_sub hl [0, 1, 2, 3] rfl) w
  · have hf := if_f hf c8
    refine lv_iload_n hx hb dX7_needEntry_10 rfl (lv_at hl 3 rfl) ?_
    refine lv_iconst (v := (4 : Int32)) hx hb dX7_needEntry_11 (by decide) ?_
    refine lv_icmp_lt (tgt := 25) hx hb dX7_needEntry_12 (by decide) (fun c9 => ?_) (fun c9 => ?_)
    · have hf := if_t hf c9
      exact W.vret hx hb hr (qv_end (inr_v hf) w hC) w.locs_ok dX7_needEntry_25
    · have hf := if_f hf c9
      exact hj15 h3 H locs ls (by rw [ej6] at hf; exact hf) (lv_sub hl [0, 1, 2, 3] rfl) w
set_option maxHeartbeats 4000000 in
set_option maxRecDepth 100000 in
theorem tX7_needEntry (l : Launch) (hl0 : l.stackTraces = false) (D : va_G) (dA : Nat → ClassId) (b0 : Nat) (ι : Nat → Nat) (N : Nat) (a0 : Nat) (a1 : Int32) (a2 : Int32) (a3 : Int32) (h : Hp) (k : Nat) (h' : Hp) (hf : fX7_needEntry N a0 a1 a2 a3 h = (some (Sum.inl k, h') : Option ((Nat ⊕ Unit) × Hp))) : vx_Met l yX7_needEntry wtX7_needEntry rtX7_needEntry (PX D dA b0 ι [.ref (ι a0), .int a1, .int a2, .int a3] h) QF (XQ D dA b0 ι k h') 1 6 (qA b0) := by
  unfold fX7_needEntry at hf
  refine vx_ofW (cc := cX7_needEntry) (maxL := 4) (ret := none) (by decide +kernel) rfl ?_
  intro p e s m args below meth c s₁ B hml hnoh hv
  obtain ⟨rfl, w0, xt⟩ := hv
  have hx := B.exec
  have hb := B.bytes
  have hr := B.returns
  have htx := atoms_spec (ws := wtX7_needEntry) B.pre
  have hts : ∀ w ∈ wsX7_needEntry, w.before _ s = true := fun w hw => htx w (List.mem_append_left _ hw)
  have hown : s.vm.findClass RX7 = some m.cls := findClass_of_methodNamed B.named
  have hlocks := B.notSynchronized
  have hC := w0.c
  have hK := hC.1
  have w := WD.start w0
  clear w0
  have hl := lv_entry ([.ref (ι a0), .int a1, .int a2, .int a3]) (n := 4) (Nat.le_of_ble_eq_true rfl)
  rw [lg_entry_eq]
  generalize (lg_sl ([.ref (ι a0), .int a1, .int a2, .int a3]) ++ List.replicate (4 - (lg_sl ([.ref (ι a0), .int a1, .int a2, .int a3])).length) Slot.unset).toArray = ls at hl ⊢
  have hl : lv_has ls 4 [(0, .ref (ι a0)), (1, .int a1), (2, .int a2), (3, .int a3)] := hl
  obtain ⟨H, hH⟩ : ∃ H : Heap, H = s.heap := ⟨_, rfl⟩
  obtain ⟨locs, hlo⟩ : ∃ locs : List Loc, locs = [] := ⟨_, rfl⟩
  rw [← hlo]
  have w : WD D dA b0 ι h s.heap H locs := by rw [hH, hlo]; exact w
  refine px_start hH ?_
  refine lv_aload_n hx hb dX7_needEntry_0 rfl (lv_at hl 0 rfl) ?_
  refine lv_iload_n hx hb dX7_needEntry_1 rfl (lv_at hl 1 rfl) ?_
  refine lv_iload_n hx hb dX7_needEntry_2 rfl (lv_at hl 2 rfl) ?_
  obtain ⟨u1, eu1, hf⟩ := ob_s hf
  obtain ⟨⟨q4, h3⟩, eh3, hf⟩ := ob_s hf
  try dsimp only at hf
  rcases q4 with c5 | v2
  · have hf := thr_l hf
    exact px_tcall (As := [.int a1, .int a2]) (rest := []) ⟨hx, hb, hml, hown, htx⟩ hC xt w (tX7_needCell l hl0 D dA b0 ι N a0 a1 a2 h c5 h3 eh3) (cwV 2 htx (gx_V gX7_needEntry_X7_needCell exG_good) rfl rfl rfl (by decide +kernel) ⟨Nat.le_of_ble_eq_true rfl, Nat.le_of_ble_eq_true rfl⟩) eu1 rfl rfl hl.1 rfl (Nat.le_of_ble_eq_true rfl) dX7_needEntry_3 ⟨Nat.le_of_ble_eq_true rfl, Nat.le_of_ble_eq_true rfl⟩ hnoh hlocks (inl_s hf)
  have hf := thr_r hf
  refine px_callVv (As := [.int a1, .int a2]) (rest := []) ⟨hx, hb, hml, hown, hts⟩ hC w (kX7_needCell l D dA b0 ι N a0 a1 a2 h h3 eh3) (cwV 2 hts gX7_needEntry_X7_needCell rfl rfl rfl (by decide +kernel) ⟨Nat.le_of_ble_eq_true rfl, Nat.le_of_ble_eq_true rfl⟩) eu1 rfl rfl hl.1 rfl (Nat.le_of_ble_eq_true rfl) dX7_needEntry_3 ⟨Nat.le_of_ble_eq_true rfl, Nat.le_of_ble_eq_true rfl⟩ (fun H locs w => ?_)
  refine lv_iload_n hx hb dX7_needEntry_6 rfl (lv_at hl 3 rfl) ?_
  have hj15 : ∀ (h7 : Hp) (H : Heap) (locs : List Loc) (ls : Array Slot), (some (Sum.inl 3, h7)) = (some (Sum.inl k, h') : Option ((Nat ⊕ Unit) × Hp)) → lv_has ls 4 [(0, .ref (ι a0)), (1, .int a1), (2, .int a2), (3, .int a3)] → WD D dA b0 ι h7 s.heap H locs → W p l e (headSpec wtX7_needEntry rtX7_needEntry).room s m ([.ref (ι a0), .int a1, .int a2, .int a3] : List Value).toArray below meth c H locs 0 0 (vx_MQ below QF (XQ D dA b0 ι k h') ([.ref (ι a0), .int a1, .int a2, .int a3] : List Value).toArray s 1 6 (qA b0)) (F0 m 15 ls []) := by
    intro h7 H locs ls hf hl w
    exact px_throw hx hb hl0 htx (fun w hw => List.mem_append_right _ hw) hown w xt 3 (by decide) (by decide +kernel) (by decide +kernel) (is := 187) (List.mem_of_getElem? (i := 4) rfl) (hl.1.trans hml.symm) dX7_needEntry_15 dX7_needEntry_18 dX7_needEntry_19 dX7_needEntry_21 dX7_needEntry_24 hnoh (Nat.le_of_ble_eq_true rfl) (Nat.le_of_ble_eq_true rfl) (Nat.le_of_ble_eq_true rfl) (Nat.le_of_ble_eq_true rfl) hlocks hf
  obtain ⟨j6, ej6, hf⟩ := jn_s hf
  refine lv_if_lt (tgt := 15) hx hb dX7_needEntry_7 (by decide) (fun c8 => ?_) (fun c8 => ?_)
  · have hf := if_t hf c8
    exact hj15 h3 H locs ls (by rw [ej6] at hf; exact hf) (lv_sub hl [0, 1, 2, 3] rfl) w
  · have hf := if_f hf c8
    refine lv_iload_n hx hb dX7_needEntry_10 rfl (lv_at hl 3 rfl) ?_
    refine lv_iconst (v := (4 : Int32)) hx hb dX7_needEntry_11 (by decide) ?_
    refine lv_icmp_lt (tgt := 25) hx hb dX7_needEntry_12 (by decide) (fun c9 => ?_) (fun c9 => ?_)
    · have hf := if_t hf c9
      cases hf
    · have hf := if_f hf c9
      exact hj15 h3 H locs ls (by rw [ej6] at hf; exact hf) (lv_sub hl [0, 1, 2, 3] rfl) w
abbrev rmX7_needForm : Room := { frames := 1, cells := 0, slots := 0, locals := 12 }
abbrev rtX7_needForm : Room := { frames := 6, cells := 1, slots := 6, locals := 90 }
abbrev wtX7_needForm : List Cond := wsX7_needForm ++ exG
set_option maxHeartbeats 4000000 in
set_option maxRecDepth 100000 in
theorem kX7_needForm (l : Launch) (D : va_G) (dA : Nat → ClassId) (b0 : Nat) (ι : Nat → Nat) (N : Nat) (a0 : Nat) (a1 : Int32) (h : Hp) (h' : Hp) (hf : fX7_needForm N a0 a1 h = (some (Sum.inr (), h') : Option ((Nat ⊕ Unit) × Hp))) : Met l yX7_needForm wsX7_needForm rmX7_needForm (PC D dA b0 ι [.ref (ι a0), .int a1] h) (QV D dA b0 ι h') 0 0 (qA b0) := by
  unfold fX7_needForm at hf
  refine Met.ofW (cc := cX7_needForm) (maxL := 2) (ret := none) (by decide +kernel) rfl ?_
  intro p e s m args below meth c s₁ B hml hv
  obtain ⟨rfl, w0⟩ := hv
  have hx := B.exec
  have hb := B.bytes
  have hr := B.returns
  have hts := atoms_spec (ws := wsX7_needForm) B.pre
  have hown : s.vm.findClass RX7 = some m.cls := findClass_of_methodNamed B.named
  have hlocks := B.notSynchronized
  have hC := w0.c
  have hK := hC.1
  have w := WD.start w0
  clear w0
  have hl := lv_entry ([.ref (ι a0), .int a1]) (n := 2) (Nat.le_of_ble_eq_true rfl)
  rw [lg_entry_eq]
  generalize (lg_sl ([.ref (ι a0), .int a1]) ++ List.replicate (2 - (lg_sl ([.ref (ι a0), .int a1])).length) Slot.unset).toArray = ls at hl ⊢
  have hl : lv_has ls 2 [(0, .ref (ι a0)), (1, .int a1)] := hl
  obtain ⟨H, hH⟩ : ∃ H : Heap, H = s.heap := ⟨_, rfl⟩
  obtain ⟨locs, hlo⟩ : ∃ locs : List Loc, locs = [] := ⟨_, rfl⟩
  rw [← hlo]
  have w : WD D dA b0 ι h s.heap H locs := by rw [hH, hlo]; exact w
  refine px_start hH ?_
  refine lv_iload_n hx hb dX7_needForm_0 rfl (lv_at hl 1 rfl) ?_
  have hj9 : ∀ (h2 : Hp) (H : Heap) (locs : List Loc) (ls : Array Slot), (some (Sum.inl 1, h2)) = (some (Sum.inr (), h') : Option ((Nat ⊕ Unit) × Hp)) → lv_has ls 2 [(0, .ref (ι a0)), (1, .int a1)] → WD D dA b0 ι h2 s.heap H locs → W p l e (headSpec wsX7_needForm rmX7_needForm).room s m ([.ref (ι a0), .int a1] : List Value).toArray below meth c H locs 0 0 (MQ below (QV D dA b0 ι h') ([.ref (ι a0), .int a1] : List Value).toArray s 0 0 (qA b0)) (F0 m 9 ls []) := by
    intro h2 H locs ls hf hl w
    cases hf
  obtain ⟨j1, ej1, hf⟩ := jn_s hf
  refine lv_if_lt (tgt := 9) hx hb dX7_needForm_1 (by decide) (fun c3 => ?_) (fun c3 => ?_)
  · have hf := if_t hf c3
    exact hj9 h H locs ls (by rw [ej1] at hf; exact hf) (lv_sub hl [0, 1] rfl) w
  · have hf := if_f hf c3
    refine lv_iload_n hx hb dX7_needForm_4 rfl (lv_at hl 1 rfl) ?_
    refine lv_iconst (v := (3 : Int32)) hx hb dX7_needForm_5 (by decide) ?_
    refine lv_icmp_lt (tgt := 19) hx hb dX7_needForm_6 (by decide) (fun c4 => ?_) (fun c4 => ?_)
    · have hf := if_t hf c4
      exact W.vret hx hb hr (qv_end (inr_v hf) w hC) w.locs_ok dX7_needForm_19
    · have hf := if_f hf c4
      exact hj9 h H locs ls (by rw [ej1] at hf; exact hf) (lv_sub hl [0, 1] rfl) w
set_option maxHeartbeats 4000000 in
set_option maxRecDepth 100000 in
theorem tX7_needForm (l : Launch) (hl0 : l.stackTraces = false) (D : va_G) (dA : Nat → ClassId) (b0 : Nat) (ι : Nat → Nat) (N : Nat) (a0 : Nat) (a1 : Int32) (h : Hp) (k : Nat) (h' : Hp) (hf : fX7_needForm N a0 a1 h = (some (Sum.inl k, h') : Option ((Nat ⊕ Unit) × Hp))) : vx_Met l yX7_needForm wtX7_needForm rtX7_needForm (PX D dA b0 ι [.ref (ι a0), .int a1] h) QF (XQ D dA b0 ι k h') 1 6 (qA b0) := by
  unfold fX7_needForm at hf
  refine vx_ofW (cc := cX7_needForm) (maxL := 2) (ret := none) (by decide +kernel) rfl ?_
  intro p e s m args below meth c s₁ B hml hnoh hv
  obtain ⟨rfl, w0, xt⟩ := hv
  have hx := B.exec
  have hb := B.bytes
  have hr := B.returns
  have htx := atoms_spec (ws := wtX7_needForm) B.pre
  have hts : ∀ w ∈ wsX7_needForm, w.before _ s = true := fun w hw => htx w (List.mem_append_left _ hw)
  have hown : s.vm.findClass RX7 = some m.cls := findClass_of_methodNamed B.named
  have hlocks := B.notSynchronized
  have hC := w0.c
  have hK := hC.1
  have w := WD.start w0
  clear w0
  have hl := lv_entry ([.ref (ι a0), .int a1]) (n := 2) (Nat.le_of_ble_eq_true rfl)
  rw [lg_entry_eq]
  generalize (lg_sl ([.ref (ι a0), .int a1]) ++ List.replicate (2 - (lg_sl ([.ref (ι a0), .int a1])).length) Slot.unset).toArray = ls at hl ⊢
  have hl : lv_has ls 2 [(0, .ref (ι a0)), (1, .int a1)] := hl
  obtain ⟨H, hH⟩ : ∃ H : Heap, H = s.heap := ⟨_, rfl⟩
  obtain ⟨locs, hlo⟩ : ∃ locs : List Loc, locs = [] := ⟨_, rfl⟩
  rw [← hlo]
  have w : WD D dA b0 ι h s.heap H locs := by rw [hH, hlo]; exact w
  refine px_start hH ?_
  refine lv_iload_n hx hb dX7_needForm_0 rfl (lv_at hl 1 rfl) ?_
  have hj9 : ∀ (h2 : Hp) (H : Heap) (locs : List Loc) (ls : Array Slot), (some (Sum.inl 1, h2)) = (some (Sum.inl k, h') : Option ((Nat ⊕ Unit) × Hp)) → lv_has ls 2 [(0, .ref (ι a0)), (1, .int a1)] → WD D dA b0 ι h2 s.heap H locs → W p l e (headSpec wtX7_needForm rtX7_needForm).room s m ([.ref (ι a0), .int a1] : List Value).toArray below meth c H locs 0 0 (vx_MQ below QF (XQ D dA b0 ι k h') ([.ref (ι a0), .int a1] : List Value).toArray s 1 6 (qA b0)) (F0 m 9 ls []) := by
    intro h2 H locs ls hf hl w
    exact px_throw hx hb hl0 htx (fun w hw => List.mem_append_right _ hw) hown w xt 1 (by decide) (by decide +kernel) (by decide +kernel) (is := 192) (List.mem_of_getElem? (i := 6) rfl) (hl.1.trans hml.symm) dX7_needForm_9 dX7_needForm_12 dX7_needForm_13 dX7_needForm_15 dX7_needForm_18 hnoh (Nat.le_of_ble_eq_true rfl) (Nat.le_of_ble_eq_true rfl) (Nat.le_of_ble_eq_true rfl) (Nat.le_of_ble_eq_true rfl) hlocks hf
  obtain ⟨j1, ej1, hf⟩ := jn_s hf
  refine lv_if_lt (tgt := 9) hx hb dX7_needForm_1 (by decide) (fun c3 => ?_) (fun c3 => ?_)
  · have hf := if_t hf c3
    exact hj9 h H locs ls (by rw [ej1] at hf; exact hf) (lv_sub hl [0, 1] rfl) w
  · have hf := if_f hf c3
    refine lv_iload_n hx hb dX7_needForm_4 rfl (lv_at hl 1 rfl) ?_
    refine lv_iconst (v := (3 : Int32)) hx hb dX7_needForm_5 (by decide) ?_
    refine lv_icmp_lt (tgt := 19) hx hb dX7_needForm_6 (by decide) (fun c4 => ?_) (fun c4 => ?_)
    · have hf := if_t hf c4
      cases hf
    · have hf := if_f hf c4
      exact hj9 h H locs ls (by rw [ej1] at hf; exact hf) (lv_sub hl [0, 1] rfl) w
theorem nX7_needSquare_X7 : ∀ w ∈ wsX70, w ∈ wsX7_needSquare := by decide +kernel
theorem mX7_needSquare_79 : Cond.fieldLink RX7 79 "NormalForms" "rowCount" "I" ∈ wsX7_needSquare := by decide +kernel
theorem mX7_needSquare_83 : Cond.fieldLink RX7 83 "NormalForms" "columnCount" "I" ∈ wsX7_needSquare := by decide +kernel
abbrev rmX7_needSquare : Room := { frames := 1, cells := 0, slots := 0, locals := 12 }
abbrev rtX7_needSquare : Room := { frames := 6, cells := 1, slots := 6, locals := 90 }
abbrev wtX7_needSquare : List Cond := wsX7_needSquare ++ exG
set_option maxHeartbeats 4000000 in
set_option maxRecDepth 100000 in
theorem kX7_needSquare (l : Launch) (D : va_G) (dA : Nat → ClassId) (b0 : Nat) (ι : Nat → Nat) (N : Nat) (a0 : Nat) (h : Hp) (h' : Hp) (hf : fX7_needSquare N a0 h = (some (Sum.inr (), h') : Option ((Nat ⊕ Unit) × Hp))) : Met l yX7_needSquare wsX7_needSquare rmX7_needSquare (PC D dA b0 ι [.ref (ι a0)] h) (QV D dA b0 ι h') 0 0 (qA b0) := by
  unfold fX7_needSquare at hf
  refine Met.ofW (cc := cX7_needSquare) (maxL := 1) (ret := none) (by decide +kernel) rfl ?_
  intro p e s m args below meth c s₁ B hml hv
  obtain ⟨rfl, w0⟩ := hv
  have hx := B.exec
  have hb := B.bytes
  have hr := B.returns
  have hts := atoms_spec (ws := wsX7_needSquare) B.pre
  have hown : s.vm.findClass RX7 = some m.cls := findClass_of_methodNamed B.named
  have hlocks := B.notSynchronized
  have hC := w0.c
  have hK := hC.1
  have w := WD.start w0
  clear w0
  have hl := lv_entry ([.ref (ι a0)]) (n := 1) (Nat.le_of_ble_eq_true rfl)
  rw [lg_entry_eq]
  generalize (lg_sl ([.ref (ι a0)]) ++ List.replicate (1 - (lg_sl ([.ref (ι a0)])).length) Slot.unset).toArray = ls at hl ⊢
  have hl : lv_has ls 1 [(0, .ref (ι a0))] := hl
  obtain ⟨H, hH⟩ : ∃ H : Heap, H = s.heap := ⟨_, rfl⟩
  obtain ⟨locs, hlo⟩ : ∃ locs : List Loc, locs = [] := ⟨_, rfl⟩
  rw [← hlo]
  have w : WD D dA b0 ι h s.heap H locs := by rw [hH, hlo]; exact w
  refine px_start hH ?_
  refine lv_aload_n hx hb dX7_needSquare_0 rfl (lv_at hl 0 rfl) ?_
  obtain ⟨v1, ev1, hf⟩ := ob_s hf
  refine px_getI hx hb hts nX7_needSquare_X7 hown hK w ev1 rfl (by decide) mX7_needSquare_79 rfl dX7_needSquare_1 ?_
  refine lv_aload_n hx hb dX7_needSquare_4 rfl (lv_at hl 0 rfl) ?_
  obtain ⟨v2, ev2, hf⟩ := ob_s hf
  refine px_getI hx hb hts nX7_needSquare_X7 hown hK w ev2 rfl (by decide) mX7_needSquare_83 rfl dX7_needSquare_5 ?_
  refine lv_icmp_eq (tgt := 21) hx hb dX7_needSquare_8 (by decide) (fun c3 => ?_) (fun c3 => ?_)
  · have hf := if_t hf c3
    exact W.vret hx hb hr (qv_end (inr_v hf) w hC) w.locs_ok dX7_needSquare_21
  · have hf := if_f hf c3
    cases hf
set_option maxHeartbeats 4000000 in
set_option maxRecDepth 100000 in
theorem tX7_needSquare (l : Launch) (hl0 : l.stackTraces = false) (D : va_G) (dA : Nat → ClassId) (b0 : Nat) (ι : Nat → Nat) (N : Nat) (a0 : Nat) (h : Hp) (k : Nat) (h' : Hp) (hf : fX7_needSquare N a0 h = (some (Sum.inl k, h') : Option ((Nat ⊕ Unit) × Hp))) : vx_Met l yX7_needSquare wtX7_needSquare rtX7_needSquare (PX D dA b0 ι [.ref (ι a0)] h) QF (XQ D dA b0 ι k h') 1 6 (qA b0) := by
  unfold fX7_needSquare at hf
  refine vx_ofW (cc := cX7_needSquare) (maxL := 1) (ret := none) (by decide +kernel) rfl ?_
  intro p e s m args below meth c s₁ B hml hnoh hv
  obtain ⟨rfl, w0, xt⟩ := hv
  have hx := B.exec
  have hb := B.bytes
  have hr := B.returns
  have htx := atoms_spec (ws := wtX7_needSquare) B.pre
  have hts : ∀ w ∈ wsX7_needSquare, w.before _ s = true := fun w hw => htx w (List.mem_append_left _ hw)
  have hown : s.vm.findClass RX7 = some m.cls := findClass_of_methodNamed B.named
  have hlocks := B.notSynchronized
  have hC := w0.c
  have hK := hC.1
  have w := WD.start w0
  clear w0
  have hl := lv_entry ([.ref (ι a0)]) (n := 1) (Nat.le_of_ble_eq_true rfl)
  rw [lg_entry_eq]
  generalize (lg_sl ([.ref (ι a0)]) ++ List.replicate (1 - (lg_sl ([.ref (ι a0)])).length) Slot.unset).toArray = ls at hl ⊢
  have hl : lv_has ls 1 [(0, .ref (ι a0))] := hl
  obtain ⟨H, hH⟩ : ∃ H : Heap, H = s.heap := ⟨_, rfl⟩
  obtain ⟨locs, hlo⟩ : ∃ locs : List Loc, locs = [] := ⟨_, rfl⟩
  rw [← hlo]
  have w : WD D dA b0 ι h s.heap H locs := by rw [hH, hlo]; exact w
  refine px_start hH ?_
  refine lv_aload_n hx hb dX7_needSquare_0 rfl (lv_at hl 0 rfl) ?_
  obtain ⟨v1, ev1, hf⟩ := ob_s hf
  refine px_getI hx hb hts nX7_needSquare_X7 hown hK w ev1 rfl (by decide) mX7_needSquare_79 rfl dX7_needSquare_1 ?_
  refine lv_aload_n hx hb dX7_needSquare_4 rfl (lv_at hl 0 rfl) ?_
  obtain ⟨v2, ev2, hf⟩ := ob_s hf
  refine px_getI hx hb hts nX7_needSquare_X7 hown hK w ev2 rfl (by decide) mX7_needSquare_83 rfl dX7_needSquare_5 ?_
  refine lv_icmp_eq (tgt := 21) hx hb dX7_needSquare_8 (by decide) (fun c3 => ?_) (fun c3 => ?_)
  · have hf := if_t hf c3
    cases hf
  · have hf := if_f hf c3
    exact px_throw hx hb hl0 htx (fun w hw => List.mem_append_right _ hw) hown w xt 2 (by decide) (by decide +kernel) (by decide +kernel) (is := 196) (List.mem_of_getElem? (i := 7) rfl) (hl.1.trans hml.symm) dX7_needSquare_11 dX7_needSquare_14 dX7_needSquare_15 dX7_needSquare_17 dX7_needSquare_20 hnoh (Nat.le_of_ble_eq_true rfl) (Nat.le_of_ble_eq_true rfl) (Nat.le_of_ble_eq_true rfl) (Nat.le_of_ble_eq_true rfl) hlocks hf
theorem nX7_formCell_X7 : ∀ w ∈ wsX70, w ∈ wsX7_formCell := by decide +kernel
theorem mX7_formCell_49 : Cond.fieldLink RX7 49 "NormalForms" "formThere" "[Z" ∈ wsX7_formCell := by decide +kernel
theorem mX7_formCell_45 : Cond.fieldLink RX7 45 "NormalForms" "forms" "[LNormalForms$Matrix;" ∈ wsX7_formCell := by decide +kernel
abbrev rmX7_formCell : Room := { frames := 2, cells := 0, slots := 0, locals := 34 }
abbrev rtX7_formCell : Room := { frames := 8, cells := 1, slots := 6, locals := 125 }
abbrev wtX7_formCell : List Cond := wsX7_formCell ++ exG
set_option maxHeartbeats 4000000 in
set_option maxRecDepth 100000 in
theorem kX7_formCell (l : Launch) (D : va_G) (dA : Nat → ClassId) (b0 : Nat) (ι : Nat → Nat) (N : Nat) (a0 : Nat) (a1 : Int32) (a2 : Int32) (a3 : Int32) (h : Hp) (r : Nat) (h' : Hp) (hf : fX7_formCell N a0 a1 a2 a3 h = (some (Sum.inr r, h') : Option ((Nat ⊕ Nat) × Hp))) : Met l yX7_formCell wsX7_formCell rmX7_formCell (PC D dA b0 ι [.ref (ι a0), .int a1, .int a2, .int a3] h) (QR D dA b0 ι r h') 0 0 (qA b0) := by
  unfold fX7_formCell at hf
  refine Met.ofW (cc := cX7_formCell) (maxL := 4) (ret := (some (.object "NormalForms$Polynomial"))) (by decide +kernel) rfl ?_
  intro p e s m args below meth c s₁ B hml hv
  obtain ⟨rfl, w0⟩ := hv
  have hx := B.exec
  have hb := B.bytes
  have hr := B.returns
  have hts := atoms_spec (ws := wsX7_formCell) B.pre
  have hown : s.vm.findClass RX7 = some m.cls := findClass_of_methodNamed B.named
  have hlocks := B.notSynchronized
  have hC := w0.c
  have hK := hC.1
  have w := WD.start w0
  clear w0
  have hl := lv_entry ([.ref (ι a0), .int a1, .int a2, .int a3]) (n := 4) (Nat.le_of_ble_eq_true rfl)
  rw [lg_entry_eq]
  generalize (lg_sl ([.ref (ι a0), .int a1, .int a2, .int a3]) ++ List.replicate (4 - (lg_sl ([.ref (ι a0), .int a1, .int a2, .int a3])).length) Slot.unset).toArray = ls at hl ⊢
  have hl : lv_has ls 4 [(0, .ref (ι a0)), (1, .int a1), (2, .int a2), (3, .int a3)] := hl
  obtain ⟨H, hH⟩ : ∃ H : Heap, H = s.heap := ⟨_, rfl⟩
  obtain ⟨locs, hlo⟩ : ∃ locs : List Loc, locs = [] := ⟨_, rfl⟩
  rw [← hlo]
  have w : WD D dA b0 ι h s.heap H locs := by rw [hH, hlo]; exact w
  refine px_start hH ?_
  refine lv_aload_n hx hb dX7_formCell_0 rfl (lv_at hl 0 rfl) ?_
  refine lv_iload_n hx hb dX7_formCell_1 rfl (lv_at hl 1 rfl) ?_
  obtain ⟨u1, eu1, hf⟩ := ob_s hf
  obtain ⟨⟨q4, h3⟩, eh3, hf⟩ := ob_s hf
  try dsimp only at hf
  rcases q4 with c5 | v2
  · have hf := thr_l hf
    cases hf
  have hf := thr_r hf
  refine px_callVv (As := [.int a1]) (rest := []) ⟨hx, hb, hml, hown, hts⟩ hC w (kX7_needForm l D dA b0 ι N a0 a1 h h3 eh3) (cwV 1 hts gX7_formCell_X7_needForm rfl rfl rfl (by decide +kernel) ⟨Nat.le_of_ble_eq_true rfl, Nat.le_of_ble_eq_true rfl⟩) eu1 rfl rfl hl.1 rfl (Nat.le_of_ble_eq_true rfl) dX7_formCell_2 ⟨Nat.le_of_ble_eq_true rfl, Nat.le_of_ble_eq_true rfl⟩ (fun H locs w => ?_)
  refine lv_aload_n hx hb dX7_formCell_5 rfl (lv_at hl 0 rfl) ?_
  obtain ⟨v6, ev6, hf⟩ := ob_s hf
  refine px_getR hx hb hts nX7_formCell_X7 hown hK w ev6 rfl (by decide) mX7_formCell_49 rfl dX7_formCell_6 ?_
  refine lv_iload_n hx hb dX7_formCell_9 rfl (lv_at hl 1 rfl) ?_
  obtain ⟨v7, ev7, hf⟩ := ob_s hf
  refine px_zald hx hb hK w ev7 dX7_formCell_10 ?_
  refine lv_if_ne (tgt := 24) hx hb dX7_formCell_11 (by decide) (fun c8 => ?_) (fun c8 => ?_)
  · have hf := if_f hf c8
    refine lv_aload_n hx hb dX7_formCell_24 rfl (lv_at hl 0 rfl) ?_
    refine lv_iload_n hx hb dX7_formCell_25 rfl (lv_at hl 2 rfl) ?_
    refine lv_iload_n hx hb dX7_formCell_26 rfl (lv_at hl 3 rfl) ?_
    obtain ⟨u9, eu9, hf⟩ := ob_s hf
    obtain ⟨⟨q12, h11⟩, eh11, hf⟩ := ob_s hf
    try dsimp only at hf
    rcases q12 with c13 | v10
    · have hf := thr_l hf
      cases hf
    have hf := thr_r hf
    refine px_callVv (As := [.int a2, .int a3]) (rest := []) ⟨hx, hb, hml, hown, hts⟩ hC w (kX7_needCell l D dA b0 ι N a0 a2 a3 h3 h11 eh11) (cwV 2 hts gX7_formCell_X7_needCell rfl rfl rfl (by decide +kernel) ⟨Nat.le_of_ble_eq_true rfl, Nat.le_of_ble_eq_true rfl⟩) eu9 rfl rfl hl.1 rfl (Nat.le_of_ble_eq_true rfl) dX7_formCell_27 ⟨Nat.le_of_ble_eq_true rfl, Nat.le_of_ble_eq_true rfl⟩ (fun H locs w => ?_)
    refine lv_aload_n hx hb dX7_formCell_30 rfl (lv_at hl 0 rfl) ?_
    obtain ⟨v14, ev14, hf⟩ := ob_s hf
    refine px_getR hx hb hts nX7_formCell_X7 hown hK w ev14 rfl (by decide) mX7_formCell_45 rfl dX7_formCell_31 ?_
    refine lv_iload_n hx hb dX7_formCell_34 rfl (lv_at hl 1 rfl) ?_
    obtain ⟨v15, ev15, hf⟩ := ob_s hf
    refine px_rald hx hb hK w ev15 rfl dX7_formCell_35 ?_
    refine lv_iload_n hx hb dX7_formCell_36 rfl (lv_at hl 2 rfl) ?_
    refine lv_iload_n hx hb dX7_formCell_37 rfl (lv_at hl 3 rfl) ?_
    obtain ⟨u18, eu18, hf⟩ := ob_s hf
    obtain ⟨⟨v16, h17⟩, eh17, hf⟩ := ob_s hf
    dsimp only at hf
    refine px_callVr (As := [.int a2, .int a3]) (rest := []) ⟨hx, hb, hml, hown, hts⟩ hC w (kX2_cell l D dA b0 ι N v15 a2 a3 h11 v16 h17 eh17) (cwV 2 hts gX7_formCell_X2_cell rfl rfl rfl (by decide +kernel) ⟨Nat.le_of_ble_eq_true rfl, Nat.le_of_ble_eq_true rfl⟩) eu18 rfl rfl hl.1 rfl (Nat.le_of_ble_eq_true rfl) dX7_formCell_38 ⟨Nat.le_of_ble_eq_true rfl, Nat.le_of_ble_eq_true rfl⟩ (fun H locs w => ?_)
    exact W.aret hx hb hr (Or.inl ⟨_, rfl⟩) (Or.inr ⟨_, rfl⟩) (qr_end (inr_s hf) w hC) w.locs_ok dX7_formCell_41
  · have hf := if_t hf c8
    cases hf
set_option maxHeartbeats 4000000 in
set_option maxRecDepth 100000 in
theorem tX7_formCell (l : Launch) (hl0 : l.stackTraces = false) (D : va_G) (dA : Nat → ClassId) (b0 : Nat) (ι : Nat → Nat) (N : Nat) (a0 : Nat) (a1 : Int32) (a2 : Int32) (a3 : Int32) (h : Hp) (k : Nat) (h' : Hp) (hf : fX7_formCell N a0 a1 a2 a3 h = (some (Sum.inl k, h') : Option ((Nat ⊕ Nat) × Hp))) : vx_Met l yX7_formCell wtX7_formCell rtX7_formCell (PX D dA b0 ι [.ref (ι a0), .int a1, .int a2, .int a3] h) QF (XQ D dA b0 ι k h') 1 6 (qA b0) := by
  unfold fX7_formCell at hf
  refine vx_ofW (cc := cX7_formCell) (maxL := 4) (ret := (some (.object "NormalForms$Polynomial"))) (by decide +kernel) rfl ?_
  intro p e s m args below meth c s₁ B hml hnoh hv
  obtain ⟨rfl, w0, xt⟩ := hv
  have hx := B.exec
  have hb := B.bytes
  have hr := B.returns
  have htx := atoms_spec (ws := wtX7_formCell) B.pre
  have hts : ∀ w ∈ wsX7_formCell, w.before _ s = true := fun w hw => htx w (List.mem_append_left _ hw)
  have hown : s.vm.findClass RX7 = some m.cls := findClass_of_methodNamed B.named
  have hlocks := B.notSynchronized
  have hC := w0.c
  have hK := hC.1
  have w := WD.start w0
  clear w0
  have hl := lv_entry ([.ref (ι a0), .int a1, .int a2, .int a3]) (n := 4) (Nat.le_of_ble_eq_true rfl)
  rw [lg_entry_eq]
  generalize (lg_sl ([.ref (ι a0), .int a1, .int a2, .int a3]) ++ List.replicate (4 - (lg_sl ([.ref (ι a0), .int a1, .int a2, .int a3])).length) Slot.unset).toArray = ls at hl ⊢
  have hl : lv_has ls 4 [(0, .ref (ι a0)), (1, .int a1), (2, .int a2), (3, .int a3)] := hl
  obtain ⟨H, hH⟩ : ∃ H : Heap, H = s.heap := ⟨_, rfl⟩
  obtain ⟨locs, hlo⟩ : ∃ locs : List Loc, locs = [] := ⟨_, rfl⟩
  rw [← hlo]
  have w : WD D dA b0 ι h s.heap H locs := by rw [hH, hlo]; exact w
  refine px_start hH ?_
  refine lv_aload_n hx hb dX7_formCell_0 rfl (lv_at hl 0 rfl) ?_
  refine lv_iload_n hx hb dX7_formCell_1 rfl (lv_at hl 1 rfl) ?_
  obtain ⟨u1, eu1, hf⟩ := ob_s hf
  obtain ⟨⟨q4, h3⟩, eh3, hf⟩ := ob_s hf
  try dsimp only at hf
  rcases q4 with c5 | v2
  · have hf := thr_l hf
    exact px_tcall (As := [.int a1]) (rest := []) ⟨hx, hb, hml, hown, htx⟩ hC xt w (tX7_needForm l hl0 D dA b0 ι N a0 a1 h c5 h3 eh3) (cwV 1 htx (gx_V gX7_formCell_X7_needForm exG_good) rfl rfl rfl (by decide +kernel) ⟨Nat.le_of_ble_eq_true rfl, Nat.le_of_ble_eq_true rfl⟩) eu1 rfl rfl hl.1 rfl (Nat.le_of_ble_eq_true rfl) dX7_formCell_2 ⟨Nat.le_of_ble_eq_true rfl, Nat.le_of_ble_eq_true rfl⟩ hnoh hlocks (inl_s hf)
  have hf := thr_r hf
  refine px_callVv (As := [.int a1]) (rest := []) ⟨hx, hb, hml, hown, hts⟩ hC w (kX7_needForm l D dA b0 ι N a0 a1 h h3 eh3) (cwV 1 hts gX7_formCell_X7_needForm rfl rfl rfl (by decide +kernel) ⟨Nat.le_of_ble_eq_true rfl, Nat.le_of_ble_eq_true rfl⟩) eu1 rfl rfl hl.1 rfl (Nat.le_of_ble_eq_true rfl) dX7_formCell_2 ⟨Nat.le_of_ble_eq_true rfl, Nat.le_of_ble_eq_true rfl⟩ (fun H locs w => ?_)
  refine lv_aload_n hx hb dX7_formCell_5 rfl (lv_at hl 0 rfl) ?_
  obtain ⟨v6, ev6, hf⟩ := ob_s hf
  refine px_getR hx hb hts nX7_formCell_X7 hown hK w ev6 rfl (by decide) mX7_formCell_49 rfl dX7_formCell_6 ?_
  refine lv_iload_n hx hb dX7_formCell_9 rfl (lv_at hl 1 rfl) ?_
  obtain ⟨v7, ev7, hf⟩ := ob_s hf
  refine px_zald hx hb hK w ev7 dX7_formCell_10 ?_
  refine lv_if_ne (tgt := 24) hx hb dX7_formCell_11 (by decide) (fun c8 => ?_) (fun c8 => ?_)
  · have hf := if_f hf c8
    refine lv_aload_n hx hb dX7_formCell_24 rfl (lv_at hl 0 rfl) ?_
    refine lv_iload_n hx hb dX7_formCell_25 rfl (lv_at hl 2 rfl) ?_
    refine lv_iload_n hx hb dX7_formCell_26 rfl (lv_at hl 3 rfl) ?_
    obtain ⟨u9, eu9, hf⟩ := ob_s hf
    obtain ⟨⟨q12, h11⟩, eh11, hf⟩ := ob_s hf
    try dsimp only at hf
    rcases q12 with c13 | v10
    · have hf := thr_l hf
      exact px_tcall (As := [.int a2, .int a3]) (rest := []) ⟨hx, hb, hml, hown, htx⟩ hC xt w (tX7_needCell l hl0 D dA b0 ι N a0 a2 a3 h3 c13 h11 eh11) (cwV 2 htx (gx_V gX7_formCell_X7_needCell exG_good) rfl rfl rfl (by decide +kernel) ⟨Nat.le_of_ble_eq_true rfl, Nat.le_of_ble_eq_true rfl⟩) eu9 rfl rfl hl.1 rfl (Nat.le_of_ble_eq_true rfl) dX7_formCell_27 ⟨Nat.le_of_ble_eq_true rfl, Nat.le_of_ble_eq_true rfl⟩ hnoh hlocks (inl_s hf)
    have hf := thr_r hf
    refine px_callVv (As := [.int a2, .int a3]) (rest := []) ⟨hx, hb, hml, hown, hts⟩ hC w (kX7_needCell l D dA b0 ι N a0 a2 a3 h3 h11 eh11) (cwV 2 hts gX7_formCell_X7_needCell rfl rfl rfl (by decide +kernel) ⟨Nat.le_of_ble_eq_true rfl, Nat.le_of_ble_eq_true rfl⟩) eu9 rfl rfl hl.1 rfl (Nat.le_of_ble_eq_true rfl) dX7_formCell_27 ⟨Nat.le_of_ble_eq_true rfl, Nat.le_of_ble_eq_true rfl⟩ (fun H locs w => ?_)
    refine lv_aload_n hx hb dX7_formCell_30 rfl (lv_at hl 0 rfl) ?_
    obtain ⟨v14, ev14, hf⟩ := ob_s hf
    refine px_getR hx hb hts nX7_formCell_X7 hown hK w ev14 rfl (by decide) mX7_formCell_45 rfl dX7_formCell_31 ?_
    refine lv_iload_n hx hb dX7_formCell_34 rfl (lv_at hl 1 rfl) ?_
    obtain ⟨v15, ev15, hf⟩ := ob_s hf
    refine px_rald hx hb hK w ev15 rfl dX7_formCell_35 ?_
    refine lv_iload_n hx hb dX7_formCell_36 rfl (lv_at hl 2 rfl) ?_
    refine lv_iload_n hx hb dX7_formCell_37 rfl (lv_at hl 3 rfl) ?_
    obtain ⟨u18, eu18, hf⟩ := ob_s hf
    obtain ⟨⟨v16, h17⟩, eh17, hf⟩ := ob_s hf
    dsimp only at hf
    refine px_callVr (As := [.int a2, .int a3]) (rest := []) ⟨hx, hb, hml, hown, hts⟩ hC w (kX2_cell l D dA b0 ι N v15 a2 a3 h11 v16 h17 eh17) (cwV 2 hts gX7_formCell_X2_cell rfl rfl rfl (by decide +kernel) ⟨Nat.le_of_ble_eq_true rfl, Nat.le_of_ble_eq_true rfl⟩) eu18 rfl rfl hl.1 rfl (Nat.le_of_ble_eq_true rfl) dX7_formCell_38 ⟨Nat.le_of_ble_eq_true rfl, Nat.le_of_ble_eq_true rfl⟩ (fun H locs w => ?_)
    cases hf
  · have hf := if_t hf c8
    exact px_throw hx hb hl0 htx (fun w hw => List.mem_append_right _ hw) hown w xt 2 (by decide) (by decide +kernel) (by decide +kernel) (is := 199) (List.mem_of_getElem? (i := 8) rfl) (hl.1.trans hml.symm) dX7_formCell_14 dX7_formCell_17 dX7_formCell_18 dX7_formCell_20 dX7_formCell_23 hnoh (Nat.le_of_ble_eq_true rfl) (Nat.le_of_ble_eq_true rfl) (Nat.le_of_ble_eq_true rfl) (Nat.le_of_ble_eq_true rfl) hlocks hf
theorem nX7_size_X7 : ∀ w ∈ wsX70, w ∈ wsX7_size := by decide +kernel
theorem mX7_size_79 : Cond.fieldLink RX7 79 "NormalForms" "rowCount" "I" ∈ wsX7_size := by decide +kernel
theorem mX7_size_83 : Cond.fieldLink RX7 83 "NormalForms" "columnCount" "I" ∈ wsX7_size := by decide +kernel
theorem mX7_size_14 : Cond.fieldLink RX7 14 "NormalForms" "entries" "LNormalForms$Matrix;" ∈ wsX7_size := by decide +kernel
abbrev rmX7_size : Room := { frames := 4, cells := 0, slots := 0, locals := 75 }
abbrev rtX7_size : Room := { frames := 6, cells := 1, slots := 6, locals := 90 }
abbrev wtX7_size : List Cond := wsX7_size ++ exG
set_option maxHeartbeats 4000000 in
set_option maxRecDepth 100000 in
theorem kX7_size (l : Launch) (D : va_G) (dA : Nat → ClassId) (b0 : Nat) (ι : Nat → Nat) (N : Nat) (a0 : Nat) (a1 : Int32) (a2 : Int32) (h : Hp) (h' : Hp) (hf : fX7_size N a0 a1 a2 h = (some (Sum.inr (), h') : Option ((Nat ⊕ Unit) × Hp))) : Met l yX7_size wsX7_size rmX7_size (PC D dA b0 ι [.ref (ι a0), .int a1, .int a2] h) (QV D dA b0 ι h') 0 0 (qA b0) := by
  unfold fX7_size at hf
  refine Met.ofW (cc := cX7_size) (maxL := 3) (ret := none) (by decide +kernel) rfl ?_
  intro p e s m args below meth c s₁ B hml hv
  obtain ⟨rfl, w0⟩ := hv
  have hx := B.exec
  have hb := B.bytes
  have hr := B.returns
  have hts := atoms_spec (ws := wsX7_size) B.pre
  have hown : s.vm.findClass RX7 = some m.cls := findClass_of_methodNamed B.named
  have hlocks := B.notSynchronized
  have hC := w0.c
  have hK := hC.1
  have w := WD.start w0
  clear w0
  have hl := lv_entry ([.ref (ι a0), .int a1, .int a2]) (n := 3) (Nat.le_of_ble_eq_true rfl)
  rw [lg_entry_eq]
  generalize (lg_sl ([.ref (ι a0), .int a1, .int a2]) ++ List.replicate (3 - (lg_sl ([.ref (ι a0), .int a1, .int a2])).length) Slot.unset).toArray = ls at hl ⊢
  have hl : lv_has ls 3 [(0, .ref (ι a0)), (1, .int a1), (2, .int a2)] := hl
  obtain ⟨H, hH⟩ : ∃ H : Heap, H = s.heap := ⟨_, rfl⟩
  obtain ⟨locs, hlo⟩ : ∃ locs : List Loc, locs = [] := ⟨_, rfl⟩
  rw [← hlo]
  have w : WD D dA b0 ι h s.heap H locs := by rw [hH, hlo]; exact w
  refine px_start hH ?_
  refine lv_iload_n hx hb dX7_size_0 rfl (lv_at hl 1 rfl) ?_
  have hj8 : ∀ (h2 : Hp) (H : Heap) (locs : List Loc) (ls : Array Slot), (some (Sum.inl 0, h2)) = (some (Sum.inr (), h') : Option ((Nat ⊕ Unit) × Hp)) → lv_has ls 3 [(0, .ref (ι a0)), (1, .int a1), (2, .int a2)] → WD D dA b0 ι h2 s.heap H locs → W p l e (headSpec wsX7_size rmX7_size).room s m ([.ref (ι a0), .int a1, .int a2] : List Value).toArray below meth c H locs 0 0 (MQ below (QV D dA b0 ι h') ([.ref (ι a0), .int a1, .int a2] : List Value).toArray s 0 0 (qA b0)) (F0 m 8 ls []) := by
    intro h2 H locs ls hf hl w
    cases hf
  obtain ⟨j1, ej1, hf⟩ := jn_s hf
  refine lv_if_lt (tgt := 8) hx hb dX7_size_1 (by decide) (fun c3 => ?_) (fun c3 => ?_)
  · have hf := if_t hf c3
    exact hj8 h H locs ls (by rw [ej1] at hf; exact hf) (lv_sub hl [0, 1, 2] rfl) w
  · have hf := if_f hf c3
    refine lv_iload_n hx hb dX7_size_4 rfl (lv_at hl 2 rfl) ?_
    refine lv_if_ge (tgt := 18) hx hb dX7_size_5 (by decide) (fun c4 => ?_) (fun c4 => ?_)
    · have hf := if_t hf c4
      refine lv_iload_n hx hb dX7_size_18 rfl (lv_at hl 1 rfl) ?_
      refine lv_iconst (v := (4 : Int32)) hx hb dX7_size_19 (by decide) ?_
      have hj28 : ∀ (h6 : Hp) (H : Heap) (locs : List Loc) (ls : Array Slot), (some (Sum.inl 1, h6)) = (some (Sum.inr (), h') : Option ((Nat ⊕ Unit) × Hp)) → lv_has ls 3 [(0, .ref (ι a0)), (1, .int a1), (2, .int a2)] → WD D dA b0 ι h6 s.heap H locs → W p l e (headSpec wsX7_size rmX7_size).room s m ([.ref (ι a0), .int a1, .int a2] : List Value).toArray below meth c H locs 0 0 (MQ below (QV D dA b0 ι h') ([.ref (ι a0), .int a1, .int a2] : List Value).toArray s 0 0 (qA b0)) (F0 m 28 ls []) := by
        intro h6 H locs ls hf hl w
        cases hf
      obtain ⟨j5, ej5, hf⟩ := jn_s hf
      refine lv_icmp_gt (tgt := 28) hx hb dX7_size_20 (by decide) (fun c7 => ?_) (fun c7 => ?_)
      · have hf := if_t hf c7
        exact hj28 h H locs ls (by rw [ej5] at hf; exact hf) (lv_sub hl [0, 1, 2] rfl) w
      · have hf := if_f hf c7
        refine lv_iload_n hx hb dX7_size_23 rfl (lv_at hl 2 rfl) ?_
        refine lv_iconst (v := (4 : Int32)) hx hb dX7_size_24 (by decide) ?_
        refine lv_icmp_le (tgt := 38) hx hb dX7_size_25 (by decide) (fun c8 => ?_) (fun c8 => ?_)
        · have hf := if_t hf c8
          refine lv_aload_n hx hb dX7_size_38 rfl (lv_at hl 0 rfl) ?_
          refine lv_iload_n hx hb dX7_size_39 rfl (lv_at hl 1 rfl) ?_
          obtain ⟨h9, eh9, hf⟩ := ob_s hf
          refine px_put hx hb hts nX7_size_X7 tyX7 tyX7_ok nmX7 hown hK w eh9 rfl (by decide) mX7_size_79 rfl rfl rfl rfl dX7_size_40 rfl (fun H locs w => ?_)
          refine lv_aload_n hx hb dX7_size_43 rfl (lv_at hl 0 rfl) ?_
          refine lv_iload_n hx hb dX7_size_44 rfl (lv_at hl 2 rfl) ?_
          obtain ⟨h10, eh10, hf⟩ := ob_s hf
          refine px_put hx hb hts nX7_size_X7 tyX7 tyX7_ok nmX7 hown hK w eh10 rfl (by decide) mX7_size_83 rfl rfl rfl rfl dX7_size_45 rfl (fun H locs w => ?_)
          refine lv_aload_n hx hb dX7_size_48 rfl (lv_at hl 0 rfl) ?_
          obtain ⟨v11, ev11, hf⟩ := ob_s hf
          refine px_getR hx hb hts nX7_size_X7 hown hK w ev11 rfl (by decide) mX7_size_14 rfl dX7_size_49 ?_
          obtain ⟨u14, eu14, hf⟩ := ob_s hf
          obtain ⟨h13, eh13, hf⟩ := ob_s hf
          refine px_callVv (As := []) (rest := []) ⟨hx, hb, hml, hown, hts⟩ hC w (kX2_clear l D dA b0 ι N v11 h10 h13 eh13) (cwV 0 hts gX7_size_X2_clear rfl rfl rfl (by decide +kernel) ⟨Nat.le_of_ble_eq_true rfl, Nat.le_of_ble_eq_true rfl⟩) eu14 rfl rfl hl.1 rfl (Nat.le_of_ble_eq_true rfl) dX7_size_52 ⟨Nat.le_of_ble_eq_true rfl, Nat.le_of_ble_eq_true rfl⟩ (fun H locs w => ?_)
          refine lv_aload_n hx hb dX7_size_55 rfl (lv_at hl 0 rfl) ?_
          obtain ⟨u17, eu17, hf⟩ := ob_s hf
          obtain ⟨h16, eh16, hf⟩ := ob_s hf
          refine px_callVv (As := []) (rest := []) ⟨hx, hb, hml, hown, hts⟩ hC w (kX7_forgetEntries l D dA b0 ι N a0 h13 h16 eh16) (cwV 0 hts gX7_size_X7_forgetEntries rfl rfl rfl (by decide +kernel) ⟨Nat.le_of_ble_eq_true rfl, Nat.le_of_ble_eq_true rfl⟩) eu17 rfl rfl hl.1 rfl (Nat.le_of_ble_eq_true rfl) dX7_size_56 ⟨Nat.le_of_ble_eq_true rfl, Nat.le_of_ble_eq_true rfl⟩ (fun H locs w => ?_)
          refine lv_aload_n hx hb dX7_size_59 rfl (lv_at hl 0 rfl) ?_
          obtain ⟨u20, eu20, hf⟩ := ob_s hf
          obtain ⟨h19, eh19, hf⟩ := ob_s hf
          refine px_callVv (As := []) (rest := []) ⟨hx, hb, hml, hown, hts⟩ hC w (kX7_forgetNumbers l D dA b0 ι N a0 h16 h19 eh19) (cwV 0 hts gX7_size_X7_forgetNumbers rfl rfl rfl (by decide +kernel) ⟨Nat.le_of_ble_eq_true rfl, Nat.le_of_ble_eq_true rfl⟩) eu20 rfl rfl hl.1 rfl (Nat.le_of_ble_eq_true rfl) dX7_size_60 ⟨Nat.le_of_ble_eq_true rfl, Nat.le_of_ble_eq_true rfl⟩ (fun H locs w => ?_)
          exact W.vret hx hb hr (qv_end (inr_v hf) w hC) w.locs_ok dX7_size_63
        · have hf := if_f hf c8
          exact hj28 h H locs ls (by rw [ej5] at hf; exact hf) (lv_sub hl [0, 1, 2] rfl) w
    · have hf := if_f hf c4
      exact hj8 h H locs ls (by rw [ej1] at hf; exact hf) (lv_sub hl [0, 1, 2] rfl) w
set_option maxHeartbeats 4000000 in
set_option maxRecDepth 100000 in
theorem tX7_size (l : Launch) (hl0 : l.stackTraces = false) (D : va_G) (dA : Nat → ClassId) (b0 : Nat) (ι : Nat → Nat) (N : Nat) (a0 : Nat) (a1 : Int32) (a2 : Int32) (h : Hp) (k : Nat) (h' : Hp) (hf : fX7_size N a0 a1 a2 h = (some (Sum.inl k, h') : Option ((Nat ⊕ Unit) × Hp))) : vx_Met l yX7_size wtX7_size rtX7_size (PX D dA b0 ι [.ref (ι a0), .int a1, .int a2] h) QF (XQ D dA b0 ι k h') 1 6 (qA b0) := by
  unfold fX7_size at hf
  refine vx_ofW (cc := cX7_size) (maxL := 3) (ret := none) (by decide +kernel) rfl ?_
  intro p e s m args below meth c s₁ B hml hnoh hv
  obtain ⟨rfl, w0, xt⟩ := hv
  have hx := B.exec
  have hb := B.bytes
  have hr := B.returns
  have htx := atoms_spec (ws := wtX7_size) B.pre
  have hts : ∀ w ∈ wsX7_size, w.before _ s = true := fun w hw => htx w (List.mem_append_left _ hw)
  have hown : s.vm.findClass RX7 = some m.cls := findClass_of_methodNamed B.named
  have hlocks := B.notSynchronized
  have hC := w0.c
  have hK := hC.1
  have w := WD.start w0
  clear w0
  have hl := lv_entry ([.ref (ι a0), .int a1, .int a2]) (n := 3) (Nat.le_of_ble_eq_true rfl)
  rw [lg_entry_eq]
  generalize (lg_sl ([.ref (ι a0), .int a1, .int a2]) ++ List.replicate (3 - (lg_sl ([.ref (ι a0), .int a1, .int a2])).length) Slot.unset).toArray = ls at hl ⊢
  have hl : lv_has ls 3 [(0, .ref (ι a0)), (1, .int a1), (2, .int a2)] := hl
  obtain ⟨H, hH⟩ : ∃ H : Heap, H = s.heap := ⟨_, rfl⟩
  obtain ⟨locs, hlo⟩ : ∃ locs : List Loc, locs = [] := ⟨_, rfl⟩
  rw [← hlo]
  have w : WD D dA b0 ι h s.heap H locs := by rw [hH, hlo]; exact w
  refine px_start hH ?_
  refine lv_iload_n hx hb dX7_size_0 rfl (lv_at hl 1 rfl) ?_
  have hj8 : ∀ (h2 : Hp) (H : Heap) (locs : List Loc) (ls : Array Slot), (some (Sum.inl 0, h2)) = (some (Sum.inl k, h') : Option ((Nat ⊕ Unit) × Hp)) → lv_has ls 3 [(0, .ref (ι a0)), (1, .int a1), (2, .int a2)] → WD D dA b0 ι h2 s.heap H locs → W p l e (headSpec wtX7_size rtX7_size).room s m ([.ref (ι a0), .int a1, .int a2] : List Value).toArray below meth c H locs 0 0 (vx_MQ below QF (XQ D dA b0 ι k h') ([.ref (ι a0), .int a1, .int a2] : List Value).toArray s 1 6 (qA b0)) (F0 m 8 ls []) := by
    intro h2 H locs ls hf hl w
    exact px_throw hx hb hl0 htx (fun w hw => List.mem_append_right _ hw) hown w xt 0 (by decide) (by decide +kernel) (by decide +kernel) (is := 69) (List.mem_of_getElem? (i := 0) rfl) (hl.1.trans hml.symm) dX7_size_8 dX7_size_11 dX7_size_12 dX7_size_14 dX7_size_17 hnoh (Nat.le_of_ble_eq_true rfl) (Nat.le_of_ble_eq_true rfl) (Nat.le_of_ble_eq_true rfl) (Nat.le_of_ble_eq_true rfl) hlocks hf
  obtain ⟨j1, ej1, hf⟩ := jn_s hf
  refine lv_if_lt (tgt := 8) hx hb dX7_size_1 (by decide) (fun c3 => ?_) (fun c3 => ?_)
  · have hf := if_t hf c3
    exact hj8 h H locs ls (by rw [ej1] at hf; exact hf) (lv_sub hl [0, 1, 2] rfl) w
  · have hf := if_f hf c3
    refine lv_iload_n hx hb dX7_size_4 rfl (lv_at hl 2 rfl) ?_
    refine lv_if_ge (tgt := 18) hx hb dX7_size_5 (by decide) (fun c4 => ?_) (fun c4 => ?_)
    · have hf := if_t hf c4
      refine lv_iload_n hx hb dX7_size_18 rfl (lv_at hl 1 rfl) ?_
      refine lv_iconst (v := (4 : Int32)) hx hb dX7_size_19 (by decide) ?_
      have hj28 : ∀ (h6 : Hp) (H : Heap) (locs : List Loc) (ls : Array Slot), (some (Sum.inl 1, h6)) = (some (Sum.inl k, h') : Option ((Nat ⊕ Unit) × Hp)) → lv_has ls 3 [(0, .ref (ι a0)), (1, .int a1), (2, .int a2)] → WD D dA b0 ι h6 s.heap H locs → W p l e (headSpec wtX7_size rtX7_size).room s m ([.ref (ι a0), .int a1, .int a2] : List Value).toArray below meth c H locs 0 0 (vx_MQ below QF (XQ D dA b0 ι k h') ([.ref (ι a0), .int a1, .int a2] : List Value).toArray s 1 6 (qA b0)) (F0 m 28 ls []) := by
        intro h6 H locs ls hf hl w
        exact px_throw hx hb hl0 htx (fun w hw => List.mem_append_right _ hw) hown w xt 1 (by decide) (by decide +kernel) (by decide +kernel) (is := 76) (List.mem_of_getElem? (i := 1) rfl) (hl.1.trans hml.symm) dX7_size_28 dX7_size_31 dX7_size_32 dX7_size_34 dX7_size_37 hnoh (Nat.le_of_ble_eq_true rfl) (Nat.le_of_ble_eq_true rfl) (Nat.le_of_ble_eq_true rfl) (Nat.le_of_ble_eq_true rfl) hlocks hf
      obtain ⟨j5, ej5, hf⟩ := jn_s hf
      refine lv_icmp_gt (tgt := 28) hx hb dX7_size_20 (by decide) (fun c7 => ?_) (fun c7 => ?_)
      · have hf := if_t hf c7
        exact hj28 h H locs ls (by rw [ej5] at hf; exact hf) (lv_sub hl [0, 1, 2] rfl) w
      · have hf := if_f hf c7
        refine lv_iload_n hx hb dX7_size_23 rfl (lv_at hl 2 rfl) ?_
        refine lv_iconst (v := (4 : Int32)) hx hb dX7_size_24 (by decide) ?_
        refine lv_icmp_le (tgt := 38) hx hb dX7_size_25 (by decide) (fun c8 => ?_) (fun c8 => ?_)
        · have hf := if_t hf c8
          refine lv_aload_n hx hb dX7_size_38 rfl (lv_at hl 0 rfl) ?_
          refine lv_iload_n hx hb dX7_size_39 rfl (lv_at hl 1 rfl) ?_
          obtain ⟨h9, eh9, hf⟩ := ob_s hf
          refine px_put hx hb hts nX7_size_X7 tyX7 tyX7_ok nmX7 hown hK w eh9 rfl (by decide) mX7_size_79 rfl rfl rfl rfl dX7_size_40 rfl (fun H locs w => ?_)
          refine lv_aload_n hx hb dX7_size_43 rfl (lv_at hl 0 rfl) ?_
          refine lv_iload_n hx hb dX7_size_44 rfl (lv_at hl 2 rfl) ?_
          obtain ⟨h10, eh10, hf⟩ := ob_s hf
          refine px_put hx hb hts nX7_size_X7 tyX7 tyX7_ok nmX7 hown hK w eh10 rfl (by decide) mX7_size_83 rfl rfl rfl rfl dX7_size_45 rfl (fun H locs w => ?_)
          refine lv_aload_n hx hb dX7_size_48 rfl (lv_at hl 0 rfl) ?_
          obtain ⟨v11, ev11, hf⟩ := ob_s hf
          refine px_getR hx hb hts nX7_size_X7 hown hK w ev11 rfl (by decide) mX7_size_14 rfl dX7_size_49 ?_
          obtain ⟨u14, eu14, hf⟩ := ob_s hf
          obtain ⟨h13, eh13, hf⟩ := ob_s hf
          refine px_callVv (As := []) (rest := []) ⟨hx, hb, hml, hown, hts⟩ hC w (kX2_clear l D dA b0 ι N v11 h10 h13 eh13) (cwV 0 hts gX7_size_X2_clear rfl rfl rfl (by decide +kernel) ⟨Nat.le_of_ble_eq_true rfl, Nat.le_of_ble_eq_true rfl⟩) eu14 rfl rfl hl.1 rfl (Nat.le_of_ble_eq_true rfl) dX7_size_52 ⟨Nat.le_of_ble_eq_true rfl, Nat.le_of_ble_eq_true rfl⟩ (fun H locs w => ?_)
          refine lv_aload_n hx hb dX7_size_55 rfl (lv_at hl 0 rfl) ?_
          obtain ⟨u17, eu17, hf⟩ := ob_s hf
          obtain ⟨h16, eh16, hf⟩ := ob_s hf
          refine px_callVv (As := []) (rest := []) ⟨hx, hb, hml, hown, hts⟩ hC w (kX7_forgetEntries l D dA b0 ι N a0 h13 h16 eh16) (cwV 0 hts gX7_size_X7_forgetEntries rfl rfl rfl (by decide +kernel) ⟨Nat.le_of_ble_eq_true rfl, Nat.le_of_ble_eq_true rfl⟩) eu17 rfl rfl hl.1 rfl (Nat.le_of_ble_eq_true rfl) dX7_size_56 ⟨Nat.le_of_ble_eq_true rfl, Nat.le_of_ble_eq_true rfl⟩ (fun H locs w => ?_)
          refine lv_aload_n hx hb dX7_size_59 rfl (lv_at hl 0 rfl) ?_
          obtain ⟨u20, eu20, hf⟩ := ob_s hf
          obtain ⟨h19, eh19, hf⟩ := ob_s hf
          refine px_callVv (As := []) (rest := []) ⟨hx, hb, hml, hown, hts⟩ hC w (kX7_forgetNumbers l D dA b0 ι N a0 h16 h19 eh19) (cwV 0 hts gX7_size_X7_forgetNumbers rfl rfl rfl (by decide +kernel) ⟨Nat.le_of_ble_eq_true rfl, Nat.le_of_ble_eq_true rfl⟩) eu20 rfl rfl hl.1 rfl (Nat.le_of_ble_eq_true rfl) dX7_size_60 ⟨Nat.le_of_ble_eq_true rfl, Nat.le_of_ble_eq_true rfl⟩ (fun H locs w => ?_)
          cases hf
        · have hf := if_f hf c8
          exact hj28 h H locs ls (by rw [ej5] at hf; exact hf) (lv_sub hl [0, 1, 2] rfl) w
    · have hf := if_f hf c4
      exact hj8 h H locs ls (by rw [ej1] at hf; exact hf) (lv_sub hl [0, 1, 2] rfl) w
theorem nX7_put_X7 : ∀ w ∈ wsX70, w ∈ wsX7_put := by decide +kernel
theorem mX7_put_14 : Cond.fieldLink RX7 14 "NormalForms" "entries" "LNormalForms$Matrix;" ∈ wsX7_put := by decide +kernel
abbrev rmX7_put : Room := { frames := 3, cells := 0, slots := 0, locals := 57 }
abbrev rtX7_put : Room := { frames := 9, cells := 1, slots := 6, locals := 148 }
abbrev wtX7_put : List Cond := wsX7_put ++ exG
set_option maxHeartbeats 4000000 in
set_option maxRecDepth 100000 in
theorem kX7_put (l : Launch) (D : va_G) (dA : Nat → ClassId) (b0 : Nat) (ι : Nat → Nat) (N : Nat) (a0 : Nat) (a1 : Int32) (a2 : Int32) (a3 : Int32) (a4 : Int32) (h : Hp) (r : Int32) (h' : Hp) (hf : fX7_put N a0 a1 a2 a3 a4 h = (some (Sum.inr r, h') : Option ((Nat ⊕ Int32) × Hp))) : Met l yX7_put wsX7_put rmX7_put (PC D dA b0 ι [.ref (ι a0), .int a1, .int a2, .int a3, .int a4] h) (QI D dA b0 ι r h') 0 0 (qA b0) := by
  unfold fX7_put at hf
  refine Met.ofW (cc := cX7_put) (maxL := 7) (ret := (some .boolean)) (by decide +kernel) rfl ?_
  intro p e s m args below meth c s₁ B hml hv
  obtain ⟨rfl, w0⟩ := hv
  have hx := B.exec
  have hb := B.bytes
  have hr := B.returns
  have hts := atoms_spec (ws := wsX7_put) B.pre
  have hown : s.vm.findClass RX7 = some m.cls := findClass_of_methodNamed B.named
  have hlocks := B.notSynchronized
  have hC := w0.c
  have hK := hC.1
  have w := WD.start w0
  clear w0
  have hl := lv_entry ([.ref (ι a0), .int a1, .int a2, .int a3, .int a4]) (n := 7) (Nat.le_of_ble_eq_true rfl)
  rw [lg_entry_eq]
  generalize (lg_sl ([.ref (ι a0), .int a1, .int a2, .int a3, .int a4]) ++ List.replicate (7 - (lg_sl ([.ref (ι a0), .int a1, .int a2, .int a3, .int a4])).length) Slot.unset).toArray = ls at hl ⊢
  have hl : lv_has ls 7 [(0, .ref (ι a0)), (1, .int a1), (2, .int a2), (3, .int a3), (4, .int a4)] := hl
  obtain ⟨H, hH⟩ : ∃ H : Heap, H = s.heap := ⟨_, rfl⟩
  obtain ⟨locs, hlo⟩ : ∃ locs : List Loc, locs = [] := ⟨_, rfl⟩
  rw [← hlo]
  have w : WD D dA b0 ι h s.heap H locs := by rw [hH, hlo]; exact w
  refine px_start hH ?_
  refine lv_aload_n hx hb dX7_put_0 rfl (lv_at hl 0 rfl) ?_
  refine lv_iload_n hx hb dX7_put_1 rfl (lv_at hl 1 rfl) ?_
  refine lv_iload_n hx hb dX7_put_2 rfl (lv_at hl 2 rfl) ?_
  refine lv_iload_n hx hb dX7_put_3 rfl (lv_at hl 3 rfl) ?_
  obtain ⟨u1, eu1, hf⟩ := ob_s hf
  obtain ⟨⟨q4, h3⟩, eh3, hf⟩ := ob_s hf
  try dsimp only at hf
  rcases q4 with c5 | v2
  · have hf := thr_l hf
    cases hf
  have hf := thr_r hf
  refine px_callVv (As := [.int a1, .int a2, .int a3]) (rest := []) ⟨hx, hb, hml, hown, hts⟩ hC w (kX7_needEntry l D dA b0 ι N a0 a1 a2 a3 h h3 eh3) (cwV 3 hts gX7_put_X7_needEntry rfl rfl rfl (by decide +kernel) ⟨Nat.le_of_ble_eq_true rfl, Nat.le_of_ble_eq_true rfl⟩) eu1 rfl rfl hl.1 rfl (Nat.le_of_ble_eq_true rfl) dX7_put_4 ⟨Nat.le_of_ble_eq_true rfl, Nat.le_of_ble_eq_true rfl⟩ (fun H locs w => ?_)
  refine lv_aload_n hx hb dX7_put_7 rfl (lv_at hl 0 rfl) ?_
  obtain ⟨v6, ev6, hf⟩ := ob_s hf
  refine px_getR hx hb hts nX7_put_X7 hown hK w ev6 rfl (by decide) mX7_put_14 rfl dX7_put_8 ?_
  refine lv_iload_n hx hb dX7_put_11 rfl (lv_at hl 1 rfl) ?_
  refine lv_iload_n hx hb dX7_put_12 rfl (lv_at hl 2 rfl) ?_
  obtain ⟨u9, eu9, hf⟩ := ob_s hf
  obtain ⟨⟨v7, h8⟩, eh8, hf⟩ := ob_s hf
  dsimp only at hf
  refine px_callVr (As := [.int a1, .int a2]) (rest := []) ⟨hx, hb, hml, hown, hts⟩ hC w (kX2_cell l D dA b0 ι N v6 a1 a2 h3 v7 h8 eh8) (cwV 2 hts gX7_put_X2_cell rfl rfl rfl (by decide +kernel) ⟨Nat.le_of_ble_eq_true rfl, Nat.le_of_ble_eq_true rfl⟩) eu9 rfl rfl hl.1 rfl (Nat.le_of_ble_eq_true rfl) dX7_put_13 ⟨Nat.le_of_ble_eq_true rfl, Nat.le_of_ble_eq_true rfl⟩ (fun H locs w => ?_)
  refine lv_astore (lv' := [(5, .ref (ι v7)), (0, .ref (ι a0)), (1, .int a1), (2, .int a2), (3, .int a3), (4, .int a4)]) hx hb dX7_put_16 hl (by decide) rfl (fun ls hl => ?_)
  refine lv_iload hx hb dX7_put_18 (lv_at hl 5 rfl) ?_
  refine lv_sipush (v := (32003 : Int32)) hx hb dX7_put_20 (by decide) ?_
  obtain ⟨⟨v10, h11⟩, eh11, hf⟩ := ob_s hf
  dsimp only at hf
  refine px_callSi (As := [.int a4, .int (32003 : Int32)]) (rest := []) ⟨hx, hb, hml, hown, hts⟩ hC w (kJ9_floorMod_7cf53 l D dA b0 ι N a4 (32003 : Int32) h8 v10 h11 eh11) (va_cwS 2 hts gX7_put_J9_floorMod_7cf53 rfl rfl rfl (by decide +kernel) ⟨Nat.le_of_ble_eq_true rfl, Nat.le_of_ble_eq_true rfl⟩) rfl hl.1 rfl (Nat.le_of_ble_eq_true rfl) dX7_put_23 ⟨Nat.le_of_ble_eq_true rfl, Nat.le_of_ble_eq_true rfl⟩ (fun H locs w => ?_)
  refine lv_istore (lv' := [(6, .int v10), (5, .ref (ι v7)), (0, .ref (ι a0)), (1, .int a1), (2, .int a2), (3, .int a3), (4, .int a4)]) hx hb dX7_put_26 hl (by decide) rfl (fun ls hl => ?_)
  refine lv_aload hx hb dX7_put_28 (lv_at hl 1 rfl) ?_
  refine lv_iload_n hx hb dX7_put_30 rfl (lv_at hl 5 rfl) ?_
  obtain ⟨u14, eu14, hf⟩ := ob_s hf
  obtain ⟨⟨v12, h13⟩, eh13, hf⟩ := ob_s hf
  dsimp only at hf
  refine px_callVi (As := [.int a3]) (rest := []) ⟨hx, hb, hml, hown, hts⟩ hC w (kX4_numberAt l D dA b0 ι N v7 a3 h11 v12 h13 eh13) (cwV 1 hts gX7_put_X4_numberAt rfl rfl rfl (by decide +kernel) ⟨Nat.le_of_ble_eq_true rfl, Nat.le_of_ble_eq_true rfl⟩) eu14 rfl rfl hl.1 rfl (Nat.le_of_ble_eq_true rfl) dX7_put_31 ⟨Nat.le_of_ble_eq_true rfl, Nat.le_of_ble_eq_true rfl⟩ (fun H locs w => ?_)
  refine lv_iload hx hb dX7_put_34 (lv_at hl 0 rfl) ?_
  refine lv_icmp_ne (tgt := 41) hx hb dX7_put_36 (by decide) (fun c15 => ?_) (fun c15 => ?_)
  · have hf := if_f hf c15
    refine lv_aload hx hb dX7_put_41 (lv_at hl 1 rfl) ?_
    refine lv_iload_n hx hb dX7_put_43 rfl (lv_at hl 5 rfl) ?_
    refine lv_iload hx hb dX7_put_44 (lv_at hl 0 rfl) ?_
    obtain ⟨u18, eu18, hf⟩ := ob_s hf
    obtain ⟨h17, eh17, hf⟩ := ob_s hf
    refine px_callVv (As := [.int a3, .int v10]) (rest := []) ⟨hx, hb, hml, hown, hts⟩ hC w (kX4_setNumber l D dA b0 ι N v7 a3 v10 h13 h17 eh17) (cwV 2 hts gX7_put_X4_setNumber rfl rfl rfl (by decide +kernel) ⟨Nat.le_of_ble_eq_true rfl, Nat.le_of_ble_eq_true rfl⟩) eu18 rfl rfl hl.1 rfl (Nat.le_of_ble_eq_true rfl) dX7_put_46 ⟨Nat.le_of_ble_eq_true rfl, Nat.le_of_ble_eq_true rfl⟩ (fun H locs w => ?_)
    refine lv_aload_n hx hb dX7_put_49 rfl (lv_at hl 2 rfl) ?_
    obtain ⟨u21, eu21, hf⟩ := ob_s hf
    obtain ⟨h20, eh20, hf⟩ := ob_s hf
    refine px_callVv (As := []) (rest := []) ⟨hx, hb, hml, hown, hts⟩ hC w (kX7_forgetEntries l D dA b0 ι N a0 h17 h20 eh20) (cwV 0 hts gX7_put_X7_forgetEntries rfl rfl rfl (by decide +kernel) ⟨Nat.le_of_ble_eq_true rfl, Nat.le_of_ble_eq_true rfl⟩) eu21 rfl rfl hl.1 rfl (Nat.le_of_ble_eq_true rfl) dX7_put_50 ⟨Nat.le_of_ble_eq_true rfl, Nat.le_of_ble_eq_true rfl⟩ (fun H locs w => ?_)
    refine lv_iload_n hx hb dX7_put_53 rfl (lv_at hl 5 rfl) ?_
    have hj61 : ∀ (h23 : Hp) (H : Heap) (locs : List Loc) (ls : Array Slot), (some (Sum.inr (1 : Int32), h23)) = (some (Sum.inr r, h') : Option ((Nat ⊕ Int32) × Hp)) → lv_has ls 7 [(0, .ref (ι a0)), (1, .int a1), (2, .int a2), (3, .int a3), (4, .int a4), (5, .ref (ι v7)), (6, .int v10)] → WD D dA b0 ι h23 s.heap H locs → W p l e (headSpec wsX7_put rmX7_put).room s m ([.ref (ι a0), .int a1, .int a2, .int a3, .int a4] : List Value).toArray below meth c H locs 0 0 (MQ below (QI D dA b0 ι r h') ([.ref (ι a0), .int a1, .int a2, .int a3, .int a4] : List Value).toArray s 0 0 (qA b0)) (F0 m 61 ls []) := by
      intro h23 H locs ls hf hl w
      refine lv_iconst (v := (1 : Int32)) hx hb dX7_put_61 (by decide) ?_
      exact W.zret hx hb hr rfl (qi_end (inr_s hf) w hC) w.locs_ok dX7_put_62
    obtain ⟨j22, ej22, hf⟩ := jn_s hf
    refine lv_if_ne (tgt := 61) hx hb dX7_put_54 (by decide) (fun c24 => ?_) (fun c24 => ?_)
    · have hf := if_f hf c24
      exact hj61 h20 H locs ls (by rw [ej22] at hf; exact hf) (lv_sub hl [2, 3, 4, 5, 6, 1, 0] rfl) w
    · have hf := if_t hf c24
      refine lv_aload_n hx hb dX7_put_57 rfl (lv_at hl 2 rfl) ?_
      obtain ⟨u27, eu27, hf⟩ := ob_s hf
      obtain ⟨h26, eh26, hf⟩ := ob_s hf
      refine px_callVv (As := []) (rest := []) ⟨hx, hb, hml, hown, hts⟩ hC w (kX7_forgetNumbers l D dA b0 ι N a0 h20 h26 eh26) (cwV 0 hts gX7_put_X7_forgetNumbers rfl rfl rfl (by decide +kernel) ⟨Nat.le_of_ble_eq_true rfl, Nat.le_of_ble_eq_true rfl⟩) eu27 rfl rfl hl.1 rfl (Nat.le_of_ble_eq_true rfl) dX7_put_58 ⟨Nat.le_of_ble_eq_true rfl, Nat.le_of_ble_eq_true rfl⟩ (fun H locs w => ?_)
      exact hj61 h26 H locs ls (by rw [ej22] at hf; exact hf) (lv_sub hl [2, 3, 4, 5, 6, 1, 0] rfl) w
  · have hf := if_t hf c15
    refine lv_iconst (v := (0 : Int32)) hx hb dX7_put_39 (by decide) ?_
    exact W.zret hx hb hr rfl (qi_end (inr_s hf) w hC) w.locs_ok dX7_put_40
set_option maxHeartbeats 4000000 in
set_option maxRecDepth 100000 in
theorem tX7_put (l : Launch) (hl0 : l.stackTraces = false) (D : va_G) (dA : Nat → ClassId) (b0 : Nat) (ι : Nat → Nat) (N : Nat) (a0 : Nat) (a1 : Int32) (a2 : Int32) (a3 : Int32) (a4 : Int32) (h : Hp) (k : Nat) (h' : Hp) (hf : fX7_put N a0 a1 a2 a3 a4 h = (some (Sum.inl k, h') : Option ((Nat ⊕ Int32) × Hp))) : vx_Met l yX7_put wtX7_put rtX7_put (PX D dA b0 ι [.ref (ι a0), .int a1, .int a2, .int a3, .int a4] h) QF (XQ D dA b0 ι k h') 1 6 (qA b0) := by
  unfold fX7_put at hf
  refine vx_ofW (cc := cX7_put) (maxL := 7) (ret := (some .boolean)) (by decide +kernel) rfl ?_
  intro p e s m args below meth c s₁ B hml hnoh hv
  obtain ⟨rfl, w0, xt⟩ := hv
  have hx := B.exec
  have hb := B.bytes
  have hr := B.returns
  have htx := atoms_spec (ws := wtX7_put) B.pre
  have hts : ∀ w ∈ wsX7_put, w.before _ s = true := fun w hw => htx w (List.mem_append_left _ hw)
  have hown : s.vm.findClass RX7 = some m.cls := findClass_of_methodNamed B.named
  have hlocks := B.notSynchronized
  have hC := w0.c
  have hK := hC.1
  have w := WD.start w0
  clear w0
  have hl := lv_entry ([.ref (ι a0), .int a1, .int a2, .int a3, .int a4]) (n := 7) (Nat.le_of_ble_eq_true rfl)
  rw [lg_entry_eq]
  generalize (lg_sl ([.ref (ι a0), .int a1, .int a2, .int a3, .int a4]) ++ List.replicate (7 - (lg_sl ([.ref (ι a0), .int a1, .int a2, .int a3, .int a4])).length) Slot.unset).toArray = ls at hl ⊢
  have hl : lv_has ls 7 [(0, .ref (ι a0)), (1, .int a1), (2, .int a2), (3, .int a3), (4, .int a4)] := hl
  obtain ⟨H, hH⟩ : ∃ H : Heap, H = s.heap := ⟨_, rfl⟩
  obtain ⟨locs, hlo⟩ : ∃ locs : List Loc, locs = [] := ⟨_, rfl⟩
  rw [← hlo]
  have w : WD D dA b0 ι h s.heap H locs := by rw [hH, hlo]; exact w
  refine px_start hH ?_
  refine lv_aload_n hx hb dX7_put_0 rfl (lv_at hl 0 rfl) ?_
  refine lv_iload_n hx hb dX7_put_1 rfl (lv_at hl 1 rfl) ?_
  refine lv_iload_n hx hb dX7_put_2 rfl (lv_at hl 2 rfl) ?_
  refine lv_iload_n hx hb dX7_put_3 rfl (lv_at hl 3 rfl) ?_
  obtain ⟨u1, eu1, hf⟩ := ob_s hf
  obtain ⟨⟨q4, h3⟩, eh3, hf⟩ := ob_s hf
  try dsimp only at hf
  rcases q4 with c5 | v2
  · have hf := thr_l hf
    exact px_tcall (As := [.int a1, .int a2, .int a3]) (rest := []) ⟨hx, hb, hml, hown, htx⟩ hC xt w (tX7_needEntry l hl0 D dA b0 ι N a0 a1 a2 a3 h c5 h3 eh3) (cwV 3 htx (gx_V gX7_put_X7_needEntry exG_good) rfl rfl rfl (by decide +kernel) ⟨Nat.le_of_ble_eq_true rfl, Nat.le_of_ble_eq_true rfl⟩) eu1 rfl rfl hl.1 rfl (Nat.le_of_ble_eq_true rfl) dX7_put_4 ⟨Nat.le_of_ble_eq_true rfl, Nat.le_of_ble_eq_true rfl⟩ hnoh hlocks (inl_s hf)
  have hf := thr_r hf
  refine px_callVv (As := [.int a1, .int a2, .int a3]) (rest := []) ⟨hx, hb, hml, hown, hts⟩ hC w (kX7_needEntry l D dA b0 ι N a0 a1 a2 a3 h h3 eh3) (cwV 3 hts gX7_put_X7_needEntry rfl rfl rfl (by decide +kernel) ⟨Nat.le_of_ble_eq_true rfl, Nat.le_of_ble_eq_true rfl⟩) eu1 rfl rfl hl.1 rfl (Nat.le_of_ble_eq_true rfl) dX7_put_4 ⟨Nat.le_of_ble_eq_true rfl, Nat.le_of_ble_eq_true rfl⟩ (fun H locs w => ?_)
  refine lv_aload_n hx hb dX7_put_7 rfl (lv_at hl 0 rfl) ?_
  obtain ⟨v6, ev6, hf⟩ := ob_s hf
  refine px_getR hx hb hts nX7_put_X7 hown hK w ev6 rfl (by decide) mX7_put_14 rfl dX7_put_8 ?_
  refine lv_iload_n hx hb dX7_put_11 rfl (lv_at hl 1 rfl) ?_
  refine lv_iload_n hx hb dX7_put_12 rfl (lv_at hl 2 rfl) ?_
  obtain ⟨u9, eu9, hf⟩ := ob_s hf
  obtain ⟨⟨v7, h8⟩, eh8, hf⟩ := ob_s hf
  dsimp only at hf
  refine px_callVr (As := [.int a1, .int a2]) (rest := []) ⟨hx, hb, hml, hown, hts⟩ hC w (kX2_cell l D dA b0 ι N v6 a1 a2 h3 v7 h8 eh8) (cwV 2 hts gX7_put_X2_cell rfl rfl rfl (by decide +kernel) ⟨Nat.le_of_ble_eq_true rfl, Nat.le_of_ble_eq_true rfl⟩) eu9 rfl rfl hl.1 rfl (Nat.le_of_ble_eq_true rfl) dX7_put_13 ⟨Nat.le_of_ble_eq_true rfl, Nat.le_of_ble_eq_true rfl⟩ (fun H locs w => ?_)
  refine lv_astore (lv' := [(5, .ref (ι v7)), (0, .ref (ι a0)), (1, .int a1), (2, .int a2), (3, .int a3), (4, .int a4)]) hx hb dX7_put_16 hl (by decide) rfl (fun ls hl => ?_)
  refine lv_iload hx hb dX7_put_18 (lv_at hl 5 rfl) ?_
  refine lv_sipush (v := (32003 : Int32)) hx hb dX7_put_20 (by decide) ?_
  obtain ⟨⟨v10, h11⟩, eh11, hf⟩ := ob_s hf
  dsimp only at hf
  refine px_callSi (As := [.int a4, .int (32003 : Int32)]) (rest := []) ⟨hx, hb, hml, hown, hts⟩ hC w (kJ9_floorMod_7cf53 l D dA b0 ι N a4 (32003 : Int32) h8 v10 h11 eh11) (va_cwS 2 hts gX7_put_J9_floorMod_7cf53 rfl rfl rfl (by decide +kernel) ⟨Nat.le_of_ble_eq_true rfl, Nat.le_of_ble_eq_true rfl⟩) rfl hl.1 rfl (Nat.le_of_ble_eq_true rfl) dX7_put_23 ⟨Nat.le_of_ble_eq_true rfl, Nat.le_of_ble_eq_true rfl⟩ (fun H locs w => ?_)
  refine lv_istore (lv' := [(6, .int v10), (5, .ref (ι v7)), (0, .ref (ι a0)), (1, .int a1), (2, .int a2), (3, .int a3), (4, .int a4)]) hx hb dX7_put_26 hl (by decide) rfl (fun ls hl => ?_)
  refine lv_aload hx hb dX7_put_28 (lv_at hl 1 rfl) ?_
  refine lv_iload_n hx hb dX7_put_30 rfl (lv_at hl 5 rfl) ?_
  obtain ⟨u14, eu14, hf⟩ := ob_s hf
  obtain ⟨⟨v12, h13⟩, eh13, hf⟩ := ob_s hf
  dsimp only at hf
  refine px_callVi (As := [.int a3]) (rest := []) ⟨hx, hb, hml, hown, hts⟩ hC w (kX4_numberAt l D dA b0 ι N v7 a3 h11 v12 h13 eh13) (cwV 1 hts gX7_put_X4_numberAt rfl rfl rfl (by decide +kernel) ⟨Nat.le_of_ble_eq_true rfl, Nat.le_of_ble_eq_true rfl⟩) eu14 rfl rfl hl.1 rfl (Nat.le_of_ble_eq_true rfl) dX7_put_31 ⟨Nat.le_of_ble_eq_true rfl, Nat.le_of_ble_eq_true rfl⟩ (fun H locs w => ?_)
  refine lv_iload hx hb dX7_put_34 (lv_at hl 0 rfl) ?_
  refine lv_icmp_ne (tgt := 41) hx hb dX7_put_36 (by decide) (fun c15 => ?_) (fun c15 => ?_)
  · have hf := if_f hf c15
    refine lv_aload hx hb dX7_put_41 (lv_at hl 1 rfl) ?_
    refine lv_iload_n hx hb dX7_put_43 rfl (lv_at hl 5 rfl) ?_
    refine lv_iload hx hb dX7_put_44 (lv_at hl 0 rfl) ?_
    obtain ⟨u18, eu18, hf⟩ := ob_s hf
    obtain ⟨h17, eh17, hf⟩ := ob_s hf
    refine px_callVv (As := [.int a3, .int v10]) (rest := []) ⟨hx, hb, hml, hown, hts⟩ hC w (kX4_setNumber l D dA b0 ι N v7 a3 v10 h13 h17 eh17) (cwV 2 hts gX7_put_X4_setNumber rfl rfl rfl (by decide +kernel) ⟨Nat.le_of_ble_eq_true rfl, Nat.le_of_ble_eq_true rfl⟩) eu18 rfl rfl hl.1 rfl (Nat.le_of_ble_eq_true rfl) dX7_put_46 ⟨Nat.le_of_ble_eq_true rfl, Nat.le_of_ble_eq_true rfl⟩ (fun H locs w => ?_)
    refine lv_aload_n hx hb dX7_put_49 rfl (lv_at hl 2 rfl) ?_
    obtain ⟨u21, eu21, hf⟩ := ob_s hf
    obtain ⟨h20, eh20, hf⟩ := ob_s hf
    refine px_callVv (As := []) (rest := []) ⟨hx, hb, hml, hown, hts⟩ hC w (kX7_forgetEntries l D dA b0 ι N a0 h17 h20 eh20) (cwV 0 hts gX7_put_X7_forgetEntries rfl rfl rfl (by decide +kernel) ⟨Nat.le_of_ble_eq_true rfl, Nat.le_of_ble_eq_true rfl⟩) eu21 rfl rfl hl.1 rfl (Nat.le_of_ble_eq_true rfl) dX7_put_50 ⟨Nat.le_of_ble_eq_true rfl, Nat.le_of_ble_eq_true rfl⟩ (fun H locs w => ?_)
    refine lv_iload_n hx hb dX7_put_53 rfl (lv_at hl 5 rfl) ?_
    have hj61 : ∀ (h23 : Hp) (H : Heap) (locs : List Loc) (ls : Array Slot), (some (Sum.inr (1 : Int32), h23)) = (some (Sum.inl k, h') : Option ((Nat ⊕ Int32) × Hp)) → lv_has ls 7 [(0, .ref (ι a0)), (1, .int a1), (2, .int a2), (3, .int a3), (4, .int a4), (5, .ref (ι v7)), (6, .int v10)] → WD D dA b0 ι h23 s.heap H locs → W p l e (headSpec wtX7_put rtX7_put).room s m ([.ref (ι a0), .int a1, .int a2, .int a3, .int a4] : List Value).toArray below meth c H locs 0 0 (vx_MQ below QF (XQ D dA b0 ι k h') ([.ref (ι a0), .int a1, .int a2, .int a3, .int a4] : List Value).toArray s 1 6 (qA b0)) (F0 m 61 ls []) := by
      intro h23 H locs ls hf hl w
      refine lv_iconst (v := (1 : Int32)) hx hb dX7_put_61 (by decide) ?_
      cases hf
    obtain ⟨j22, ej22, hf⟩ := jn_s hf
    refine lv_if_ne (tgt := 61) hx hb dX7_put_54 (by decide) (fun c24 => ?_) (fun c24 => ?_)
    · have hf := if_f hf c24
      exact hj61 h20 H locs ls (by rw [ej22] at hf; exact hf) (lv_sub hl [2, 3, 4, 5, 6, 1, 0] rfl) w
    · have hf := if_t hf c24
      refine lv_aload_n hx hb dX7_put_57 rfl (lv_at hl 2 rfl) ?_
      obtain ⟨u27, eu27, hf⟩ := ob_s hf
      obtain ⟨h26, eh26, hf⟩ := ob_s hf
      refine px_callVv (As := []) (rest := []) ⟨hx, hb, hml, hown, hts⟩ hC w (kX7_forgetNumbers l D dA b0 ι N a0 h20 h26 eh26) (cwV 0 hts gX7_put_X7_forgetNumbers rfl rfl rfl (by decide +kernel) ⟨Nat.le_of_ble_eq_true rfl, Nat.le_of_ble_eq_true rfl⟩) eu27 rfl rfl hl.1 rfl (Nat.le_of_ble_eq_true rfl) dX7_put_58 ⟨Nat.le_of_ble_eq_true rfl, Nat.le_of_ble_eq_true rfl⟩ (fun H locs w => ?_)
      exact hj61 h26 H locs ls (by rw [ej22] at hf; exact hf) (lv_sub hl [2, 3, 4, 5, 6, 1, 0] rfl) w
  · have hf := if_t hf c15
    refine lv_iconst (v := (0 : Int32)) hx hb dX7_put_39 (by decide) ?_
    cases hf
theorem nX7_entry_X7 : ∀ w ∈ wsX70, w ∈ wsX7_entry := by decide +kernel
theorem mX7_entry_14 : Cond.fieldLink RX7 14 "NormalForms" "entries" "LNormalForms$Matrix;" ∈ wsX7_entry := by decide +kernel
abbrev rmX7_entry : Room := { frames := 3, cells := 0, slots := 0, locals := 57 }
abbrev rtX7_entry : Room := { frames := 9, cells := 1, slots := 6, locals := 148 }
abbrev wtX7_entry : List Cond := wsX7_entry ++ exG
set_option maxHeartbeats 4000000 in
set_option maxRecDepth 100000 in
theorem kX7_entry (l : Launch) (D : va_G) (dA : Nat → ClassId) (b0 : Nat) (ι : Nat → Nat) (N : Nat) (a0 : Nat) (a1 : Int32) (a2 : Int32) (a3 : Int32) (h : Hp) (r : Int32) (h' : Hp) (hf : fX7_entry N a0 a1 a2 a3 h = (some (Sum.inr r, h') : Option ((Nat ⊕ Int32) × Hp))) : Met l yX7_entry wsX7_entry rmX7_entry (PC D dA b0 ι [.ref (ι a0), .int a1, .int a2, .int a3] h) (QI D dA b0 ι r h') 0 0 (qA b0) := by
  unfold fX7_entry at hf
  refine Met.ofW (cc := cX7_entry) (maxL := 4) (ret := (some .int)) (by decide +kernel) rfl ?_
  intro p e s m args below meth c s₁ B hml hv
  obtain ⟨rfl, w0⟩ := hv
  have hx := B.exec
  have hb := B.bytes
  have hr := B.returns
  have hts := atoms_spec (ws := wsX7_entry) B.pre
  have hown : s.vm.findClass RX7 = some m.cls := findClass_of_methodNamed B.named
  have hlocks := B.notSynchronized
  have hC := w0.c
  have hK := hC.1
  have w := WD.start w0
  clear w0
  have hl := lv_entry ([.ref (ι a0), .int a1, .int a2, .int a3]) (n := 4) (Nat.le_of_ble_eq_true rfl)
  rw [lg_entry_eq]
  generalize (lg_sl ([.ref (ι a0), .int a1, .int a2, .int a3]) ++ List.replicate (4 - (lg_sl ([.ref (ι a0), .int a1, .int a2, .int a3])).length) Slot.unset).toArray = ls at hl ⊢
  have hl : lv_has ls 4 [(0, .ref (ι a0)), (1, .int a1), (2, .int a2), (3, .int a3)] := hl
  obtain ⟨H, hH⟩ : ∃ H : Heap, H = s.heap := ⟨_, rfl⟩
  obtain ⟨locs, hlo⟩ : ∃ locs : List Loc, locs = [] := ⟨_, rfl⟩
  rw [← hlo]
  have w : WD D dA b0 ι h s.heap H locs := by rw [hH, hlo]; exact w
  refine px_start hH ?_
  refine lv_aload_n hx hb dX7_entry_0 rfl (lv_at hl 0 rfl) ?_
  refine lv_iload_n hx hb dX7_entry_1 rfl (lv_at hl 1 rfl) ?_
  refine lv_iload_n hx hb dX7_entry_2 rfl (lv_at hl 2 rfl) ?_
  refine lv_iload_n hx hb dX7_entry_3 rfl (lv_at hl 3 rfl) ?_
  obtain ⟨u1, eu1, hf⟩ := ob_s hf
  obtain ⟨⟨q4, h3⟩, eh3, hf⟩ := ob_s hf
  try dsimp only at hf
  rcases q4 with c5 | v2
  · have hf := thr_l hf
    cases hf
  have hf := thr_r hf
  refine px_callVv (As := [.int a1, .int a2, .int a3]) (rest := []) ⟨hx, hb, hml, hown, hts⟩ hC w (kX7_needEntry l D dA b0 ι N a0 a1 a2 a3 h h3 eh3) (cwV 3 hts gX7_entry_X7_needEntry rfl rfl rfl (by decide +kernel) ⟨Nat.le_of_ble_eq_true rfl, Nat.le_of_ble_eq_true rfl⟩) eu1 rfl rfl hl.1 rfl (Nat.le_of_ble_eq_true rfl) dX7_entry_4 ⟨Nat.le_of_ble_eq_true rfl, Nat.le_of_ble_eq_true rfl⟩ (fun H locs w => ?_)
  refine lv_aload_n hx hb dX7_entry_7 rfl (lv_at hl 0 rfl) ?_
  obtain ⟨v6, ev6, hf⟩ := ob_s hf
  refine px_getR hx hb hts nX7_entry_X7 hown hK w ev6 rfl (by decide) mX7_entry_14 rfl dX7_entry_8 ?_
  refine lv_iload_n hx hb dX7_entry_11 rfl (lv_at hl 1 rfl) ?_
  refine lv_iload_n hx hb dX7_entry_12 rfl (lv_at hl 2 rfl) ?_
  obtain ⟨u9, eu9, hf⟩ := ob_s hf
  obtain ⟨⟨v7, h8⟩, eh8, hf⟩ := ob_s hf
  dsimp only at hf
  refine px_callVr (As := [.int a1, .int a2]) (rest := []) ⟨hx, hb, hml, hown, hts⟩ hC w (kX2_cell l D dA b0 ι N v6 a1 a2 h3 v7 h8 eh8) (cwV 2 hts gX7_entry_X2_cell rfl rfl rfl (by decide +kernel) ⟨Nat.le_of_ble_eq_true rfl, Nat.le_of_ble_eq_true rfl⟩) eu9 rfl rfl hl.1 rfl (Nat.le_of_ble_eq_true rfl) dX7_entry_13 ⟨Nat.le_of_ble_eq_true rfl, Nat.le_of_ble_eq_true rfl⟩ (fun H locs w => ?_)
  refine lv_iload_n hx hb dX7_entry_16 rfl (lv_at hl 3 rfl) ?_
  obtain ⟨u12, eu12, hf⟩ := ob_s hf
  obtain ⟨⟨v10, h11⟩, eh11, hf⟩ := ob_s hf
  dsimp only at hf
  refine px_callVi (As := [.int a3]) (rest := []) ⟨hx, hb, hml, hown, hts⟩ hC w (kX4_numberAt l D dA b0 ι N v7 a3 h8 v10 h11 eh11) (cwV 1 hts gX7_entry_X4_numberAt rfl rfl rfl (by decide +kernel) ⟨Nat.le_of_ble_eq_true rfl, Nat.le_of_ble_eq_true rfl⟩) eu12 rfl rfl hl.1 rfl (Nat.le_of_ble_eq_true rfl) dX7_entry_17 ⟨Nat.le_of_ble_eq_true rfl, Nat.le_of_ble_eq_true rfl⟩ (fun H locs w => ?_)
  exact W.iret hx hb hr (qi_end (inr_s hf) w hC) w.locs_ok dX7_entry_20
set_option maxHeartbeats 4000000 in
set_option maxRecDepth 100000 in
theorem tX7_entry (l : Launch) (hl0 : l.stackTraces = false) (D : va_G) (dA : Nat → ClassId) (b0 : Nat) (ι : Nat → Nat) (N : Nat) (a0 : Nat) (a1 : Int32) (a2 : Int32) (a3 : Int32) (h : Hp) (k : Nat) (h' : Hp) (hf : fX7_entry N a0 a1 a2 a3 h = (some (Sum.inl k, h') : Option ((Nat ⊕ Int32) × Hp))) : vx_Met l yX7_entry wtX7_entry rtX7_entry (PX D dA b0 ι [.ref (ι a0), .int a1, .int a2, .int a3] h) QF (XQ D dA b0 ι k h') 1 6 (qA b0) := by
  unfold fX7_entry at hf
  refine vx_ofW (cc := cX7_entry) (maxL := 4) (ret := (some .int)) (by decide +kernel) rfl ?_
  intro p e s m args below meth c s₁ B hml hnoh hv
  obtain ⟨rfl, w0, xt⟩ := hv
  have hx := B.exec
  have hb := B.bytes
  have hr := B.returns
  have htx := atoms_spec (ws := wtX7_entry) B.pre
  have hts : ∀ w ∈ wsX7_entry, w.before _ s = true := fun w hw => htx w (List.mem_append_left _ hw)
  have hown : s.vm.findClass RX7 = some m.cls := findClass_of_methodNamed B.named
  have hlocks := B.notSynchronized
  have hC := w0.c
  have hK := hC.1
  have w := WD.start w0
  clear w0
  have hl := lv_entry ([.ref (ι a0), .int a1, .int a2, .int a3]) (n := 4) (Nat.le_of_ble_eq_true rfl)
  rw [lg_entry_eq]
  generalize (lg_sl ([.ref (ι a0), .int a1, .int a2, .int a3]) ++ List.replicate (4 - (lg_sl ([.ref (ι a0), .int a1, .int a2, .int a3])).length) Slot.unset).toArray = ls at hl ⊢
  have hl : lv_has ls 4 [(0, .ref (ι a0)), (1, .int a1), (2, .int a2), (3, .int a3)] := hl
  obtain ⟨H, hH⟩ : ∃ H : Heap, H = s.heap := ⟨_, rfl⟩
  obtain ⟨locs, hlo⟩ : ∃ locs : List Loc, locs = [] := ⟨_, rfl⟩
  rw [← hlo]
  have w : WD D dA b0 ι h s.heap H locs := by rw [hH, hlo]; exact w
  refine px_start hH ?_
  refine lv_aload_n hx hb dX7_entry_0 rfl (lv_at hl 0 rfl) ?_
  refine lv_iload_n hx hb dX7_entry_1 rfl (lv_at hl 1 rfl) ?_
  refine lv_iload_n hx hb dX7_entry_2 rfl (lv_at hl 2 rfl) ?_
  refine lv_iload_n hx hb dX7_entry_3 rfl (lv_at hl 3 rfl) ?_
  obtain ⟨u1, eu1, hf⟩ := ob_s hf
  obtain ⟨⟨q4, h3⟩, eh3, hf⟩ := ob_s hf
  try dsimp only at hf
  rcases q4 with c5 | v2
  · have hf := thr_l hf
    exact px_tcall (As := [.int a1, .int a2, .int a3]) (rest := []) ⟨hx, hb, hml, hown, htx⟩ hC xt w (tX7_needEntry l hl0 D dA b0 ι N a0 a1 a2 a3 h c5 h3 eh3) (cwV 3 htx (gx_V gX7_entry_X7_needEntry exG_good) rfl rfl rfl (by decide +kernel) ⟨Nat.le_of_ble_eq_true rfl, Nat.le_of_ble_eq_true rfl⟩) eu1 rfl rfl hl.1 rfl (Nat.le_of_ble_eq_true rfl) dX7_entry_4 ⟨Nat.le_of_ble_eq_true rfl, Nat.le_of_ble_eq_true rfl⟩ hnoh hlocks (inl_s hf)
  have hf := thr_r hf
  refine px_callVv (As := [.int a1, .int a2, .int a3]) (rest := []) ⟨hx, hb, hml, hown, hts⟩ hC w (kX7_needEntry l D dA b0 ι N a0 a1 a2 a3 h h3 eh3) (cwV 3 hts gX7_entry_X7_needEntry rfl rfl rfl (by decide +kernel) ⟨Nat.le_of_ble_eq_true rfl, Nat.le_of_ble_eq_true rfl⟩) eu1 rfl rfl hl.1 rfl (Nat.le_of_ble_eq_true rfl) dX7_entry_4 ⟨Nat.le_of_ble_eq_true rfl, Nat.le_of_ble_eq_true rfl⟩ (fun H locs w => ?_)
  refine lv_aload_n hx hb dX7_entry_7 rfl (lv_at hl 0 rfl) ?_
  obtain ⟨v6, ev6, hf⟩ := ob_s hf
  refine px_getR hx hb hts nX7_entry_X7 hown hK w ev6 rfl (by decide) mX7_entry_14 rfl dX7_entry_8 ?_
  refine lv_iload_n hx hb dX7_entry_11 rfl (lv_at hl 1 rfl) ?_
  refine lv_iload_n hx hb dX7_entry_12 rfl (lv_at hl 2 rfl) ?_
  obtain ⟨u9, eu9, hf⟩ := ob_s hf
  obtain ⟨⟨v7, h8⟩, eh8, hf⟩ := ob_s hf
  dsimp only at hf
  refine px_callVr (As := [.int a1, .int a2]) (rest := []) ⟨hx, hb, hml, hown, hts⟩ hC w (kX2_cell l D dA b0 ι N v6 a1 a2 h3 v7 h8 eh8) (cwV 2 hts gX7_entry_X2_cell rfl rfl rfl (by decide +kernel) ⟨Nat.le_of_ble_eq_true rfl, Nat.le_of_ble_eq_true rfl⟩) eu9 rfl rfl hl.1 rfl (Nat.le_of_ble_eq_true rfl) dX7_entry_13 ⟨Nat.le_of_ble_eq_true rfl, Nat.le_of_ble_eq_true rfl⟩ (fun H locs w => ?_)
  refine lv_iload_n hx hb dX7_entry_16 rfl (lv_at hl 3 rfl) ?_
  obtain ⟨u12, eu12, hf⟩ := ob_s hf
  obtain ⟨⟨v10, h11⟩, eh11, hf⟩ := ob_s hf
  dsimp only at hf
  refine px_callVi (As := [.int a3]) (rest := []) ⟨hx, hb, hml, hown, hts⟩ hC w (kX4_numberAt l D dA b0 ι N v7 a3 h8 v10 h11 eh11) (cwV 1 hts gX7_entry_X4_numberAt rfl rfl rfl (by decide +kernel) ⟨Nat.le_of_ble_eq_true rfl, Nat.le_of_ble_eq_true rfl⟩) eu12 rfl rfl hl.1 rfl (Nat.le_of_ble_eq_true rfl) dX7_entry_17 ⟨Nat.le_of_ble_eq_true rfl, Nat.le_of_ble_eq_true rfl⟩ (fun H locs w => ?_)
  cases hf
theorem nX7_make_X7 : ∀ w ∈ wsX70, w ∈ wsX7_make := by decide +kernel
theorem mX7_make_49 : Cond.fieldLink RX7 49 "NormalForms" "formThere" "[Z" ∈ wsX7_make := by decide +kernel
theorem mX7_make_21 : Cond.fieldLink RX7 21 "NormalForms" "minors" "LNormalForms$Minors;" ∈ wsX7_make := by decide +kernel
theorem nX7_make_X3 : ∀ w ∈ wsX30, w ∈ wsX7_make := by decide +kernel
theorem mX7_make_41 : Cond.fieldLink RX7 41 "NormalForms" "echelon" "LNormalForms$Echelon;" ∈ wsX7_make := by decide +kernel
theorem mX7_make_14 : Cond.fieldLink RX7 14 "NormalForms" "entries" "LNormalForms$Matrix;" ∈ wsX7_make := by decide +kernel
theorem mX7_make_45 : Cond.fieldLink RX7 45 "NormalForms" "forms" "[LNormalForms$Matrix;" ∈ wsX7_make := by decide +kernel
abbrev rmX7_make : Room := { frames := 7, cells := 0, slots := 0, locals := 151 }
abbrev rtX7_make : Room := { frames := 7, cells := 1, slots := 6, locals := 151 }
abbrev wtX7_make : List Cond := wsX7_make ++ exG
set_option maxHeartbeats 4000000 in
set_option maxRecDepth 100000 in
theorem kX7_make (l : Launch) (D : va_G) (dA : Nat → ClassId) (b0 : Nat) (ι : Nat → Nat) (N : Nat) (a0 : Nat) (a1 : Int32) (h : Hp) (r : Int32) (h' : Hp) (hf : fX7_make N a0 a1 h = (some (Sum.inr r, h') : Option ((Nat ⊕ Int32) × Hp))) : Met l yX7_make wsX7_make rmX7_make (PC D dA b0 ι [.ref (ι a0), .int a1] h) (QI D dA b0 ι r h') 0 0 (qA b0) := by
  unfold fX7_make at hf
  refine Met.ofW (cc := cX7_make) (maxL := 2) (ret := (some .int)) (by decide +kernel) rfl ?_
  intro p e s m args below meth c s₁ B hml hv
  obtain ⟨rfl, w0⟩ := hv
  have hx := B.exec
  have hb := B.bytes
  have hr := B.returns
  have hts := atoms_spec (ws := wsX7_make) B.pre
  have hown : s.vm.findClass RX7 = some m.cls := findClass_of_methodNamed B.named
  have hlocks := B.notSynchronized
  have hC := w0.c
  have hK := hC.1
  have w := WD.start w0
  clear w0
  have hl := lv_entry ([.ref (ι a0), .int a1]) (n := 2) (Nat.le_of_ble_eq_true rfl)
  rw [lg_entry_eq]
  generalize (lg_sl ([.ref (ι a0), .int a1]) ++ List.replicate (2 - (lg_sl ([.ref (ι a0), .int a1])).length) Slot.unset).toArray = ls at hl ⊢
  have hl : lv_has ls 2 [(0, .ref (ι a0)), (1, .int a1)] := hl
  obtain ⟨H, hH⟩ : ∃ H : Heap, H = s.heap := ⟨_, rfl⟩
  obtain ⟨locs, hlo⟩ : ∃ locs : List Loc, locs = [] := ⟨_, rfl⟩
  rw [← hlo]
  have w : WD D dA b0 ι h s.heap H locs := by rw [hH, hlo]; exact w
  refine px_start hH ?_
  refine lv_aload_n hx hb dX7_make_0 rfl (lv_at hl 0 rfl) ?_
  refine lv_iload_n hx hb dX7_make_1 rfl (lv_at hl 1 rfl) ?_
  obtain ⟨u1, eu1, hf⟩ := ob_s hf
  obtain ⟨⟨q4, h3⟩, eh3, hf⟩ := ob_s hf
  try dsimp only at hf
  rcases q4 with c5 | v2
  · have hf := thr_l hf
    cases hf
  have hf := thr_r hf
  refine px_callVv (As := [.int a1]) (rest := []) ⟨hx, hb, hml, hown, hts⟩ hC w (kX7_needForm l D dA b0 ι N a0 a1 h h3 eh3) (cwV 1 hts gX7_make_X7_needForm rfl rfl rfl (by decide +kernel) ⟨Nat.le_of_ble_eq_true rfl, Nat.le_of_ble_eq_true rfl⟩) eu1 rfl rfl hl.1 rfl (Nat.le_of_ble_eq_true rfl) dX7_make_2 ⟨Nat.le_of_ble_eq_true rfl, Nat.le_of_ble_eq_true rfl⟩ (fun H locs w => ?_)
  refine lv_aload_n hx hb dX7_make_5 rfl (lv_at hl 0 rfl) ?_
  obtain ⟨u8, eu8, hf⟩ := ob_s hf
  obtain ⟨h7, eh7, hf⟩ := ob_s hf
  refine px_callVv (As := []) (rest := []) ⟨hx, hb, hml, hown, hts⟩ hC w (kX7_knowMinors l D dA b0 ι N a0 h3 h7 eh7) (cwV 0 hts gX7_make_X7_knowMinors rfl rfl rfl (by decide +kernel) ⟨Nat.le_of_ble_eq_true rfl, Nat.le_of_ble_eq_true rfl⟩) eu8 rfl rfl hl.1 rfl (Nat.le_of_ble_eq_true rfl) dX7_make_6 ⟨Nat.le_of_ble_eq_true rfl, Nat.le_of_ble_eq_true rfl⟩ (fun H locs w => ?_)
  refine lv_iload_n hx hb dX7_make_9 rfl (lv_at hl 1 rfl) ?_
  refine lv_iconst (v := (2 : Int32)) hx hb dX7_make_10 (by decide) ?_
  refine lv_icmp_ne (tgt := 19) hx hb dX7_make_11 (by decide) (fun c9 => ?_) (fun c9 => ?_)
  · have hf := if_f hf c9
    refine lv_iload_n hx hb dX7_make_19 rfl (lv_at hl 1 rfl) ?_
    have hj54 : ∀ (h11 : Hp) (H : Heap) (locs : List Loc) (ls : Array Slot), ((gR h11 a0 9 12).bind fun v12 => (aZs h11 v12 a1 (1 : Int32)).bind fun h13 => (gR h13 a0 9 3).bind fun v14 => (gI h13 v14 5 4).bind fun v15 => some (Sum.inr v15, h13)) = (some (Sum.inr r, h') : Option ((Nat ⊕ Int32) × Hp)) → lv_has ls 2 [(0, .ref (ι a0)), (1, .int a1)] → WD D dA b0 ι h11 s.heap H locs → W p l e (headSpec wsX7_make rmX7_make).room s m ([.ref (ι a0), .int a1] : List Value).toArray below meth c H locs 0 0 (MQ below (QI D dA b0 ι r h') ([.ref (ι a0), .int a1] : List Value).toArray s 0 0 (qA b0)) (F0 m 54 ls []) := by
      intro h11 H locs ls hf hl w
      refine lv_aload_n hx hb dX7_make_54 rfl (lv_at hl 0 rfl) ?_
      obtain ⟨v12, ev12, hf⟩ := ob_s hf
      refine px_getR hx hb hts nX7_make_X7 hown hK w ev12 rfl (by decide) mX7_make_49 rfl dX7_make_55 ?_
      refine lv_iload_n hx hb dX7_make_58 rfl (lv_at hl 1 rfl) ?_
      refine lv_iconst (v := (1 : Int32)) hx hb dX7_make_59 (by decide) ?_
      obtain ⟨h13, eh13, hf⟩ := ob_s hf
      refine px_zast hx hb hK w eh13 dX7_make_60 (fun H locs w => ?_)
      refine lv_aload_n hx hb dX7_make_61 rfl (lv_at hl 0 rfl) ?_
      obtain ⟨v14, ev14, hf⟩ := ob_s hf
      refine px_getR hx hb hts nX7_make_X7 hown hK w ev14 rfl (by decide) mX7_make_21 rfl dX7_make_62 ?_
      obtain ⟨v15, ev15, hf⟩ := ob_s hf
      refine px_getIN hx hb hts nX7_make_X3 hown hK w ev15 rfl (by decide) (hC.2.1 _ nest_11) rfl dX7_make_65 ?_
      exact W.iret hx hb hr (qi_end (inr_s hf) w hC) w.locs_ok dX7_make_68
    obtain ⟨j10, ej10, hf⟩ := jn_s hf
    refine lv_if_ne (tgt := 50) hx hb dX7_make_20 (by decide) (fun c16 => ?_) (fun c16 => ?_)
    · have hf := if_f hf c16
      refine lv_aload_n hx hb dX7_make_50 rfl (lv_at hl 0 rfl) ?_
      obtain ⟨u19, eu19, hf⟩ := ob_s hf
      obtain ⟨h18, eh18, hf⟩ := ob_s hf
      refine px_callVv (As := []) (rest := []) ⟨hx, hb, hml, hown, hts⟩ hC w (kX7_makeSmith l D dA b0 ι N a0 h7 h18 eh18) (cwV 0 hts gX7_make_X7_makeSmith rfl rfl rfl (by decide +kernel) ⟨Nat.le_of_ble_eq_true rfl, Nat.le_of_ble_eq_true rfl⟩) eu19 rfl rfl hl.1 rfl (Nat.le_of_ble_eq_true rfl) dX7_make_51 ⟨Nat.le_of_ble_eq_true rfl, Nat.le_of_ble_eq_true rfl⟩ (fun H locs w => ?_)
      exact hj54 h18 H locs ls (by rw [ej10] at hf; exact hf) (lv_sub hl [0, 1] rfl) w
    · have hf := if_t hf c16
      refine lv_aload_n hx hb dX7_make_23 rfl (lv_at hl 0 rfl) ?_
      obtain ⟨v20, ev20, hf⟩ := ob_s hf
      refine px_getR hx hb hts nX7_make_X7 hown hK w ev20 rfl (by decide) mX7_make_41 rfl dX7_make_24 ?_
      refine lv_aload_n hx hb dX7_make_27 rfl (lv_at hl 0 rfl) ?_
      obtain ⟨v21, ev21, hf⟩ := ob_s hf
      refine px_getR hx hb hts nX7_make_X7 hown hK w ev21 rfl (by decide) mX7_make_14 rfl dX7_make_28 ?_
      obtain ⟨u24, eu24, hf⟩ := ob_s hf
      obtain ⟨h23, eh23, hf⟩ := ob_s hf
      refine px_callVv (As := [.ref (ι v21)]) (rest := []) ⟨hx, hb, hml, hown, hts⟩ hC w (kX1_reckon l D dA b0 ι N v20 v21 h7 h23 eh23) (cwV 1 hts gX7_make_X1_reckon rfl rfl rfl (by decide +kernel) ⟨Nat.le_of_ble_eq_true rfl, Nat.le_of_ble_eq_true rfl⟩) eu24 rfl rfl hl.1 rfl (Nat.le_of_ble_eq_true rfl) dX7_make_31 ⟨Nat.le_of_ble_eq_true rfl, Nat.le_of_ble_eq_true rfl⟩ (fun H locs w => ?_)
      refine lv_aload_n hx hb dX7_make_34 rfl (lv_at hl 0 rfl) ?_
      obtain ⟨v25, ev25, hf⟩ := ob_s hf
      refine px_getR hx hb hts nX7_make_X7 hown hK w ev25 rfl (by decide) mX7_make_41 rfl dX7_make_35 ?_
      refine lv_aload_n hx hb dX7_make_38 rfl (lv_at hl 0 rfl) ?_
      obtain ⟨v26, ev26, hf⟩ := ob_s hf
      refine px_getR hx hb hts nX7_make_X7 hown hK w ev26 rfl (by decide) mX7_make_45 rfl dX7_make_39 ?_
      refine lv_iconst (v := (0 : Int32)) hx hb dX7_make_42 (by decide) ?_
      obtain ⟨v27, ev27, hf⟩ := ob_s hf
      refine px_rald hx hb hK w ev27 rfl dX7_make_43 ?_
      obtain ⟨u30, eu30, hf⟩ := ob_s hf
      obtain ⟨h29, eh29, hf⟩ := ob_s hf
      refine px_callVv (As := [.ref (ι v27)]) (rest := []) ⟨hx, hb, hml, hown, hts⟩ hC w (kX1_writeTo l D dA b0 ι N v25 v27 h23 h29 eh29) (cwV 1 hts gX7_make_X1_writeTo rfl rfl rfl (by decide +kernel) ⟨Nat.le_of_ble_eq_true rfl, Nat.le_of_ble_eq_true rfl⟩) eu30 rfl rfl hl.1 rfl (Nat.le_of_ble_eq_true rfl) dX7_make_44 ⟨Nat.le_of_ble_eq_true rfl, Nat.le_of_ble_eq_true rfl⟩ (fun H locs w => ?_)
      refine lv_goto (tgt := 54) hx hb dX7_make_47 (by decide) ?_
      exact hj54 h29 H locs ls (by rw [ej10] at hf; exact hf) (lv_sub hl [0, 1] rfl) w
  · have hf := if_t hf c9
    refine lv_aload_n hx hb dX7_make_14 rfl (lv_at hl 0 rfl) ?_
    obtain ⟨u33, eu33, hf⟩ := ob_s hf
    obtain ⟨⟨v31, h32⟩, eh32, hf⟩ := ob_s hf
    dsimp only at hf
    refine px_callVi (As := []) (rest := []) ⟨hx, hb, hml, hown, hts⟩ hC w (kX7_makeInverse l D dA b0 ι N a0 h7 v31 h32 eh32) (cwV 0 hts gX7_make_X7_makeInverse rfl rfl rfl (by decide +kernel) ⟨Nat.le_of_ble_eq_true rfl, Nat.le_of_ble_eq_true rfl⟩) eu33 rfl rfl hl.1 rfl (Nat.le_of_ble_eq_true rfl) dX7_make_15 ⟨Nat.le_of_ble_eq_true rfl, Nat.le_of_ble_eq_true rfl⟩ (fun H locs w => ?_)
    exact W.iret hx hb hr (qi_end (inr_s hf) w hC) w.locs_ok dX7_make_18
set_option maxHeartbeats 4000000 in
set_option maxRecDepth 100000 in
theorem tX7_make (l : Launch) (hl0 : l.stackTraces = false) (D : va_G) (dA : Nat → ClassId) (b0 : Nat) (ι : Nat → Nat) (N : Nat) (a0 : Nat) (a1 : Int32) (h : Hp) (k : Nat) (h' : Hp) (hf : fX7_make N a0 a1 h = (some (Sum.inl k, h') : Option ((Nat ⊕ Int32) × Hp))) : vx_Met l yX7_make wtX7_make rtX7_make (PX D dA b0 ι [.ref (ι a0), .int a1] h) QF (XQ D dA b0 ι k h') 1 6 (qA b0) := by
  unfold fX7_make at hf
  refine vx_ofW (cc := cX7_make) (maxL := 2) (ret := (some .int)) (by decide +kernel) rfl ?_
  intro p e s m args below meth c s₁ B hml hnoh hv
  obtain ⟨rfl, w0, xt⟩ := hv
  have hx := B.exec
  have hb := B.bytes
  have hr := B.returns
  have htx := atoms_spec (ws := wtX7_make) B.pre
  have hts : ∀ w ∈ wsX7_make, w.before _ s = true := fun w hw => htx w (List.mem_append_left _ hw)
  have hown : s.vm.findClass RX7 = some m.cls := findClass_of_methodNamed B.named
  have hlocks := B.notSynchronized
  have hC := w0.c
  have hK := hC.1
  have w := WD.start w0
  clear w0
  have hl := lv_entry ([.ref (ι a0), .int a1]) (n := 2) (Nat.le_of_ble_eq_true rfl)
  rw [lg_entry_eq]
  generalize (lg_sl ([.ref (ι a0), .int a1]) ++ List.replicate (2 - (lg_sl ([.ref (ι a0), .int a1])).length) Slot.unset).toArray = ls at hl ⊢
  have hl : lv_has ls 2 [(0, .ref (ι a0)), (1, .int a1)] := hl
  obtain ⟨H, hH⟩ : ∃ H : Heap, H = s.heap := ⟨_, rfl⟩
  obtain ⟨locs, hlo⟩ : ∃ locs : List Loc, locs = [] := ⟨_, rfl⟩
  rw [← hlo]
  have w : WD D dA b0 ι h s.heap H locs := by rw [hH, hlo]; exact w
  refine px_start hH ?_
  refine lv_aload_n hx hb dX7_make_0 rfl (lv_at hl 0 rfl) ?_
  refine lv_iload_n hx hb dX7_make_1 rfl (lv_at hl 1 rfl) ?_
  obtain ⟨u1, eu1, hf⟩ := ob_s hf
  obtain ⟨⟨q4, h3⟩, eh3, hf⟩ := ob_s hf
  try dsimp only at hf
  rcases q4 with c5 | v2
  · have hf := thr_l hf
    exact px_tcall (As := [.int a1]) (rest := []) ⟨hx, hb, hml, hown, htx⟩ hC xt w (tX7_needForm l hl0 D dA b0 ι N a0 a1 h c5 h3 eh3) (cwV 1 htx (gx_V gX7_make_X7_needForm exG_good) rfl rfl rfl (by decide +kernel) ⟨Nat.le_of_ble_eq_true rfl, Nat.le_of_ble_eq_true rfl⟩) eu1 rfl rfl hl.1 rfl (Nat.le_of_ble_eq_true rfl) dX7_make_2 ⟨Nat.le_of_ble_eq_true rfl, Nat.le_of_ble_eq_true rfl⟩ hnoh hlocks (inl_s hf)
  have hf := thr_r hf
  refine px_callVv (As := [.int a1]) (rest := []) ⟨hx, hb, hml, hown, hts⟩ hC w (kX7_needForm l D dA b0 ι N a0 a1 h h3 eh3) (cwV 1 hts gX7_make_X7_needForm rfl rfl rfl (by decide +kernel) ⟨Nat.le_of_ble_eq_true rfl, Nat.le_of_ble_eq_true rfl⟩) eu1 rfl rfl hl.1 rfl (Nat.le_of_ble_eq_true rfl) dX7_make_2 ⟨Nat.le_of_ble_eq_true rfl, Nat.le_of_ble_eq_true rfl⟩ (fun H locs w => ?_)
  refine lv_aload_n hx hb dX7_make_5 rfl (lv_at hl 0 rfl) ?_
  obtain ⟨u8, eu8, hf⟩ := ob_s hf
  obtain ⟨h7, eh7, hf⟩ := ob_s hf
  refine px_callVv (As := []) (rest := []) ⟨hx, hb, hml, hown, hts⟩ hC w (kX7_knowMinors l D dA b0 ι N a0 h3 h7 eh7) (cwV 0 hts gX7_make_X7_knowMinors rfl rfl rfl (by decide +kernel) ⟨Nat.le_of_ble_eq_true rfl, Nat.le_of_ble_eq_true rfl⟩) eu8 rfl rfl hl.1 rfl (Nat.le_of_ble_eq_true rfl) dX7_make_6 ⟨Nat.le_of_ble_eq_true rfl, Nat.le_of_ble_eq_true rfl⟩ (fun H locs w => ?_)
  refine lv_iload_n hx hb dX7_make_9 rfl (lv_at hl 1 rfl) ?_
  refine lv_iconst (v := (2 : Int32)) hx hb dX7_make_10 (by decide) ?_
  refine lv_icmp_ne (tgt := 19) hx hb dX7_make_11 (by decide) (fun c9 => ?_) (fun c9 => ?_)
  · have hf := if_f hf c9
    refine lv_iload_n hx hb dX7_make_19 rfl (lv_at hl 1 rfl) ?_
    have hj54 : ∀ (h11 : Hp) (H : Heap) (locs : List Loc) (ls : Array Slot), ((gR h11 a0 9 12).bind fun v12 => (aZs h11 v12 a1 (1 : Int32)).bind fun h13 => (gR h13 a0 9 3).bind fun v14 => (gI h13 v14 5 4).bind fun v15 => some (Sum.inr v15, h13)) = (some (Sum.inl k, h') : Option ((Nat ⊕ Int32) × Hp)) → lv_has ls 2 [(0, .ref (ι a0)), (1, .int a1)] → WD D dA b0 ι h11 s.heap H locs → W p l e (headSpec wtX7_make rtX7_make).room s m ([.ref (ι a0), .int a1] : List Value).toArray below meth c H locs 0 0 (vx_MQ below QF (XQ D dA b0 ι k h') ([.ref (ι a0), .int a1] : List Value).toArray s 1 6 (qA b0)) (F0 m 54 ls []) := by
      intro h11 H locs ls hf hl w
      refine lv_aload_n hx hb dX7_make_54 rfl (lv_at hl 0 rfl) ?_
      obtain ⟨v12, ev12, hf⟩ := ob_s hf
      refine px_getR hx hb hts nX7_make_X7 hown hK w ev12 rfl (by decide) mX7_make_49 rfl dX7_make_55 ?_
      refine lv_iload_n hx hb dX7_make_58 rfl (lv_at hl 1 rfl) ?_
      refine lv_iconst (v := (1 : Int32)) hx hb dX7_make_59 (by decide) ?_
      obtain ⟨h13, eh13, hf⟩ := ob_s hf
      refine px_zast hx hb hK w eh13 dX7_make_60 (fun H locs w => ?_)
      refine lv_aload_n hx hb dX7_make_61 rfl (lv_at hl 0 rfl) ?_
      obtain ⟨v14, ev14, hf⟩ := ob_s hf
      refine px_getR hx hb hts nX7_make_X7 hown hK w ev14 rfl (by decide) mX7_make_21 rfl dX7_make_62 ?_
      obtain ⟨v15, ev15, hf⟩ := ob_s hf
      refine px_getIN hx hb hts nX7_make_X3 hown hK w ev15 rfl (by decide) (hC.2.1 _ nest_11) rfl dX7_make_65 ?_
      cases hf
    obtain ⟨j10, ej10, hf⟩ := jn_s hf
    refine lv_if_ne (tgt := 50) hx hb dX7_make_20 (by decide) (fun c16 => ?_) (fun c16 => ?_)
    · have hf := if_f hf c16
      refine lv_aload_n hx hb dX7_make_50 rfl (lv_at hl 0 rfl) ?_
      obtain ⟨u19, eu19, hf⟩ := ob_s hf
      obtain ⟨h18, eh18, hf⟩ := ob_s hf
      refine px_callVv (As := []) (rest := []) ⟨hx, hb, hml, hown, hts⟩ hC w (kX7_makeSmith l D dA b0 ι N a0 h7 h18 eh18) (cwV 0 hts gX7_make_X7_makeSmith rfl rfl rfl (by decide +kernel) ⟨Nat.le_of_ble_eq_true rfl, Nat.le_of_ble_eq_true rfl⟩) eu19 rfl rfl hl.1 rfl (Nat.le_of_ble_eq_true rfl) dX7_make_51 ⟨Nat.le_of_ble_eq_true rfl, Nat.le_of_ble_eq_true rfl⟩ (fun H locs w => ?_)
      exact hj54 h18 H locs ls (by rw [ej10] at hf; exact hf) (lv_sub hl [0, 1] rfl) w
    · have hf := if_t hf c16
      refine lv_aload_n hx hb dX7_make_23 rfl (lv_at hl 0 rfl) ?_
      obtain ⟨v20, ev20, hf⟩ := ob_s hf
      refine px_getR hx hb hts nX7_make_X7 hown hK w ev20 rfl (by decide) mX7_make_41 rfl dX7_make_24 ?_
      refine lv_aload_n hx hb dX7_make_27 rfl (lv_at hl 0 rfl) ?_
      obtain ⟨v21, ev21, hf⟩ := ob_s hf
      refine px_getR hx hb hts nX7_make_X7 hown hK w ev21 rfl (by decide) mX7_make_14 rfl dX7_make_28 ?_
      obtain ⟨u24, eu24, hf⟩ := ob_s hf
      obtain ⟨h23, eh23, hf⟩ := ob_s hf
      refine px_callVv (As := [.ref (ι v21)]) (rest := []) ⟨hx, hb, hml, hown, hts⟩ hC w (kX1_reckon l D dA b0 ι N v20 v21 h7 h23 eh23) (cwV 1 hts gX7_make_X1_reckon rfl rfl rfl (by decide +kernel) ⟨Nat.le_of_ble_eq_true rfl, Nat.le_of_ble_eq_true rfl⟩) eu24 rfl rfl hl.1 rfl (Nat.le_of_ble_eq_true rfl) dX7_make_31 ⟨Nat.le_of_ble_eq_true rfl, Nat.le_of_ble_eq_true rfl⟩ (fun H locs w => ?_)
      refine lv_aload_n hx hb dX7_make_34 rfl (lv_at hl 0 rfl) ?_
      obtain ⟨v25, ev25, hf⟩ := ob_s hf
      refine px_getR hx hb hts nX7_make_X7 hown hK w ev25 rfl (by decide) mX7_make_41 rfl dX7_make_35 ?_
      refine lv_aload_n hx hb dX7_make_38 rfl (lv_at hl 0 rfl) ?_
      obtain ⟨v26, ev26, hf⟩ := ob_s hf
      refine px_getR hx hb hts nX7_make_X7 hown hK w ev26 rfl (by decide) mX7_make_45 rfl dX7_make_39 ?_
      refine lv_iconst (v := (0 : Int32)) hx hb dX7_make_42 (by decide) ?_
      obtain ⟨v27, ev27, hf⟩ := ob_s hf
      refine px_rald hx hb hK w ev27 rfl dX7_make_43 ?_
      obtain ⟨u30, eu30, hf⟩ := ob_s hf
      obtain ⟨h29, eh29, hf⟩ := ob_s hf
      refine px_callVv (As := [.ref (ι v27)]) (rest := []) ⟨hx, hb, hml, hown, hts⟩ hC w (kX1_writeTo l D dA b0 ι N v25 v27 h23 h29 eh29) (cwV 1 hts gX7_make_X1_writeTo rfl rfl rfl (by decide +kernel) ⟨Nat.le_of_ble_eq_true rfl, Nat.le_of_ble_eq_true rfl⟩) eu30 rfl rfl hl.1 rfl (Nat.le_of_ble_eq_true rfl) dX7_make_44 ⟨Nat.le_of_ble_eq_true rfl, Nat.le_of_ble_eq_true rfl⟩ (fun H locs w => ?_)
      refine lv_goto (tgt := 54) hx hb dX7_make_47 (by decide) ?_
      exact hj54 h29 H locs ls (by rw [ej10] at hf; exact hf) (lv_sub hl [0, 1] rfl) w
  · have hf := if_t hf c9
    refine lv_aload_n hx hb dX7_make_14 rfl (lv_at hl 0 rfl) ?_
    obtain ⟨u33, eu33, hf⟩ := ob_s hf
    obtain ⟨⟨v31, h32⟩, eh32, hf⟩ := ob_s hf
    dsimp only at hf
    refine px_callVi (As := []) (rest := []) ⟨hx, hb, hml, hown, hts⟩ hC w (kX7_makeInverse l D dA b0 ι N a0 h7 v31 h32 eh32) (cwV 0 hts gX7_make_X7_makeInverse rfl rfl rfl (by decide +kernel) ⟨Nat.le_of_ble_eq_true rfl, Nat.le_of_ble_eq_true rfl⟩) eu33 rfl rfl hl.1 rfl (Nat.le_of_ble_eq_true rfl) dX7_make_15 ⟨Nat.le_of_ble_eq_true rfl, Nat.le_of_ble_eq_true rfl⟩ (fun H locs w => ?_)
    cases hf
theorem nX7_degree_X4 : ∀ w ∈ wsX40, w ∈ wsX7_degree := by decide +kernel
abbrev rmX7_degree : Room := { frames := 3, cells := 0, slots := 0, locals := 57 }
abbrev rtX7_degree : Room := { frames := 9, cells := 1, slots := 6, locals := 148 }
abbrev wtX7_degree : List Cond := wsX7_degree ++ exG
set_option maxHeartbeats 4000000 in
set_option maxRecDepth 100000 in
theorem kX7_degree (l : Launch) (D : va_G) (dA : Nat → ClassId) (b0 : Nat) (ι : Nat → Nat) (N : Nat) (a0 : Nat) (a1 : Int32) (a2 : Int32) (a3 : Int32) (h : Hp) (r : Int32) (h' : Hp) (hf : fX7_degree N a0 a1 a2 a3 h = (some (Sum.inr r, h') : Option ((Nat ⊕ Int32) × Hp))) : Met l yX7_degree wsX7_degree rmX7_degree (PC D dA b0 ι [.ref (ι a0), .int a1, .int a2, .int a3] h) (QI D dA b0 ι r h') 0 0 (qA b0) := by
  unfold fX7_degree at hf
  refine Met.ofW (cc := cX7_degree) (maxL := 4) (ret := (some .int)) (by decide +kernel) rfl ?_
  intro p e s m args below meth c s₁ B hml hv
  obtain ⟨rfl, w0⟩ := hv
  have hx := B.exec
  have hb := B.bytes
  have hr := B.returns
  have hts := atoms_spec (ws := wsX7_degree) B.pre
  have hown : s.vm.findClass RX7 = some m.cls := findClass_of_methodNamed B.named
  have hlocks := B.notSynchronized
  have hC := w0.c
  have hK := hC.1
  have w := WD.start w0
  clear w0
  have hl := lv_entry ([.ref (ι a0), .int a1, .int a2, .int a3]) (n := 4) (Nat.le_of_ble_eq_true rfl)
  rw [lg_entry_eq]
  generalize (lg_sl ([.ref (ι a0), .int a1, .int a2, .int a3]) ++ List.replicate (4 - (lg_sl ([.ref (ι a0), .int a1, .int a2, .int a3])).length) Slot.unset).toArray = ls at hl ⊢
  have hl : lv_has ls 4 [(0, .ref (ι a0)), (1, .int a1), (2, .int a2), (3, .int a3)] := hl
  obtain ⟨H, hH⟩ : ∃ H : Heap, H = s.heap := ⟨_, rfl⟩
  obtain ⟨locs, hlo⟩ : ∃ locs : List Loc, locs = [] := ⟨_, rfl⟩
  rw [← hlo]
  have w : WD D dA b0 ι h s.heap H locs := by rw [hH, hlo]; exact w
  refine px_start hH ?_
  refine lv_aload_n hx hb dX7_degree_0 rfl (lv_at hl 0 rfl) ?_
  refine lv_iload_n hx hb dX7_degree_1 rfl (lv_at hl 1 rfl) ?_
  refine lv_iload_n hx hb dX7_degree_2 rfl (lv_at hl 2 rfl) ?_
  refine lv_iload_n hx hb dX7_degree_3 rfl (lv_at hl 3 rfl) ?_
  obtain ⟨u1, eu1, hf⟩ := ob_s hf
  obtain ⟨⟨q4, h3⟩, eh3, hf⟩ := ob_s hf
  try dsimp only at hf
  rcases q4 with c5 | v2
  · have hf := thr_l hf
    cases hf
  have hf := thr_r hf
  refine px_callVr (As := [.int a1, .int a2, .int a3]) (rest := []) ⟨hx, hb, hml, hown, hts⟩ hC w (kX7_formCell l D dA b0 ι N a0 a1 a2 a3 h v2 h3 eh3) (cwV 3 hts gX7_degree_X7_formCell rfl rfl rfl (by decide +kernel) ⟨Nat.le_of_ble_eq_true rfl, Nat.le_of_ble_eq_true rfl⟩) eu1 rfl rfl hl.1 rfl (Nat.le_of_ble_eq_true rfl) dX7_degree_4 ⟨Nat.le_of_ble_eq_true rfl, Nat.le_of_ble_eq_true rfl⟩ (fun H locs w => ?_)
  obtain ⟨v6, ev6, hf⟩ := ob_s hf
  refine px_getIN hx hb hts nX7_degree_X4 hown hK w ev6 rfl (by decide) (hC.2.1 _ nest_13) rfl dX7_degree_7 ?_
  exact W.iret hx hb hr (qi_end (inr_s hf) w hC) w.locs_ok dX7_degree_10
set_option maxHeartbeats 4000000 in
set_option maxRecDepth 100000 in
theorem tX7_degree (l : Launch) (hl0 : l.stackTraces = false) (D : va_G) (dA : Nat → ClassId) (b0 : Nat) (ι : Nat → Nat) (N : Nat) (a0 : Nat) (a1 : Int32) (a2 : Int32) (a3 : Int32) (h : Hp) (k : Nat) (h' : Hp) (hf : fX7_degree N a0 a1 a2 a3 h = (some (Sum.inl k, h') : Option ((Nat ⊕ Int32) × Hp))) : vx_Met l yX7_degree wtX7_degree rtX7_degree (PX D dA b0 ι [.ref (ι a0), .int a1, .int a2, .int a3] h) QF (XQ D dA b0 ι k h') 1 6 (qA b0) := by
  unfold fX7_degree at hf
  refine vx_ofW (cc := cX7_degree) (maxL := 4) (ret := (some .int)) (by decide +kernel) rfl ?_
  intro p e s m args below meth c s₁ B hml hnoh hv
  obtain ⟨rfl, w0, xt⟩ := hv
  have hx := B.exec
  have hb := B.bytes
  have hr := B.returns
  have htx := atoms_spec (ws := wtX7_degree) B.pre
  have hts : ∀ w ∈ wsX7_degree, w.before _ s = true := fun w hw => htx w (List.mem_append_left _ hw)
  have hown : s.vm.findClass RX7 = some m.cls := findClass_of_methodNamed B.named
  have hlocks := B.notSynchronized
  have hC := w0.c
  have hK := hC.1
  have w := WD.start w0
  clear w0
  have hl := lv_entry ([.ref (ι a0), .int a1, .int a2, .int a3]) (n := 4) (Nat.le_of_ble_eq_true rfl)
  rw [lg_entry_eq]
  generalize (lg_sl ([.ref (ι a0), .int a1, .int a2, .int a3]) ++ List.replicate (4 - (lg_sl ([.ref (ι a0), .int a1, .int a2, .int a3])).length) Slot.unset).toArray = ls at hl ⊢
  have hl : lv_has ls 4 [(0, .ref (ι a0)), (1, .int a1), (2, .int a2), (3, .int a3)] := hl
  obtain ⟨H, hH⟩ : ∃ H : Heap, H = s.heap := ⟨_, rfl⟩
  obtain ⟨locs, hlo⟩ : ∃ locs : List Loc, locs = [] := ⟨_, rfl⟩
  rw [← hlo]
  have w : WD D dA b0 ι h s.heap H locs := by rw [hH, hlo]; exact w
  refine px_start hH ?_
  refine lv_aload_n hx hb dX7_degree_0 rfl (lv_at hl 0 rfl) ?_
  refine lv_iload_n hx hb dX7_degree_1 rfl (lv_at hl 1 rfl) ?_
  refine lv_iload_n hx hb dX7_degree_2 rfl (lv_at hl 2 rfl) ?_
  refine lv_iload_n hx hb dX7_degree_3 rfl (lv_at hl 3 rfl) ?_
  obtain ⟨u1, eu1, hf⟩ := ob_s hf
  obtain ⟨⟨q4, h3⟩, eh3, hf⟩ := ob_s hf
  try dsimp only at hf
  rcases q4 with c5 | v2
  · have hf := thr_l hf
    exact px_tcall (As := [.int a1, .int a2, .int a3]) (rest := []) ⟨hx, hb, hml, hown, htx⟩ hC xt w (tX7_formCell l hl0 D dA b0 ι N a0 a1 a2 a3 h c5 h3 eh3) (cwV 3 htx (gx_V gX7_degree_X7_formCell exG_good) rfl rfl rfl (by decide +kernel) ⟨Nat.le_of_ble_eq_true rfl, Nat.le_of_ble_eq_true rfl⟩) eu1 rfl rfl hl.1 rfl (Nat.le_of_ble_eq_true rfl) dX7_degree_4 ⟨Nat.le_of_ble_eq_true rfl, Nat.le_of_ble_eq_true rfl⟩ hnoh hlocks (inl_s hf)
  have hf := thr_r hf
  refine px_callVr (As := [.int a1, .int a2, .int a3]) (rest := []) ⟨hx, hb, hml, hown, hts⟩ hC w (kX7_formCell l D dA b0 ι N a0 a1 a2 a3 h v2 h3 eh3) (cwV 3 hts gX7_degree_X7_formCell rfl rfl rfl (by decide +kernel) ⟨Nat.le_of_ble_eq_true rfl, Nat.le_of_ble_eq_true rfl⟩) eu1 rfl rfl hl.1 rfl (Nat.le_of_ble_eq_true rfl) dX7_degree_4 ⟨Nat.le_of_ble_eq_true rfl, Nat.le_of_ble_eq_true rfl⟩ (fun H locs w => ?_)
  obtain ⟨v6, ev6, hf⟩ := ob_s hf
  refine px_getIN hx hb hts nX7_degree_X4 hown hK w ev6 rfl (by decide) (hC.2.1 _ nest_13) rfl dX7_degree_7 ?_
  cases hf
abbrev rmX7_at : Room := { frames := 3, cells := 0, slots := 0, locals := 57 }
abbrev rtX7_at : Room := { frames := 9, cells := 1, slots := 6, locals := 148 }
abbrev wtX7_at : List Cond := wsX7_at ++ exG
set_option maxHeartbeats 4000000 in
set_option maxRecDepth 100000 in
theorem kX7_at (l : Launch) (D : va_G) (dA : Nat → ClassId) (b0 : Nat) (ι : Nat → Nat) (N : Nat) (a0 : Nat) (a1 : Int32) (a2 : Int32) (a3 : Int32) (a4 : Int32) (h : Hp) (r : Int32) (h' : Hp) (hf : fX7_at N a0 a1 a2 a3 a4 h = (some (Sum.inr r, h') : Option ((Nat ⊕ Int32) × Hp))) : Met l yX7_at wsX7_at rmX7_at (PC D dA b0 ι [.ref (ι a0), .int a1, .int a2, .int a3, .int a4] h) (QI D dA b0 ι r h') 0 0 (qA b0) := by
  unfold fX7_at at hf
  refine Met.ofW (cc := cX7_at) (maxL := 5) (ret := (some .int)) (by decide +kernel) rfl ?_
  intro p e s m args below meth c s₁ B hml hv
  obtain ⟨rfl, w0⟩ := hv
  have hx := B.exec
  have hb := B.bytes
  have hr := B.returns
  have hts := atoms_spec (ws := wsX7_at) B.pre
  have hown : s.vm.findClass RX7 = some m.cls := findClass_of_methodNamed B.named
  have hlocks := B.notSynchronized
  have hC := w0.c
  have hK := hC.1
  have w := WD.start w0
  clear w0
  have hl := lv_entry ([.ref (ι a0), .int a1, .int a2, .int a3, .int a4]) (n := 5) (Nat.le_of_ble_eq_true rfl)
  rw [lg_entry_eq]
  generalize (lg_sl ([.ref (ι a0), .int a1, .int a2, .int a3, .int a4]) ++ List.replicate (5 - (lg_sl ([.ref (ι a0), .int a1, .int a2, .int a3, .int a4])).length) Slot.unset).toArray = ls at hl ⊢
  have hl : lv_has ls 5 [(0, .ref (ι a0)), (1, .int a1), (2, .int a2), (3, .int a3), (4, .int a4)] := hl
  obtain ⟨H, hH⟩ : ∃ H : Heap, H = s.heap := ⟨_, rfl⟩
  obtain ⟨locs, hlo⟩ : ∃ locs : List Loc, locs = [] := ⟨_, rfl⟩
  rw [← hlo]
  have w : WD D dA b0 ι h s.heap H locs := by rw [hH, hlo]; exact w
  refine px_start hH ?_
  refine lv_aload_n hx hb dX7_at_0 rfl (lv_at hl 0 rfl) ?_
  refine lv_iload_n hx hb dX7_at_1 rfl (lv_at hl 1 rfl) ?_
  refine lv_iload_n hx hb dX7_at_2 rfl (lv_at hl 2 rfl) ?_
  refine lv_iload_n hx hb dX7_at_3 rfl (lv_at hl 3 rfl) ?_
  obtain ⟨u1, eu1, hf⟩ := ob_s hf
  obtain ⟨⟨q4, h3⟩, eh3, hf⟩ := ob_s hf
  try dsimp only at hf
  rcases q4 with c5 | v2
  · have hf := thr_l hf
    cases hf
  have hf := thr_r hf
  refine px_callVr (As := [.int a1, .int a2, .int a3]) (rest := []) ⟨hx, hb, hml, hown, hts⟩ hC w (kX7_formCell l D dA b0 ι N a0 a1 a2 a3 h v2 h3 eh3) (cwV 3 hts gX7_at_X7_formCell rfl rfl rfl (by decide +kernel) ⟨Nat.le_of_ble_eq_true rfl, Nat.le_of_ble_eq_true rfl⟩) eu1 rfl rfl hl.1 rfl (Nat.le_of_ble_eq_true rfl) dX7_at_4 ⟨Nat.le_of_ble_eq_true rfl, Nat.le_of_ble_eq_true rfl⟩ (fun H locs w => ?_)
  refine lv_iload hx hb dX7_at_7 (lv_at hl 4 rfl) ?_
  obtain ⟨u8, eu8, hf⟩ := ob_s hf
  obtain ⟨⟨v6, h7⟩, eh7, hf⟩ := ob_s hf
  dsimp only at hf
  refine px_callVi (As := [.int a4]) (rest := []) ⟨hx, hb, hml, hown, hts⟩ hC w (kX4_numberAt l D dA b0 ι N v2 a4 h3 v6 h7 eh7) (cwV 1 hts gX7_at_X4_numberAt rfl rfl rfl (by decide +kernel) ⟨Nat.le_of_ble_eq_true rfl, Nat.le_of_ble_eq_true rfl⟩) eu8 rfl rfl hl.1 rfl (Nat.le_of_ble_eq_true rfl) dX7_at_9 ⟨Nat.le_of_ble_eq_true rfl, Nat.le_of_ble_eq_true rfl⟩ (fun H locs w => ?_)
  exact W.iret hx hb hr (qi_end (inr_s hf) w hC) w.locs_ok dX7_at_12
set_option maxHeartbeats 4000000 in
set_option maxRecDepth 100000 in
theorem tX7_at (l : Launch) (hl0 : l.stackTraces = false) (D : va_G) (dA : Nat → ClassId) (b0 : Nat) (ι : Nat → Nat) (N : Nat) (a0 : Nat) (a1 : Int32) (a2 : Int32) (a3 : Int32) (a4 : Int32) (h : Hp) (k : Nat) (h' : Hp) (hf : fX7_at N a0 a1 a2 a3 a4 h = (some (Sum.inl k, h') : Option ((Nat ⊕ Int32) × Hp))) : vx_Met l yX7_at wtX7_at rtX7_at (PX D dA b0 ι [.ref (ι a0), .int a1, .int a2, .int a3, .int a4] h) QF (XQ D dA b0 ι k h') 1 6 (qA b0) := by
  unfold fX7_at at hf
  refine vx_ofW (cc := cX7_at) (maxL := 5) (ret := (some .int)) (by decide +kernel) rfl ?_
  intro p e s m args below meth c s₁ B hml hnoh hv
  obtain ⟨rfl, w0, xt⟩ := hv
  have hx := B.exec
  have hb := B.bytes
  have hr := B.returns
  have htx := atoms_spec (ws := wtX7_at) B.pre
  have hts : ∀ w ∈ wsX7_at, w.before _ s = true := fun w hw => htx w (List.mem_append_left _ hw)
  have hown : s.vm.findClass RX7 = some m.cls := findClass_of_methodNamed B.named
  have hlocks := B.notSynchronized
  have hC := w0.c
  have hK := hC.1
  have w := WD.start w0
  clear w0
  have hl := lv_entry ([.ref (ι a0), .int a1, .int a2, .int a3, .int a4]) (n := 5) (Nat.le_of_ble_eq_true rfl)
  rw [lg_entry_eq]
  generalize (lg_sl ([.ref (ι a0), .int a1, .int a2, .int a3, .int a4]) ++ List.replicate (5 - (lg_sl ([.ref (ι a0), .int a1, .int a2, .int a3, .int a4])).length) Slot.unset).toArray = ls at hl ⊢
  have hl : lv_has ls 5 [(0, .ref (ι a0)), (1, .int a1), (2, .int a2), (3, .int a3), (4, .int a4)] := hl
  obtain ⟨H, hH⟩ : ∃ H : Heap, H = s.heap := ⟨_, rfl⟩
  obtain ⟨locs, hlo⟩ : ∃ locs : List Loc, locs = [] := ⟨_, rfl⟩
  rw [← hlo]
  have w : WD D dA b0 ι h s.heap H locs := by rw [hH, hlo]; exact w
  refine px_start hH ?_
  refine lv_aload_n hx hb dX7_at_0 rfl (lv_at hl 0 rfl) ?_
  refine lv_iload_n hx hb dX7_at_1 rfl (lv_at hl 1 rfl) ?_
  refine lv_iload_n hx hb dX7_at_2 rfl (lv_at hl 2 rfl) ?_
  refine lv_iload_n hx hb dX7_at_3 rfl (lv_at hl 3 rfl) ?_
  obtain ⟨u1, eu1, hf⟩ := ob_s hf
  obtain ⟨⟨q4, h3⟩, eh3, hf⟩ := ob_s hf
  try dsimp only at hf
  rcases q4 with c5 | v2
  · have hf := thr_l hf
    exact px_tcall (As := [.int a1, .int a2, .int a3]) (rest := []) ⟨hx, hb, hml, hown, htx⟩ hC xt w (tX7_formCell l hl0 D dA b0 ι N a0 a1 a2 a3 h c5 h3 eh3) (cwV 3 htx (gx_V gX7_at_X7_formCell exG_good) rfl rfl rfl (by decide +kernel) ⟨Nat.le_of_ble_eq_true rfl, Nat.le_of_ble_eq_true rfl⟩) eu1 rfl rfl hl.1 rfl (Nat.le_of_ble_eq_true rfl) dX7_at_4 ⟨Nat.le_of_ble_eq_true rfl, Nat.le_of_ble_eq_true rfl⟩ hnoh hlocks (inl_s hf)
  have hf := thr_r hf
  refine px_callVr (As := [.int a1, .int a2, .int a3]) (rest := []) ⟨hx, hb, hml, hown, hts⟩ hC w (kX7_formCell l D dA b0 ι N a0 a1 a2 a3 h v2 h3 eh3) (cwV 3 hts gX7_at_X7_formCell rfl rfl rfl (by decide +kernel) ⟨Nat.le_of_ble_eq_true rfl, Nat.le_of_ble_eq_true rfl⟩) eu1 rfl rfl hl.1 rfl (Nat.le_of_ble_eq_true rfl) dX7_at_4 ⟨Nat.le_of_ble_eq_true rfl, Nat.le_of_ble_eq_true rfl⟩ (fun H locs w => ?_)
  refine lv_iload hx hb dX7_at_7 (lv_at hl 4 rfl) ?_
  obtain ⟨u8, eu8, hf⟩ := ob_s hf
  obtain ⟨⟨v6, h7⟩, eh7, hf⟩ := ob_s hf
  dsimp only at hf
  refine px_callVi (As := [.int a4]) (rest := []) ⟨hx, hb, hml, hown, hts⟩ hC w (kX4_numberAt l D dA b0 ι N v2 a4 h3 v6 h7 eh7) (cwV 1 hts gX7_at_X4_numberAt rfl rfl rfl (by decide +kernel) ⟨Nat.le_of_ble_eq_true rfl, Nat.le_of_ble_eq_true rfl⟩) eu8 rfl rfl hl.1 rfl (Nat.le_of_ble_eq_true rfl) dX7_at_9 ⟨Nat.le_of_ble_eq_true rfl, Nat.le_of_ble_eq_true rfl⟩ (fun H locs w => ?_)
  cases hf
theorem nX7_determinant_X7 : ∀ w ∈ wsX70, w ∈ wsX7_determinant := by decide +kernel
theorem mX7_determinant_21 : Cond.fieldLink RX7 21 "NormalForms" "minors" "LNormalForms$Minors;" ∈ wsX7_determinant := by decide +kernel
theorem mX7_determinant_79 : Cond.fieldLink RX7 79 "NormalForms" "rowCount" "I" ∈ wsX7_determinant := by decide +kernel
abbrev rmX7_determinant : Room := { frames := 7, cells := 0, slots := 0, locals := 151 }
abbrev rtX7_determinant : Room := { frames := 7, cells := 1, slots := 6, locals := 151 }
abbrev wtX7_determinant : List Cond := wsX7_determinant ++ exG
set_option maxHeartbeats 4000000 in
set_option maxRecDepth 100000 in
theorem kX7_determinant (l : Launch) (D : va_G) (dA : Nat → ClassId) (b0 : Nat) (ι : Nat → Nat) (N : Nat) (a0 : Nat) (a1 : Int32) (h : Hp) (r : Int32) (h' : Hp) (hf : fX7_determinant N a0 a1 h = (some (Sum.inr r, h') : Option ((Nat ⊕ Int32) × Hp))) : Met l yX7_determinant wsX7_determinant rmX7_determinant (PC D dA b0 ι [.ref (ι a0), .int a1] h) (QI D dA b0 ι r h') 0 0 (qA b0) := by
  unfold fX7_determinant at hf
  refine Met.ofW (cc := cX7_determinant) (maxL := 2) (ret := (some .int)) (by decide +kernel) rfl ?_
  intro p e s m args below meth c s₁ B hml hv
  obtain ⟨rfl, w0⟩ := hv
  have hx := B.exec
  have hb := B.bytes
  have hr := B.returns
  have hts := atoms_spec (ws := wsX7_determinant) B.pre
  have hown : s.vm.findClass RX7 = some m.cls := findClass_of_methodNamed B.named
  have hlocks := B.notSynchronized
  have hC := w0.c
  have hK := hC.1
  have w := WD.start w0
  clear w0
  have hl := lv_entry ([.ref (ι a0), .int a1]) (n := 2) (Nat.le_of_ble_eq_true rfl)
  rw [lg_entry_eq]
  generalize (lg_sl ([.ref (ι a0), .int a1]) ++ List.replicate (2 - (lg_sl ([.ref (ι a0), .int a1])).length) Slot.unset).toArray = ls at hl ⊢
  have hl : lv_has ls 2 [(0, .ref (ι a0)), (1, .int a1)] := hl
  obtain ⟨H, hH⟩ : ∃ H : Heap, H = s.heap := ⟨_, rfl⟩
  obtain ⟨locs, hlo⟩ : ∃ locs : List Loc, locs = [] := ⟨_, rfl⟩
  rw [← hlo]
  have w : WD D dA b0 ι h s.heap H locs := by rw [hH, hlo]; exact w
  refine px_start hH ?_
  refine lv_aload_n hx hb dX7_determinant_0 rfl (lv_at hl 0 rfl) ?_
  obtain ⟨u1, eu1, hf⟩ := ob_s hf
  obtain ⟨⟨q4, h3⟩, eh3, hf⟩ := ob_s hf
  try dsimp only at hf
  rcases q4 with c5 | v2
  · have hf := thr_l hf
    cases hf
  have hf := thr_r hf
  refine px_callVv (As := []) (rest := []) ⟨hx, hb, hml, hown, hts⟩ hC w (kX7_needSquare l D dA b0 ι N a0 h h3 eh3) (cwV 0 hts gX7_determinant_X7_needSquare rfl rfl rfl (by decide +kernel) ⟨Nat.le_of_ble_eq_true rfl, Nat.le_of_ble_eq_true rfl⟩) eu1 rfl rfl hl.1 rfl (Nat.le_of_ble_eq_true rfl) dX7_determinant_1 ⟨Nat.le_of_ble_eq_true rfl, Nat.le_of_ble_eq_true rfl⟩ (fun H locs w => ?_)
  refine lv_aload_n hx hb dX7_determinant_4 rfl (lv_at hl 0 rfl) ?_
  obtain ⟨u8, eu8, hf⟩ := ob_s hf
  obtain ⟨h7, eh7, hf⟩ := ob_s hf
  refine px_callVv (As := []) (rest := []) ⟨hx, hb, hml, hown, hts⟩ hC w (kX7_knowMinors l D dA b0 ι N a0 h3 h7 eh7) (cwV 0 hts gX7_determinant_X7_knowMinors rfl rfl rfl (by decide +kernel) ⟨Nat.le_of_ble_eq_true rfl, Nat.le_of_ble_eq_true rfl⟩) eu8 rfl rfl hl.1 rfl (Nat.le_of_ble_eq_true rfl) dX7_determinant_5 ⟨Nat.le_of_ble_eq_true rfl, Nat.le_of_ble_eq_true rfl⟩ (fun H locs w => ?_)
  refine lv_aload_n hx hb dX7_determinant_8 rfl (lv_at hl 0 rfl) ?_
  obtain ⟨v9, ev9, hf⟩ := ob_s hf
  refine px_getR hx hb hts nX7_determinant_X7 hown hK w ev9 rfl (by decide) mX7_determinant_21 rfl dX7_determinant_9 ?_
  refine lv_aload_n hx hb dX7_determinant_12 rfl (lv_at hl 0 rfl) ?_
  obtain ⟨v10, ev10, hf⟩ := ob_s hf
  refine px_getI hx hb hts nX7_determinant_X7 hown hK w ev10 rfl (by decide) mX7_determinant_79 rfl dX7_determinant_13 ?_
  obtain ⟨u13, eu13, hf⟩ := ob_s hf
  obtain ⟨⟨v11, h12⟩, eh12, hf⟩ := ob_s hf
  dsimp only at hf
  refine px_callVr (As := [.int v10]) (rest := []) ⟨hx, hb, hml, hown, hts⟩ hC w (kX3_leading l D dA b0 ι N v9 v10 h7 v11 h12 eh12) (cwV 1 hts gX7_determinant_X3_leading rfl rfl rfl (by decide +kernel) ⟨Nat.le_of_ble_eq_true rfl, Nat.le_of_ble_eq_true rfl⟩) eu13 rfl rfl hl.1 rfl (Nat.le_of_ble_eq_true rfl) dX7_determinant_16 ⟨Nat.le_of_ble_eq_true rfl, Nat.le_of_ble_eq_true rfl⟩ (fun H locs w => ?_)
  refine lv_iload_n hx hb dX7_determinant_19 rfl (lv_at hl 1 rfl) ?_
  obtain ⟨u16, eu16, hf⟩ := ob_s hf
  obtain ⟨⟨v14, h15⟩, eh15, hf⟩ := ob_s hf
  dsimp only at hf
  refine px_callVi (As := [.int a1]) (rest := []) ⟨hx, hb, hml, hown, hts⟩ hC w (kX4_numberAt l D dA b0 ι N v11 a1 h12 v14 h15 eh15) (cwV 1 hts gX7_determinant_X4_numberAt rfl rfl rfl (by decide +kernel) ⟨Nat.le_of_ble_eq_true rfl, Nat.le_of_ble_eq_true rfl⟩) eu16 rfl rfl hl.1 rfl (Nat.le_of_ble_eq_true rfl) dX7_determinant_20 ⟨Nat.le_of_ble_eq_true rfl, Nat.le_of_ble_eq_true rfl⟩ (fun H locs w => ?_)
  exact W.iret hx hb hr (qi_end (inr_s hf) w hC) w.locs_ok dX7_determinant_23
set_option maxHeartbeats 4000000 in
set_option maxRecDepth 100000 in
theorem tX7_determinant (l : Launch) (hl0 : l.stackTraces = false) (D : va_G) (dA : Nat → ClassId) (b0 : Nat) (ι : Nat → Nat) (N : Nat) (a0 : Nat) (a1 : Int32) (h : Hp) (k : Nat) (h' : Hp) (hf : fX7_determinant N a0 a1 h = (some (Sum.inl k, h') : Option ((Nat ⊕ Int32) × Hp))) : vx_Met l yX7_determinant wtX7_determinant rtX7_determinant (PX D dA b0 ι [.ref (ι a0), .int a1] h) QF (XQ D dA b0 ι k h') 1 6 (qA b0) := by
  unfold fX7_determinant at hf
  refine vx_ofW (cc := cX7_determinant) (maxL := 2) (ret := (some .int)) (by decide +kernel) rfl ?_
  intro p e s m args below meth c s₁ B hml hnoh hv
  obtain ⟨rfl, w0, xt⟩ := hv
  have hx := B.exec
  have hb := B.bytes
  have hr := B.returns
  have htx := atoms_spec (ws := wtX7_determinant) B.pre
  have hts : ∀ w ∈ wsX7_determinant, w.before _ s = true := fun w hw => htx w (List.mem_append_left _ hw)
  have hown : s.vm.findClass RX7 = some m.cls := findClass_of_methodNamed B.named
  have hlocks := B.notSynchronized
  have hC := w0.c
  have hK := hC.1
  have w := WD.start w0
  clear w0
  have hl := lv_entry ([.ref (ι a0), .int a1]) (n := 2) (Nat.le_of_ble_eq_true rfl)
  rw [lg_entry_eq]
  generalize (lg_sl ([.ref (ι a0), .int a1]) ++ List.replicate (2 - (lg_sl ([.ref (ι a0), .int a1])).length) Slot.unset).toArray = ls at hl ⊢
  have hl : lv_has ls 2 [(0, .ref (ι a0)), (1, .int a1)] := hl
  obtain ⟨H, hH⟩ : ∃ H : Heap, H = s.heap := ⟨_, rfl⟩
  obtain ⟨locs, hlo⟩ : ∃ locs : List Loc, locs = [] := ⟨_, rfl⟩
  rw [← hlo]
  have w : WD D dA b0 ι h s.heap H locs := by rw [hH, hlo]; exact w
  refine px_start hH ?_
  refine lv_aload_n hx hb dX7_determinant_0 rfl (lv_at hl 0 rfl) ?_
  obtain ⟨u1, eu1, hf⟩ := ob_s hf
  obtain ⟨⟨q4, h3⟩, eh3, hf⟩ := ob_s hf
  try dsimp only at hf
  rcases q4 with c5 | v2
  · have hf := thr_l hf
    exact px_tcall (As := []) (rest := []) ⟨hx, hb, hml, hown, htx⟩ hC xt w (tX7_needSquare l hl0 D dA b0 ι N a0 h c5 h3 eh3) (cwV 0 htx (gx_V gX7_determinant_X7_needSquare exG_good) rfl rfl rfl (by decide +kernel) ⟨Nat.le_of_ble_eq_true rfl, Nat.le_of_ble_eq_true rfl⟩) eu1 rfl rfl hl.1 rfl (Nat.le_of_ble_eq_true rfl) dX7_determinant_1 ⟨Nat.le_of_ble_eq_true rfl, Nat.le_of_ble_eq_true rfl⟩ hnoh hlocks (inl_s hf)
  have hf := thr_r hf
  refine px_callVv (As := []) (rest := []) ⟨hx, hb, hml, hown, hts⟩ hC w (kX7_needSquare l D dA b0 ι N a0 h h3 eh3) (cwV 0 hts gX7_determinant_X7_needSquare rfl rfl rfl (by decide +kernel) ⟨Nat.le_of_ble_eq_true rfl, Nat.le_of_ble_eq_true rfl⟩) eu1 rfl rfl hl.1 rfl (Nat.le_of_ble_eq_true rfl) dX7_determinant_1 ⟨Nat.le_of_ble_eq_true rfl, Nat.le_of_ble_eq_true rfl⟩ (fun H locs w => ?_)
  refine lv_aload_n hx hb dX7_determinant_4 rfl (lv_at hl 0 rfl) ?_
  obtain ⟨u8, eu8, hf⟩ := ob_s hf
  obtain ⟨h7, eh7, hf⟩ := ob_s hf
  refine px_callVv (As := []) (rest := []) ⟨hx, hb, hml, hown, hts⟩ hC w (kX7_knowMinors l D dA b0 ι N a0 h3 h7 eh7) (cwV 0 hts gX7_determinant_X7_knowMinors rfl rfl rfl (by decide +kernel) ⟨Nat.le_of_ble_eq_true rfl, Nat.le_of_ble_eq_true rfl⟩) eu8 rfl rfl hl.1 rfl (Nat.le_of_ble_eq_true rfl) dX7_determinant_5 ⟨Nat.le_of_ble_eq_true rfl, Nat.le_of_ble_eq_true rfl⟩ (fun H locs w => ?_)
  refine lv_aload_n hx hb dX7_determinant_8 rfl (lv_at hl 0 rfl) ?_
  obtain ⟨v9, ev9, hf⟩ := ob_s hf
  refine px_getR hx hb hts nX7_determinant_X7 hown hK w ev9 rfl (by decide) mX7_determinant_21 rfl dX7_determinant_9 ?_
  refine lv_aload_n hx hb dX7_determinant_12 rfl (lv_at hl 0 rfl) ?_
  obtain ⟨v10, ev10, hf⟩ := ob_s hf
  refine px_getI hx hb hts nX7_determinant_X7 hown hK w ev10 rfl (by decide) mX7_determinant_79 rfl dX7_determinant_13 ?_
  obtain ⟨u13, eu13, hf⟩ := ob_s hf
  obtain ⟨⟨v11, h12⟩, eh12, hf⟩ := ob_s hf
  dsimp only at hf
  refine px_callVr (As := [.int v10]) (rest := []) ⟨hx, hb, hml, hown, hts⟩ hC w (kX3_leading l D dA b0 ι N v9 v10 h7 v11 h12 eh12) (cwV 1 hts gX7_determinant_X3_leading rfl rfl rfl (by decide +kernel) ⟨Nat.le_of_ble_eq_true rfl, Nat.le_of_ble_eq_true rfl⟩) eu13 rfl rfl hl.1 rfl (Nat.le_of_ble_eq_true rfl) dX7_determinant_16 ⟨Nat.le_of_ble_eq_true rfl, Nat.le_of_ble_eq_true rfl⟩ (fun H locs w => ?_)
  refine lv_iload_n hx hb dX7_determinant_19 rfl (lv_at hl 1 rfl) ?_
  obtain ⟨u16, eu16, hf⟩ := ob_s hf
  obtain ⟨⟨v14, h15⟩, eh15, hf⟩ := ob_s hf
  dsimp only at hf
  refine px_callVi (As := [.int a1]) (rest := []) ⟨hx, hb, hml, hown, hts⟩ hC w (kX4_numberAt l D dA b0 ι N v11 a1 h12 v14 h15 eh15) (cwV 1 hts gX7_determinant_X4_numberAt rfl rfl rfl (by decide +kernel) ⟨Nat.le_of_ble_eq_true rfl, Nat.le_of_ble_eq_true rfl⟩) eu16 rfl rfl hl.1 rfl (Nat.le_of_ble_eq_true rfl) dX7_determinant_20 ⟨Nat.le_of_ble_eq_true rfl, Nat.le_of_ble_eq_true rfl⟩ (fun H locs w => ?_)
  cases hf
theorem nX7_characteristic_X7 : ∀ w ∈ wsX70, w ∈ wsX7_characteristic := by decide +kernel
theorem mX7_characteristic_28 : Cond.fieldLink RX7 28 "NormalForms" "numbersMinors" "LNormalForms$Minors;" ∈ wsX7_characteristic := by decide +kernel
theorem mX7_characteristic_79 : Cond.fieldLink RX7 79 "NormalForms" "rowCount" "I" ∈ wsX7_characteristic := by decide +kernel
abbrev rmX7_characteristic : Room := { frames := 7, cells := 0, slots := 0, locals := 153 }
abbrev rtX7_characteristic : Room := { frames := 7, cells := 1, slots := 6, locals := 153 }
abbrev wtX7_characteristic : List Cond := wsX7_characteristic ++ exG
set_option maxHeartbeats 4000000 in
set_option maxRecDepth 100000 in
theorem kX7_characteristic (l : Launch) (D : va_G) (dA : Nat → ClassId) (b0 : Nat) (ι : Nat → Nat) (N : Nat) (a0 : Nat) (a1 : Int32) (h : Hp) (r : Int32) (h' : Hp) (hf : fX7_characteristic N a0 a1 h = (some (Sum.inr r, h') : Option ((Nat ⊕ Int32) × Hp))) : Met l yX7_characteristic wsX7_characteristic rmX7_characteristic (PC D dA b0 ι [.ref (ι a0), .int a1] h) (QI D dA b0 ι r h') 0 0 (qA b0) := by
  unfold fX7_characteristic at hf
  refine Met.ofW (cc := cX7_characteristic) (maxL := 2) (ret := (some .int)) (by decide +kernel) rfl ?_
  intro p e s m args below meth c s₁ B hml hv
  obtain ⟨rfl, w0⟩ := hv
  have hx := B.exec
  have hb := B.bytes
  have hr := B.returns
  have hts := atoms_spec (ws := wsX7_characteristic) B.pre
  have hown : s.vm.findClass RX7 = some m.cls := findClass_of_methodNamed B.named
  have hlocks := B.notSynchronized
  have hC := w0.c
  have hK := hC.1
  have w := WD.start w0
  clear w0
  have hl := lv_entry ([.ref (ι a0), .int a1]) (n := 2) (Nat.le_of_ble_eq_true rfl)
  rw [lg_entry_eq]
  generalize (lg_sl ([.ref (ι a0), .int a1]) ++ List.replicate (2 - (lg_sl ([.ref (ι a0), .int a1])).length) Slot.unset).toArray = ls at hl ⊢
  have hl : lv_has ls 2 [(0, .ref (ι a0)), (1, .int a1)] := hl
  obtain ⟨H, hH⟩ : ∃ H : Heap, H = s.heap := ⟨_, rfl⟩
  obtain ⟨locs, hlo⟩ : ∃ locs : List Loc, locs = [] := ⟨_, rfl⟩
  rw [← hlo]
  have w : WD D dA b0 ι h s.heap H locs := by rw [hH, hlo]; exact w
  refine px_start hH ?_
  refine lv_aload_n hx hb dX7_characteristic_0 rfl (lv_at hl 0 rfl) ?_
  obtain ⟨u1, eu1, hf⟩ := ob_s hf
  obtain ⟨⟨q4, h3⟩, eh3, hf⟩ := ob_s hf
  try dsimp only at hf
  rcases q4 with c5 | v2
  · have hf := thr_l hf
    cases hf
  have hf := thr_r hf
  refine px_callVv (As := []) (rest := []) ⟨hx, hb, hml, hown, hts⟩ hC w (kX7_needSquare l D dA b0 ι N a0 h h3 eh3) (cwV 0 hts gX7_characteristic_X7_needSquare rfl rfl rfl (by decide +kernel) ⟨Nat.le_of_ble_eq_true rfl, Nat.le_of_ble_eq_true rfl⟩) eu1 rfl rfl hl.1 rfl (Nat.le_of_ble_eq_true rfl) dX7_characteristic_1 ⟨Nat.le_of_ble_eq_true rfl, Nat.le_of_ble_eq_true rfl⟩ (fun H locs w => ?_)
  refine lv_aload_n hx hb dX7_characteristic_4 rfl (lv_at hl 0 rfl) ?_
  obtain ⟨u8, eu8, hf⟩ := ob_s hf
  obtain ⟨h7, eh7, hf⟩ := ob_s hf
  refine px_callVv (As := []) (rest := []) ⟨hx, hb, hml, hown, hts⟩ hC w (kX7_knowNumbersMinors l D dA b0 ι N a0 h3 h7 eh7) (cwV 0 hts gX7_characteristic_X7_knowNumbersMinors rfl rfl rfl (by decide +kernel) ⟨Nat.le_of_ble_eq_true rfl, Nat.le_of_ble_eq_true rfl⟩) eu8 rfl rfl hl.1 rfl (Nat.le_of_ble_eq_true rfl) dX7_characteristic_5 ⟨Nat.le_of_ble_eq_true rfl, Nat.le_of_ble_eq_true rfl⟩ (fun H locs w => ?_)
  refine lv_aload_n hx hb dX7_characteristic_8 rfl (lv_at hl 0 rfl) ?_
  obtain ⟨v9, ev9, hf⟩ := ob_s hf
  refine px_getR hx hb hts nX7_characteristic_X7 hown hK w ev9 rfl (by decide) mX7_characteristic_28 rfl dX7_characteristic_9 ?_
  refine lv_aload_n hx hb dX7_characteristic_12 rfl (lv_at hl 0 rfl) ?_
  obtain ⟨v10, ev10, hf⟩ := ob_s hf
  refine px_getI hx hb hts nX7_characteristic_X7 hown hK w ev10 rfl (by decide) mX7_characteristic_79 rfl dX7_characteristic_13 ?_
  obtain ⟨u13, eu13, hf⟩ := ob_s hf
  obtain ⟨⟨v11, h12⟩, eh12, hf⟩ := ob_s hf
  dsimp only at hf
  refine px_callVr (As := [.int v10]) (rest := []) ⟨hx, hb, hml, hown, hts⟩ hC w (kX3_leading l D dA b0 ι N v9 v10 h7 v11 h12 eh12) (cwV 1 hts gX7_characteristic_X3_leading rfl rfl rfl (by decide +kernel) ⟨Nat.le_of_ble_eq_true rfl, Nat.le_of_ble_eq_true rfl⟩) eu13 rfl rfl hl.1 rfl (Nat.le_of_ble_eq_true rfl) dX7_characteristic_16 ⟨Nat.le_of_ble_eq_true rfl, Nat.le_of_ble_eq_true rfl⟩ (fun H locs w => ?_)
  refine lv_iload_n hx hb dX7_characteristic_19 rfl (lv_at hl 1 rfl) ?_
  obtain ⟨u16, eu16, hf⟩ := ob_s hf
  obtain ⟨⟨v14, h15⟩, eh15, hf⟩ := ob_s hf
  dsimp only at hf
  refine px_callVi (As := [.int a1]) (rest := []) ⟨hx, hb, hml, hown, hts⟩ hC w (kX4_numberAt l D dA b0 ι N v11 a1 h12 v14 h15 eh15) (cwV 1 hts gX7_characteristic_X4_numberAt rfl rfl rfl (by decide +kernel) ⟨Nat.le_of_ble_eq_true rfl, Nat.le_of_ble_eq_true rfl⟩) eu16 rfl rfl hl.1 rfl (Nat.le_of_ble_eq_true rfl) dX7_characteristic_20 ⟨Nat.le_of_ble_eq_true rfl, Nat.le_of_ble_eq_true rfl⟩ (fun H locs w => ?_)
  exact W.iret hx hb hr (qi_end (inr_s hf) w hC) w.locs_ok dX7_characteristic_23
set_option maxHeartbeats 4000000 in
set_option maxRecDepth 100000 in
theorem tX7_characteristic (l : Launch) (hl0 : l.stackTraces = false) (D : va_G) (dA : Nat → ClassId) (b0 : Nat) (ι : Nat → Nat) (N : Nat) (a0 : Nat) (a1 : Int32) (h : Hp) (k : Nat) (h' : Hp) (hf : fX7_characteristic N a0 a1 h = (some (Sum.inl k, h') : Option ((Nat ⊕ Int32) × Hp))) : vx_Met l yX7_characteristic wtX7_characteristic rtX7_characteristic (PX D dA b0 ι [.ref (ι a0), .int a1] h) QF (XQ D dA b0 ι k h') 1 6 (qA b0) := by
  unfold fX7_characteristic at hf
  refine vx_ofW (cc := cX7_characteristic) (maxL := 2) (ret := (some .int)) (by decide +kernel) rfl ?_
  intro p e s m args below meth c s₁ B hml hnoh hv
  obtain ⟨rfl, w0, xt⟩ := hv
  have hx := B.exec
  have hb := B.bytes
  have hr := B.returns
  have htx := atoms_spec (ws := wtX7_characteristic) B.pre
  have hts : ∀ w ∈ wsX7_characteristic, w.before _ s = true := fun w hw => htx w (List.mem_append_left _ hw)
  have hown : s.vm.findClass RX7 = some m.cls := findClass_of_methodNamed B.named
  have hlocks := B.notSynchronized
  have hC := w0.c
  have hK := hC.1
  have w := WD.start w0
  clear w0
  have hl := lv_entry ([.ref (ι a0), .int a1]) (n := 2) (Nat.le_of_ble_eq_true rfl)
  rw [lg_entry_eq]
  generalize (lg_sl ([.ref (ι a0), .int a1]) ++ List.replicate (2 - (lg_sl ([.ref (ι a0), .int a1])).length) Slot.unset).toArray = ls at hl ⊢
  have hl : lv_has ls 2 [(0, .ref (ι a0)), (1, .int a1)] := hl
  obtain ⟨H, hH⟩ : ∃ H : Heap, H = s.heap := ⟨_, rfl⟩
  obtain ⟨locs, hlo⟩ : ∃ locs : List Loc, locs = [] := ⟨_, rfl⟩
  rw [← hlo]
  have w : WD D dA b0 ι h s.heap H locs := by rw [hH, hlo]; exact w
  refine px_start hH ?_
  refine lv_aload_n hx hb dX7_characteristic_0 rfl (lv_at hl 0 rfl) ?_
  obtain ⟨u1, eu1, hf⟩ := ob_s hf
  obtain ⟨⟨q4, h3⟩, eh3, hf⟩ := ob_s hf
  try dsimp only at hf
  rcases q4 with c5 | v2
  · have hf := thr_l hf
    exact px_tcall (As := []) (rest := []) ⟨hx, hb, hml, hown, htx⟩ hC xt w (tX7_needSquare l hl0 D dA b0 ι N a0 h c5 h3 eh3) (cwV 0 htx (gx_V gX7_characteristic_X7_needSquare exG_good) rfl rfl rfl (by decide +kernel) ⟨Nat.le_of_ble_eq_true rfl, Nat.le_of_ble_eq_true rfl⟩) eu1 rfl rfl hl.1 rfl (Nat.le_of_ble_eq_true rfl) dX7_characteristic_1 ⟨Nat.le_of_ble_eq_true rfl, Nat.le_of_ble_eq_true rfl⟩ hnoh hlocks (inl_s hf)
  have hf := thr_r hf
  refine px_callVv (As := []) (rest := []) ⟨hx, hb, hml, hown, hts⟩ hC w (kX7_needSquare l D dA b0 ι N a0 h h3 eh3) (cwV 0 hts gX7_characteristic_X7_needSquare rfl rfl rfl (by decide +kernel) ⟨Nat.le_of_ble_eq_true rfl, Nat.le_of_ble_eq_true rfl⟩) eu1 rfl rfl hl.1 rfl (Nat.le_of_ble_eq_true rfl) dX7_characteristic_1 ⟨Nat.le_of_ble_eq_true rfl, Nat.le_of_ble_eq_true rfl⟩ (fun H locs w => ?_)
  refine lv_aload_n hx hb dX7_characteristic_4 rfl (lv_at hl 0 rfl) ?_
  obtain ⟨u8, eu8, hf⟩ := ob_s hf
  obtain ⟨h7, eh7, hf⟩ := ob_s hf
  refine px_callVv (As := []) (rest := []) ⟨hx, hb, hml, hown, hts⟩ hC w (kX7_knowNumbersMinors l D dA b0 ι N a0 h3 h7 eh7) (cwV 0 hts gX7_characteristic_X7_knowNumbersMinors rfl rfl rfl (by decide +kernel) ⟨Nat.le_of_ble_eq_true rfl, Nat.le_of_ble_eq_true rfl⟩) eu8 rfl rfl hl.1 rfl (Nat.le_of_ble_eq_true rfl) dX7_characteristic_5 ⟨Nat.le_of_ble_eq_true rfl, Nat.le_of_ble_eq_true rfl⟩ (fun H locs w => ?_)
  refine lv_aload_n hx hb dX7_characteristic_8 rfl (lv_at hl 0 rfl) ?_
  obtain ⟨v9, ev9, hf⟩ := ob_s hf
  refine px_getR hx hb hts nX7_characteristic_X7 hown hK w ev9 rfl (by decide) mX7_characteristic_28 rfl dX7_characteristic_9 ?_
  refine lv_aload_n hx hb dX7_characteristic_12 rfl (lv_at hl 0 rfl) ?_
  obtain ⟨v10, ev10, hf⟩ := ob_s hf
  refine px_getI hx hb hts nX7_characteristic_X7 hown hK w ev10 rfl (by decide) mX7_characteristic_79 rfl dX7_characteristic_13 ?_
  obtain ⟨u13, eu13, hf⟩ := ob_s hf
  obtain ⟨⟨v11, h12⟩, eh12, hf⟩ := ob_s hf
  dsimp only at hf
  refine px_callVr (As := [.int v10]) (rest := []) ⟨hx, hb, hml, hown, hts⟩ hC w (kX3_leading l D dA b0 ι N v9 v10 h7 v11 h12 eh12) (cwV 1 hts gX7_characteristic_X3_leading rfl rfl rfl (by decide +kernel) ⟨Nat.le_of_ble_eq_true rfl, Nat.le_of_ble_eq_true rfl⟩) eu13 rfl rfl hl.1 rfl (Nat.le_of_ble_eq_true rfl) dX7_characteristic_16 ⟨Nat.le_of_ble_eq_true rfl, Nat.le_of_ble_eq_true rfl⟩ (fun H locs w => ?_)
  refine lv_iload_n hx hb dX7_characteristic_19 rfl (lv_at hl 1 rfl) ?_
  obtain ⟨u16, eu16, hf⟩ := ob_s hf
  obtain ⟨⟨v14, h15⟩, eh15, hf⟩ := ob_s hf
  dsimp only at hf
  refine px_callVi (As := [.int a1]) (rest := []) ⟨hx, hb, hml, hown, hts⟩ hC w (kX4_numberAt l D dA b0 ι N v11 a1 h12 v14 h15 eh15) (cwV 1 hts gX7_characteristic_X4_numberAt rfl rfl rfl (by decide +kernel) ⟨Nat.le_of_ble_eq_true rfl, Nat.le_of_ble_eq_true rfl⟩) eu16 rfl rfl hl.1 rfl (Nat.le_of_ble_eq_true rfl) dX7_characteristic_20 ⟨Nat.le_of_ble_eq_true rfl, Nat.le_of_ble_eq_true rfl⟩ (fun H locs w => ?_)
  cases hf
theorem nX7_minimal_X7 : ∀ w ∈ wsX70, w ∈ wsX7_minimal := by decide +kernel
theorem mX7_minimal_79 : Cond.fieldLink RX7 79 "NormalForms" "rowCount" "I" ∈ wsX7_minimal := by decide +kernel
theorem mX7_minimal_28 : Cond.fieldLink RX7 28 "NormalForms" "numbersMinors" "LNormalForms$Minors;" ∈ wsX7_minimal := by decide +kernel
theorem nX7_minimal_X3 : ∀ w ∈ wsX30, w ∈ wsX7_minimal := by decide +kernel
abbrev rmX7_minimal : Room := { frames := 7, cells := 0, slots := 0, locals := 153 }
abbrev rtX7_minimal : Room := { frames := 7, cells := 1, slots := 6, locals := 153 }
abbrev wtX7_minimal : List Cond := wsX7_minimal ++ exG
set_option maxHeartbeats 4000000 in
set_option maxRecDepth 100000 in
theorem kX7_minimal (l : Launch) (D : va_G) (dA : Nat → ClassId) (b0 : Nat) (ι : Nat → Nat) (N : Nat) (a0 : Nat) (a1 : Int32) (h : Hp) (r : Int32) (h' : Hp) (hf : fX7_minimal N a0 a1 h = (some (Sum.inr r, h') : Option ((Nat ⊕ Int32) × Hp))) : Met l yX7_minimal wsX7_minimal rmX7_minimal (PC D dA b0 ι [.ref (ι a0), .int a1] h) (QI D dA b0 ι r h') 0 0 (qA b0) := by
  unfold fX7_minimal at hf
  refine Met.ofW (cc := cX7_minimal) (maxL := 2) (ret := (some .int)) (by decide +kernel) rfl ?_
  intro p e s m args below meth c s₁ B hml hv
  obtain ⟨rfl, w0⟩ := hv
  have hx := B.exec
  have hb := B.bytes
  have hr := B.returns
  have hts := atoms_spec (ws := wsX7_minimal) B.pre
  have hown : s.vm.findClass RX7 = some m.cls := findClass_of_methodNamed B.named
  have hlocks := B.notSynchronized
  have hC := w0.c
  have hK := hC.1
  have w := WD.start w0
  clear w0
  have hl := lv_entry ([.ref (ι a0), .int a1]) (n := 2) (Nat.le_of_ble_eq_true rfl)
  rw [lg_entry_eq]
  generalize (lg_sl ([.ref (ι a0), .int a1]) ++ List.replicate (2 - (lg_sl ([.ref (ι a0), .int a1])).length) Slot.unset).toArray = ls at hl ⊢
  have hl : lv_has ls 2 [(0, .ref (ι a0)), (1, .int a1)] := hl
  obtain ⟨H, hH⟩ : ∃ H : Heap, H = s.heap := ⟨_, rfl⟩
  obtain ⟨locs, hlo⟩ : ∃ locs : List Loc, locs = [] := ⟨_, rfl⟩
  rw [← hlo]
  have w : WD D dA b0 ι h s.heap H locs := by rw [hH, hlo]; exact w
  refine px_start hH ?_
  refine lv_aload_n hx hb dX7_minimal_0 rfl (lv_at hl 0 rfl) ?_
  obtain ⟨u1, eu1, hf⟩ := ob_s hf
  obtain ⟨⟨q4, h3⟩, eh3, hf⟩ := ob_s hf
  try dsimp only at hf
  rcases q4 with c5 | v2
  · have hf := thr_l hf
    cases hf
  have hf := thr_r hf
  refine px_callVv (As := []) (rest := []) ⟨hx, hb, hml, hown, hts⟩ hC w (kX7_needSquare l D dA b0 ι N a0 h h3 eh3) (cwV 0 hts gX7_minimal_X7_needSquare rfl rfl rfl (by decide +kernel) ⟨Nat.le_of_ble_eq_true rfl, Nat.le_of_ble_eq_true rfl⟩) eu1 rfl rfl hl.1 rfl (Nat.le_of_ble_eq_true rfl) dX7_minimal_1 ⟨Nat.le_of_ble_eq_true rfl, Nat.le_of_ble_eq_true rfl⟩ (fun H locs w => ?_)
  refine lv_aload_n hx hb dX7_minimal_4 rfl (lv_at hl 0 rfl) ?_
  obtain ⟨u8, eu8, hf⟩ := ob_s hf
  obtain ⟨h7, eh7, hf⟩ := ob_s hf
  refine px_callVv (As := []) (rest := []) ⟨hx, hb, hml, hown, hts⟩ hC w (kX7_knowNumbersMinors l D dA b0 ι N a0 h3 h7 eh7) (cwV 0 hts gX7_minimal_X7_knowNumbersMinors rfl rfl rfl (by decide +kernel) ⟨Nat.le_of_ble_eq_true rfl, Nat.le_of_ble_eq_true rfl⟩) eu8 rfl rfl hl.1 rfl (Nat.le_of_ble_eq_true rfl) dX7_minimal_5 ⟨Nat.le_of_ble_eq_true rfl, Nat.le_of_ble_eq_true rfl⟩ (fun H locs w => ?_)
  refine lv_aload_n hx hb dX7_minimal_8 rfl (lv_at hl 0 rfl) ?_
  obtain ⟨v9, ev9, hf⟩ := ob_s hf
  refine px_getI hx hb hts nX7_minimal_X7 hown hK w ev9 rfl (by decide) mX7_minimal_79 rfl dX7_minimal_9 ?_
  refine lv_if_ne (tgt := 25) hx hb dX7_minimal_12 (by decide) (fun c10 => ?_) (fun c10 => ?_)
  · have hf := if_f hf c10
    refine lv_aload_n hx hb dX7_minimal_25 rfl (lv_at hl 0 rfl) ?_
    obtain ⟨v11, ev11, hf⟩ := ob_s hf
    refine px_getR hx hb hts nX7_minimal_X7 hown hK w ev11 rfl (by decide) mX7_minimal_28 rfl dX7_minimal_26 ?_
    obtain ⟨v12, ev12, hf⟩ := ob_s hf
    refine px_getRN hx hb hts nX7_minimal_X3 hown hK w ev12 rfl (by decide) (hC.2.1 _ nest_12) rfl dX7_minimal_29 ?_
    refine lv_aload_n hx hb dX7_minimal_32 rfl (lv_at hl 0 rfl) ?_
    obtain ⟨v13, ev13, hf⟩ := ob_s hf
    refine px_getI hx hb hts nX7_minimal_X7 hown hK w ev13 rfl (by decide) mX7_minimal_79 rfl dX7_minimal_33 ?_
    refine lv_iconst (v := (1 : Int32)) hx hb dX7_minimal_36 (by decide) ?_
    refine lv_isub hx hb dX7_minimal_37 ?_
    obtain ⟨v14, ev14, hf⟩ := ob_s hf
    refine px_rald hx hb hK w ev14 rfl dX7_minimal_38 ?_
    refine lv_iload_n hx hb dX7_minimal_39 rfl (lv_at hl 1 rfl) ?_
    obtain ⟨u17, eu17, hf⟩ := ob_s hf
    obtain ⟨⟨v15, h16⟩, eh16, hf⟩ := ob_s hf
    dsimp only at hf
    refine px_callVi (As := [.int a1]) (rest := []) ⟨hx, hb, hml, hown, hts⟩ hC w (kX4_numberAt l D dA b0 ι N v14 a1 h7 v15 h16 eh16) (cwV 1 hts gX7_minimal_X4_numberAt rfl rfl rfl (by decide +kernel) ⟨Nat.le_of_ble_eq_true rfl, Nat.le_of_ble_eq_true rfl⟩) eu17 rfl rfl hl.1 rfl (Nat.le_of_ble_eq_true rfl) dX7_minimal_40 ⟨Nat.le_of_ble_eq_true rfl, Nat.le_of_ble_eq_true rfl⟩ (fun H locs w => ?_)
    exact W.iret hx hb hr (qi_end (inr_s hf) w hC) w.locs_ok dX7_minimal_43
  · have hf := if_t hf c10
    refine lv_iload_n hx hb dX7_minimal_15 rfl (lv_at hl 1 rfl) ?_
    have hj24 : ∀ (t20 : Int32) (h19 : Hp) (H : Heap) (locs : List Loc) (ls : Array Slot), (some (Sum.inr t20, h19)) = (some (Sum.inr r, h') : Option ((Nat ⊕ Int32) × Hp)) → lv_has ls 2 [(0, .ref (ι a0)), (1, .int a1)] → WD D dA b0 ι h19 s.heap H locs → W p l e (headSpec wsX7_minimal rmX7_minimal).room s m ([.ref (ι a0), .int a1] : List Value).toArray below meth c H locs 0 0 (MQ below (QI D dA b0 ι r h') ([.ref (ι a0), .int a1] : List Value).toArray s 0 0 (qA b0)) (F0 m 24 ls [.int t20]) := by
      intro t20 h19 H locs ls hf hl w
      exact W.iret hx hb hr (qi_end (inr_s hf) w hC) w.locs_ok dX7_minimal_24
    obtain ⟨j18, ej18, hf⟩ := jn_s hf
    refine lv_if_ne (tgt := 23) hx hb dX7_minimal_16 (by decide) (fun c21 => ?_) (fun c21 => ?_)
    · have hf := if_f hf c21
      refine lv_iconst (v := (0 : Int32)) hx hb dX7_minimal_23 (by decide) ?_
      exact hj24 (0 : Int32) h7 H locs ls (by rw [ej18] at hf; exact hf) (lv_sub hl [0, 1] rfl) w
    · have hf := if_t hf c21
      refine lv_iconst (v := (1 : Int32)) hx hb dX7_minimal_19 (by decide) ?_
      refine lv_goto (tgt := 24) hx hb dX7_minimal_20 (by decide) ?_
      exact hj24 (1 : Int32) h7 H locs ls (by rw [ej18] at hf; exact hf) (lv_sub hl [0, 1] rfl) w
set_option maxHeartbeats 4000000 in
set_option maxRecDepth 100000 in
theorem tX7_minimal (l : Launch) (hl0 : l.stackTraces = false) (D : va_G) (dA : Nat → ClassId) (b0 : Nat) (ι : Nat → Nat) (N : Nat) (a0 : Nat) (a1 : Int32) (h : Hp) (k : Nat) (h' : Hp) (hf : fX7_minimal N a0 a1 h = (some (Sum.inl k, h') : Option ((Nat ⊕ Int32) × Hp))) : vx_Met l yX7_minimal wtX7_minimal rtX7_minimal (PX D dA b0 ι [.ref (ι a0), .int a1] h) QF (XQ D dA b0 ι k h') 1 6 (qA b0) := by
  unfold fX7_minimal at hf
  refine vx_ofW (cc := cX7_minimal) (maxL := 2) (ret := (some .int)) (by decide +kernel) rfl ?_
  intro p e s m args below meth c s₁ B hml hnoh hv
  obtain ⟨rfl, w0, xt⟩ := hv
  have hx := B.exec
  have hb := B.bytes
  have hr := B.returns
  have htx := atoms_spec (ws := wtX7_minimal) B.pre
  have hts : ∀ w ∈ wsX7_minimal, w.before _ s = true := fun w hw => htx w (List.mem_append_left _ hw)
  have hown : s.vm.findClass RX7 = some m.cls := findClass_of_methodNamed B.named
  have hlocks := B.notSynchronized
  have hC := w0.c
  have hK := hC.1
  have w := WD.start w0
  clear w0
  have hl := lv_entry ([.ref (ι a0), .int a1]) (n := 2) (Nat.le_of_ble_eq_true rfl)
  rw [lg_entry_eq]
  generalize (lg_sl ([.ref (ι a0), .int a1]) ++ List.replicate (2 - (lg_sl ([.ref (ι a0), .int a1])).length) Slot.unset).toArray = ls at hl ⊢
  have hl : lv_has ls 2 [(0, .ref (ι a0)), (1, .int a1)] := hl
  obtain ⟨H, hH⟩ : ∃ H : Heap, H = s.heap := ⟨_, rfl⟩
  obtain ⟨locs, hlo⟩ : ∃ locs : List Loc, locs = [] := ⟨_, rfl⟩
  rw [← hlo]
  have w : WD D dA b0 ι h s.heap H locs := by rw [hH, hlo]; exact w
  refine px_start hH ?_
  refine lv_aload_n hx hb dX7_minimal_0 rfl (lv_at hl 0 rfl) ?_
  obtain ⟨u1, eu1, hf⟩ := ob_s hf
  obtain ⟨⟨q4, h3⟩, eh3, hf⟩ := ob_s hf
  try dsimp only at hf
  rcases q4 with c5 | v2
  · have hf := thr_l hf
    exact px_tcall (As := []) (rest := []) ⟨hx, hb, hml, hown, htx⟩ hC xt w (tX7_needSquare l hl0 D dA b0 ι N a0 h c5 h3 eh3) (cwV 0 htx (gx_V gX7_minimal_X7_needSquare exG_good) rfl rfl rfl (by decide +kernel) ⟨Nat.le_of_ble_eq_true rfl, Nat.le_of_ble_eq_true rfl⟩) eu1 rfl rfl hl.1 rfl (Nat.le_of_ble_eq_true rfl) dX7_minimal_1 ⟨Nat.le_of_ble_eq_true rfl, Nat.le_of_ble_eq_true rfl⟩ hnoh hlocks (inl_s hf)
  have hf := thr_r hf
  refine px_callVv (As := []) (rest := []) ⟨hx, hb, hml, hown, hts⟩ hC w (kX7_needSquare l D dA b0 ι N a0 h h3 eh3) (cwV 0 hts gX7_minimal_X7_needSquare rfl rfl rfl (by decide +kernel) ⟨Nat.le_of_ble_eq_true rfl, Nat.le_of_ble_eq_true rfl⟩) eu1 rfl rfl hl.1 rfl (Nat.le_of_ble_eq_true rfl) dX7_minimal_1 ⟨Nat.le_of_ble_eq_true rfl, Nat.le_of_ble_eq_true rfl⟩ (fun H locs w => ?_)
  refine lv_aload_n hx hb dX7_minimal_4 rfl (lv_at hl 0 rfl) ?_
  obtain ⟨u8, eu8, hf⟩ := ob_s hf
  obtain ⟨h7, eh7, hf⟩ := ob_s hf
  refine px_callVv (As := []) (rest := []) ⟨hx, hb, hml, hown, hts⟩ hC w (kX7_knowNumbersMinors l D dA b0 ι N a0 h3 h7 eh7) (cwV 0 hts gX7_minimal_X7_knowNumbersMinors rfl rfl rfl (by decide +kernel) ⟨Nat.le_of_ble_eq_true rfl, Nat.le_of_ble_eq_true rfl⟩) eu8 rfl rfl hl.1 rfl (Nat.le_of_ble_eq_true rfl) dX7_minimal_5 ⟨Nat.le_of_ble_eq_true rfl, Nat.le_of_ble_eq_true rfl⟩ (fun H locs w => ?_)
  refine lv_aload_n hx hb dX7_minimal_8 rfl (lv_at hl 0 rfl) ?_
  obtain ⟨v9, ev9, hf⟩ := ob_s hf
  refine px_getI hx hb hts nX7_minimal_X7 hown hK w ev9 rfl (by decide) mX7_minimal_79 rfl dX7_minimal_9 ?_
  refine lv_if_ne (tgt := 25) hx hb dX7_minimal_12 (by decide) (fun c10 => ?_) (fun c10 => ?_)
  · have hf := if_f hf c10
    refine lv_aload_n hx hb dX7_minimal_25 rfl (lv_at hl 0 rfl) ?_
    obtain ⟨v11, ev11, hf⟩ := ob_s hf
    refine px_getR hx hb hts nX7_minimal_X7 hown hK w ev11 rfl (by decide) mX7_minimal_28 rfl dX7_minimal_26 ?_
    obtain ⟨v12, ev12, hf⟩ := ob_s hf
    refine px_getRN hx hb hts nX7_minimal_X3 hown hK w ev12 rfl (by decide) (hC.2.1 _ nest_12) rfl dX7_minimal_29 ?_
    refine lv_aload_n hx hb dX7_minimal_32 rfl (lv_at hl 0 rfl) ?_
    obtain ⟨v13, ev13, hf⟩ := ob_s hf
    refine px_getI hx hb hts nX7_minimal_X7 hown hK w ev13 rfl (by decide) mX7_minimal_79 rfl dX7_minimal_33 ?_
    refine lv_iconst (v := (1 : Int32)) hx hb dX7_minimal_36 (by decide) ?_
    refine lv_isub hx hb dX7_minimal_37 ?_
    obtain ⟨v14, ev14, hf⟩ := ob_s hf
    refine px_rald hx hb hK w ev14 rfl dX7_minimal_38 ?_
    refine lv_iload_n hx hb dX7_minimal_39 rfl (lv_at hl 1 rfl) ?_
    obtain ⟨u17, eu17, hf⟩ := ob_s hf
    obtain ⟨⟨v15, h16⟩, eh16, hf⟩ := ob_s hf
    dsimp only at hf
    refine px_callVi (As := [.int a1]) (rest := []) ⟨hx, hb, hml, hown, hts⟩ hC w (kX4_numberAt l D dA b0 ι N v14 a1 h7 v15 h16 eh16) (cwV 1 hts gX7_minimal_X4_numberAt rfl rfl rfl (by decide +kernel) ⟨Nat.le_of_ble_eq_true rfl, Nat.le_of_ble_eq_true rfl⟩) eu17 rfl rfl hl.1 rfl (Nat.le_of_ble_eq_true rfl) dX7_minimal_40 ⟨Nat.le_of_ble_eq_true rfl, Nat.le_of_ble_eq_true rfl⟩ (fun H locs w => ?_)
    cases hf
  · have hf := if_t hf c10
    refine lv_iload_n hx hb dX7_minimal_15 rfl (lv_at hl 1 rfl) ?_
    have hj24 : ∀ (t20 : Int32) (h19 : Hp) (H : Heap) (locs : List Loc) (ls : Array Slot), (some (Sum.inr t20, h19)) = (some (Sum.inl k, h') : Option ((Nat ⊕ Int32) × Hp)) → lv_has ls 2 [(0, .ref (ι a0)), (1, .int a1)] → WD D dA b0 ι h19 s.heap H locs → W p l e (headSpec wtX7_minimal rtX7_minimal).room s m ([.ref (ι a0), .int a1] : List Value).toArray below meth c H locs 0 0 (vx_MQ below QF (XQ D dA b0 ι k h') ([.ref (ι a0), .int a1] : List Value).toArray s 1 6 (qA b0)) (F0 m 24 ls [.int t20]) := by
      intro t20 h19 H locs ls hf hl w
      cases hf
    obtain ⟨j18, ej18, hf⟩ := jn_s hf
    refine lv_if_ne (tgt := 23) hx hb dX7_minimal_16 (by decide) (fun c21 => ?_) (fun c21 => ?_)
    · have hf := if_f hf c21
      refine lv_iconst (v := (0 : Int32)) hx hb dX7_minimal_23 (by decide) ?_
      exact hj24 (0 : Int32) h7 H locs ls (by rw [ej18] at hf; exact hf) (lv_sub hl [0, 1] rfl) w
    · have hf := if_t hf c21
      refine lv_iconst (v := (1 : Int32)) hx hb dX7_minimal_19 (by decide) ?_
      refine lv_goto (tgt := 24) hx hb dX7_minimal_20 (by decide) ?_
      exact hj24 (1 : Int32) h7 H locs ls (by rw [ej18] at hf; exact hf) (lv_sub hl [0, 1] rfl) w
theorem nX7_root_X7 : ∀ w ∈ wsX70, w ∈ wsX7_root := by decide +kernel
theorem mX7_root_34 : Cond.fieldLink RX7 34 "NormalForms" "roots" "LNormalForms$Roots;" ∈ wsX7_root := by decide +kernel
theorem nX7_root_X5 : ∀ w ∈ wsX50, w ∈ wsX7_root := by decide +kernel
abbrev rmX7_root : Room := { frames := 8, cells := 0, slots := 0, locals := 173 }
abbrev rtX7_root : Room := { frames := 8, cells := 1, slots := 6, locals := 173 }
abbrev wtX7_root : List Cond := wsX7_root ++ exG
set_option maxHeartbeats 4000000 in
set_option maxRecDepth 100000 in
theorem kX7_root (l : Launch) (D : va_G) (dA : Nat → ClassId) (b0 : Nat) (ι : Nat → Nat) (N : Nat) (a0 : Nat) (a1 : Int32) (h : Hp) (r : Int32) (h' : Hp) (hf : fX7_root N a0 a1 h = (some (Sum.inr r, h') : Option ((Nat ⊕ Int32) × Hp))) : Met l yX7_root wsX7_root rmX7_root (PC D dA b0 ι [.ref (ι a0), .int a1] h) (QI D dA b0 ι r h') 0 0 (qA b0) := by
  unfold fX7_root at hf
  refine Met.ofW (cc := cX7_root) (maxL := 2) (ret := (some .int)) (by decide +kernel) rfl ?_
  intro p e s m args below meth c s₁ B hml hv
  obtain ⟨rfl, w0⟩ := hv
  have hx := B.exec
  have hb := B.bytes
  have hr := B.returns
  have hts := atoms_spec (ws := wsX7_root) B.pre
  have hown : s.vm.findClass RX7 = some m.cls := findClass_of_methodNamed B.named
  have hlocks := B.notSynchronized
  have hC := w0.c
  have hK := hC.1
  have w := WD.start w0
  clear w0
  have hl := lv_entry ([.ref (ι a0), .int a1]) (n := 2) (Nat.le_of_ble_eq_true rfl)
  rw [lg_entry_eq]
  generalize (lg_sl ([.ref (ι a0), .int a1]) ++ List.replicate (2 - (lg_sl ([.ref (ι a0), .int a1])).length) Slot.unset).toArray = ls at hl ⊢
  have hl : lv_has ls 2 [(0, .ref (ι a0)), (1, .int a1)] := hl
  obtain ⟨H, hH⟩ : ∃ H : Heap, H = s.heap := ⟨_, rfl⟩
  obtain ⟨locs, hlo⟩ : ∃ locs : List Loc, locs = [] := ⟨_, rfl⟩
  rw [← hlo]
  have w : WD D dA b0 ι h s.heap H locs := by rw [hH, hlo]; exact w
  refine px_start hH ?_
  refine lv_aload_n hx hb dX7_root_0 rfl (lv_at hl 0 rfl) ?_
  obtain ⟨u1, eu1, hf⟩ := ob_s hf
  obtain ⟨⟨q4, h3⟩, eh3, hf⟩ := ob_s hf
  try dsimp only at hf
  rcases q4 with c5 | v2
  · have hf := thr_l hf
    cases hf
  have hf := thr_r hf
  refine px_callVv (As := []) (rest := []) ⟨hx, hb, hml, hown, hts⟩ hC w (kX7_needSquare l D dA b0 ι N a0 h h3 eh3) (cwV 0 hts gX7_root_X7_needSquare rfl rfl rfl (by decide +kernel) ⟨Nat.le_of_ble_eq_true rfl, Nat.le_of_ble_eq_true rfl⟩) eu1 rfl rfl hl.1 rfl (Nat.le_of_ble_eq_true rfl) dX7_root_1 ⟨Nat.le_of_ble_eq_true rfl, Nat.le_of_ble_eq_true rfl⟩ (fun H locs w => ?_)
  refine lv_aload_n hx hb dX7_root_4 rfl (lv_at hl 0 rfl) ?_
  obtain ⟨u8, eu8, hf⟩ := ob_s hf
  obtain ⟨h7, eh7, hf⟩ := ob_s hf
  refine px_callVv (As := []) (rest := []) ⟨hx, hb, hml, hown, hts⟩ hC w (kX7_knowRoots l D dA b0 ι N a0 h3 h7 eh7) (cwV 0 hts gX7_root_X7_knowRoots rfl rfl rfl (by decide +kernel) ⟨Nat.le_of_ble_eq_true rfl, Nat.le_of_ble_eq_true rfl⟩) eu8 rfl rfl hl.1 rfl (Nat.le_of_ble_eq_true rfl) dX7_root_5 ⟨Nat.le_of_ble_eq_true rfl, Nat.le_of_ble_eq_true rfl⟩ (fun H locs w => ?_)
  refine lv_iload_n hx hb dX7_root_8 rfl (lv_at hl 1 rfl) ?_
  have hj36 : ∀ (t11 : Int32) (h10 : Hp) (H : Heap) (locs : List Loc) (ls : Array Slot), (some (Sum.inr t11, h10)) = (some (Sum.inr r, h') : Option ((Nat ⊕ Int32) × Hp)) → lv_has ls 2 [(0, .ref (ι a0)), (1, .int a1)] → WD D dA b0 ι h10 s.heap H locs → W p l e (headSpec wsX7_root rmX7_root).room s m ([.ref (ι a0), .int a1] : List Value).toArray below meth c H locs 0 0 (MQ below (QI D dA b0 ι r h') ([.ref (ι a0), .int a1] : List Value).toArray s 0 0 (qA b0)) (F0 m 36 ls [.int t11]) := by
    intro t11 h10 H locs ls hf hl w
    exact W.iret hx hb hr (qi_end (inr_s hf) w hC) w.locs_ok dX7_root_36
  obtain ⟨j9, ej9, hf⟩ := jn_s hf
  have hj23 : ∀ (h13 : Hp) (H : Heap) (locs : List Loc) (ls : Array Slot), (j9 (-1 : Int32) h13) = (some (Sum.inr r, h') : Option ((Nat ⊕ Int32) × Hp)) → lv_has ls 2 [(0, .ref (ι a0)), (1, .int a1)] → WD D dA b0 ι h13 s.heap H locs → W p l e (headSpec wsX7_root rmX7_root).room s m ([.ref (ι a0), .int a1] : List Value).toArray below meth c H locs 0 0 (MQ below (QI D dA b0 ι r h') ([.ref (ι a0), .int a1] : List Value).toArray s 0 0 (qA b0)) (F0 m 23 ls []) := by
    intro h13 H locs ls hf hl w
    refine lv_iconst (v := (-1 : Int32)) hx hb dX7_root_23 (by decide) ?_
    refine lv_goto (tgt := 36) hx hb dX7_root_24 (by decide) ?_
    exact hj36 (-1 : Int32) h13 H locs ls (by rw [ej9] at hf; exact hf) (lv_sub hl [0, 1] rfl) w
  obtain ⟨j12, ej12, hf⟩ := jn_s hf
  refine lv_if_lt (tgt := 23) hx hb dX7_root_9 (by decide) (fun c14 => ?_) (fun c14 => ?_)
  · have hf := if_t hf c14
    exact hj23 h7 H locs ls (by rw [ej12] at hf; exact hf) (lv_sub hl [0, 1] rfl) w
  · have hf := if_f hf c14
    refine lv_iload_n hx hb dX7_root_12 rfl (lv_at hl 1 rfl) ?_
    refine lv_aload_n hx hb dX7_root_13 rfl (lv_at hl 0 rfl) ?_
    obtain ⟨v15, ev15, hf⟩ := ob_s hf
    refine px_getR hx hb hts nX7_root_X7 hown hK w ev15 rfl (by decide) mX7_root_34 rfl dX7_root_14 ?_
    obtain ⟨v16, ev16, hf⟩ := ob_s hf
    refine px_getIN hx hb hts nX7_root_X5 hown hK w ev16 rfl (by decide) (hC.2.1 _ nest_14) rfl dX7_root_17 ?_
    refine lv_icmp_lt (tgt := 27) hx hb dX7_root_20 (by decide) (fun c17 => ?_) (fun c17 => ?_)
    · have hf := if_t hf c17
      refine lv_aload_n hx hb dX7_root_27 rfl (lv_at hl 0 rfl) ?_
      obtain ⟨v18, ev18, hf⟩ := ob_s hf
      refine px_getR hx hb hts nX7_root_X7 hown hK w ev18 rfl (by decide) mX7_root_34 rfl dX7_root_28 ?_
      obtain ⟨v19, ev19, hf⟩ := ob_s hf
      refine px_getRN hx hb hts nX7_root_X5 hown hK w ev19 rfl (by decide) (hC.2.1 _ nest_15) rfl dX7_root_31 ?_
      refine lv_iload_n hx hb dX7_root_34 rfl (lv_at hl 1 rfl) ?_
      obtain ⟨v20, ev20, hf⟩ := ob_s hf
      refine px_iald hx hb hK w ev20 dX7_root_35 ?_
      exact hj36 v20 h7 H locs ls (by rw [ej9] at hf; exact hf) (lv_sub hl [0, 1] rfl) w
    · have hf := if_f hf c17
      exact hj23 h7 H locs ls (by rw [ej12] at hf; exact hf) (lv_sub hl [0, 1] rfl) w
set_option maxHeartbeats 4000000 in
set_option maxRecDepth 100000 in
theorem tX7_root (l : Launch) (hl0 : l.stackTraces = false) (D : va_G) (dA : Nat → ClassId) (b0 : Nat) (ι : Nat → Nat) (N : Nat) (a0 : Nat) (a1 : Int32) (h : Hp) (k : Nat) (h' : Hp) (hf : fX7_root N a0 a1 h = (some (Sum.inl k, h') : Option ((Nat ⊕ Int32) × Hp))) : vx_Met l yX7_root wtX7_root rtX7_root (PX D dA b0 ι [.ref (ι a0), .int a1] h) QF (XQ D dA b0 ι k h') 1 6 (qA b0) := by
  unfold fX7_root at hf
  refine vx_ofW (cc := cX7_root) (maxL := 2) (ret := (some .int)) (by decide +kernel) rfl ?_
  intro p e s m args below meth c s₁ B hml hnoh hv
  obtain ⟨rfl, w0, xt⟩ := hv
  have hx := B.exec
  have hb := B.bytes
  have hr := B.returns
  have htx := atoms_spec (ws := wtX7_root) B.pre
  have hts : ∀ w ∈ wsX7_root, w.before _ s = true := fun w hw => htx w (List.mem_append_left _ hw)
  have hown : s.vm.findClass RX7 = some m.cls := findClass_of_methodNamed B.named
  have hlocks := B.notSynchronized
  have hC := w0.c
  have hK := hC.1
  have w := WD.start w0
  clear w0
  have hl := lv_entry ([.ref (ι a0), .int a1]) (n := 2) (Nat.le_of_ble_eq_true rfl)
  rw [lg_entry_eq]
  generalize (lg_sl ([.ref (ι a0), .int a1]) ++ List.replicate (2 - (lg_sl ([.ref (ι a0), .int a1])).length) Slot.unset).toArray = ls at hl ⊢
  have hl : lv_has ls 2 [(0, .ref (ι a0)), (1, .int a1)] := hl
  obtain ⟨H, hH⟩ : ∃ H : Heap, H = s.heap := ⟨_, rfl⟩
  obtain ⟨locs, hlo⟩ : ∃ locs : List Loc, locs = [] := ⟨_, rfl⟩
  rw [← hlo]
  have w : WD D dA b0 ι h s.heap H locs := by rw [hH, hlo]; exact w
  refine px_start hH ?_
  refine lv_aload_n hx hb dX7_root_0 rfl (lv_at hl 0 rfl) ?_
  obtain ⟨u1, eu1, hf⟩ := ob_s hf
  obtain ⟨⟨q4, h3⟩, eh3, hf⟩ := ob_s hf
  try dsimp only at hf
  rcases q4 with c5 | v2
  · have hf := thr_l hf
    exact px_tcall (As := []) (rest := []) ⟨hx, hb, hml, hown, htx⟩ hC xt w (tX7_needSquare l hl0 D dA b0 ι N a0 h c5 h3 eh3) (cwV 0 htx (gx_V gX7_root_X7_needSquare exG_good) rfl rfl rfl (by decide +kernel) ⟨Nat.le_of_ble_eq_true rfl, Nat.le_of_ble_eq_true rfl⟩) eu1 rfl rfl hl.1 rfl (Nat.le_of_ble_eq_true rfl) dX7_root_1 ⟨Nat.le_of_ble_eq_true rfl, Nat.le_of_ble_eq_true rfl⟩ hnoh hlocks (inl_s hf)
  have hf := thr_r hf
  refine px_callVv (As := []) (rest := []) ⟨hx, hb, hml, hown, hts⟩ hC w (kX7_needSquare l D dA b0 ι N a0 h h3 eh3) (cwV 0 hts gX7_root_X7_needSquare rfl rfl rfl (by decide +kernel) ⟨Nat.le_of_ble_eq_true rfl, Nat.le_of_ble_eq_true rfl⟩) eu1 rfl rfl hl.1 rfl (Nat.le_of_ble_eq_true rfl) dX7_root_1 ⟨Nat.le_of_ble_eq_true rfl, Nat.le_of_ble_eq_true rfl⟩ (fun H locs w => ?_)
  refine lv_aload_n hx hb dX7_root_4 rfl (lv_at hl 0 rfl) ?_
  obtain ⟨u8, eu8, hf⟩ := ob_s hf
  obtain ⟨h7, eh7, hf⟩ := ob_s hf
  refine px_callVv (As := []) (rest := []) ⟨hx, hb, hml, hown, hts⟩ hC w (kX7_knowRoots l D dA b0 ι N a0 h3 h7 eh7) (cwV 0 hts gX7_root_X7_knowRoots rfl rfl rfl (by decide +kernel) ⟨Nat.le_of_ble_eq_true rfl, Nat.le_of_ble_eq_true rfl⟩) eu8 rfl rfl hl.1 rfl (Nat.le_of_ble_eq_true rfl) dX7_root_5 ⟨Nat.le_of_ble_eq_true rfl, Nat.le_of_ble_eq_true rfl⟩ (fun H locs w => ?_)
  refine lv_iload_n hx hb dX7_root_8 rfl (lv_at hl 1 rfl) ?_
  have hj36 : ∀ (t11 : Int32) (h10 : Hp) (H : Heap) (locs : List Loc) (ls : Array Slot), (some (Sum.inr t11, h10)) = (some (Sum.inl k, h') : Option ((Nat ⊕ Int32) × Hp)) → lv_has ls 2 [(0, .ref (ι a0)), (1, .int a1)] → WD D dA b0 ι h10 s.heap H locs → W p l e (headSpec wtX7_root rtX7_root).room s m ([.ref (ι a0), .int a1] : List Value).toArray below meth c H locs 0 0 (vx_MQ below QF (XQ D dA b0 ι k h') ([.ref (ι a0), .int a1] : List Value).toArray s 1 6 (qA b0)) (F0 m 36 ls [.int t11]) := by
    intro t11 h10 H locs ls hf hl w
    cases hf
  obtain ⟨j9, ej9, hf⟩ := jn_s hf
  have hj23 : ∀ (h13 : Hp) (H : Heap) (locs : List Loc) (ls : Array Slot), (j9 (-1 : Int32) h13) = (some (Sum.inl k, h') : Option ((Nat ⊕ Int32) × Hp)) → lv_has ls 2 [(0, .ref (ι a0)), (1, .int a1)] → WD D dA b0 ι h13 s.heap H locs → W p l e (headSpec wtX7_root rtX7_root).room s m ([.ref (ι a0), .int a1] : List Value).toArray below meth c H locs 0 0 (vx_MQ below QF (XQ D dA b0 ι k h') ([.ref (ι a0), .int a1] : List Value).toArray s 1 6 (qA b0)) (F0 m 23 ls []) := by
    intro h13 H locs ls hf hl w
    refine lv_iconst (v := (-1 : Int32)) hx hb dX7_root_23 (by decide) ?_
    refine lv_goto (tgt := 36) hx hb dX7_root_24 (by decide) ?_
    exact hj36 (-1 : Int32) h13 H locs ls (by rw [ej9] at hf; exact hf) (lv_sub hl [0, 1] rfl) w
  obtain ⟨j12, ej12, hf⟩ := jn_s hf
  refine lv_if_lt (tgt := 23) hx hb dX7_root_9 (by decide) (fun c14 => ?_) (fun c14 => ?_)
  · have hf := if_t hf c14
    exact hj23 h7 H locs ls (by rw [ej12] at hf; exact hf) (lv_sub hl [0, 1] rfl) w
  · have hf := if_f hf c14
    refine lv_iload_n hx hb dX7_root_12 rfl (lv_at hl 1 rfl) ?_
    refine lv_aload_n hx hb dX7_root_13 rfl (lv_at hl 0 rfl) ?_
    obtain ⟨v15, ev15, hf⟩ := ob_s hf
    refine px_getR hx hb hts nX7_root_X7 hown hK w ev15 rfl (by decide) mX7_root_34 rfl dX7_root_14 ?_
    obtain ⟨v16, ev16, hf⟩ := ob_s hf
    refine px_getIN hx hb hts nX7_root_X5 hown hK w ev16 rfl (by decide) (hC.2.1 _ nest_14) rfl dX7_root_17 ?_
    refine lv_icmp_lt (tgt := 27) hx hb dX7_root_20 (by decide) (fun c17 => ?_) (fun c17 => ?_)
    · have hf := if_t hf c17
      refine lv_aload_n hx hb dX7_root_27 rfl (lv_at hl 0 rfl) ?_
      obtain ⟨v18, ev18, hf⟩ := ob_s hf
      refine px_getR hx hb hts nX7_root_X7 hown hK w ev18 rfl (by decide) mX7_root_34 rfl dX7_root_28 ?_
      obtain ⟨v19, ev19, hf⟩ := ob_s hf
      refine px_getRN hx hb hts nX7_root_X5 hown hK w ev19 rfl (by decide) (hC.2.1 _ nest_15) rfl dX7_root_31 ?_
      refine lv_iload_n hx hb dX7_root_34 rfl (lv_at hl 1 rfl) ?_
      obtain ⟨v20, ev20, hf⟩ := ob_s hf
      refine px_iald hx hb hK w ev20 dX7_root_35 ?_
      exact hj36 v20 h7 H locs ls (by rw [ej9] at hf; exact hf) (lv_sub hl [0, 1] rfl) w
    · have hf := if_f hf c17
      exact hj23 h7 H locs ls (by rw [ej12] at hf; exact hf) (lv_sub hl [0, 1] rfl) w
theorem nX7_blocks_X7 : ∀ w ∈ wsX70, w ∈ wsX7_blocks := by decide +kernel
theorem mX7_blocks_34 : Cond.fieldLink RX7 34 "NormalForms" "roots" "LNormalForms$Roots;" ∈ wsX7_blocks := by decide +kernel
theorem nX7_blocks_X5 : ∀ w ∈ wsX50, w ∈ wsX7_blocks := by decide +kernel
theorem mX7_blocks_63 : Cond.fieldLink RX7 63 "NormalForms" "linear" "LNormalForms$Polynomial;" ∈ wsX7_blocks := by decide +kernel
theorem mX7_blocks_79 : Cond.fieldLink RX7 79 "NormalForms" "rowCount" "I" ∈ wsX7_blocks := by decide +kernel
theorem mX7_blocks_56 : Cond.fieldLink RX7 56 "NormalForms" "divider" "LNormalForms$Divider;" ∈ wsX7_blocks := by decide +kernel
theorem mX7_blocks_28 : Cond.fieldLink RX7 28 "NormalForms" "numbersMinors" "LNormalForms$Minors;" ∈ wsX7_blocks := by decide +kernel
theorem nX7_blocks_X3 : ∀ w ∈ wsX30, w ∈ wsX7_blocks := by decide +kernel
abbrev rmX7_blocks : Room := { frames := 8, cells := 0, slots := 0, locals := 173 }
abbrev rtX7_blocks : Room := { frames := 8, cells := 1, slots := 6, locals := 173 }
abbrev wtX7_blocks : List Cond := wsX7_blocks ++ exG
set_option maxHeartbeats 4000000 in
set_option maxRecDepth 100000 in
theorem kX7_blocks (l : Launch) (D : va_G) (dA : Nat → ClassId) (b0 : Nat) (ι : Nat → Nat) (N : Nat) (a0 : Nat) (a1 : Int32) (a2 : Int32) (h : Hp) (r : Int32) (h' : Hp) (hf : fX7_blocks N a0 a1 a2 h = (some (Sum.inr r, h') : Option ((Nat ⊕ Int32) × Hp))) : Met l yX7_blocks wsX7_blocks rmX7_blocks (PC D dA b0 ι [.ref (ι a0), .int a1, .int a2] h) (QI D dA b0 ι r h') 0 0 (qA b0) := by
  unfold fX7_blocks at hf
  refine Met.ofW (cc := cX7_blocks) (maxL := 5) (ret := (some .int)) (by decide +kernel) rfl ?_
  intro p e s m args below meth c s₁ B hml hv
  obtain ⟨rfl, w0⟩ := hv
  have hx := B.exec
  have hb := B.bytes
  have hr := B.returns
  have hts := atoms_spec (ws := wsX7_blocks) B.pre
  have hown : s.vm.findClass RX7 = some m.cls := findClass_of_methodNamed B.named
  have hlocks := B.notSynchronized
  have hC := w0.c
  have hK := hC.1
  have w := WD.start w0
  clear w0
  have hl := lv_entry ([.ref (ι a0), .int a1, .int a2]) (n := 5) (Nat.le_of_ble_eq_true rfl)
  rw [lg_entry_eq]
  generalize (lg_sl ([.ref (ι a0), .int a1, .int a2]) ++ List.replicate (5 - (lg_sl ([.ref (ι a0), .int a1, .int a2])).length) Slot.unset).toArray = ls at hl ⊢
  have hl : lv_has ls 5 [(0, .ref (ι a0)), (1, .int a1), (2, .int a2)] := hl
  obtain ⟨H, hH⟩ : ∃ H : Heap, H = s.heap := ⟨_, rfl⟩
  obtain ⟨locs, hlo⟩ : ∃ locs : List Loc, locs = [] := ⟨_, rfl⟩
  rw [← hlo]
  have w : WD D dA b0 ι h s.heap H locs := by rw [hH, hlo]; exact w
  refine px_start hH ?_
  refine lv_aload_n hx hb dX7_blocks_0 rfl (lv_at hl 0 rfl) ?_
  obtain ⟨u1, eu1, hf⟩ := ob_s hf
  obtain ⟨⟨q4, h3⟩, eh3, hf⟩ := ob_s hf
  try dsimp only at hf
  rcases q4 with c5 | v2
  · have hf := thr_l hf
    cases hf
  have hf := thr_r hf
  refine px_callVv (As := []) (rest := []) ⟨hx, hb, hml, hown, hts⟩ hC w (kX7_needSquare l D dA b0 ι N a0 h h3 eh3) (cwV 0 hts gX7_blocks_X7_needSquare rfl rfl rfl (by decide +kernel) ⟨Nat.le_of_ble_eq_true rfl, Nat.le_of_ble_eq_true rfl⟩) eu1 rfl rfl hl.1 rfl (Nat.le_of_ble_eq_true rfl) dX7_blocks_1 ⟨Nat.le_of_ble_eq_true rfl, Nat.le_of_ble_eq_true rfl⟩ (fun H locs w => ?_)
  refine lv_aload_n hx hb dX7_blocks_4 rfl (lv_at hl 0 rfl) ?_
  obtain ⟨u8, eu8, hf⟩ := ob_s hf
  obtain ⟨h7, eh7, hf⟩ := ob_s hf
  refine px_callVv (As := []) (rest := []) ⟨hx, hb, hml, hown, hts⟩ hC w (kX7_knowRoots l D dA b0 ι N a0 h3 h7 eh7) (cwV 0 hts gX7_blocks_X7_knowRoots rfl rfl rfl (by decide +kernel) ⟨Nat.le_of_ble_eq_true rfl, Nat.le_of_ble_eq_true rfl⟩) eu8 rfl rfl hl.1 rfl (Nat.le_of_ble_eq_true rfl) dX7_blocks_5 ⟨Nat.le_of_ble_eq_true rfl, Nat.le_of_ble_eq_true rfl⟩ (fun H locs w => ?_)
  refine lv_iload_n hx hb dX7_blocks_8 rfl (lv_at hl 1 rfl) ?_
  have hj23 : ∀ (h10 : Hp) (H : Heap) (locs : List Loc) (ls : Array Slot), (some (Sum.inl 1, h10)) = (some (Sum.inr r, h') : Option ((Nat ⊕ Int32) × Hp)) → lv_has ls 5 [(0, .ref (ι a0)), (1, .int a1), (2, .int a2)] → WD D dA b0 ι h10 s.heap H locs → W p l e (headSpec wsX7_blocks rmX7_blocks).room s m ([.ref (ι a0), .int a1, .int a2] : List Value).toArray below meth c H locs 0 0 (MQ below (QI D dA b0 ι r h') ([.ref (ι a0), .int a1, .int a2] : List Value).toArray s 0 0 (qA b0)) (F0 m 23 ls []) := by
    intro h10 H locs ls hf hl w
    cases hf
  obtain ⟨j9, ej9, hf⟩ := jn_s hf
  refine lv_if_lt (tgt := 23) hx hb dX7_blocks_9 (by decide) (fun c11 => ?_) (fun c11 => ?_)
  · have hf := if_t hf c11
    exact hj23 h7 H locs ls (by rw [ej9] at hf; exact hf) (lv_sub hl [0, 1, 2] rfl) w
  · have hf := if_f hf c11
    refine lv_iload_n hx hb dX7_blocks_12 rfl (lv_at hl 1 rfl) ?_
    refine lv_aload_n hx hb dX7_blocks_13 rfl (lv_at hl 0 rfl) ?_
    obtain ⟨v12, ev12, hf⟩ := ob_s hf
    refine px_getR hx hb hts nX7_blocks_X7 hown hK w ev12 rfl (by decide) mX7_blocks_34 rfl dX7_blocks_14 ?_
    obtain ⟨v13, ev13, hf⟩ := ob_s hf
    refine px_getIN hx hb hts nX7_blocks_X5 hown hK w ev13 rfl (by decide) (hC.2.1 _ nest_14) rfl dX7_blocks_17 ?_
    refine lv_icmp_lt (tgt := 33) hx hb dX7_blocks_20 (by decide) (fun c14 => ?_) (fun c14 => ?_)
    · have hf := if_t hf c14
      refine lv_iload_n hx hb dX7_blocks_33 rfl (lv_at hl 2 rfl) ?_
      refine lv_iconst (v := (1 : Int32)) hx hb dX7_blocks_34 (by decide) ?_
      refine lv_icmp_ge (tgt := 48) hx hb dX7_blocks_35 (by decide) (fun c15 => ?_) (fun c15 => ?_)
      · have hf := if_t hf c15
        refine lv_aload_n hx hb dX7_blocks_48 rfl (lv_at hl 0 rfl) ?_
        obtain ⟨v16, ev16, hf⟩ := ob_s hf
        refine px_getR hx hb hts nX7_blocks_X7 hown hK w ev16 rfl (by decide) mX7_blocks_63 rfl dX7_blocks_49 ?_
        refine lv_iconst (v := (1 : Int32)) hx hb dX7_blocks_52 (by decide) ?_
        refine lv_iconst (v := (1 : Int32)) hx hb dX7_blocks_53 (by decide) ?_
        obtain ⟨u19, eu19, hf⟩ := ob_s hf
        obtain ⟨h18, eh18, hf⟩ := ob_s hf
        refine px_callVv (As := [.int (1 : Int32), .int (1 : Int32)]) (rest := []) ⟨hx, hb, hml, hown, hts⟩ hC w (kX4_setNumber l D dA b0 ι N v16 (1 : Int32) (1 : Int32) h7 h18 eh18) (cwV 2 hts gX7_blocks_X4_setNumber rfl rfl rfl (by decide +kernel) ⟨Nat.le_of_ble_eq_true rfl, Nat.le_of_ble_eq_true rfl⟩) eu19 rfl rfl hl.1 rfl (Nat.le_of_ble_eq_true rfl) dX7_blocks_54 ⟨Nat.le_of_ble_eq_true rfl, Nat.le_of_ble_eq_true rfl⟩ (fun H locs w => ?_)
        refine lv_aload_n hx hb dX7_blocks_57 rfl (lv_at hl 0 rfl) ?_
        obtain ⟨v20, ev20, hf⟩ := ob_s hf
        refine px_getR hx hb hts nX7_blocks_X7 hown hK w ev20 rfl (by decide) mX7_blocks_63 rfl dX7_blocks_58 ?_
        refine lv_iconst (v := (0 : Int32)) hx hb dX7_blocks_61 (by decide) ?_
        refine lv_aload_n hx hb dX7_blocks_62 rfl (lv_at hl 0 rfl) ?_
        obtain ⟨v21, ev21, hf⟩ := ob_s hf
        refine px_getR hx hb hts nX7_blocks_X7 hown hK w ev21 rfl (by decide) mX7_blocks_34 rfl dX7_blocks_63 ?_
        obtain ⟨v22, ev22, hf⟩ := ob_s hf
        refine px_getRN hx hb hts nX7_blocks_X5 hown hK w ev22 rfl (by decide) (hC.2.1 _ nest_15) rfl dX7_blocks_66 ?_
        refine lv_iload_n hx hb dX7_blocks_69 rfl (lv_at hl 1 rfl) ?_
        obtain ⟨v23, ev23, hf⟩ := ob_s hf
        refine px_iald hx hb hK w ev23 dX7_blocks_70 ?_
        obtain ⟨⟨v24, h25⟩, eh25, hf⟩ := ob_s hf
        dsimp only at hf
        refine px_callSi (As := [.int v23]) (rest := [.int (0 : Int32), .ref (ι v20)]) ⟨hx, hb, hml, hown, hts⟩ hC w (kX7_negative l D dA b0 ι N v23 h18 v24 h25 eh25) (va_cwS 1 hts gX7_blocks_X7_negative rfl rfl rfl (by decide +kernel) ⟨Nat.le_of_ble_eq_true rfl, Nat.le_of_ble_eq_true rfl⟩) rfl hl.1 rfl (Nat.le_of_ble_eq_true rfl) dX7_blocks_71 ⟨Nat.le_of_ble_eq_true rfl, Nat.le_of_ble_eq_true rfl⟩ (fun H locs w => ?_)
        obtain ⟨u28, eu28, hf⟩ := ob_s hf
        obtain ⟨h27, eh27, hf⟩ := ob_s hf
        refine px_callVv (As := [.int (0 : Int32), .int v24]) (rest := []) ⟨hx, hb, hml, hown, hts⟩ hC w (kX4_setNumber l D dA b0 ι N v20 (0 : Int32) v24 h25 h27 eh27) (cwV 2 hts gX7_blocks_X4_setNumber rfl rfl rfl (by decide +kernel) ⟨Nat.le_of_ble_eq_true rfl, Nat.le_of_ble_eq_true rfl⟩) eu28 rfl rfl hl.1 rfl (Nat.le_of_ble_eq_true rfl) dX7_blocks_74 ⟨Nat.le_of_ble_eq_true rfl, Nat.le_of_ble_eq_true rfl⟩ (fun H locs w => ?_)
        refine lv_iconst (v := (0 : Int32)) hx hb dX7_blocks_77 (by decide) ?_
        refine lv_istore_n (lv' := [(3, .int (0 : Int32)), (0, .ref (ι a0)), (1, .int a1), (2, .int a2)]) hx hb dX7_blocks_78 rfl hl (by decide) rfl (fun ls hl => ?_)
        refine lv_iconst (v := (0 : Int32)) hx hb dX7_blocks_79 (by decide) ?_
        refine lv_istore (lv' := [(4, .int (0 : Int32)), (3, .int (0 : Int32)), (0, .ref (ι a0)), (1, .int a1), (2, .int a2)]) hx hb dX7_blocks_80 hl (by decide) rfl (fun ls hl => ?_)
        have hx82 : ∀ (y29 : Int32) (y30 : Int32) (h31 : Hp) (H : Heap) (locs : List Loc) (ls : Array Slot), (some (Sum.inr y29, h31)) = (some (Sum.inr r, h') : Option ((Nat ⊕ Int32) × Hp)) → lv_has ls 5 [(0, .ref (ι a0)), (1, .int a1), (2, .int a2), (3, .int y29), (4, .int y30)] → WD D dA b0 ι h31 s.heap H locs → W p l e (headSpec wsX7_blocks rmX7_blocks).room s m ([.ref (ι a0), .int a1, .int a2] : List Value).toArray below meth c H locs 0 0 (MQ below (QI D dA b0 ι r h') ([.ref (ι a0), .int a1, .int a2] : List Value).toArray s 0 0 (qA b0)) (F0 m 125 ls []) := by
          intro y29 y30 h31 H locs ls hf hl w
          refine lv_iload_n hx hb dX7_blocks_125 rfl (lv_at hl 3 rfl) ?_
          exact W.iret hx hb hr (qi_end (inr_s hf) w hC) w.locs_ok dX7_blocks_126
        obtain ⟨κ82, eκ82⟩ : ∃ k : Int32 → Int32 → Hp → Option ((Nat ⊕ Int32) × Hp), k = (fun y29 y30 h31 => some (Sum.inr y29, h31)) := ⟨_, rfl⟩
        have hlp82 : ∀ (n : Nat) (z52 : Int32) (z53 : Int32) (h54 : Hp) (H : Heap) (locs : List Loc) (ls : Array Slot), lX7_blocks_82 N a0 a1 a2 n z52 z53 h54 κ82 = (some (Sum.inr r, h') : Option ((Nat ⊕ Int32) × Hp)) → lv_has ls 5 [(0, .ref (ι a0)), (1, .int a1), (2, .int a2), (3, .int z52), (4, .int z53)] → WD D dA b0 ι h54 s.heap H locs → W p l e (headSpec wsX7_blocks rmX7_blocks).room s m ([.ref (ι a0), .int a1, .int a2] : List Value).toArray below meth c H locs 0 0 (MQ below (QI D dA b0 ι r h') ([.ref (ι a0), .int a1, .int a2] : List Value).toArray s 0 0 (qA b0)) (F0 m 82 ls []) := by
          intro n82
          induction n82 with
          | zero => intro z52 z53 h54 H locs ls hf; exact absurd hf (by rw [lX7_blocks_82]; exact fun q => nomatch q)
          | succ n82 ih82 =>
            intro z52 z53 h54 H locs ls hf hl w
            rw [lX7_blocks_82] at hf
            refine lv_iload hx hb dX7_blocks_82 (lv_at hl 4 rfl) ?_
            refine lv_aload_n hx hb dX7_blocks_84 rfl (lv_at hl 0 rfl) ?_
            obtain ⟨v55, ev55, hf⟩ := ob_s hf
            refine px_getI hx hb hts nX7_blocks_X7 hown hK w ev55 rfl (by decide) mX7_blocks_79 rfl dX7_blocks_85 ?_
            refine lv_icmp_ge (tgt := 125) hx hb dX7_blocks_88 (by decide) (fun c56 => ?_) (fun c56 => ?_)
            · have hf := if_t hf c56
              exact hx82 z52 z53 h54 H locs ls (by rw [eκ82] at hf; exact hf) (lv_sub hl [0, 1, 2, 3, 4] rfl) w
            · have hf := if_f hf c56
              refine lv_aload_n hx hb dX7_blocks_91 rfl (lv_at hl 0 rfl) ?_
              obtain ⟨v57, ev57, hf⟩ := ob_s hf
              refine px_getR hx hb hts nX7_blocks_X7 hown hK w ev57 rfl (by decide) mX7_blocks_56 rfl dX7_blocks_92 ?_
              refine lv_aload_n hx hb dX7_blocks_95 rfl (lv_at hl 0 rfl) ?_
              obtain ⟨v58, ev58, hf⟩ := ob_s hf
              refine px_getR hx hb hts nX7_blocks_X7 hown hK w ev58 rfl (by decide) mX7_blocks_63 rfl dX7_blocks_96 ?_
              refine lv_aload_n hx hb dX7_blocks_99 rfl (lv_at hl 0 rfl) ?_
              obtain ⟨v59, ev59, hf⟩ := ob_s hf
              refine px_getR hx hb hts nX7_blocks_X7 hown hK w ev59 rfl (by decide) mX7_blocks_28 rfl dX7_blocks_100 ?_
              obtain ⟨v60, ev60, hf⟩ := ob_s hf
              refine px_getRN hx hb hts nX7_blocks_X3 hown hK w ev60 rfl (by decide) (hC.2.1 _ nest_12) rfl dX7_blocks_103 ?_
              refine lv_iload hx hb dX7_blocks_106 (lv_at hl 4 rfl) ?_
              obtain ⟨v61, ev61, hf⟩ := ob_s hf
              refine px_rald hx hb hK w ev61 rfl dX7_blocks_108 ?_
              obtain ⟨u64, eu64, hf⟩ := ob_s hf
              obtain ⟨⟨v62, h63⟩, eh63, hf⟩ := ob_s hf
              dsimp only at hf
              refine px_callVi (As := [.ref (ι v58), .ref (ι v61)]) (rest := []) ⟨hx, hb, hml, hown, hts⟩ hC w (kX0_howOften l D dA b0 ι N v57 v58 v61 h54 v62 h63 eh63) (cwV 2 hts gX7_blocks_X0_howOften rfl rfl rfl (by decide +kernel) ⟨Nat.le_of_ble_eq_true rfl, Nat.le_of_ble_eq_true rfl⟩) eu64 rfl rfl hl.1 rfl (Nat.le_of_ble_eq_true rfl) dX7_blocks_109 ⟨Nat.le_of_ble_eq_true rfl, Nat.le_of_ble_eq_true rfl⟩ (fun H locs w => ?_)
              refine lv_iload_n hx hb dX7_blocks_112 rfl (lv_at hl 2 rfl) ?_
              have hj119 : ∀ (y66 : Int32) (h67 : Hp) (H : Heap) (locs : List Loc) (ls : Array Slot), (nm (z53 + (1 : Int32)) fun x68 => lX7_blocks_82 N a0 a1 a2 n82 y66 x68 h67 κ82) = (some (Sum.inr r, h') : Option ((Nat ⊕ Int32) × Hp)) → lv_has ls 5 [(0, .ref (ι a0)), (1, .int a1), (2, .int a2), (3, .int y66), (4, .int z53)] → WD D dA b0 ι h67 s.heap H locs → W p l e (headSpec wsX7_blocks rmX7_blocks).room s m ([.ref (ι a0), .int a1, .int a2] : List Value).toArray below meth c H locs 0 0 (MQ below (QI D dA b0 ι r h') ([.ref (ι a0), .int a1, .int a2] : List Value).toArray s 0 0 (qA b0)) (F0 m 119 ls []) := by
                intro y66 h67 H locs ls hf hl w
                obtain ⟨x68, ex68, hf⟩ := nm_s hf
                refine lv_iinc (v := x68) (lv' := [(4, .int x68), (0, .ref (ι a0)), (1, .int a1), (2, .int a2), (3, .int y66)]) hx hb dX7_blocks_119 hl (k := 4) rfl (by rw [ex68]; rfl) (by decide) rfl (fun ls hl => ?_)
                refine lv_goto (tgt := 82) hx hb dX7_blocks_122 (by decide) ?_
                exact ih82 y66 x68 h67 H locs ls hf (lv_sub hl [1, 2, 3, 4, 0] rfl) w
              obtain ⟨j65, ej65, hf⟩ := jn_s hf
              refine lv_icmp_ne (tgt := 119) hx hb dX7_blocks_113 (by decide) (fun c69 => ?_) (fun c69 => ?_)
              · have hf := if_f hf c69
                exact hj119 z52 h63 H locs ls (by rw [ej65] at hf; exact hf) (lv_sub hl [0, 1, 2, 3, 4] rfl) w
              · have hf := if_t hf c69
                obtain ⟨x70, ex70, hf⟩ := nm_s hf
                refine lv_iinc (v := x70) (lv' := [(3, .int x70), (0, .ref (ι a0)), (1, .int a1), (2, .int a2), (4, .int z53)]) hx hb dX7_blocks_116 hl (k := 3) rfl (by rw [ex70]; rfl) (by decide) rfl (fun ls hl => ?_)
                exact hj119 x70 h63 H locs ls (by rw [ej65] at hf; exact hf) (lv_sub hl [1, 2, 3, 0, 4] rfl) w
        exact hlp82 N (0 : Int32) (0 : Int32) h27 H locs ls (by rw [eκ82]; exact hf) (lv_sub hl [2, 3, 4, 1, 0] rfl) w
      · have hf := if_f hf c15
        cases hf
    · have hf := if_f hf c14
      exact hj23 h7 H locs ls (by rw [ej9] at hf; exact hf) (lv_sub hl [0, 1, 2] rfl) w
set_option maxHeartbeats 4000000 in
set_option maxRecDepth 100000 in
theorem tX7_blocks (l : Launch) (hl0 : l.stackTraces = false) (D : va_G) (dA : Nat → ClassId) (b0 : Nat) (ι : Nat → Nat) (N : Nat) (a0 : Nat) (a1 : Int32) (a2 : Int32) (h : Hp) (k : Nat) (h' : Hp) (hf : fX7_blocks N a0 a1 a2 h = (some (Sum.inl k, h') : Option ((Nat ⊕ Int32) × Hp))) : vx_Met l yX7_blocks wtX7_blocks rtX7_blocks (PX D dA b0 ι [.ref (ι a0), .int a1, .int a2] h) QF (XQ D dA b0 ι k h') 1 6 (qA b0) := by
  unfold fX7_blocks at hf
  refine vx_ofW (cc := cX7_blocks) (maxL := 5) (ret := (some .int)) (by decide +kernel) rfl ?_
  intro p e s m args below meth c s₁ B hml hnoh hv
  obtain ⟨rfl, w0, xt⟩ := hv
  have hx := B.exec
  have hb := B.bytes
  have hr := B.returns
  have htx := atoms_spec (ws := wtX7_blocks) B.pre
  have hts : ∀ w ∈ wsX7_blocks, w.before _ s = true := fun w hw => htx w (List.mem_append_left _ hw)
  have hown : s.vm.findClass RX7 = some m.cls := findClass_of_methodNamed B.named
  have hlocks := B.notSynchronized
  have hC := w0.c
  have hK := hC.1
  have w := WD.start w0
  clear w0
  have hl := lv_entry ([.ref (ι a0), .int a1, .int a2]) (n := 5) (Nat.le_of_ble_eq_true rfl)
  rw [lg_entry_eq]
  generalize (lg_sl ([.ref (ι a0), .int a1, .int a2]) ++ List.replicate (5 - (lg_sl ([.ref (ι a0), .int a1, .int a2])).length) Slot.unset).toArray = ls at hl ⊢
  have hl : lv_has ls 5 [(0, .ref (ι a0)), (1, .int a1), (2, .int a2)] := hl
  obtain ⟨H, hH⟩ : ∃ H : Heap, H = s.heap := ⟨_, rfl⟩
  obtain ⟨locs, hlo⟩ : ∃ locs : List Loc, locs = [] := ⟨_, rfl⟩
  rw [← hlo]
  have w : WD D dA b0 ι h s.heap H locs := by rw [hH, hlo]; exact w
  refine px_start hH ?_
  refine lv_aload_n hx hb dX7_blocks_0 rfl (lv_at hl 0 rfl) ?_
  obtain ⟨u1, eu1, hf⟩ := ob_s hf
  obtain ⟨⟨q4, h3⟩, eh3, hf⟩ := ob_s hf
  try dsimp only at hf
  rcases q4 with c5 | v2
  · have hf := thr_l hf
    exact px_tcall (As := []) (rest := []) ⟨hx, hb, hml, hown, htx⟩ hC xt w (tX7_needSquare l hl0 D dA b0 ι N a0 h c5 h3 eh3) (cwV 0 htx (gx_V gX7_blocks_X7_needSquare exG_good) rfl rfl rfl (by decide +kernel) ⟨Nat.le_of_ble_eq_true rfl, Nat.le_of_ble_eq_true rfl⟩) eu1 rfl rfl hl.1 rfl (Nat.le_of_ble_eq_true rfl) dX7_blocks_1 ⟨Nat.le_of_ble_eq_true rfl, Nat.le_of_ble_eq_true rfl⟩ hnoh hlocks (inl_s hf)
  have hf := thr_r hf
  refine px_callVv (As := []) (rest := []) ⟨hx, hb, hml, hown, hts⟩ hC w (kX7_needSquare l D dA b0 ι N a0 h h3 eh3) (cwV 0 hts gX7_blocks_X7_needSquare rfl rfl rfl (by decide +kernel) ⟨Nat.le_of_ble_eq_true rfl, Nat.le_of_ble_eq_true rfl⟩) eu1 rfl rfl hl.1 rfl (Nat.le_of_ble_eq_true rfl) dX7_blocks_1 ⟨Nat.le_of_ble_eq_true rfl, Nat.le_of_ble_eq_true rfl⟩ (fun H locs w => ?_)
  refine lv_aload_n hx hb dX7_blocks_4 rfl (lv_at hl 0 rfl) ?_
  obtain ⟨u8, eu8, hf⟩ := ob_s hf
  obtain ⟨h7, eh7, hf⟩ := ob_s hf
  refine px_callVv (As := []) (rest := []) ⟨hx, hb, hml, hown, hts⟩ hC w (kX7_knowRoots l D dA b0 ι N a0 h3 h7 eh7) (cwV 0 hts gX7_blocks_X7_knowRoots rfl rfl rfl (by decide +kernel) ⟨Nat.le_of_ble_eq_true rfl, Nat.le_of_ble_eq_true rfl⟩) eu8 rfl rfl hl.1 rfl (Nat.le_of_ble_eq_true rfl) dX7_blocks_5 ⟨Nat.le_of_ble_eq_true rfl, Nat.le_of_ble_eq_true rfl⟩ (fun H locs w => ?_)
  refine lv_iload_n hx hb dX7_blocks_8 rfl (lv_at hl 1 rfl) ?_
  have hj23 : ∀ (h10 : Hp) (H : Heap) (locs : List Loc) (ls : Array Slot), (some (Sum.inl 1, h10)) = (some (Sum.inl k, h') : Option ((Nat ⊕ Int32) × Hp)) → lv_has ls 5 [(0, .ref (ι a0)), (1, .int a1), (2, .int a2)] → WD D dA b0 ι h10 s.heap H locs → W p l e (headSpec wtX7_blocks rtX7_blocks).room s m ([.ref (ι a0), .int a1, .int a2] : List Value).toArray below meth c H locs 0 0 (vx_MQ below QF (XQ D dA b0 ι k h') ([.ref (ι a0), .int a1, .int a2] : List Value).toArray s 1 6 (qA b0)) (F0 m 23 ls []) := by
    intro h10 H locs ls hf hl w
    exact px_throw hx hb hl0 htx (fun w hw => List.mem_append_right _ hw) hown w xt 1 (by decide) (by decide +kernel) (by decide +kernel) (is := 171) (List.mem_of_getElem? (i := 2) rfl) (hl.1.trans hml.symm) dX7_blocks_23 dX7_blocks_26 dX7_blocks_27 dX7_blocks_29 dX7_blocks_32 hnoh (Nat.le_of_ble_eq_true rfl) (Nat.le_of_ble_eq_true rfl) (Nat.le_of_ble_eq_true rfl) (Nat.le_of_ble_eq_true rfl) hlocks hf
  obtain ⟨j9, ej9, hf⟩ := jn_s hf
  refine lv_if_lt (tgt := 23) hx hb dX7_blocks_9 (by decide) (fun c11 => ?_) (fun c11 => ?_)
  · have hf := if_t hf c11
    exact hj23 h7 H locs ls (by rw [ej9] at hf; exact hf) (lv_sub hl [0, 1, 2] rfl) w
  · have hf := if_f hf c11
    refine lv_iload_n hx hb dX7_blocks_12 rfl (lv_at hl 1 rfl) ?_
    refine lv_aload_n hx hb dX7_blocks_13 rfl (lv_at hl 0 rfl) ?_
    obtain ⟨v12, ev12, hf⟩ := ob_s hf
    refine px_getR hx hb hts nX7_blocks_X7 hown hK w ev12 rfl (by decide) mX7_blocks_34 rfl dX7_blocks_14 ?_
    obtain ⟨v13, ev13, hf⟩ := ob_s hf
    refine px_getIN hx hb hts nX7_blocks_X5 hown hK w ev13 rfl (by decide) (hC.2.1 _ nest_14) rfl dX7_blocks_17 ?_
    refine lv_icmp_lt (tgt := 33) hx hb dX7_blocks_20 (by decide) (fun c14 => ?_) (fun c14 => ?_)
    · have hf := if_t hf c14
      refine lv_iload_n hx hb dX7_blocks_33 rfl (lv_at hl 2 rfl) ?_
      refine lv_iconst (v := (1 : Int32)) hx hb dX7_blocks_34 (by decide) ?_
      refine lv_icmp_ge (tgt := 48) hx hb dX7_blocks_35 (by decide) (fun c15 => ?_) (fun c15 => ?_)
      · have hf := if_t hf c15
        refine lv_aload_n hx hb dX7_blocks_48 rfl (lv_at hl 0 rfl) ?_
        obtain ⟨v16, ev16, hf⟩ := ob_s hf
        refine px_getR hx hb hts nX7_blocks_X7 hown hK w ev16 rfl (by decide) mX7_blocks_63 rfl dX7_blocks_49 ?_
        refine lv_iconst (v := (1 : Int32)) hx hb dX7_blocks_52 (by decide) ?_
        refine lv_iconst (v := (1 : Int32)) hx hb dX7_blocks_53 (by decide) ?_
        obtain ⟨u19, eu19, hf⟩ := ob_s hf
        obtain ⟨h18, eh18, hf⟩ := ob_s hf
        refine px_callVv (As := [.int (1 : Int32), .int (1 : Int32)]) (rest := []) ⟨hx, hb, hml, hown, hts⟩ hC w (kX4_setNumber l D dA b0 ι N v16 (1 : Int32) (1 : Int32) h7 h18 eh18) (cwV 2 hts gX7_blocks_X4_setNumber rfl rfl rfl (by decide +kernel) ⟨Nat.le_of_ble_eq_true rfl, Nat.le_of_ble_eq_true rfl⟩) eu19 rfl rfl hl.1 rfl (Nat.le_of_ble_eq_true rfl) dX7_blocks_54 ⟨Nat.le_of_ble_eq_true rfl, Nat.le_of_ble_eq_true rfl⟩ (fun H locs w => ?_)
        refine lv_aload_n hx hb dX7_blocks_57 rfl (lv_at hl 0 rfl) ?_
        obtain ⟨v20, ev20, hf⟩ := ob_s hf
        refine px_getR hx hb hts nX7_blocks_X7 hown hK w ev20 rfl (by decide) mX7_blocks_63 rfl dX7_blocks_58 ?_
        refine lv_iconst (v := (0 : Int32)) hx hb dX7_blocks_61 (by decide) ?_
        refine lv_aload_n hx hb dX7_blocks_62 rfl (lv_at hl 0 rfl) ?_
        obtain ⟨v21, ev21, hf⟩ := ob_s hf
        refine px_getR hx hb hts nX7_blocks_X7 hown hK w ev21 rfl (by decide) mX7_blocks_34 rfl dX7_blocks_63 ?_
        obtain ⟨v22, ev22, hf⟩ := ob_s hf
        refine px_getRN hx hb hts nX7_blocks_X5 hown hK w ev22 rfl (by decide) (hC.2.1 _ nest_15) rfl dX7_blocks_66 ?_
        refine lv_iload_n hx hb dX7_blocks_69 rfl (lv_at hl 1 rfl) ?_
        obtain ⟨v23, ev23, hf⟩ := ob_s hf
        refine px_iald hx hb hK w ev23 dX7_blocks_70 ?_
        obtain ⟨⟨v24, h25⟩, eh25, hf⟩ := ob_s hf
        dsimp only at hf
        refine px_callSi (As := [.int v23]) (rest := [.int (0 : Int32), .ref (ι v20)]) ⟨hx, hb, hml, hown, hts⟩ hC w (kX7_negative l D dA b0 ι N v23 h18 v24 h25 eh25) (va_cwS 1 hts gX7_blocks_X7_negative rfl rfl rfl (by decide +kernel) ⟨Nat.le_of_ble_eq_true rfl, Nat.le_of_ble_eq_true rfl⟩) rfl hl.1 rfl (Nat.le_of_ble_eq_true rfl) dX7_blocks_71 ⟨Nat.le_of_ble_eq_true rfl, Nat.le_of_ble_eq_true rfl⟩ (fun H locs w => ?_)
        obtain ⟨u28, eu28, hf⟩ := ob_s hf
        obtain ⟨h27, eh27, hf⟩ := ob_s hf
        refine px_callVv (As := [.int (0 : Int32), .int v24]) (rest := []) ⟨hx, hb, hml, hown, hts⟩ hC w (kX4_setNumber l D dA b0 ι N v20 (0 : Int32) v24 h25 h27 eh27) (cwV 2 hts gX7_blocks_X4_setNumber rfl rfl rfl (by decide +kernel) ⟨Nat.le_of_ble_eq_true rfl, Nat.le_of_ble_eq_true rfl⟩) eu28 rfl rfl hl.1 rfl (Nat.le_of_ble_eq_true rfl) dX7_blocks_74 ⟨Nat.le_of_ble_eq_true rfl, Nat.le_of_ble_eq_true rfl⟩ (fun H locs w => ?_)
        refine lv_iconst (v := (0 : Int32)) hx hb dX7_blocks_77 (by decide) ?_
        refine lv_istore_n (lv' := [(3, .int (0 : Int32)), (0, .ref (ι a0)), (1, .int a1), (2, .int a2)]) hx hb dX7_blocks_78 rfl hl (by decide) rfl (fun ls hl => ?_)
        refine lv_iconst (v := (0 : Int32)) hx hb dX7_blocks_79 (by decide) ?_
        refine lv_istore (lv' := [(4, .int (0 : Int32)), (3, .int (0 : Int32)), (0, .ref (ι a0)), (1, .int a1), (2, .int a2)]) hx hb dX7_blocks_80 hl (by decide) rfl (fun ls hl => ?_)
        have hx82 : ∀ (y29 : Int32) (y30 : Int32) (h31 : Hp) (H : Heap) (locs : List Loc) (ls : Array Slot), (some (Sum.inr y29, h31)) = (some (Sum.inl k, h') : Option ((Nat ⊕ Int32) × Hp)) → lv_has ls 5 [(0, .ref (ι a0)), (1, .int a1), (2, .int a2), (3, .int y29), (4, .int y30)] → WD D dA b0 ι h31 s.heap H locs → W p l e (headSpec wtX7_blocks rtX7_blocks).room s m ([.ref (ι a0), .int a1, .int a2] : List Value).toArray below meth c H locs 0 0 (vx_MQ below QF (XQ D dA b0 ι k h') ([.ref (ι a0), .int a1, .int a2] : List Value).toArray s 1 6 (qA b0)) (F0 m 125 ls []) := by
          intro y29 y30 h31 H locs ls hf hl w
          refine lv_iload_n hx hb dX7_blocks_125 rfl (lv_at hl 3 rfl) ?_
          cases hf
        obtain ⟨κ82, eκ82⟩ : ∃ k : Int32 → Int32 → Hp → Option ((Nat ⊕ Int32) × Hp), k = (fun y29 y30 h31 => some (Sum.inr y29, h31)) := ⟨_, rfl⟩
        have hlp82 : ∀ (n : Nat) (z52 : Int32) (z53 : Int32) (h54 : Hp) (H : Heap) (locs : List Loc) (ls : Array Slot), lX7_blocks_82 N a0 a1 a2 n z52 z53 h54 κ82 = (some (Sum.inl k, h') : Option ((Nat ⊕ Int32) × Hp)) → lv_has ls 5 [(0, .ref (ι a0)), (1, .int a1), (2, .int a2), (3, .int z52), (4, .int z53)] → WD D dA b0 ι h54 s.heap H locs → W p l e (headSpec wtX7_blocks rtX7_blocks).room s m ([.ref (ι a0), .int a1, .int a2] : List Value).toArray below meth c H locs 0 0 (vx_MQ below QF (XQ D dA b0 ι k h') ([.ref (ι a0), .int a1, .int a2] : List Value).toArray s 1 6 (qA b0)) (F0 m 82 ls []) := by
          intro n82
          induction n82 with
          | zero => intro z52 z53 h54 H locs ls hf; exact absurd hf (by rw [lX7_blocks_82]; exact fun q => nomatch q)
          | succ n82 ih82 =>
            intro z52 z53 h54 H locs ls hf hl w
            rw [lX7_blocks_82] at hf
            refine lv_iload hx hb dX7_blocks_82 (lv_at hl 4 rfl) ?_
            refine lv_aload_n hx hb dX7_blocks_84 rfl (lv_at hl 0 rfl) ?_
            obtain ⟨v55, ev55, hf⟩ := ob_s hf
            refine px_getI hx hb hts nX7_blocks_X7 hown hK w ev55 rfl (by decide) mX7_blocks_79 rfl dX7_blocks_85 ?_
            refine lv_icmp_ge (tgt := 125) hx hb dX7_blocks_88 (by decide) (fun c56 => ?_) (fun c56 => ?_)
            · have hf := if_t hf c56
              exact hx82 z52 z53 h54 H locs ls (by rw [eκ82] at hf; exact hf) (lv_sub hl [0, 1, 2, 3, 4] rfl) w
            · have hf := if_f hf c56
              refine lv_aload_n hx hb dX7_blocks_91 rfl (lv_at hl 0 rfl) ?_
              obtain ⟨v57, ev57, hf⟩ := ob_s hf
              refine px_getR hx hb hts nX7_blocks_X7 hown hK w ev57 rfl (by decide) mX7_blocks_56 rfl dX7_blocks_92 ?_
              refine lv_aload_n hx hb dX7_blocks_95 rfl (lv_at hl 0 rfl) ?_
              obtain ⟨v58, ev58, hf⟩ := ob_s hf
              refine px_getR hx hb hts nX7_blocks_X7 hown hK w ev58 rfl (by decide) mX7_blocks_63 rfl dX7_blocks_96 ?_
              refine lv_aload_n hx hb dX7_blocks_99 rfl (lv_at hl 0 rfl) ?_
              obtain ⟨v59, ev59, hf⟩ := ob_s hf
              refine px_getR hx hb hts nX7_blocks_X7 hown hK w ev59 rfl (by decide) mX7_blocks_28 rfl dX7_blocks_100 ?_
              obtain ⟨v60, ev60, hf⟩ := ob_s hf
              refine px_getRN hx hb hts nX7_blocks_X3 hown hK w ev60 rfl (by decide) (hC.2.1 _ nest_12) rfl dX7_blocks_103 ?_
              refine lv_iload hx hb dX7_blocks_106 (lv_at hl 4 rfl) ?_
              obtain ⟨v61, ev61, hf⟩ := ob_s hf
              refine px_rald hx hb hK w ev61 rfl dX7_blocks_108 ?_
              obtain ⟨u64, eu64, hf⟩ := ob_s hf
              obtain ⟨⟨v62, h63⟩, eh63, hf⟩ := ob_s hf
              dsimp only at hf
              refine px_callVi (As := [.ref (ι v58), .ref (ι v61)]) (rest := []) ⟨hx, hb, hml, hown, hts⟩ hC w (kX0_howOften l D dA b0 ι N v57 v58 v61 h54 v62 h63 eh63) (cwV 2 hts gX7_blocks_X0_howOften rfl rfl rfl (by decide +kernel) ⟨Nat.le_of_ble_eq_true rfl, Nat.le_of_ble_eq_true rfl⟩) eu64 rfl rfl hl.1 rfl (Nat.le_of_ble_eq_true rfl) dX7_blocks_109 ⟨Nat.le_of_ble_eq_true rfl, Nat.le_of_ble_eq_true rfl⟩ (fun H locs w => ?_)
              refine lv_iload_n hx hb dX7_blocks_112 rfl (lv_at hl 2 rfl) ?_
              have hj119 : ∀ (y66 : Int32) (h67 : Hp) (H : Heap) (locs : List Loc) (ls : Array Slot), (nm (z53 + (1 : Int32)) fun x68 => lX7_blocks_82 N a0 a1 a2 n82 y66 x68 h67 κ82) = (some (Sum.inl k, h') : Option ((Nat ⊕ Int32) × Hp)) → lv_has ls 5 [(0, .ref (ι a0)), (1, .int a1), (2, .int a2), (3, .int y66), (4, .int z53)] → WD D dA b0 ι h67 s.heap H locs → W p l e (headSpec wtX7_blocks rtX7_blocks).room s m ([.ref (ι a0), .int a1, .int a2] : List Value).toArray below meth c H locs 0 0 (vx_MQ below QF (XQ D dA b0 ι k h') ([.ref (ι a0), .int a1, .int a2] : List Value).toArray s 1 6 (qA b0)) (F0 m 119 ls []) := by
                intro y66 h67 H locs ls hf hl w
                obtain ⟨x68, ex68, hf⟩ := nm_s hf
                refine lv_iinc (v := x68) (lv' := [(4, .int x68), (0, .ref (ι a0)), (1, .int a1), (2, .int a2), (3, .int y66)]) hx hb dX7_blocks_119 hl (k := 4) rfl (by rw [ex68]; rfl) (by decide) rfl (fun ls hl => ?_)
                refine lv_goto (tgt := 82) hx hb dX7_blocks_122 (by decide) ?_
                exact ih82 y66 x68 h67 H locs ls hf (lv_sub hl [1, 2, 3, 4, 0] rfl) w
              obtain ⟨j65, ej65, hf⟩ := jn_s hf
              refine lv_icmp_ne (tgt := 119) hx hb dX7_blocks_113 (by decide) (fun c69 => ?_) (fun c69 => ?_)
              · have hf := if_f hf c69
                exact hj119 z52 h63 H locs ls (by rw [ej65] at hf; exact hf) (lv_sub hl [0, 1, 2, 3, 4] rfl) w
              · have hf := if_t hf c69
                obtain ⟨x70, ex70, hf⟩ := nm_s hf
                refine lv_iinc (v := x70) (lv' := [(3, .int x70), (0, .ref (ι a0)), (1, .int a1), (2, .int a2), (4, .int z53)]) hx hb dX7_blocks_116 hl (k := 3) rfl (by rw [ex70]; rfl) (by decide) rfl (fun ls hl => ?_)
                exact hj119 x70 h63 H locs ls (by rw [ej65] at hf; exact hf) (lv_sub hl [1, 2, 3, 0, 4] rfl) w
        exact hlp82 N (0 : Int32) (0 : Int32) h27 H locs ls (by rw [eκ82]; exact hf) (lv_sub hl [2, 3, 4, 1, 0] rfl) w
      · have hf := if_f hf c15
        exact px_throw hx hb hl0 htx (fun w hw => List.mem_append_right _ hw) hown w xt 1 (by decide) (by decide +kernel) (by decide +kernel) (is := 173) (List.mem_of_getElem? (i := 3) rfl) (hl.1.trans hml.symm) dX7_blocks_38 dX7_blocks_41 dX7_blocks_42 dX7_blocks_44 dX7_blocks_47 hnoh (Nat.le_of_ble_eq_true rfl) (Nat.le_of_ble_eq_true rfl) (Nat.le_of_ble_eq_true rfl) (Nat.le_of_ble_eq_true rfl) hlocks hf
    · have hf := if_f hf c14
      exact hj23 h7 H locs ls (by rw [ej9] at hf; exact hf) (lv_sub hl [0, 1, 2] rfl) w
