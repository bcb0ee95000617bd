theorem nX8_thrown_X8 : ∀ w ∈ wsX80, w ∈ wsX8_thrown := by decide +kernel
theorem mX8_thrown_65 : Cond.fieldLink RX8 65 "NormalFormsModel" "code" "I" ∈ wsX8_thrown := by decide +kernel
abbrev rmX8_thrown : Room := { frames := 1, cells := 0, slots := 0, locals := 12 }
set_option maxHeartbeats 4000000 in
set_option maxRecDepth 100000 in
theorem kX8_thrown (l : Launch) (D : va_G) (dA : Nat → ClassId) (b0 : Nat) (ι : Nat → Nat) (N : Nat) (a0 : Nat) (h : Hp) (r : Int32) (h' : Hp) (hf : fX8_thrown N a0 h = some (r, h')) : Met l yX8_thrown wsX8_thrown rmX8_thrown (PC D dA b0 ι [.ref (ι a0)] h) (QI D dA b0 ι r h') 0 0 (qA b0) := by
  unfold fX8_thrown at hf
  refine Met.ofW (cc := cX8_thrown) (maxL := 1) (ret := (some .int)) (by decide +kernel) rfl ?_
  intro p e s m args below meth c s₁ B hml hv
  obtain ⟨rfl, w0⟩ := hv
  have hx := B.exec
  have hb := B.bytes
  have hr := B.returns
  have hts := atoms_spec (ws := wsX8_thrown) B.pre
  have hown : s.vm.findClass RX8 = some m.cls := findClass_of_methodNamed B.named
  have hlocks := B.notSynchronized
  have hC := w0.c
  have hK := hC.1
  have w := WD.start w0
  clear w0
  have hl := lv_entry ([.ref (ι a0)]) (n := 1) (Nat.le_of_ble_eq_true rfl)
  rw [lg_entry_eq]
  generalize (lg_sl ([.ref (ι a0)]) ++ List.replicate (1 - (lg_sl ([.ref (ι a0)])).length) Slot.unset).toArray = ls at hl ⊢
  have hl : lv_has ls 1 [(0, .ref (ι a0))] := hl
  obtain ⟨H, hH⟩ : ∃ H : Heap, H = s.heap := ⟨_, rfl⟩
  obtain ⟨locs, hlo⟩ : ∃ locs : List Loc, locs = [] := ⟨_, rfl⟩
  rw [← hlo]
  have w : WD D dA b0 ι h s.heap H locs := by rw [hH, hlo]; exact w
  refine px_start hH ?_
  refine lv_aload_n hx hb dX8_thrown_0 rfl (lv_at hl 0 rfl) ?_
  obtain ⟨v1, ev1, hf⟩ := ob_s hf
  refine px_getI hx hb hts nX8_thrown_X8 hown hK w ev1 rfl (by decide) mX8_thrown_65 rfl dX8_thrown_1 ?_
  exact W.iret hx hb hr (qi_end hf w hC) w.locs_ok dX8_thrown_4
theorem nX8_raise_X8 : ∀ w ∈ wsX80, w ∈ wsX8_raise := by decide +kernel
theorem mX8_raise_65 : Cond.fieldLink RX8 65 "NormalFormsModel" "code" "I" ∈ wsX8_raise := by decide +kernel
abbrev rmX8_raise : Room := { frames := 1, cells := 0, slots := 0, locals := 12 }
set_option maxHeartbeats 4000000 in
set_option maxRecDepth 100000 in
theorem kX8_raise (l : Launch) (D : va_G) (dA : Nat → ClassId) (b0 : Nat) (ι : Nat → Nat) (N : Nat) (a0 : Nat) (a1 : Int32) (h : Hp) (r : Int32) (h' : Hp) (hf : fX8_raise N a0 a1 h = some (r, h')) : Met l yX8_raise wsX8_raise rmX8_raise (PC D dA b0 ι [.ref (ι a0), .int a1] h) (QI D dA b0 ι r h') 0 0 (qA b0) := by
  unfold fX8_raise at hf
  refine Met.ofW (cc := cX8_raise) (maxL := 2) (ret := (some .int)) (by decide +kernel) rfl ?_
  intro p e s m args below meth c s₁ B hml hv
  obtain ⟨rfl, w0⟩ := hv
  have hx := B.exec
  have hb := B.bytes
  have hr := B.returns
  have hts := atoms_spec (ws := wsX8_raise) B.pre
  have hown : s.vm.findClass RX8 = some m.cls := findClass_of_methodNamed B.named
  have hlocks := B.notSynchronized
  have hC := w0.c
  have hK := hC.1
  have w := WD.start w0
  clear w0
  have hl := lv_entry ([.ref (ι a0), .int a1]) (n := 2) (Nat.le_of_ble_eq_true rfl)
  rw [lg_entry_eq]
  generalize (lg_sl ([.ref (ι a0), .int a1]) ++ List.replicate (2 - (lg_sl ([.ref (ι a0), .int a1])).length) Slot.unset).toArray = ls at hl ⊢
  have hl : lv_has ls 2 [(0, .ref (ι a0)), (1, .int a1)] := hl
  obtain ⟨H, hH⟩ : ∃ H : Heap, H = s.heap := ⟨_, rfl⟩
  obtain ⟨locs, hlo⟩ : ∃ locs : List Loc, locs = [] := ⟨_, rfl⟩
  rw [← hlo]
  have w : WD D dA b0 ι h s.heap H locs := by rw [hH, hlo]; exact w
  refine px_start hH ?_
  refine lv_aload_n hx hb dX8_raise_0 rfl (lv_at hl 0 rfl) ?_
  refine lv_iload_n hx hb dX8_raise_1 rfl (lv_at hl 1 rfl) ?_
  obtain ⟨h1, eh1, hf⟩ := ob_s hf
  refine px_put hx hb hts nX8_raise_X8 tyX8 tyX8_ok nmX8 hown hK w eh1 rfl (by decide) mX8_raise_65 rfl rfl rfl rfl dX8_raise_2 rfl (fun H locs w => ?_)
  refine lv_iconst (v := (0 : Int32)) hx hb dX8_raise_5 (by decide) ?_
  exact W.iret hx hb hr (qi_end hf w hC) w.locs_ok dX8_raise_6
abbrev rmX8_in : Room := { frames := 1, cells := 0, slots := 0, locals := 12 }
set_option maxHeartbeats 4000000 in
set_option maxRecDepth 100000 in
theorem kX8_in (l : Launch) (D : va_G) (dA : Nat → ClassId) (b0 : Nat) (ι : Nat → Nat) (N : Nat) (a0 : Int64) (a2 : Int64) (a4 : Int64) (h : Hp) (r : Int32) (h' : Hp) (hf : fX8_in N a0 a2 a4 h = some (r, h')) : Met l yX8_in wsX8_in rmX8_in (PC D dA b0 ι [.long a0, .long a2, .long a4] h) (QI D dA b0 ι r h') 0 0 (qA b0) := by
  unfold fX8_in at hf
  refine Met.ofW (cc := cX8_in) (maxL := 6) (ret := (some .boolean)) (by decide +kernel) rfl ?_
  intro p e s m args below meth c s₁ B hml hv
  obtain ⟨rfl, w0⟩ := hv
  have hx := B.exec
  have hb := B.bytes
  have hr := B.returns
  have hts := atoms_spec (ws := wsX8_in) B.pre
  have hown : s.vm.findClass RX8 = some m.cls := findClass_of_methodNamed B.named
  have hlocks := B.notSynchronized
  have hC := w0.c
  have hK := hC.1
  have w := WD.start w0
  clear w0
  have hl := lv_entry ([.long a0, .long a2, .long a4]) (n := 6) (Nat.le_of_ble_eq_true rfl)
  rw [lg_entry_eq]
  generalize (lg_sl ([.long a0, .long a2, .long a4]) ++ List.replicate (6 - (lg_sl ([.long a0, .long a2, .long a4])).length) Slot.unset).toArray = ls at hl ⊢
  have hl : lv_has ls 6 [(0, .long a0), (2, .long a2), (4, .long a4)] := hl
  obtain ⟨H, hH⟩ : ∃ H : Heap, H = s.heap := ⟨_, rfl⟩
  obtain ⟨locs, hlo⟩ : ∃ locs : List Loc, locs = [] := ⟨_, rfl⟩
  rw [← hlo]
  have w : WD D dA b0 ι h s.heap H locs := by rw [hH, hlo]; exact w
  refine px_start hH ?_
  refine lv_lload_n hx hb dX8_in_0 rfl (lv_at hl 0 rfl) ?_
  refine lv_lload_n hx hb dX8_in_1 rfl (lv_at hl 1 rfl) ?_
  refine W.lcmp hx hb dX8_in_2 ?_
  have hj18 : ∀ (t3 : Int32) (h2 : Hp) (H : Heap) (locs : List Loc) (ls : Array Slot), (if t3 = 0 ∨ t3 = 1 then some (t3, h2) else none) = some (r, h') → lv_has ls 6 [(0, .long a0), (2, .long a2), (4, .long a4)] → WD D dA b0 ι h2 s.heap H locs → W p l e (headSpec wsX8_in rmX8_in).room s m ([.long a0, .long a2, .long a4] : List Value).toArray below meth c H locs 0 0 (MQ below (QI D dA b0 ι r h') ([.long a0, .long a2, .long a4] : List Value).toArray s 0 0 (qA b0)) (F0 m 18 ls [.int t3]) := by
    intro t3 h2 H locs ls hf hl w
    obtain ⟨hz, hf⟩ := if_s hf
    exact W.zret hx hb hr (nar01 hz) (qi_end hf w hC) w.locs_ok dX8_in_18
  obtain ⟨j1, ej1, hf⟩ := jn_s hf
  have hj17 : ∀ (h5 : Hp) (H : Heap) (locs : List Loc) (ls : Array Slot), (j1 (0 : Int32) h5) = some (r, h') → lv_has ls 6 [(0, .long a0), (2, .long a2), (4, .long a4)] → WD D dA b0 ι h5 s.heap H locs → W p l e (headSpec wsX8_in rmX8_in).room s m ([.long a0, .long a2, .long a4] : List Value).toArray below meth c H locs 0 0 (MQ below (QI D dA b0 ι r h') ([.long a0, .long a2, .long a4] : List Value).toArray s 0 0 (qA b0)) (F0 m 17 ls []) := by
    intro h5 H locs ls hf hl w
    refine lv_iconst (v := (0 : Int32)) hx hb dX8_in_17 (by decide) ?_
    exact hj18 (0 : Int32) h5 H locs ls (by rw [ej1] at hf; exact hf) (lv_sub hl [0, 1, 2] rfl) w
  obtain ⟨j4, ej4, hf⟩ := jn_s hf
  refine lv_if_lt (tgt := 17) hx hb dX8_in_3 (by decide) (fun c6 => ?_) (fun c6 => ?_)
  · have hf := if_t hf c6
    exact hj17 h H locs ls (by rw [ej4] at hf; exact hf) (lv_sub hl [0, 1, 2] rfl) w
  · have hf := if_f hf c6
    refine lv_lload_n hx hb dX8_in_6 rfl (lv_at hl 0 rfl) ?_
    refine lv_lload hx hb dX8_in_7 (lv_at hl 2 rfl) ?_
    refine W.lcmp hx hb dX8_in_9 ?_
    refine lv_if_gt (tgt := 17) hx hb dX8_in_10 (by decide) (fun c7 => ?_) (fun c7 => ?_)
    · have hf := if_t hf c7
      exact hj17 h H locs ls (by rw [ej4] at hf; exact hf) (lv_sub hl [0, 1, 2] rfl) w
    · have hf := if_f hf c7
      refine lv_iconst (v := (1 : Int32)) hx hb dX8_in_13 (by decide) ?_
      refine lv_goto (tgt := 18) hx hb dX8_in_14 (by decide) ?_
      exact hj18 (1 : Int32) h H locs ls (by rw [ej1] at hf; exact hf) (lv_sub hl [0, 1, 2] rfl) w
theorem mX8_modulo_69 : Cond.constantLong RX8 69 (32003) ∈ wsX8_modulo := by decide +kernel
abbrev rmX8_modulo : Room := { frames := 1, cells := 0, slots := 0, locals := 12 }
set_option maxHeartbeats 4000000 in
set_option maxRecDepth 100000 in
theorem kX8_modulo (l : Launch) (D : va_G) (dA : Nat → ClassId) (b0 : Nat) (ι : Nat → Nat) (N : Nat) (a0 : Int64) (h : Hp) (r : Int32) (h' : Hp) (hf : fX8_modulo N a0 h = some (r, h')) : Met l yX8_modulo wsX8_modulo rmX8_modulo (PC D dA b0 ι [.long a0] h) (QI D dA b0 ι r h') 0 0 (qA b0) := by
  unfold fX8_modulo at hf
  refine Met.ofW (cc := cX8_modulo) (maxL := 4) (ret := (some .int)) (by decide +kernel) rfl ?_
  intro p e s m args below meth c s₁ B hml hv
  obtain ⟨rfl, w0⟩ := hv
  have hx := B.exec
  have hb := B.bytes
  have hr := B.returns
  have hts := atoms_spec (ws := wsX8_modulo) B.pre
  have hown : s.vm.findClass RX8 = some m.cls := findClass_of_methodNamed B.named
  have hlocks := B.notSynchronized
  have hC := w0.c
  have hK := hC.1
  have w := WD.start w0
  clear w0
  have hl := lv_entry ([.long a0]) (n := 4) (Nat.le_of_ble_eq_true rfl)
  rw [lg_entry_eq]
  generalize (lg_sl ([.long a0]) ++ List.replicate (4 - (lg_sl ([.long a0])).length) Slot.unset).toArray = ls at hl ⊢
  have hl : lv_has ls 4 [(0, .long a0)] := hl
  obtain ⟨H, hH⟩ : ∃ H : Heap, H = s.heap := ⟨_, rfl⟩
  obtain ⟨locs, hlo⟩ : ∃ locs : List Loc, locs = [] := ⟨_, rfl⟩
  rw [← hlo]
  have w : WD D dA b0 ι h s.heap H locs := by rw [hH, hlo]; exact w
  refine px_start hH ?_
  refine lv_lload_n hx hb dX8_modulo_0 rfl (lv_at hl 0 rfl) ?_
  refine lv_ldc2 (v := 32003) hx hb hown (hts _ mX8_modulo_69) dX8_modulo_1 ?_
  refine px_lrem hx hb dX8_modulo_4 (by decide) ?_
  obtain ⟨x1, ex1, hf⟩ := nm_s hf
  refine px_nmJ ex1 ?_
  refine lv_lstore_n (lv' := [(2, .long x1), (0, .long a0)]) hx hb dX8_modulo_5 rfl hl (by decide) rfl (fun ls hl => ?_)
  refine lv_lload_n hx hb dX8_modulo_6 rfl (lv_at hl 0 rfl) ?_
  refine lv_lconst (v := 0) hx hb dX8_modulo_7 (by decide) ?_
  refine W.lcmp hx hb dX8_modulo_8 ?_
  have hj21 : ∀ (t4 : Int64) (h3 : Hp) (H : Heap) (locs : List Loc) (ls : Array Slot), (some (t4.toInt32, h3)) = some (r, h') → lv_has ls 4 [(0, .long a0), (2, .long x1)] → WD D dA b0 ι h3 s.heap H locs → W p l e (headSpec wsX8_modulo rmX8_modulo).room s m ([.long a0] : List Value).toArray below meth c H locs 0 0 (MQ below (QI D dA b0 ι r h') ([.long a0] : List Value).toArray s 0 0 (qA b0)) (F0 m 21 ls [.long t4]) := by
    intro t4 h3 H locs ls hf hl w
    refine lv_l2i hx hb dX8_modulo_21 rfl ?_
    exact W.iret hx hb hr (qi_end hf w hC) w.locs_ok dX8_modulo_22
  obtain ⟨j2, ej2, hf⟩ := jn_s hf
  refine lv_if_ge (tgt := 20) hx hb dX8_modulo_9 (by decide) (fun c5 => ?_) (fun c5 => ?_)
  · have hf := if_t hf c5
    refine lv_lload_n hx hb dX8_modulo_20 rfl (lv_at hl 0 rfl) ?_
    exact hj21 x1 h H locs ls (by rw [ej2] at hf; exact hf) (lv_sub hl [1, 0] rfl) w
  · have hf := if_f hf c5
    refine lv_lload_n hx hb dX8_modulo_12 rfl (lv_at hl 0 rfl) ?_
    refine lv_ldc2 (v := 32003) hx hb hown (hts _ mX8_modulo_69) dX8_modulo_13 ?_
    refine lv_ladd hx hb dX8_modulo_16 ?_
    refine lv_goto (tgt := 21) hx hb dX8_modulo_17 (by decide) ?_
    exact hj21 (x1 + (32003 : Int64)) h H locs ls (by rw [ej2] at hf; exact hf) (lv_sub hl [1, 0] rfl) w
theorem mX8_inverse_69 : Cond.constantLong RX8 69 (32003) ∈ wsX8_inverse := by decide +kernel
abbrev rmX8_inverse : Room := { frames := 1, cells := 0, slots := 0, locals := 12 }
set_option maxHeartbeats 4000000 in
set_option maxRecDepth 100000 in
theorem kX8_inverse (l : Launch) (D : va_G) (dA : Nat → ClassId) (b0 : Nat) (ι : Nat → Nat) (N : Nat) (a0 : Int32) (h : Hp) (r : Int32) (h' : Hp) (hf : fX8_inverse N a0 h = some (r, h')) : Met l yX8_inverse wsX8_inverse rmX8_inverse (PC D dA b0 ι [.int a0] h) (QI D dA b0 ι r h') 0 0 (qA b0) := by
  unfold fX8_inverse at hf
  refine Met.ofW (cc := cX8_inverse) (maxL := 6) (ret := (some .int)) (by decide +kernel) rfl ?_
  intro p e s m args below meth c s₁ B hml hv
  obtain ⟨rfl, w0⟩ := hv
  have hx := B.exec
  have hb := B.bytes
  have hr := B.returns
  have hts := atoms_spec (ws := wsX8_inverse) B.pre
  have hown : s.vm.findClass RX8 = some m.cls := findClass_of_methodNamed B.named
  have hlocks := B.notSynchronized
  have hC := w0.c
  have hK := hC.1
  have w := WD.start w0
  clear w0
  have hl := lv_entry ([.int a0]) (n := 6) (Nat.le_of_ble_eq_true rfl)
  rw [lg_entry_eq]
  generalize (lg_sl ([.int a0]) ++ List.replicate (6 - (lg_sl ([.int a0])).length) Slot.unset).toArray = ls at hl ⊢
  have hl : lv_has ls 6 [(0, .int a0)] := hl
  obtain ⟨H, hH⟩ : ∃ H : Heap, H = s.heap := ⟨_, rfl⟩
  obtain ⟨locs, hlo⟩ : ∃ locs : List Loc, locs = [] := ⟨_, rfl⟩
  rw [← hlo]
  have w : WD D dA b0 ι h s.heap H locs := by rw [hH, hlo]; exact w
  refine px_start hH ?_
  refine lv_lconst (v := 1) hx hb dX8_inverse_0 (by decide) ?_
  refine lv_lstore_n (lv' := [(1, .long (1 : Int64)), (0, .int a0)]) hx hb dX8_inverse_1 rfl hl (by decide) rfl (fun ls hl => ?_)
  refine lv_iload_n hx hb dX8_inverse_2 rfl (lv_at hl 1 rfl) ?_
  refine lv_i2l hx hb dX8_inverse_3 rfl ?_
  obtain ⟨x1, ex1, hf⟩ := nm_s hf
  refine px_nmJ ex1 ?_
  refine lv_lstore_n (lv' := [(3, .long x1), (1, .long (1 : Int64)), (0, .int a0)]) hx hb dX8_inverse_4 rfl hl (by decide) rfl (fun ls hl => ?_)
  refine lv_sipush (v := (32001 : Int32)) hx hb dX8_inverse_5 (by decide) ?_
  refine lv_istore (lv' := [(5, .int (32001 : Int32)), (3, .long x1), (1, .long (1 : Int64)), (0, .int a0)]) hx hb dX8_inverse_8 hl (by decide) rfl (fun ls hl => ?_)
  have hx10 : ∀ (y2 : Int64) (y3 : Int64) (y4 : Int32) (h5 : Hp) (H : Heap) (locs : List Loc) (ls : Array Slot), (some (y2.toInt32, h5)) = some (r, h') → lv_has ls 6 [(0, .int a0), (1, .long y2), (3, .long y3), (5, .int y4)] → WD D dA b0 ι h5 s.heap H locs → W p l e (headSpec wsX8_inverse rmX8_inverse).room s m ([.int a0] : List Value).toArray below meth c H locs 0 0 (MQ below (QI D dA b0 ι r h') ([.int a0] : List Value).toArray s 0 0 (qA b0)) (F0 m 52 ls []) := by
    intro y2 y3 y4 h5 H locs ls hf hl w
    refine lv_lload_n hx hb dX8_inverse_52 rfl (lv_at hl 1 rfl) ?_
    refine lv_l2i hx hb dX8_inverse_53 rfl ?_
    exact W.iret hx hb hr (qi_end hf w hC) w.locs_ok dX8_inverse_54
  obtain ⟨κ10, eκ10⟩ : ∃ k : Int64 → Int64 → Int32 → Hp → Option (Int32 × Hp), k = (fun y2 y3 y4 h5 => some (y2.toInt32, h5)) := ⟨_, rfl⟩
  have hlp10 : ∀ (n : Nat) (z18 : Int64) (z19 : Int64) (z20 : Int32) (h21 : Hp) (H : Heap) (locs : List Loc) (ls : Array Slot), lX8_inverse_10 N a0 n z18 z19 z20 h21 κ10 = some (r, h') → lv_has ls 6 [(0, .int a0), (1, .long z18), (3, .long z19), (5, .int z20)] → WD D dA b0 ι h21 s.heap H locs → W p l e (headSpec wsX8_inverse rmX8_inverse).room s m ([.int a0] : List Value).toArray below meth c H locs 0 0 (MQ below (QI D dA b0 ι r h') ([.int a0] : List Value).toArray s 0 0 (qA b0)) (F0 m 10 ls []) := by
    intro n10
    induction n10 with
    | zero => intro z18 z19 z20 h21 H locs ls hf; exact absurd hf (by rw [lX8_inverse_10]; exact fun q => nomatch q)
    | succ n10 ih10 =>
      intro z18 z19 z20 h21 H locs ls hf hl w
      rw [lX8_inverse_10] at hf
      refine lv_iload hx hb dX8_inverse_10 (lv_at hl 3 rfl) ?_
      refine lv_if_le (tgt := 52) hx hb dX8_inverse_12 (by decide) (fun c22 => ?_) (fun c22 => ?_)
      · have hf := if_t hf c22
        exact hx10 z18 z19 z20 h21 H locs ls (by rw [eκ10] at hf; exact hf) (lv_sub hl [0, 1, 2, 3] rfl) w
      · have hf := if_f hf c22
        refine lv_iload hx hb dX8_inverse_15 (lv_at hl 3 rfl) ?_
        refine lv_iconst (v := (2 : Int32)) hx hb dX8_inverse_17 (by decide) ?_
        refine px_irem hx hb dX8_inverse_18 (by decide) ?_
        refine lv_iconst (v := (1 : Int32)) hx hb dX8_inverse_19 (by decide) ?_
        have hj34 : ∀ (t25 : Int64) (h24 : Hp) (H : Heap) (locs : List Loc) (ls : Array Slot), (nm (lrm (z19 * z19) (32003 : Int64)) fun x26 => nm (z20 / (2 : Int32)) fun x27 => lX8_inverse_10 N a0 n10 t25 x26 x27 h24 κ10) = some (r, h') → lv_has ls 6 [(0, .int a0), (1, .long z18), (3, .long z19), (5, .int z20)] → WD D dA b0 ι h24 s.heap H locs → W p l e (headSpec wsX8_inverse rmX8_inverse).room s m ([.int a0] : List Value).toArray below meth c H locs 0 0 (MQ below (QI D dA b0 ι r h') ([.int a0] : List Value).toArray s 0 0 (qA b0)) (F0 m 34 ls [.long t25]) := by
          intro t25 h24 H locs ls hf hl w
          refine lv_lstore_n (lv' := [(1, .long t25), (0, .int a0), (3, .long z19), (5, .int z20)]) hx hb dX8_inverse_34 rfl hl (by decide) rfl (fun ls hl => ?_)
          refine lv_lload_n hx hb dX8_inverse_35 rfl (lv_at hl 2 rfl) ?_
          refine lv_lload_n hx hb dX8_inverse_36 rfl (lv_at hl 2 rfl) ?_
          refine lv_lmul hx hb dX8_inverse_37 ?_
          refine lv_ldc2 (v := 32003) hx hb hown (hts _ mX8_inverse_69) dX8_inverse_38 ?_
          refine px_lrem hx hb dX8_inverse_41 (by decide) ?_
          obtain ⟨x26, ex26, hf⟩ := nm_s hf
          refine px_nmJ ex26 ?_
          refine lv_lstore_n (lv' := [(3, .long x26), (1, .long t25), (0, .int a0), (5, .int z20)]) hx hb dX8_inverse_42 rfl hl (by decide) rfl (fun ls hl => ?_)
          refine lv_iload hx hb dX8_inverse_43 (lv_at hl 3 rfl) ?_
          refine lv_iconst (v := (2 : Int32)) hx hb dX8_inverse_45 (by decide) ?_
          refine px_idiv hx hb dX8_inverse_46 (by decide) ?_
          obtain ⟨x27, ex27, hf⟩ := nm_s hf
          refine px_nmI ex27 ?_
          refine lv_istore (lv' := [(5, .int x27), (3, .long x26), (1, .long t25), (0, .int a0)]) hx hb dX8_inverse_47 hl (by decide) rfl (fun ls hl => ?_)
          refine lv_goto (tgt := 10) hx hb dX8_inverse_49 (by decide) ?_
          exact ih10 t25 x26 x27 h24 H locs ls hf (lv_sub hl [3, 2, 1, 0] rfl) w
        obtain ⟨j23, ej23, hf⟩ := jn_s hf
        refine lv_icmp_ne (tgt := 33) hx hb dX8_inverse_20 (by decide) (fun c28 => ?_) (fun c28 => ?_)
        · have hf := if_f hf c28
          refine lv_lload_n hx hb dX8_inverse_33 rfl (lv_at hl 1 rfl) ?_
          exact hj34 z18 h21 H locs ls (by rw [ej23] at hf; exact hf) (lv_sub hl [0, 1, 2, 3] rfl) w
        · have hf := if_t hf c28
          refine lv_lload_n hx hb dX8_inverse_23 rfl (lv_at hl 1 rfl) ?_
          refine lv_lload_n hx hb dX8_inverse_24 rfl (lv_at hl 2 rfl) ?_
          refine lv_lmul hx hb dX8_inverse_25 ?_
          refine lv_ldc2 (v := 32003) hx hb hown (hts _ mX8_inverse_69) dX8_inverse_26 ?_
          refine px_lrem hx hb dX8_inverse_29 (by decide) ?_
          refine lv_goto (tgt := 34) hx hb dX8_inverse_30 (by decide) ?_
          exact hj34 (lrm (z18 * z19) (32003 : Int64)) h21 H locs ls (by rw [ej23] at hf; exact hf) (lv_sub hl [0, 1, 2, 3] rfl) w
  exact hlp10 N (1 : Int64) x1 (32001 : Int32) h H locs ls (by rw [eκ10]; exact hf) (lv_sub hl [3, 2, 1, 0] rfl) w
theorem nX8_size_X8 : ∀ w ∈ wsX80, w ∈ wsX8_size := by decide +kernel
theorem mX8_size_65 : Cond.fieldLink RX8 65 "NormalFormsModel" "code" "I" ∈ wsX8_size := by decide +kernel
theorem mX8_size_71 : Cond.fieldLink RX8 71 "NormalFormsModel" "rows" "I" ∈ wsX8_size := by decide +kernel
theorem mX8_size_74 : Cond.fieldLink RX8 74 "NormalFormsModel" "columns" "I" ∈ wsX8_size := by decide +kernel
theorem mX8_size_13 : Cond.fieldLink RX8 13 "NormalFormsModel" "there" "[Z" ∈ wsX8_size := by decide +kernel
theorem mX8_size_7 : Cond.fieldLink RX8 7 "NormalFormsModel" "entries" "[I" ∈ wsX8_size := by decide +kernel
abbrev rmX8_size : Room := { frames := 1, cells := 0, slots := 0, locals := 12 }
set_option maxHeartbeats 4000000 in
set_option maxRecDepth 100000 in
theorem kX8_size (l : Launch) (D : va_G) (dA : Nat → ClassId) (b0 : Nat) (ι : Nat → Nat) (N : Nat) (a0 : Nat) (a1 : Int32) (a2 : Int32) (h : Hp) (h' : Hp) (hf : fX8_size N a0 a1 a2 h = some h') : Met l yX8_size wsX8_size rmX8_size (PC D dA b0 ι [.ref (ι a0), .int a1, .int a2] h) (QV D dA b0 ι h') 0 0 (qA b0) := by
  unfold fX8_size at hf
  refine Met.ofW (cc := cX8_size) (maxL := 4) (ret := none) (by decide +kernel) rfl ?_
  intro p e s m args below meth c s₁ B hml hv
  obtain ⟨rfl, w0⟩ := hv
  have hx := B.exec
  have hb := B.bytes
  have hr := B.returns
  have hts := atoms_spec (ws := wsX8_size) B.pre
  have hown : s.vm.findClass RX8 = some m.cls := findClass_of_methodNamed B.named
  have hlocks := B.notSynchronized
  have hC := w0.c
  have hK := hC.1
  have w := WD.start w0
  clear w0
  have hl := lv_entry ([.ref (ι a0), .int a1, .int a2]) (n := 4) (Nat.le_of_ble_eq_true rfl)
  rw [lg_entry_eq]
  generalize (lg_sl ([.ref (ι a0), .int a1, .int a2]) ++ List.replicate (4 - (lg_sl ([.ref (ι a0), .int a1, .int a2])).length) Slot.unset).toArray = ls at hl ⊢
  have hl : lv_has ls 4 [(0, .ref (ι a0)), (1, .int a1), (2, .int a2)] := hl
  obtain ⟨H, hH⟩ : ∃ H : Heap, H = s.heap := ⟨_, rfl⟩
  obtain ⟨locs, hlo⟩ : ∃ locs : List Loc, locs = [] := ⟨_, rfl⟩
  rw [← hlo]
  have w : WD D dA b0 ι h s.heap H locs := by rw [hH, hlo]; exact w
  refine px_start hH ?_
  refine lv_aload_n hx hb dX8_size_0 rfl (lv_at hl 0 rfl) ?_
  refine lv_iload_n hx hb dX8_size_1 rfl (lv_at hl 1 rfl) ?_
  have hj28 : ∀ (t3 : Int32) (h2 : Hp) (H : Heap) (locs : List Loc) (ls : Array Slot), ((pV h2 a0 10 0 (.int t3)).bind fun h4 => (gI h4 a0 10 0).bind fun v5 => if v5 ≤ 0 then (pV h4 a0 10 1 (.int a1)).bind fun h7 => (pV h7 a0 10 2 (.int a2)).bind fun h8 => lX8_size_51 N a0 a1 a2 N (0 : Int32) h8 (fun y9 h10 => lX8_size_72 N a0 a1 a2 N (0 : Int32) h10 (fun y11 h12 => some h12)) else some h4) = some h' → lv_has ls 4 [(0, .ref (ι a0)), (1, .int a1), (2, .int a2)] → WD D dA b0 ι h2 s.heap H locs → W p l e (headSpec wsX8_size rmX8_size).room s m ([.ref (ι a0), .int a1, .int a2] : List Value).toArray below meth c H locs 0 0 (MQ below (QV D dA b0 ι h') ([.ref (ι a0), .int a1, .int a2] : List Value).toArray s 0 0 (qA b0)) (F0 m 28 ls [.int t3, .ref (ι a0)]) := by
    intro t3 h2 H locs ls hf hl w
    obtain ⟨h4, eh4, hf⟩ := ob_s hf
    refine px_put hx hb hts nX8_size_X8 tyX8 tyX8_ok nmX8 hown hK w eh4 rfl (by decide) mX8_size_65 rfl rfl rfl rfl dX8_size_28 rfl (fun H locs w => ?_)
    refine lv_aload_n hx hb dX8_size_31 rfl (lv_at hl 0 rfl) ?_
    obtain ⟨v5, ev5, hf⟩ := ob_s hf
    refine px_getI hx hb hts nX8_size_X8 hown hK w ev5 rfl (by decide) mX8_size_65 rfl dX8_size_32 ?_
    refine lv_if_le (tgt := 39) hx hb dX8_size_35 (by decide) (fun c6 => ?_) (fun c6 => ?_)
    · have hf := if_t hf c6
      refine lv_aload_n hx hb dX8_size_39 rfl (lv_at hl 0 rfl) ?_
      refine lv_iload_n hx hb dX8_size_40 rfl (lv_at hl 1 rfl) ?_
      obtain ⟨h7, eh7, hf⟩ := ob_s hf
      refine px_put hx hb hts nX8_size_X8 tyX8 tyX8_ok nmX8 hown hK w eh7 rfl (by decide) mX8_size_71 rfl rfl rfl rfl dX8_size_41 rfl (fun H locs w => ?_)
      refine lv_aload_n hx hb dX8_size_44 rfl (lv_at hl 0 rfl) ?_
      refine lv_iload_n hx hb dX8_size_45 rfl (lv_at hl 2 rfl) ?_
      obtain ⟨h8, eh8, hf⟩ := ob_s hf
      refine px_put hx hb hts nX8_size_X8 tyX8 tyX8_ok nmX8 hown hK w eh8 rfl (by decide) mX8_size_74 rfl rfl rfl rfl dX8_size_46 rfl (fun H locs w => ?_)
      refine lv_iconst (v := (0 : Int32)) hx hb dX8_size_49 (by decide) ?_
      refine lv_istore_n (lv' := [(3, .int (0 : Int32)), (0, .ref (ι a0)), (1, .int a1), (2, .int a2)]) hx hb dX8_size_50 rfl hl (by decide) rfl (fun ls hl => ?_)
      have hx51 : ∀ (y9 : Int32) (h10 : Hp) (H : Heap) (locs : List Loc) (ls : Array Slot), (lX8_size_72 N a0 a1 a2 N (0 : Int32) h10 (fun y11 h12 => some h12)) = some h' → lv_has ls 4 [(0, .ref (ι a0)), (1, .int a1), (2, .int a2), (3, .int y9)] → WD D dA b0 ι h10 s.heap H locs → W p l e (headSpec wsX8_size rmX8_size).room s m ([.ref (ι a0), .int a1, .int a2] : List Value).toArray below meth c H locs 0 0 (MQ below (QV D dA b0 ι h') ([.ref (ι a0), .int a1, .int a2] : List Value).toArray s 0 0 (qA b0)) (F0 m 70 ls []) := by
        intro y9 h10 H locs ls hf hl w
        refine lv_iconst (v := (0 : Int32)) hx hb dX8_size_70 (by decide) ?_
        refine lv_istore_n (lv' := [(3, .int (0 : Int32)), (0, .ref (ι a0)), (1, .int a1), (2, .int a2)]) hx hb dX8_size_71 rfl hl (by decide) rfl (fun ls hl => ?_)
        have hx72 : ∀ (y11 : Int32) (h12 : Hp) (H : Heap) (locs : List Loc) (ls : Array Slot), (some h12) = some h' → lv_has ls 4 [(0, .ref (ι a0)), (1, .int a1), (2, .int a2), (3, .int y11)] → WD D dA b0 ι h12 s.heap H locs → W p l e (headSpec wsX8_size rmX8_size).room s m ([.ref (ι a0), .int a1, .int a2] : List Value).toArray below meth c H locs 0 0 (MQ below (QV D dA b0 ι h') ([.ref (ι a0), .int a1, .int a2] : List Value).toArray s 0 0 (qA b0)) (F0 m 90 ls []) := by
          intro y11 h12 H locs ls hf hl w
          exact W.vret hx hb hr (qv_end hf w hC) w.locs_ok dX8_size_90
        obtain ⟨κ72, eκ72⟩ : ∃ k : Int32 → Hp → Option Hp, k = (fun y11 h12 => some h12) := ⟨_, rfl⟩
        have hlp72 : ∀ (n : Nat) (z20 : Int32) (h21 : Hp) (H : Heap) (locs : List Loc) (ls : Array Slot), lX8_size_72 N a0 a1 a2 n z20 h21 κ72 = some h' → lv_has ls 4 [(0, .ref (ι a0)), (1, .int a1), (2, .int a2), (3, .int z20)] → WD D dA b0 ι h21 s.heap H locs → W p l e (headSpec wsX8_size rmX8_size).room s m ([.ref (ι a0), .int a1, .int a2] : List Value).toArray below meth c H locs 0 0 (MQ below (QV D dA b0 ι h') ([.ref (ι a0), .int a1, .int a2] : List Value).toArray s 0 0 (qA b0)) (F0 m 72 ls []) := by
          intro n72
          induction n72 with
          | zero => intro z20 h21 H locs ls hf; exact absurd hf (by rw [lX8_size_72]; exact fun q => nomatch q)
          | succ n72 ih72 =>
            intro z20 h21 H locs ls hf hl w
            rw [lX8_size_72] at hf
            refine lv_iload_n hx hb dX8_size_72 rfl (lv_at hl 3 rfl) ?_
            refine lv_iconst (v := (3 : Int32)) hx hb dX8_size_73 (by decide) ?_
            refine lv_icmp_ge (tgt := 90) hx hb dX8_size_74 (by decide) (fun c22 => ?_) (fun c22 => ?_)
            · have hf := if_t hf c22
              exact hx72 z20 h21 H locs ls (by rw [eκ72] at hf; exact hf) (lv_sub hl [0, 1, 2, 3] rfl) w
            · have hf := if_f hf c22
              refine lv_aload_n hx hb dX8_size_77 rfl (lv_at hl 0 rfl) ?_
              obtain ⟨v23, ev23, hf⟩ := ob_s hf
              refine px_getR hx hb hts nX8_size_X8 hown hK w ev23 rfl (by decide) mX8_size_13 rfl dX8_size_78 ?_
              refine lv_iload_n hx hb dX8_size_81 rfl (lv_at hl 3 rfl) ?_
              refine lv_iconst (v := (0 : Int32)) hx hb dX8_size_82 (by decide) ?_
              obtain ⟨h24, eh24, hf⟩ := ob_s hf
              refine px_zast hx hb hK w eh24 dX8_size_83 (fun H locs w => ?_)
              obtain ⟨x25, ex25, hf⟩ := nm_s hf
              refine lv_iinc (v := x25) (lv' := [(3, .int x25), (0, .ref (ι a0)), (1, .int a1), (2, .int a2)]) hx hb dX8_size_84 hl (k := 3) rfl (by rw [ex25]; rfl) (by decide) rfl (fun ls hl => ?_)
              refine lv_goto (tgt := 72) hx hb dX8_size_87 (by decide) ?_
              exact ih72 x25 h24 H locs ls hf (lv_sub hl [1, 2, 3, 0] rfl) w
        exact hlp72 N (0 : Int32) h10 H locs ls (by rw [eκ72]; exact hf) (lv_sub hl [1, 2, 3, 0] rfl) w
      obtain ⟨κ51, eκ51⟩ : ∃ k : Int32 → Hp → Option Hp, k = (fun y9 h10 => lX8_size_72 N a0 a1 a2 N (0 : Int32) h10 (fun y11 h12 => some h12)) := ⟨_, rfl⟩
      have hlp51 : ∀ (n : Nat) (z33 : Int32) (h34 : Hp) (H : Heap) (locs : List Loc) (ls : Array Slot), lX8_size_51 N a0 a1 a2 n z33 h34 κ51 = some h' → lv_has ls 4 [(0, .ref (ι a0)), (1, .int a1), (2, .int a2), (3, .int z33)] → WD D dA b0 ι h34 s.heap H locs → W p l e (headSpec wsX8_size rmX8_size).room s m ([.ref (ι a0), .int a1, .int a2] : List Value).toArray below meth c H locs 0 0 (MQ below (QV D dA b0 ι h') ([.ref (ι a0), .int a1, .int a2] : List Value).toArray s 0 0 (qA b0)) (F0 m 51 ls []) := by
        intro n51
        induction n51 with
        | zero => intro z33 h34 H locs ls hf; exact absurd hf (by rw [lX8_size_51]; exact fun q => nomatch q)
        | succ n51 ih51 =>
          intro z33 h34 H locs ls hf hl w
          rw [lX8_size_51] at hf
          refine lv_iload_n hx hb dX8_size_51 rfl (lv_at hl 3 rfl) ?_
          refine lv_bipush (v := (64 : Int32)) hx hb dX8_size_52 (by decide) ?_
          refine lv_icmp_ge (tgt := 70) hx hb dX8_size_54 (by decide) (fun c35 => ?_) (fun c35 => ?_)
          · have hf := if_t hf c35
            exact hx51 z33 h34 H locs ls (by rw [eκ51] at hf; exact hf) (lv_sub hl [0, 1, 2, 3] rfl) w
          · have hf := if_f hf c35
            refine lv_aload_n hx hb dX8_size_57 rfl (lv_at hl 0 rfl) ?_
            obtain ⟨v36, ev36, hf⟩ := ob_s hf
            refine px_getR hx hb hts nX8_size_X8 hown hK w ev36 rfl (by decide) mX8_size_7 rfl dX8_size_58 ?_
            refine lv_iload_n hx hb dX8_size_61 rfl (lv_at hl 3 rfl) ?_
            refine lv_iconst (v := (0 : Int32)) hx hb dX8_size_62 (by decide) ?_
            obtain ⟨h37, eh37, hf⟩ := ob_s hf
            refine px_iast hx hb hK w eh37 dX8_size_63 (fun H locs w => ?_)
            obtain ⟨x38, ex38, hf⟩ := nm_s hf
            refine lv_iinc (v := x38) (lv' := [(3, .int x38), (0, .ref (ι a0)), (1, .int a1), (2, .int a2)]) hx hb dX8_size_64 hl (k := 3) rfl (by rw [ex38]; rfl) (by decide) rfl (fun ls hl => ?_)
            refine lv_goto (tgt := 51) hx hb dX8_size_67 (by decide) ?_
            exact ih51 x38 h37 H locs ls hf (lv_sub hl [1, 2, 3, 0] rfl) w
      exact hlp51 N (0 : Int32) h8 H locs ls (by rw [eκ51]; exact hf) (lv_sub hl [1, 2, 3, 0] rfl) w
    · have hf := if_f hf c6
      exact W.vret hx hb hr (qv_end hf w hC) w.locs_ok dX8_size_38
  obtain ⟨j1, ej1, hf⟩ := jn_s hf
  have hj9 : ∀ (h40 : Hp) (H : Heap) (locs : List Loc) (ls : Array Slot), (j1 (1 : Int32) h40) = some h' → lv_has ls 4 [(0, .ref (ι a0)), (1, .int a1), (2, .int a2)] → WD D dA b0 ι h40 s.heap H locs → W p l e (headSpec wsX8_size rmX8_size).room s m ([.ref (ι a0), .int a1, .int a2] : List Value).toArray below meth c H locs 0 0 (MQ below (QV D dA b0 ι h') ([.ref (ι a0), .int a1, .int a2] : List Value).toArray s 0 0 (qA b0)) (F0 m 9 ls [.ref (ι a0)]) := by
    intro h40 H locs ls hf hl w
    refine lv_iconst (v := (1 : Int32)) hx hb dX8_size_9 (by decide) ?_
    refine lv_goto (tgt := 28) hx hb dX8_size_10 (by decide) ?_
    exact hj28 (1 : Int32) h40 H locs ls (by rw [ej1] at hf; exact hf) (lv_sub hl [0, 1, 2] rfl) w
  obtain ⟨j39, ej39, hf⟩ := jn_s hf
  refine lv_if_lt (tgt := 9) hx hb dX8_size_2 (by decide) (fun c41 => ?_) (fun c41 => ?_)
  · have hf := if_t hf c41
    exact hj9 h H locs ls (by rw [ej39] at hf; exact hf) (lv_sub hl [0, 1, 2] rfl) w
  · have hf := if_f hf c41
    refine lv_iload_n hx hb dX8_size_5 rfl (lv_at hl 2 rfl) ?_
    refine lv_if_ge (tgt := 13) hx hb dX8_size_6 (by decide) (fun c42 => ?_) (fun c42 => ?_)
    · have hf := if_t hf c42
      refine lv_iload_n hx hb dX8_size_13 rfl (lv_at hl 1 rfl) ?_
      refine lv_iconst (v := (4 : Int32)) hx hb dX8_size_14 (by decide) ?_
      have hj23 : ∀ (h44 : Hp) (H : Heap) (locs : List Loc) (ls : Array Slot), (j1 (2 : Int32) h44) = some h' → lv_has ls 4 [(0, .ref (ι a0)), (1, .int a1), (2, .int a2)] → WD D dA b0 ι h44 s.heap H locs → W p l e (headSpec wsX8_size rmX8_size).room s m ([.ref (ι a0), .int a1, .int a2] : List Value).toArray below meth c H locs 0 0 (MQ below (QV D dA b0 ι h') ([.ref (ι a0), .int a1, .int a2] : List Value).toArray s 0 0 (qA b0)) (F0 m 23 ls [.ref (ι a0)]) := by
        intro h44 H locs ls hf hl w
        refine lv_iconst (v := (2 : Int32)) hx hb dX8_size_23 (by decide) ?_
        refine lv_goto (tgt := 28) hx hb dX8_size_24 (by decide) ?_
        exact hj28 (2 : Int32) h44 H locs ls (by rw [ej1] at hf; exact hf) (lv_sub hl [0, 1, 2] rfl) w
      obtain ⟨j43, ej43, hf⟩ := jn_s hf
      refine lv_icmp_gt (tgt := 23) hx hb dX8_size_15 (by decide) (fun c45 => ?_) (fun c45 => ?_)
      · have hf := if_t hf c45
        exact hj23 h H locs ls (by rw [ej43] at hf; exact hf) (lv_sub hl [0, 1, 2] rfl) w
      · have hf := if_f hf c45
        refine lv_iload_n hx hb dX8_size_18 rfl (lv_at hl 2 rfl) ?_
        refine lv_iconst (v := (4 : Int32)) hx hb dX8_size_19 (by decide) ?_
        refine lv_icmp_le (tgt := 27) hx hb dX8_size_20 (by decide) (fun c46 => ?_) (fun c46 => ?_)
        · have hf := if_t hf c46
          refine lv_iconst (v := (0 : Int32)) hx hb dX8_size_27 (by decide) ?_
          exact hj28 (0 : Int32) h H locs ls (by rw [ej1] at hf; exact hf) (lv_sub hl [0, 1, 2] rfl) w
        · have hf := if_f hf c46
          exact hj23 h H locs ls (by rw [ej43] at hf; exact hf) (lv_sub hl [0, 1, 2] rfl) w
    · have hf := if_f hf c42
      exact hj9 h H locs ls (by rw [ej39] at hf; exact hf) (lv_sub hl [0, 1, 2] rfl) w
theorem nX8_isPlace_X8 : ∀ w ∈ wsX80, w ∈ wsX8_isPlace := by decide +kernel
theorem mX8_isPlace_71 : Cond.fieldLink RX8 71 "NormalFormsModel" "rows" "I" ∈ wsX8_isPlace := by decide +kernel
theorem mX8_isPlace_65 : Cond.fieldLink RX8 65 "NormalFormsModel" "code" "I" ∈ wsX8_isPlace := by decide +kernel
theorem mX8_isPlace_74 : Cond.fieldLink RX8 74 "NormalFormsModel" "columns" "I" ∈ wsX8_isPlace := by decide +kernel
theorem mX8_isPlace_81 : Cond.constantLong RX8 81 (3) ∈ wsX8_isPlace := by decide +kernel
abbrev rmX8_isPlace : Room := { frames := 2, cells := 0, slots := 0, locals := 37 }
set_option maxHeartbeats 4000000 in
set_option maxRecDepth 100000 in
theorem kX8_isPlace (l : Launch) (D : va_G) (dA : Nat → ClassId) (b0 : Nat) (ι : Nat → Nat) (N : Nat) (a0 : Nat) (a1 : Int32) (a2 : Int32) (a3 : Int32) (h : Hp) (r : Int32) (h' : Hp) (hf : fX8_isPlace N a0 a1 a2 a3 h = some (r, h')) : Met l yX8_isPlace wsX8_isPlace rmX8_isPlace (PC D dA b0 ι [.ref (ι a0), .int a1, .int a2, .int a3] h) (QI D dA b0 ι r h') 0 0 (qA b0) := by
  unfold fX8_isPlace at hf
  refine Met.ofW (cc := cX8_isPlace) (maxL := 4) (ret := (some .boolean)) (by decide +kernel) rfl ?_
  intro p e s m args below meth c s₁ B hml hv
  obtain ⟨rfl, w0⟩ := hv
  have hx := B.exec
  have hb := B.bytes
  have hr := B.returns
  have hts := atoms_spec (ws := wsX8_isPlace) B.pre
  have hown : s.vm.findClass RX8 = some m.cls := findClass_of_methodNamed B.named
  have hlocks := B.notSynchronized
  have hC := w0.c
  have hK := hC.1
  have w := WD.start w0
  clear w0
  have hl := lv_entry ([.ref (ι a0), .int a1, .int a2, .int a3]) (n := 4) (Nat.le_of_ble_eq_true rfl)
  rw [lg_entry_eq]
  generalize (lg_sl ([.ref (ι a0), .int a1, .int a2, .int a3]) ++ List.replicate (4 - (lg_sl ([.ref (ι a0), .int a1, .int a2, .int a3])).length) Slot.unset).toArray = ls at hl ⊢
  have hl : lv_has ls 4 [(0, .ref (ι a0)), (1, .int a1), (2, .int a2), (3, .int a3)] := hl
  obtain ⟨H, hH⟩ : ∃ H : Heap, H = s.heap := ⟨_, rfl⟩
  obtain ⟨locs, hlo⟩ : ∃ locs : List Loc, locs = [] := ⟨_, rfl⟩
  rw [← hlo]
  have w : WD D dA b0 ι h s.heap H locs := by rw [hH, hlo]; exact w
  refine px_start hH ?_
  refine lv_aload_n hx hb dX8_isPlace_0 rfl (lv_at hl 0 rfl) ?_
  refine lv_iload_n hx hb dX8_isPlace_1 rfl (lv_at hl 1 rfl) ?_
  refine lv_i2l hx hb dX8_isPlace_2 rfl ?_
  refine lv_lconst (v := 0) hx hb dX8_isPlace_3 (by decide) ?_
  refine lv_aload_n hx hb dX8_isPlace_4 rfl (lv_at hl 0 rfl) ?_
  obtain ⟨v1, ev1, hf⟩ := ob_s hf
  refine px_getI hx hb hts nX8_isPlace_X8 hown hK w ev1 rfl (by decide) mX8_isPlace_71 rfl dX8_isPlace_5 ?_
  refine lv_iconst (v := (1 : Int32)) hx hb dX8_isPlace_8 (by decide) ?_
  refine lv_isub hx hb dX8_isPlace_9 ?_
  refine lv_i2l hx hb dX8_isPlace_10 rfl ?_
  obtain ⟨⟨v2, h3⟩, eh3, hf⟩ := ob_s hf
  dsimp only at hf
  refine px_callSi (As := [.long (a1.toInt64), .long (0 : Int64), .long ((v1 - (1 : Int32)).toInt64)]) (rest := [.ref (ι a0)]) ⟨hx, hb, hml, hown, hts⟩ hC w (kX8_in l D dA b0 ι N (a1.toInt64) (0 : Int64) ((v1 - (1 : Int32)).toInt64) h v2 h3 eh3) (va_cwS 3 hts gX8_isPlace_X8_in rfl rfl rfl (by decide +kernel) ⟨Nat.le_of_ble_eq_true rfl, Nat.le_of_ble_eq_true rfl⟩) rfl hl.1 rfl (Nat.le_of_ble_eq_true rfl) dX8_isPlace_11 ⟨Nat.le_of_ble_eq_true rfl, Nat.le_of_ble_eq_true rfl⟩ (fun H locs w => ?_)
  have hj50 : ∀ (t6 : Int32) (h5 : Hp) (H : Heap) (locs : List Loc) (ls : Array Slot), ((pV h5 a0 10 0 (.int t6)).bind fun h7 => (gI h7 a0 10 0).bind fun v8 => jn (fun t11 h10 => if t11 = 0 ∨ t11 = 1 then some (t11, h10) else none) fun (j9 : Int32 → Hp → Option (Int32 × Hp)) => if v8 = 0 then j9 (1 : Int32) h7 else j9 (0 : Int32) h7) = some (r, h') → lv_has ls 4 [(0, .ref (ι a0)), (1, .int a1), (2, .int a2), (3, .int a3)] → WD D dA b0 ι h5 s.heap H locs → W p l e (headSpec wsX8_isPlace rmX8_isPlace).room s m ([.ref (ι a0), .int a1, .int a2, .int a3] : List Value).toArray below meth c H locs 0 0 (MQ below (QI D dA b0 ι r h') ([.ref (ι a0), .int a1, .int a2, .int a3] : List Value).toArray s 0 0 (qA b0)) (F0 m 50 ls [.int t6, .ref (ι a0)]) := by
    intro t6 h5 H locs ls hf hl w
    obtain ⟨h7, eh7, hf⟩ := ob_s hf
    refine px_put hx hb hts nX8_isPlace_X8 tyX8 tyX8_ok nmX8 hown hK w eh7 rfl (by decide) mX8_isPlace_65 rfl rfl rfl rfl dX8_isPlace_50 rfl (fun H locs w => ?_)
    refine lv_aload_n hx hb dX8_isPlace_53 rfl (lv_at hl 0 rfl) ?_
    obtain ⟨v8, ev8, hf⟩ := ob_s hf
    refine px_getI hx hb hts nX8_isPlace_X8 hown hK w ev8 rfl (by decide) mX8_isPlace_65 rfl dX8_isPlace_54 ?_
    have hj65 : ∀ (t11 : Int32) (h10 : Hp) (H : Heap) (locs : List Loc) (ls : Array Slot), (if t11 = 0 ∨ t11 = 1 then some (t11, h10) else none) = some (r, h') → lv_has ls 4 [(0, .ref (ι a0)), (1, .int a1), (2, .int a2), (3, .int a3)] → WD D dA b0 ι h10 s.heap H locs → W p l e (headSpec wsX8_isPlace rmX8_isPlace).room s m ([.ref (ι a0), .int a1, .int a2, .int a3] : List Value).toArray below meth c H locs 0 0 (MQ below (QI D dA b0 ι r h') ([.ref (ι a0), .int a1, .int a2, .int a3] : List Value).toArray s 0 0 (qA b0)) (F0 m 65 ls [.int t11]) := by
      intro t11 h10 H locs ls hf hl w
      obtain ⟨hz, hf⟩ := if_s hf
      exact W.zret hx hb hr (nar01 hz) (qi_end hf w hC) w.locs_ok dX8_isPlace_65
    obtain ⟨j9, ej9, hf⟩ := jn_s hf
    refine lv_if_ne (tgt := 64) hx hb dX8_isPlace_57 (by decide) (fun c12 => ?_) (fun c12 => ?_)
    · have hf := if_f hf c12
      refine lv_iconst (v := (0 : Int32)) hx hb dX8_isPlace_64 (by decide) ?_
      exact hj65 (0 : Int32) h7 H locs ls (by rw [ej9] at hf; exact hf) (lv_sub hl [0, 1, 2, 3] rfl) w
    · have hf := if_t hf c12
      refine lv_iconst (v := (1 : Int32)) hx hb dX8_isPlace_60 (by decide) ?_
      refine lv_goto (tgt := 65) hx hb dX8_isPlace_61 (by decide) ?_
      exact hj65 (1 : Int32) h7 H locs ls (by rw [ej9] at hf; exact hf) (lv_sub hl [0, 1, 2, 3] rfl) w
  obtain ⟨j4, ej4, hf⟩ := jn_s hf
  have hj49 : ∀ (h14 : Hp) (H : Heap) (locs : List Loc) (ls : Array Slot), (j4 (1 : Int32) h14) = some (r, h') → lv_has ls 4 [(0, .ref (ι a0)), (1, .int a1), (2, .int a2), (3, .int a3)] → WD D dA b0 ι h14 s.heap H locs → W p l e (headSpec wsX8_isPlace rmX8_isPlace).room s m ([.ref (ι a0), .int a1, .int a2, .int a3] : List Value).toArray below meth c H locs 0 0 (MQ below (QI D dA b0 ι r h') ([.ref (ι a0), .int a1, .int a2, .int a3] : List Value).toArray s 0 0 (qA b0)) (F0 m 49 ls [.ref (ι a0)]) := by
    intro h14 H locs ls hf hl w
    refine lv_iconst (v := (1 : Int32)) hx hb dX8_isPlace_49 (by decide) ?_
    exact hj50 (1 : Int32) h14 H locs ls (by rw [ej4] at hf; exact hf) (lv_sub hl [0, 1, 2, 3] rfl) w
  obtain ⟨j13, ej13, hf⟩ := jn_s hf
  refine lv_if_eq (tgt := 49) hx hb dX8_isPlace_14 (by decide) (fun c15 => ?_) (fun c15 => ?_)
  · have hf := if_t hf c15
    exact hj49 h3 H locs ls (by rw [ej13] at hf; exact hf) (lv_sub hl [0, 1, 2, 3] rfl) w
  · have hf := if_f hf c15
    refine lv_iload_n hx hb dX8_isPlace_17 rfl (lv_at hl 2 rfl) ?_
    refine lv_i2l hx hb dX8_isPlace_18 rfl ?_
    refine lv_lconst (v := 0) hx hb dX8_isPlace_19 (by decide) ?_
    refine lv_aload_n hx hb dX8_isPlace_20 rfl (lv_at hl 0 rfl) ?_
    obtain ⟨v16, ev16, hf⟩ := ob_s hf
    refine px_getI hx hb hts nX8_isPlace_X8 hown hK w ev16 rfl (by decide) mX8_isPlace_74 rfl dX8_isPlace_21 ?_
    refine lv_iconst (v := (1 : Int32)) hx hb dX8_isPlace_24 (by decide) ?_
    refine lv_isub hx hb dX8_isPlace_25 ?_
    refine lv_i2l hx hb dX8_isPlace_26 rfl ?_
    obtain ⟨⟨v17, h18⟩, eh18, hf⟩ := ob_s hf
    dsimp only at hf
    refine px_callSi (As := [.long (a2.toInt64), .long (0 : Int64), .long ((v16 - (1 : Int32)).toInt64)]) (rest := [.ref (ι a0)]) ⟨hx, hb, hml, hown, hts⟩ hC w (kX8_in l D dA b0 ι N (a2.toInt64) (0 : Int64) ((v16 - (1 : Int32)).toInt64) h3 v17 h18 eh18) (va_cwS 3 hts gX8_isPlace_X8_in rfl rfl rfl (by decide +kernel) ⟨Nat.le_of_ble_eq_true rfl, Nat.le_of_ble_eq_true rfl⟩) rfl hl.1 rfl (Nat.le_of_ble_eq_true rfl) dX8_isPlace_27 ⟨Nat.le_of_ble_eq_true rfl, Nat.le_of_ble_eq_true rfl⟩ (fun H locs w => ?_)
    refine lv_if_eq (tgt := 49) hx hb dX8_isPlace_30 (by decide) (fun c19 => ?_) (fun c19 => ?_)
    · have hf := if_t hf c19
      exact hj49 h18 H locs ls (by rw [ej13] at hf; exact hf) (lv_sub hl [0, 1, 2, 3] rfl) w
    · have hf := if_f hf c19
      refine lv_iload_n hx hb dX8_isPlace_33 rfl (lv_at hl 3 rfl) ?_
      refine lv_i2l hx hb dX8_isPlace_34 rfl ?_
      refine lv_lconst (v := 0) hx hb dX8_isPlace_35 (by decide) ?_
      refine lv_ldc2 (v := 3) hx hb hown (hts _ mX8_isPlace_81) dX8_isPlace_36 ?_
      obtain ⟨⟨v20, h21⟩, eh21, hf⟩ := ob_s hf
      dsimp only at hf
      refine px_callSi (As := [.long (a3.toInt64), .long (0 : Int64), .long (3 : Int64)]) (rest := [.ref (ι a0)]) ⟨hx, hb, hml, hown, hts⟩ hC w (kX8_in l D dA b0 ι N (a3.toInt64) (0 : Int64) (3 : Int64) h18 v20 h21 eh21) (va_cwS 3 hts gX8_isPlace_X8_in rfl rfl rfl (by decide +kernel) ⟨Nat.le_of_ble_eq_true rfl, Nat.le_of_ble_eq_true rfl⟩) rfl hl.1 rfl (Nat.le_of_ble_eq_true rfl) dX8_isPlace_39 ⟨Nat.le_of_ble_eq_true rfl, Nat.le_of_ble_eq_true rfl⟩ (fun H locs w => ?_)
      refine lv_if_eq (tgt := 49) hx hb dX8_isPlace_42 (by decide) (fun c22 => ?_) (fun c22 => ?_)
      · have hf := if_t hf c22
        exact hj49 h21 H locs ls (by rw [ej13] at hf; exact hf) (lv_sub hl [0, 1, 2, 3] rfl) w
      · have hf := if_f hf c22
        refine lv_iconst (v := (0 : Int32)) hx hb dX8_isPlace_45 (by decide) ?_
        refine lv_goto (tgt := 50) hx hb dX8_isPlace_46 (by decide) ?_
        exact hj50 (0 : Int32) h21 H locs ls (by rw [ej4] at hf; exact hf) (lv_sub hl [0, 1, 2, 3] rfl) w
theorem nX8_put_X8 : ∀ w ∈ wsX80, w ∈ wsX8_put := by decide +kernel
theorem mX8_put_7 : Cond.fieldLink RX8 7 "NormalFormsModel" "entries" "[I" ∈ wsX8_put := by decide +kernel
theorem mX8_put_13 : Cond.fieldLink RX8 13 "NormalFormsModel" "there" "[Z" ∈ wsX8_put := by decide +kernel
abbrev rmX8_put : Room := { frames := 3, cells := 0, slots := 0, locals := 60 }
set_option maxHeartbeats 4000000 in
set_option maxRecDepth 100000 in
theorem kX8_put (l : Launch) (D : va_G) (dA : Nat → ClassId) (b0 : Nat) (ι : Nat → Nat) (N : Nat) (a0 : Nat) (a1 : Int32) (a2 : Int32) (a3 : Int32) (a4 : Int32) (h : Hp) (r : Int32) (h' : Hp) (hf : fX8_put N a0 a1 a2 a3 a4 h = some (r, h')) : Met l yX8_put wsX8_put rmX8_put (PC D dA b0 ι [.ref (ι a0), .int a1, .int a2, .int a3, .int a4] h) (QI D dA b0 ι r h') 0 0 (qA b0) := by
  unfold fX8_put at hf
  refine Met.ofW (cc := cX8_put) (maxL := 7) (ret := (some .boolean)) (by decide +kernel) rfl ?_
  intro p e s m args below meth c s₁ B hml hv
  obtain ⟨rfl, w0⟩ := hv
  have hx := B.exec
  have hb := B.bytes
  have hr := B.returns
  have hts := atoms_spec (ws := wsX8_put) B.pre
  have hown : s.vm.findClass RX8 = some m.cls := findClass_of_methodNamed B.named
  have hlocks := B.notSynchronized
  have hC := w0.c
  have hK := hC.1
  have w := WD.start w0
  clear w0
  have hl := lv_entry ([.ref (ι a0), .int a1, .int a2, .int a3, .int a4]) (n := 7) (Nat.le_of_ble_eq_true rfl)
  rw [lg_entry_eq]
  generalize (lg_sl ([.ref (ι a0), .int a1, .int a2, .int a3, .int a4]) ++ List.replicate (7 - (lg_sl ([.ref (ι a0), .int a1, .int a2, .int a3, .int a4])).length) Slot.unset).toArray = ls at hl ⊢
  have hl : lv_has ls 7 [(0, .ref (ι a0)), (1, .int a1), (2, .int a2), (3, .int a3), (4, .int a4)] := hl
  obtain ⟨H, hH⟩ : ∃ H : Heap, H = s.heap := ⟨_, rfl⟩
  obtain ⟨locs, hlo⟩ : ∃ locs : List Loc, locs = [] := ⟨_, rfl⟩
  rw [← hlo]
  have w : WD D dA b0 ι h s.heap H locs := by rw [hH, hlo]; exact w
  refine px_start hH ?_
  refine lv_aload_n hx hb dX8_put_0 rfl (lv_at hl 0 rfl) ?_
  refine lv_iload_n hx hb dX8_put_1 rfl (lv_at hl 1 rfl) ?_
  refine lv_iload_n hx hb dX8_put_2 rfl (lv_at hl 2 rfl) ?_
  refine lv_iload_n hx hb dX8_put_3 rfl (lv_at hl 3 rfl) ?_
  obtain ⟨u3, eu3, hf⟩ := ob_s hf
  obtain ⟨⟨v1, h2⟩, eh2, hf⟩ := ob_s hf
  dsimp only at hf
  refine px_callVi (As := [.int a1, .int a2, .int a3]) (rest := []) ⟨hx, hb, hml, hown, hts⟩ hC w (kX8_isPlace l D dA b0 ι N a0 a1 a2 a3 h v1 h2 eh2) (cwV 3 hts gX8_put_X8_isPlace rfl rfl rfl (by decide +kernel) ⟨Nat.le_of_ble_eq_true rfl, Nat.le_of_ble_eq_true rfl⟩) eu3 rfl rfl hl.1 rfl (Nat.le_of_ble_eq_true rfl) dX8_put_4 ⟨Nat.le_of_ble_eq_true rfl, Nat.le_of_ble_eq_true rfl⟩ (fun H locs w => ?_)
  refine lv_if_ne (tgt := 12) hx hb dX8_put_7 (by decide) (fun c4 => ?_) (fun c4 => ?_)
  · have hf := if_f hf c4
    refine lv_bipush (v := (16 : Int32)) hx hb dX8_put_12 (by decide) ?_
    refine lv_iload_n hx hb dX8_put_14 rfl (lv_at hl 1 rfl) ?_
    refine lv_imul hx hb dX8_put_15 ?_
    refine lv_iconst (v := (4 : Int32)) hx hb dX8_put_16 (by decide) ?_
    refine lv_iload_n hx hb dX8_put_17 rfl (lv_at hl 2 rfl) ?_
    refine lv_imul hx hb dX8_put_18 ?_
    refine lv_iadd hx hb dX8_put_19 ?_
    refine lv_iload_n hx hb dX8_put_20 rfl (lv_at hl 3 rfl) ?_
    refine lv_iadd hx hb dX8_put_21 ?_
    obtain ⟨x5, ex5, hf⟩ := nm_s hf
    refine px_nmI ex5 ?_
    refine lv_istore (lv' := [(5, .int x5), (0, .ref (ι a0)), (1, .int a1), (2, .int a2), (3, .int a3), (4, .int a4)]) hx hb dX8_put_22 hl (by decide) rfl (fun ls hl => ?_)
    refine lv_aload_n hx hb dX8_put_24 rfl (lv_at hl 1 rfl) ?_
    obtain ⟨v6, ev6, hf⟩ := ob_s hf
    refine px_getR hx hb hts nX8_put_X8 hown hK w ev6 rfl (by decide) mX8_put_7 rfl dX8_put_25 ?_
    refine lv_iload hx hb dX8_put_28 (lv_at hl 0 rfl) ?_
    obtain ⟨v7, ev7, hf⟩ := ob_s hf
    refine px_iald hx hb hK w ev7 dX8_put_30 ?_
    refine lv_iload hx hb dX8_put_31 (lv_at hl 5 rfl) ?_
    refine lv_i2l hx hb dX8_put_33 rfl ?_
    obtain ⟨⟨v8, h9⟩, eh9, hf⟩ := ob_s hf
    dsimp only at hf
    refine px_callSi (As := [.long (a4.toInt64)]) (rest := [.int v7]) ⟨hx, hb, hml, hown, hts⟩ hC w (kX8_modulo l D dA b0 ι N (a4.toInt64) h2 v8 h9 eh9) (va_cwS 1 hts gX8_put_X8_modulo rfl rfl rfl (by decide +kernel) ⟨Nat.le_of_ble_eq_true rfl, Nat.le_of_ble_eq_true rfl⟩) rfl hl.1 rfl (Nat.le_of_ble_eq_true rfl) dX8_put_34 ⟨Nat.le_of_ble_eq_true rfl, Nat.le_of_ble_eq_true rfl⟩ (fun H locs w => ?_)
    refine lv_icmp_ne (tgt := 42) hx hb dX8_put_37 (by decide) (fun c10 => ?_) (fun c10 => ?_)
    · have hf := if_f hf c10
      refine lv_aload_n hx hb dX8_put_42 rfl (lv_at hl 1 rfl) ?_
      obtain ⟨v11, ev11, hf⟩ := ob_s hf
      refine px_getR hx hb hts nX8_put_X8 hown hK w ev11 rfl (by decide) mX8_put_7 rfl dX8_put_43 ?_
      refine lv_iload hx hb dX8_put_46 (lv_at hl 0 rfl) ?_
      refine lv_iload hx hb dX8_put_48 (lv_at hl 5 rfl) ?_
      refine lv_i2l hx hb dX8_put_50 rfl ?_
      obtain ⟨⟨v12, h13⟩, eh13, hf⟩ := ob_s hf
      dsimp only at hf
      refine px_callSi (As := [.long (a4.toInt64)]) (rest := [.int x5, .ref (ι v11)]) ⟨hx, hb, hml, hown, hts⟩ hC w (kX8_modulo l D dA b0 ι N (a4.toInt64) h9 v12 h13 eh13) (va_cwS 1 hts gX8_put_X8_modulo rfl rfl rfl (by decide +kernel) ⟨Nat.le_of_ble_eq_true rfl, Nat.le_of_ble_eq_true rfl⟩) rfl hl.1 rfl (Nat.le_of_ble_eq_true rfl) dX8_put_51 ⟨Nat.le_of_ble_eq_true rfl, Nat.le_of_ble_eq_true rfl⟩ (fun H locs w => ?_)
      obtain ⟨h14, eh14, hf⟩ := ob_s hf
      refine px_iast hx hb hK w eh14 dX8_put_54 (fun H locs w => ?_)
      refine lv_iconst (v := (0 : Int32)) hx hb dX8_put_55 (by decide) ?_
      refine lv_istore (lv' := [(6, .int (0 : Int32)), (5, .int x5), (0, .ref (ι a0)), (1, .int a1), (2, .int a2), (3, .int a3), (4, .int a4)]) hx hb dX8_put_56 hl (by decide) rfl (fun ls hl => ?_)
      have hx58 : ∀ (y15 : Int32) (h16 : Hp) (H : Heap) (locs : List Loc) (ls : Array Slot), (some ((1 : Int32), h16)) = some (r, h') → lv_has ls 7 [(0, .ref (ι a0)), (1, .int a1), (2, .int a2), (3, .int a3), (4, .int a4), (5, .int x5), (6, .int y15)] → WD D dA b0 ι h16 s.heap H locs → W p l e (headSpec wsX8_put rmX8_put).room s m ([.ref (ι a0), .int a1, .int a2, .int a3, .int a4] : List Value).toArray below meth c H locs 0 0 (MQ below (QI D dA b0 ι r h') ([.ref (ι a0), .int a1, .int a2, .int a3, .int a4] : List Value).toArray s 0 0 (qA b0)) (F0 m 78 ls []) := by
        intro y15 h16 H locs ls hf hl w
        refine lv_iconst (v := (1 : Int32)) hx hb dX8_put_78 (by decide) ?_
        exact W.zret hx hb hr rfl (qi_end hf w hC) w.locs_ok dX8_put_79
      obtain ⟨κ58, eκ58⟩ : ∃ k : Int32 → Hp → Option (Int32 × Hp), k = (fun y15 h16 => some ((1 : Int32), h16)) := ⟨_, rfl⟩
      have hlp58 : ∀ (n : Nat) (z24 : Int32) (h25 : Hp) (H : Heap) (locs : List Loc) (ls : Array Slot), lX8_put_58 N a0 a1 a2 a3 a4 x5 n z24 h25 κ58 = some (r, h') → lv_has ls 7 [(0, .ref (ι a0)), (1, .int a1), (2, .int a2), (3, .int a3), (4, .int a4), (5, .int x5), (6, .int z24)] → WD D dA b0 ι h25 s.heap H locs → W p l e (headSpec wsX8_put rmX8_put).room s m ([.ref (ι a0), .int a1, .int a2, .int a3, .int a4] : List Value).toArray below meth c H locs 0 0 (MQ below (QI D dA b0 ι r h') ([.ref (ι a0), .int a1, .int a2, .int a3, .int a4] : List Value).toArray s 0 0 (qA b0)) (F0 m 58 ls []) := by
        intro n58
        induction n58 with
        | zero => intro z24 h25 H locs ls hf; exact absurd hf (by rw [lX8_put_58]; exact fun q => nomatch q)
        | succ n58 ih58 =>
          intro z24 h25 H locs ls hf hl w
          rw [lX8_put_58] at hf
          refine lv_iload hx hb dX8_put_58 (lv_at hl 6 rfl) ?_
          refine lv_iconst (v := (3 : Int32)) hx hb dX8_put_60 (by decide) ?_
          refine lv_icmp_ge (tgt := 78) hx hb dX8_put_61 (by decide) (fun c26 => ?_) (fun c26 => ?_)
          · have hf := if_t hf c26
            exact hx58 z24 h25 H locs ls (by rw [eκ58] at hf; exact hf) (lv_sub hl [0, 1, 2, 3, 4, 5, 6] rfl) w
          · have hf := if_f hf c26
            refine lv_aload_n hx hb dX8_put_64 rfl (lv_at hl 0 rfl) ?_
            obtain ⟨v27, ev27, hf⟩ := ob_s hf
            refine px_getR hx hb hts nX8_put_X8 hown hK w ev27 rfl (by decide) mX8_put_13 rfl dX8_put_65 ?_
            refine lv_iload hx hb dX8_put_68 (lv_at hl 6 rfl) ?_
            refine lv_iconst (v := (0 : Int32)) hx hb dX8_put_70 (by decide) ?_
            obtain ⟨h28, eh28, hf⟩ := ob_s hf
            refine px_zast hx hb hK w eh28 dX8_put_71 (fun H locs w => ?_)
            obtain ⟨x29, ex29, hf⟩ := nm_s hf
            refine lv_iinc (v := x29) (lv' := [(6, .int x29), (0, .ref (ι a0)), (1, .int a1), (2, .int a2), (3, .int a3), (4, .int a4), (5, .int x5)]) hx hb dX8_put_72 hl (k := 6) rfl (by rw [ex29]; rfl) (by decide) rfl (fun ls hl => ?_)
            refine lv_goto (tgt := 58) hx hb dX8_put_75 (by decide) ?_
            exact ih58 x29 h28 H locs ls hf (lv_sub hl [1, 2, 3, 4, 5, 6, 0] rfl) w
      exact hlp58 N (0 : Int32) h14 H locs ls (by rw [eκ58]; exact hf) (lv_sub hl [2, 3, 4, 5, 6, 1, 0] rfl) w
    · have hf := if_t hf c10
      refine lv_iconst (v := (0 : Int32)) hx hb dX8_put_40 (by decide) ?_
      exact W.zret hx hb hr rfl (qi_end hf w hC) w.locs_ok dX8_put_41
  · have hf := if_t hf c4
    refine lv_iconst (v := (0 : Int32)) hx hb dX8_put_10 (by decide) ?_
    exact W.zret hx hb hr rfl (qi_end hf w hC) w.locs_ok dX8_put_11
theorem nX8_entry_X8 : ∀ w ∈ wsX80, w ∈ wsX8_entry := by decide +kernel
theorem mX8_entry_7 : Cond.fieldLink RX8 7 "NormalFormsModel" "entries" "[I" ∈ wsX8_entry := by decide +kernel
abbrev rmX8_entry : Room := { frames := 3, cells := 0, slots := 0, locals := 60 }
set_option maxHeartbeats 4000000 in
set_option maxRecDepth 100000 in
theorem kX8_entry (l : Launch) (D : va_G) (dA : Nat → ClassId) (b0 : Nat) (ι : Nat → Nat) (N : Nat) (a0 : Nat) (a1 : Int32) (a2 : Int32) (a3 : Int32) (h : Hp) (r : Int32) (h' : Hp) (hf : fX8_entry N a0 a1 a2 a3 h = some (r, h')) : Met l yX8_entry wsX8_entry rmX8_entry (PC D dA b0 ι [.ref (ι a0), .int a1, .int a2, .int a3] h) (QI D dA b0 ι r h') 0 0 (qA b0) := by
  unfold fX8_entry at hf
  refine Met.ofW (cc := cX8_entry) (maxL := 4) (ret := (some .int)) (by decide +kernel) rfl ?_
  intro p e s m args below meth c s₁ B hml hv
  obtain ⟨rfl, w0⟩ := hv
  have hx := B.exec
  have hb := B.bytes
  have hr := B.returns
  have hts := atoms_spec (ws := wsX8_entry) B.pre
  have hown : s.vm.findClass RX8 = some m.cls := findClass_of_methodNamed B.named
  have hlocks := B.notSynchronized
  have hC := w0.c
  have hK := hC.1
  have w := WD.start w0
  clear w0
  have hl := lv_entry ([.ref (ι a0), .int a1, .int a2, .int a3]) (n := 4) (Nat.le_of_ble_eq_true rfl)
  rw [lg_entry_eq]
  generalize (lg_sl ([.ref (ι a0), .int a1, .int a2, .int a3]) ++ List.replicate (4 - (lg_sl ([.ref (ι a0), .int a1, .int a2, .int a3])).length) Slot.unset).toArray = ls at hl ⊢
  have hl : lv_has ls 4 [(0, .ref (ι a0)), (1, .int a1), (2, .int a2), (3, .int a3)] := hl
  obtain ⟨H, hH⟩ : ∃ H : Heap, H = s.heap := ⟨_, rfl⟩
  obtain ⟨locs, hlo⟩ : ∃ locs : List Loc, locs = [] := ⟨_, rfl⟩
  rw [← hlo]
  have w : WD D dA b0 ι h s.heap H locs := by rw [hH, hlo]; exact w
  refine px_start hH ?_
  refine lv_aload_n hx hb dX8_entry_0 rfl (lv_at hl 0 rfl) ?_
  refine lv_iload_n hx hb dX8_entry_1 rfl (lv_at hl 1 rfl) ?_
  refine lv_iload_n hx hb dX8_entry_2 rfl (lv_at hl 2 rfl) ?_
  refine lv_iload_n hx hb dX8_entry_3 rfl (lv_at hl 3 rfl) ?_
  obtain ⟨u3, eu3, hf⟩ := ob_s hf
  obtain ⟨⟨v1, h2⟩, eh2, hf⟩ := ob_s hf
  dsimp only at hf
  refine px_callVi (As := [.int a1, .int a2, .int a3]) (rest := []) ⟨hx, hb, hml, hown, hts⟩ hC w (kX8_isPlace l D dA b0 ι N a0 a1 a2 a3 h v1 h2 eh2) (cwV 3 hts gX8_entry_X8_isPlace rfl rfl rfl (by decide +kernel) ⟨Nat.le_of_ble_eq_true rfl, Nat.le_of_ble_eq_true rfl⟩) eu3 rfl rfl hl.1 rfl (Nat.le_of_ble_eq_true rfl) dX8_entry_4 ⟨Nat.le_of_ble_eq_true rfl, Nat.le_of_ble_eq_true rfl⟩ (fun H locs w => ?_)
  have hj29 : ∀ (t6 : Int32) (h5 : Hp) (H : Heap) (locs : List Loc) (ls : Array Slot), (some (t6, h5)) = some (r, h') → lv_has ls 4 [(0, .ref (ι a0)), (1, .int a1), (2, .int a2), (3, .int a3)] → WD D dA b0 ι h5 s.heap H locs → W p l e (headSpec wsX8_entry rmX8_entry).room s m ([.ref (ι a0), .int a1, .int a2, .int a3] : List Value).toArray below meth c H locs 0 0 (MQ below (QI D dA b0 ι r h') ([.ref (ι a0), .int a1, .int a2, .int a3] : List Value).toArray s 0 0 (qA b0)) (F0 m 29 ls [.int t6]) := by
    intro t6 h5 H locs ls hf hl w
    exact W.iret hx hb hr (qi_end hf w hC) w.locs_ok dX8_entry_29
  obtain ⟨j4, ej4, hf⟩ := jn_s hf
  refine lv_if_eq (tgt := 28) hx hb dX8_entry_7 (by decide) (fun c7 => ?_) (fun c7 => ?_)
  · have hf := if_t hf c7
    refine lv_iconst (v := (0 : Int32)) hx hb dX8_entry_28 (by decide) ?_
    exact hj29 (0 : Int32) h2 H locs ls (by rw [ej4] at hf; exact hf) (lv_sub hl [0, 1, 2, 3] rfl) w
  · have hf := if_f hf c7
    refine lv_aload_n hx hb dX8_entry_10 rfl (lv_at hl 0 rfl) ?_
    obtain ⟨v8, ev8, hf⟩ := ob_s hf
    refine px_getR hx hb hts nX8_entry_X8 hown hK w ev8 rfl (by decide) mX8_entry_7 rfl dX8_entry_11 ?_
    refine lv_bipush (v := (16 : Int32)) hx hb dX8_entry_14 (by decide) ?_
    refine lv_iload_n hx hb dX8_entry_16 rfl (lv_at hl 1 rfl) ?_
    refine lv_imul hx hb dX8_entry_17 ?_
    refine lv_iconst (v := (4 : Int32)) hx hb dX8_entry_18 (by decide) ?_
    refine lv_iload_n hx hb dX8_entry_19 rfl (lv_at hl 2 rfl) ?_
    refine lv_imul hx hb dX8_entry_20 ?_
    refine lv_iadd hx hb dX8_entry_21 ?_
    refine lv_iload_n hx hb dX8_entry_22 rfl (lv_at hl 3 rfl) ?_
    refine lv_iadd hx hb dX8_entry_23 ?_
    obtain ⟨v9, ev9, hf⟩ := ob_s hf
    refine px_iald hx hb hK w ev9 dX8_entry_24 ?_
    refine lv_goto (tgt := 29) hx hb dX8_entry_25 (by decide) ?_
    exact hj29 v9 h2 H locs ls (by rw [ej4] at hf; exact hf) (lv_sub hl [0, 1, 2, 3] rfl) w
abbrev rmX8_bits : Room := { frames := 1, cells := 0, slots := 0, locals := 12 }
set_option maxHeartbeats 4000000 in
set_option maxRecDepth 100000 in
theorem kX8_bits (l : Launch) (D : va_G) (dA : Nat → ClassId) (b0 : Nat) (ι : Nat → Nat) (N : Nat) (a0 : Int32) (h : Hp) (r : Int32) (h' : Hp) (hf : fX8_bits N a0 h = some (r, h')) : Met l yX8_bits wsX8_bits rmX8_bits (PC D dA b0 ι [.int a0] h) (QI D dA b0 ι r h') 0 0 (qA b0) := by
  unfold fX8_bits at hf
  refine Met.ofW (cc := cX8_bits) (maxL := 1) (ret := (some .int)) (by decide +kernel) rfl ?_
  intro p e s m args below meth c s₁ B hml hv
  obtain ⟨rfl, w0⟩ := hv
  have hx := B.exec
  have hb := B.bytes
  have hr := B.returns
  have hts := atoms_spec (ws := wsX8_bits) B.pre
  have hown : s.vm.findClass RX8 = some m.cls := findClass_of_methodNamed B.named
  have hlocks := B.notSynchronized
  have hC := w0.c
  have hK := hC.1
  have w := WD.start w0
  clear w0
  have hl := lv_entry ([.int a0]) (n := 1) (Nat.le_of_ble_eq_true rfl)
  rw [lg_entry_eq]
  generalize (lg_sl ([.int a0]) ++ List.replicate (1 - (lg_sl ([.int a0])).length) Slot.unset).toArray = ls at hl ⊢
  have hl : lv_has ls 1 [(0, .int a0)] := hl
  obtain ⟨H, hH⟩ : ∃ H : Heap, H = s.heap := ⟨_, rfl⟩
  obtain ⟨locs, hlo⟩ : ∃ locs : List Loc, locs = [] := ⟨_, rfl⟩
  rw [← hlo]
  have w : WD D dA b0 ι h s.heap H locs := by rw [hH, hlo]; exact w
  refine px_start hH ?_
  refine lv_iload_n hx hb dX8_bits_0 rfl (lv_at hl 0 rfl) ?_
  refine lv_iconst (v := (1 : Int32)) hx hb dX8_bits_1 (by decide) ?_
  refine lv_iand hx hb dX8_bits_2 ?_
  refine lv_iload_n hx hb dX8_bits_3 rfl (lv_at hl 0 rfl) ?_
  refine lv_iconst (v := (1 : Int32)) hx hb dX8_bits_4 (by decide) ?_
  refine lv_ishr hx hb dX8_bits_5 ?_
  refine lv_iconst (v := (1 : Int32)) hx hb dX8_bits_6 (by decide) ?_
  refine lv_iand hx hb dX8_bits_7 ?_
  refine lv_iadd hx hb dX8_bits_8 ?_
  refine lv_iload_n hx hb dX8_bits_9 rfl (lv_at hl 0 rfl) ?_
  refine lv_iconst (v := (2 : Int32)) hx hb dX8_bits_10 (by decide) ?_
  refine lv_ishr hx hb dX8_bits_11 ?_
  refine lv_iconst (v := (1 : Int32)) hx hb dX8_bits_12 (by decide) ?_
  refine lv_iand hx hb dX8_bits_13 ?_
  refine lv_iadd hx hb dX8_bits_14 ?_
  refine lv_iload_n hx hb dX8_bits_15 rfl (lv_at hl 0 rfl) ?_
  refine lv_iconst (v := (3 : Int32)) hx hb dX8_bits_16 (by decide) ?_
  refine lv_ishr hx hb dX8_bits_17 ?_
  refine lv_iconst (v := (1 : Int32)) hx hb dX8_bits_18 (by decide) ?_
  refine lv_iand hx hb dX8_bits_19 ?_
  refine lv_iadd hx hb dX8_bits_20 ?_
  exact W.iret hx hb hr (qi_end hf w hC) w.locs_ok dX8_bits_21
theorem nX8_findMinor_X8 : ∀ w ∈ wsX80, w ∈ wsX8_findMinor := by decide +kernel
theorem mX8_findMinor_23 : Cond.fieldLink RX8 23 "NormalFormsModel" "work" "[I" ∈ wsX8_findMinor := by decide +kernel
theorem mX8_findMinor_20 : Cond.fieldLink RX8 20 "NormalFormsModel" "minors" "[I" ∈ wsX8_findMinor := by decide +kernel
theorem mX8_findMinor_69 : Cond.constantLong RX8 69 (32003) ∈ wsX8_findMinor := by decide +kernel
abbrev rmX8_findMinor : Room := { frames := 2, cells := 0, slots := 0, locals := 35 }
set_option maxHeartbeats 4000000 in
set_option maxRecDepth 100000 in
theorem kX8_findMinor (l : Launch) (D : va_G) (dA : Nat → ClassId) (b0 : Nat) (ι : Nat → Nat) (N : Nat) (a0 : Nat) (a1 : Int32) (a2 : Int32) (h : Hp) (h' : Hp) (hf : fX8_findMinor N a0 a1 a2 h = some h') : Met l yX8_findMinor wsX8_findMinor rmX8_findMinor (PC D dA b0 ι [.ref (ι a0), .int a1, .int a2] h) (QV D dA b0 ι h') 0 0 (qA b0) := by
  unfold fX8_findMinor at hf
  refine Met.ofW (cc := cX8_findMinor) (maxL := 13) (ret := none) (by decide +kernel) rfl ?_
  intro p e s m args below meth c s₁ B hml hv
  obtain ⟨rfl, w0⟩ := hv
  have hx := B.exec
  have hb := B.bytes
  have hr := B.returns
  have hts := atoms_spec (ws := wsX8_findMinor) B.pre
  have hown : s.vm.findClass RX8 = some m.cls := findClass_of_methodNamed B.named
  have hlocks := B.notSynchronized
  have hC := w0.c
  have hK := hC.1
  have w := WD.start w0
  clear w0
  have hl := lv_entry ([.ref (ι a0), .int a1, .int a2]) (n := 13) (Nat.le_of_ble_eq_true rfl)
  rw [lg_entry_eq]
  generalize (lg_sl ([.ref (ι a0), .int a1, .int a2]) ++ List.replicate (13 - (lg_sl ([.ref (ι a0), .int a1, .int a2])).length) Slot.unset).toArray = ls at hl ⊢
  have hl : lv_has ls 13 [(0, .ref (ι a0)), (1, .int a1), (2, .int a2)] := hl
  obtain ⟨H, hH⟩ : ∃ H : Heap, H = s.heap := ⟨_, rfl⟩
  obtain ⟨locs, hlo⟩ : ∃ locs : List Loc, locs = [] := ⟨_, rfl⟩
  rw [← hlo]
  have w : WD D dA b0 ι h s.heap H locs := by rw [hH, hlo]; exact w
  refine px_start hH ?_
  refine lv_iconst (v := (0 : Int32)) hx hb dX8_findMinor_0 (by decide) ?_
  refine lv_istore_n (lv' := [(3, .int (0 : Int32)), (0, .ref (ι a0)), (1, .int a1), (2, .int a2)]) hx hb dX8_findMinor_1 rfl hl (by decide) rfl (fun ls hl => ?_)
  have hx2 : ∀ (y1 : Int32) (h2 : Hp) (H : Heap) (locs : List Loc) (ls : Array Slot), (nm (a1 - ((1 : Int32) <<< (y1 &&& 31))) fun x3 => nm ((13 : Int32) * (((16 : Int32) * a1) + a2)) fun x4 => lX8_findMinor_40 N a0 a1 a2 y1 x3 x4 N (0 : Int32) (0 : Int32) h2 (fun y5 y6 h7 => some h7)) = some h' → lv_has ls 13 [(0, .ref (ι a0)), (1, .int a1), (2, .int a2), (3, .int y1)] → WD D dA b0 ι h2 s.heap H locs → W p l e (headSpec wsX8_findMinor rmX8_findMinor).room s m ([.ref (ι a0), .int a1, .int a2] : List Value).toArray below meth c H locs 0 0 (MQ below (QV D dA b0 ι h') ([.ref (ι a0), .int a1, .int a2] : List Value).toArray s 0 0 (qA b0)) (F0 m 16 ls []) := by
    intro y1 h2 H locs ls hf hl w
    refine lv_iload_n hx hb dX8_findMinor_16 rfl (lv_at hl 1 rfl) ?_
    refine lv_iconst (v := (1 : Int32)) hx hb dX8_findMinor_17 (by decide) ?_
    refine lv_iload_n hx hb dX8_findMinor_18 rfl (lv_at hl 3 rfl) ?_
    refine lv_ishl hx hb dX8_findMinor_19 ?_
    refine lv_isub hx hb dX8_findMinor_20 ?_
    obtain ⟨x3, ex3, hf⟩ := nm_s hf
    refine px_nmI ex3 ?_
    refine lv_istore (lv' := [(4, .int x3), (0, .ref (ι a0)), (1, .int a1), (2, .int a2), (3, .int y1)]) hx hb dX8_findMinor_21 hl (by decide) rfl (fun ls hl => ?_)
    refine lv_bipush (v := (13 : Int32)) hx hb dX8_findMinor_23 (by decide) ?_
    refine lv_bipush (v := (16 : Int32)) hx hb dX8_findMinor_25 (by decide) ?_
    refine lv_iload_n hx hb dX8_findMinor_27 rfl (lv_at hl 2 rfl) ?_
    refine lv_imul hx hb dX8_findMinor_28 ?_
    refine lv_iload_n hx hb dX8_findMinor_29 rfl (lv_at hl 3 rfl) ?_
    refine lv_iadd hx hb dX8_findMinor_30 ?_
    refine lv_imul hx hb dX8_findMinor_31 ?_
    obtain ⟨x4, ex4, hf⟩ := nm_s hf
    refine px_nmI ex4 ?_
    refine lv_istore (lv' := [(5, .int x4), (4, .int x3), (0, .ref (ι a0)), (1, .int a1), (2, .int a2), (3, .int y1)]) hx hb dX8_findMinor_32 hl (by decide) rfl (fun ls hl => ?_)
    refine lv_iconst (v := (0 : Int32)) hx hb dX8_findMinor_34 (by decide) ?_
    refine lv_istore (lv' := [(6, .int (0 : Int32)), (5, .int x4), (4, .int x3), (0, .ref (ι a0)), (1, .int a1), (2, .int a2), (3, .int y1)]) hx hb dX8_findMinor_35 hl (by decide) rfl (fun ls hl => ?_)
    refine lv_iconst (v := (0 : Int32)) hx hb dX8_findMinor_37 (by decide) ?_
    refine lv_istore (lv' := [(7, .int (0 : Int32)), (6, .int (0 : Int32)), (5, .int x4), (4, .int x3), (0, .ref (ι a0)), (1, .int a1), (2, .int a2), (3, .int y1)]) hx hb dX8_findMinor_38 hl (by decide) rfl (fun ls hl => ?_)
    have hx40 : ∀ (y5 : Int32) (y6 : Int32) (h7 : Hp) (H : Heap) (locs : List Loc) (ls : Array Slot), (some h7) = some h' → lv_has ls 13 [(0, .ref (ι a0)), (1, .int a1), (2, .int a2), (3, .int y1), (4, .int x3), (5, .int x4), (6, .int y5), (7, .int y6)] → WD D dA b0 ι h7 s.heap H locs → W p l e (headSpec wsX8_findMinor rmX8_findMinor).room s m ([.ref (ι a0), .int a1, .int a2] : List Value).toArray below meth c H locs 0 0 (MQ below (QV D dA b0 ι h') ([.ref (ι a0), .int a1, .int a2] : List Value).toArray s 0 0 (qA b0)) (F0 m 216 ls []) := by
      intro y5 y6 h7 H locs ls hf hl w
      exact W.vret hx hb hr (qv_end hf w hC) w.locs_ok dX8_findMinor_216
    obtain ⟨κ40, eκ40⟩ : ∃ k : Int32 → Int32 → Hp → Option Hp, k = (fun y5 y6 h7 => some h7) := ⟨_, rfl⟩
    have hlp40 : ∀ (n : Nat) (z108 : Int32) (z109 : Int32) (h110 : Hp) (H : Heap) (locs : List Loc) (ls : Array Slot), lX8_findMinor_40 N a0 a1 a2 y1 x3 x4 n z108 z109 h110 κ40 = some h' → lv_has ls 13 [(0, .ref (ι a0)), (1, .int a1), (2, .int a2), (3, .int y1), (4, .int x3), (5, .int x4), (6, .int z108), (7, .int z109)] → WD D dA b0 ι h110 s.heap H locs → W p l e (headSpec wsX8_findMinor rmX8_findMinor).room s m ([.ref (ι a0), .int a1, .int a2] : List Value).toArray below meth c H locs 0 0 (MQ below (QV D dA b0 ι h') ([.ref (ι a0), .int a1, .int a2] : List Value).toArray s 0 0 (qA b0)) (F0 m 40 ls []) := by
      intro n40
      induction n40 with
      | zero => intro z108 z109 h110 H locs ls hf; exact absurd hf (by rw [lX8_findMinor_40]; exact fun q => nomatch q)
      | succ n40 ih40 =>
        intro z108 z109 h110 H locs ls hf hl w
        rw [lX8_findMinor_40] at hf
        refine lv_iload hx hb dX8_findMinor_40 (lv_at hl 7 rfl) ?_
        refine lv_iconst (v := (4 : Int32)) hx hb dX8_findMinor_42 (by decide) ?_
        refine lv_icmp_ge (tgt := 216) hx hb dX8_findMinor_43 (by decide) (fun c111 => ?_) (fun c111 => ?_)
        · have hf := if_t hf c111
          exact hx40 z108 z109 h110 H locs ls (by rw [eκ40] at hf; exact hf) (lv_sub hl [0, 1, 2, 3, 4, 5, 6, 7] rfl) w
        · have hf := if_f hf c111
          refine lv_iload_n hx hb dX8_findMinor_46 rfl (lv_at hl 2 rfl) ?_
          refine lv_iload hx hb dX8_findMinor_47 (lv_at hl 7 rfl) ?_
          refine lv_ishr hx hb dX8_findMinor_49 ?_
          refine lv_iconst (v := (1 : Int32)) hx hb dX8_findMinor_50 (by decide) ?_
          refine lv_iand hx hb dX8_findMinor_51 ?_
          have hj210 : ∀ (y113 : Int32) (h114 : Hp) (H : Heap) (locs : List Loc) (ls : Array Slot), (nm (z109 + (1 : Int32)) fun x115 => lX8_findMinor_40 N a0 a1 a2 y1 x3 x4 n40 y113 x115 h114 κ40) = some h' → lv_has ls 13 [(0, .ref (ι a0)), (1, .int a1), (2, .int a2), (3, .int y1), (4, .int x3), (5, .int x4), (6, .int y113), (7, .int z109)] → WD D dA b0 ι h114 s.heap H locs → W p l e (headSpec wsX8_findMinor rmX8_findMinor).room s m ([.ref (ι a0), .int a1, .int a2] : List Value).toArray below meth c H locs 0 0 (MQ below (QV D dA b0 ι h') ([.ref (ι a0), .int a1, .int a2] : List Value).toArray s 0 0 (qA b0)) (F0 m 210 ls []) := by
            intro y113 h114 H locs ls hf hl w
            obtain ⟨x115, ex115, hf⟩ := nm_s hf
            refine lv_iinc (v := x115) (lv' := [(7, .int x115), (0, .ref (ι a0)), (1, .int a1), (2, .int a2), (3, .int y1), (4, .int x3), (5, .int x4), (6, .int y113)]) hx hb dX8_findMinor_210 hl (k := 7) rfl (by rw [ex115]; rfl) (by decide) rfl (fun ls hl => ?_)
            refine lv_goto (tgt := 40) hx hb dX8_findMinor_213 (by decide) ?_
            exact ih40 y113 x115 h114 H locs ls hf (lv_sub hl [1, 2, 3, 4, 5, 6, 7, 0] rfl) w
          obtain ⟨j112, ej112, hf⟩ := jn_s hf
          refine lv_if_ne (tgt := 58) hx hb dX8_findMinor_52 (by decide) (fun c116 => ?_) (fun c116 => ?_)
          · have hf := if_f hf c116
            refine lv_bipush (v := (13 : Int32)) hx hb dX8_findMinor_58 (by decide) ?_
            refine lv_bipush (v := (16 : Int32)) hx hb dX8_findMinor_60 (by decide) ?_
            refine lv_iload hx hb dX8_findMinor_62 (lv_at hl 4 rfl) ?_
            refine lv_imul hx hb dX8_findMinor_64 ?_
            refine lv_iload_n hx hb dX8_findMinor_65 rfl (lv_at hl 2 rfl) ?_
            refine lv_iadd hx hb dX8_findMinor_66 ?_
            refine lv_iconst (v := (1 : Int32)) hx hb dX8_findMinor_67 (by decide) ?_
            refine lv_iload hx hb dX8_findMinor_68 (lv_at hl 7 rfl) ?_
            refine lv_ishl hx hb dX8_findMinor_70 ?_
            refine lv_isub hx hb dX8_findMinor_71 ?_
            refine lv_imul hx hb dX8_findMinor_72 ?_
            obtain ⟨x117, ex117, hf⟩ := nm_s hf
            refine px_nmI ex117 ?_
            refine lv_istore (lv' := [(8, .int x117), (0, .ref (ι a0)), (1, .int a1), (2, .int a2), (3, .int y1), (4, .int x3), (5, .int x4), (6, .int z108), (7, .int z109)]) hx hb dX8_findMinor_73 hl (by decide) rfl (fun ls hl => ?_)
            refine lv_iconst (v := (0 : Int32)) hx hb dX8_findMinor_75 (by decide) ?_
            refine lv_istore (lv' := [(9, .int (0 : Int32)), (8, .int x117), (0, .ref (ι a0)), (1, .int a1), (2, .int a2), (3, .int y1), (4, .int x3), (5, .int x4), (6, .int z108), (7, .int z109)]) hx hb dX8_findMinor_76 hl (by decide) rfl (fun ls hl => ?_)
            have hx78 : ∀ (y118 : Int32) (h119 : Hp) (H : Heap) (locs : List Loc) (ls : Array Slot), (jn (fun t122 h121 => j112 t122 h121) fun (j120 : Int32 → Hp → Option Hp) => if z108 = 0 then j120 (1 : Int32) h119 else j120 (0 : Int32) h119) = some h' → lv_has ls 13 [(0, .ref (ι a0)), (1, .int a1), (2, .int a2), (3, .int y1), (4, .int x3), (5, .int x4), (6, .int z108), (7, .int z109), (8, .int x117), (9, .int y118)] → WD D dA b0 ι h119 s.heap H locs → W p l e (headSpec wsX8_findMinor rmX8_findMinor).room s m ([.ref (ι a0), .int a1, .int a2] : List Value).toArray below meth c H locs 0 0 (MQ below (QV D dA b0 ι h') ([.ref (ι a0), .int a1, .int a2] : List Value).toArray s 0 0 (qA b0)) (F0 m 198 ls []) := by
              intro y118 h119 H locs ls hf hl w
              refine lv_iload hx hb dX8_findMinor_198 (lv_at hl 6 rfl) ?_
              have hj208 : ∀ (t122 : Int32) (h121 : Hp) (H : Heap) (locs : List Loc) (ls : Array Slot), (j112 t122 h121) = some h' → lv_has ls 13 [(0, .ref (ι a0)), (1, .int a1), (2, .int a2), (3, .int y1), (4, .int x3), (5, .int x4), (6, .int z108), (7, .int z109), (8, .int x117), (9, .int y118)] → WD D dA b0 ι h121 s.heap H locs → W p l e (headSpec wsX8_findMinor rmX8_findMinor).room s m ([.ref (ι a0), .int a1, .int a2] : List Value).toArray below meth c H locs 0 0 (MQ below (QV D dA b0 ι h') ([.ref (ι a0), .int a1, .int a2] : List Value).toArray s 0 0 (qA b0)) (F0 m 208 ls [.int t122]) := by
                intro t122 h121 H locs ls hf hl w
                refine lv_istore (lv' := [(6, .int t122), (0, .ref (ι a0)), (1, .int a1), (2, .int a2), (3, .int y1), (4, .int x3), (5, .int x4), (7, .int z109), (8, .int x117), (9, .int y118)]) hx hb dX8_findMinor_208 hl (by decide) rfl (fun ls hl => ?_)
                exact hj210 t122 h121 H locs ls (by rw [ej112] at hf; exact hf) (lv_sub hl [1, 2, 3, 4, 5, 6, 0, 7] rfl) w
              obtain ⟨j120, ej120, hf⟩ := jn_s hf
              refine lv_if_ne (tgt := 207) hx hb dX8_findMinor_200 (by decide) (fun c123 => ?_) (fun c123 => ?_)
              · have hf := if_f hf c123
                refine lv_iconst (v := (0 : Int32)) hx hb dX8_findMinor_207 (by decide) ?_
                exact hj208 (0 : Int32) h119 H locs ls (by rw [ej120] at hf; exact hf) (lv_sub hl [0, 1, 2, 3, 4, 5, 6, 7, 8, 9] rfl) w
              · have hf := if_t hf c123
                refine lv_iconst (v := (1 : Int32)) hx hb dX8_findMinor_203 (by decide) ?_
                refine lv_goto (tgt := 208) hx hb dX8_findMinor_204 (by decide) ?_
                exact hj208 (1 : Int32) h119 H locs ls (by rw [ej120] at hf; exact hf) (lv_sub hl [0, 1, 2, 3, 4, 5, 6, 7, 8, 9] rfl) w
            obtain ⟨κ78, eκ78⟩ : ∃ k : Int32 → Hp → Option Hp, k = (fun y118 h119 => jn (fun t122 h121 => j112 t122 h121) fun (j120 : Int32 → Hp → Option Hp) => if z108 = 0 then j120 (1 : Int32) h119 else j120 (0 : Int32) h119) := ⟨_, rfl⟩
            have hlp78 : ∀ (n : Nat) (z166 : Int32) (h167 : Hp) (H : Heap) (locs : List Loc) (ls : Array Slot), lX8_findMinor_78 N a0 a1 a2 y1 x3 x4 z108 z109 x117 n z166 h167 κ78 = some h' → lv_has ls 13 [(0, .ref (ι a0)), (1, .int a1), (2, .int a2), (3, .int y1), (4, .int x3), (5, .int x4), (6, .int z108), (7, .int z109), (8, .int x117), (9, .int z166)] → WD D dA b0 ι h167 s.heap H locs → W p l e (headSpec wsX8_findMinor rmX8_findMinor).room s m ([.ref (ι a0), .int a1, .int a2] : List Value).toArray below meth c H locs 0 0 (MQ below (QV D dA b0 ι h') ([.ref (ι a0), .int a1, .int a2] : List Value).toArray s 0 0 (qA b0)) (F0 m 78 ls []) := by
              intro n78
              induction n78 with
              | zero => intro z166 h167 H locs ls hf; exact absurd hf (by rw [lX8_findMinor_78]; exact fun q => nomatch q)
              | succ n78 ih78 =>
                intro z166 h167 H locs ls hf hl w
                rw [lX8_findMinor_78] at hf
                refine lv_iload hx hb dX8_findMinor_78 (lv_at hl 9 rfl) ?_
                refine lv_iconst (v := (4 : Int32)) hx hb dX8_findMinor_80 (by decide) ?_
                refine lv_icmp_ge (tgt := 198) hx hb dX8_findMinor_81 (by decide) (fun c168 => ?_) (fun c168 => ?_)
                · have hf := if_t hf c168
                  exact hx78 z166 h167 H locs ls (by rw [eκ78] at hf; exact hf) (lv_sub hl [0, 1, 2, 3, 4, 5, 6, 7, 8, 9] rfl) w
                · have hf := if_f hf c168
                  refine lv_aload_n hx hb dX8_findMinor_84 rfl (lv_at hl 0 rfl) ?_
                  obtain ⟨v169, ev169, hf⟩ := ob_s hf
                  refine px_getR hx hb hts nX8_findMinor_X8 hown hK w ev169 rfl (by decide) mX8_findMinor_23 rfl dX8_findMinor_85 ?_
                  refine lv_bipush (v := (16 : Int32)) hx hb dX8_findMinor_88 (by decide) ?_
                  refine lv_iload_n hx hb dX8_findMinor_90 rfl (lv_at hl 3 rfl) ?_
                  refine lv_imul hx hb dX8_findMinor_91 ?_
                  refine lv_iconst (v := (4 : Int32)) hx hb dX8_findMinor_92 (by decide) ?_
                  refine lv_iload hx hb dX8_findMinor_93 (lv_at hl 7 rfl) ?_
                  refine lv_imul hx hb dX8_findMinor_95 ?_
                  refine lv_iadd hx hb dX8_findMinor_96 ?_
                  refine lv_iload hx hb dX8_findMinor_97 (lv_at hl 9 rfl) ?_
                  refine lv_iadd hx hb dX8_findMinor_99 ?_
                  obtain ⟨v170, ev170, hf⟩ := ob_s hf
                  refine px_iald hx hb hK w ev170 dX8_findMinor_100 ?_
                  refine lv_i2l hx hb dX8_findMinor_101 rfl ?_
                  obtain ⟨x171, ex171, hf⟩ := nm_s hf
                  refine px_nmJ ex171 ?_
                  refine lv_lstore (lv' := [(10, .long x171), (0, .ref (ι a0)), (1, .int a1), (2, .int a2), (3, .int y1), (4, .int x3), (5, .int x4), (6, .int z108), (7, .int z109), (8, .int x117), (9, .int z166)]) hx hb dX8_findMinor_102 hl (by decide) rfl (fun ls hl => ?_)
                  refine lv_iload hx hb dX8_findMinor_104 (lv_at hl 7 rfl) ?_
                  have hj121 : ∀ (y173 : Int64) (h174 : Hp) (H : Heap) (locs : List Loc) (ls : Array Slot), (lX8_findMinor_124 N a0 a1 a2 y1 x3 x4 z108 z109 x117 z166 y173 N (0 : Int32) h174 (fun y175 h176 => nm (z166 + (1 : Int32)) fun x177 => lX8_findMinor_78 N a0 a1 a2 y1 x3 x4 z108 z109 x117 n78 x177 h176 κ78)) = some h' → lv_has ls 13 [(0, .ref (ι a0)), (1, .int a1), (2, .int a2), (3, .int y1), (4, .int x3), (5, .int x4), (6, .int z108), (7, .int z109), (8, .int x117), (9, .int z166), (10, .long y173)] → WD D dA b0 ι h174 s.heap H locs → W p l e (headSpec wsX8_findMinor rmX8_findMinor).room s m ([.ref (ι a0), .int a1, .int a2] : List Value).toArray below meth c H locs 0 0 (MQ below (QV D dA b0 ι h') ([.ref (ι a0), .int a1, .int a2] : List Value).toArray s 0 0 (qA b0)) (F0 m 121 ls []) := by
                    intro y173 h174 H locs ls hf hl w
                    refine lv_iconst (v := (0 : Int32)) hx hb dX8_findMinor_121 (by decide) ?_
                    refine lv_istore (lv' := [(12, .int (0 : Int32)), (0, .ref (ι a0)), (1, .int a1), (2, .int a2), (3, .int y1), (4, .int x3), (5, .int x4), (6, .int z108), (7, .int z109), (8, .int x117), (9, .int z166), (10, .long y173)]) hx hb dX8_findMinor_122 hl (by decide) rfl (fun ls hl => ?_)
                    have hx124 : ∀ (y175 : Int32) (h176 : Hp) (H : Heap) (locs : List Loc) (ls : Array Slot), (nm (z166 + (1 : Int32)) fun x177 => lX8_findMinor_78 N a0 a1 a2 y1 x3 x4 z108 z109 x117 n78 x177 h176 κ78) = some h' → lv_has ls 13 [(0, .ref (ι a0)), (1, .int a1), (2, .int a2), (3, .int y1), (4, .int x3), (5, .int x4), (6, .int z108), (7, .int z109), (8, .int x117), (9, .int z166), (10, .long y173), (12, .int y175)] → WD D dA b0 ι h176 s.heap H locs → W p l e (headSpec wsX8_findMinor rmX8_findMinor).room s m ([.ref (ι a0), .int a1, .int a2] : List Value).toArray below meth c H locs 0 0 (MQ below (QV D dA b0 ι h') ([.ref (ι a0), .int a1, .int a2] : List Value).toArray s 0 0 (qA b0)) (F0 m 192 ls []) := by
                      intro y175 h176 H locs ls hf hl w
                      obtain ⟨x177, ex177, hf⟩ := nm_s hf
                      refine lv_iinc (v := x177) (lv' := [(9, .int x177), (0, .ref (ι a0)), (1, .int a1), (2, .int a2), (3, .int y1), (4, .int x3), (5, .int x4), (6, .int z108), (7, .int z109), (8, .int x117), (10, .long y173), (12, .int y175)]) hx hb dX8_findMinor_192 hl (k := 9) rfl (by rw [ex177]; rfl) (by decide) rfl (fun ls hl => ?_)
                      refine lv_goto (tgt := 78) hx hb dX8_findMinor_195 (by decide) ?_
                      exact ih78 x177 h176 H locs ls hf (lv_sub hl [1, 2, 3, 4, 5, 6, 7, 8, 9, 0] rfl) w
                    obtain ⟨κ124, eκ124⟩ : ∃ k : Int32 → Hp → Option Hp, k = (fun y175 h176 => nm (z166 + (1 : Int32)) fun x177 => lX8_findMinor_78 N a0 a1 a2 y1 x3 x4 z108 z109 x117 n78 x177 h176 κ78) := ⟨_, rfl⟩
                    have hlp124 : ∀ (n : Nat) (z192 : Int32) (h193 : Hp) (H : Heap) (locs : List Loc) (ls : Array Slot), lX8_findMinor_124 N a0 a1 a2 y1 x3 x4 z108 z109 x117 z166 y173 n z192 h193 κ124 = some h' → lv_has ls 13 [(0, .ref (ι a0)), (1, .int a1), (2, .int a2), (3, .int y1), (4, .int x3), (5, .int x4), (6, .int z108), (7, .int z109), (8, .int x117), (9, .int z166), (10, .long y173), (12, .int z192)] → WD D dA b0 ι h193 s.heap H locs → W p l e (headSpec wsX8_findMinor rmX8_findMinor).room s m ([.ref (ι a0), .int a1, .int a2] : List Value).toArray below meth c H locs 0 0 (MQ below (QV D dA b0 ι h') ([.ref (ι a0), .int a1, .int a2] : List Value).toArray s 0 0 (qA b0)) (F0 m 124 ls []) := by
                      intro n124
                      induction n124 with
                      | zero => intro z192 h193 H locs ls hf; exact absurd hf (by rw [lX8_findMinor_124]; exact fun q => nomatch q)
                      | succ n124 ih124 =>
                        intro z192 h193 H locs ls hf hl w
                        rw [lX8_findMinor_124] at hf
                        refine lv_iload hx hb dX8_findMinor_124 (lv_at hl 11 rfl) ?_
                        refine lv_iload hx hb dX8_findMinor_126 (lv_at hl 9 rfl) ?_
                        refine lv_iadd hx hb dX8_findMinor_128 ?_
                        refine lv_bipush (v := (13 : Int32)) hx hb dX8_findMinor_129 (by decide) ?_
                        refine lv_icmp_ge (tgt := 192) hx hb dX8_findMinor_131 (by decide) (fun c194 => ?_) (fun c194 => ?_)
                        · have hf := if_t hf c194
                          exact hx124 z192 h193 H locs ls (by rw [eκ124] at hf; exact hf) (lv_sub hl [0, 1, 2, 3, 4, 5, 6, 7, 8, 9, 10, 11] rfl) w
                        · have hf := if_f hf c194
                          refine lv_lload hx hb dX8_findMinor_134 (lv_at hl 10 rfl) ?_
                          refine lv_lconst (v := 0) hx hb dX8_findMinor_136 (by decide) ?_
                          refine W.lcmp hx hb dX8_findMinor_137 ?_
                          refine lv_if_le (tgt := 192) hx hb dX8_findMinor_138 (by decide) (fun c195 => ?_) (fun c195 => ?_)
                          · have hf := if_t hf c195
                            exact hx124 z192 h193 H locs ls (by rw [eκ124] at hf; exact hf) (lv_sub hl [0, 1, 2, 3, 4, 5, 6, 7, 8, 9, 10, 11] rfl) w
                          · have hf := if_f hf c195
                            refine lv_aload_n hx hb dX8_findMinor_141 rfl (lv_at hl 0 rfl) ?_
                            obtain ⟨v196, ev196, hf⟩ := ob_s hf
                            refine px_getR hx hb hts nX8_findMinor_X8 hown hK w ev196 rfl (by decide) mX8_findMinor_20 rfl dX8_findMinor_142 ?_
                            refine lv_iload hx hb dX8_findMinor_145 (lv_at hl 5 rfl) ?_
                            refine lv_iload hx hb dX8_findMinor_147 (lv_at hl 11 rfl) ?_
                            refine lv_iadd hx hb dX8_findMinor_149 ?_
                            refine lv_iload hx hb dX8_findMinor_150 (lv_at hl 9 rfl) ?_
                            refine lv_iadd hx hb dX8_findMinor_152 ?_
                            refine lv_aload_n hx hb dX8_findMinor_153 rfl (lv_at hl 0 rfl) ?_
                            obtain ⟨v197, ev197, hf⟩ := ob_s hf
                            refine px_getR hx hb hts nX8_findMinor_X8 hown hK w ev197 rfl (by decide) mX8_findMinor_20 rfl dX8_findMinor_154 ?_
                            refine lv_iload hx hb dX8_findMinor_157 (lv_at hl 5 rfl) ?_
                            refine lv_iload hx hb dX8_findMinor_159 (lv_at hl 11 rfl) ?_
                            refine lv_iadd hx hb dX8_findMinor_161 ?_
                            refine lv_iload hx hb dX8_findMinor_162 (lv_at hl 9 rfl) ?_
                            refine lv_iadd hx hb dX8_findMinor_164 ?_
                            obtain ⟨v198, ev198, hf⟩ := ob_s hf
                            refine px_iald hx hb hK w ev198 dX8_findMinor_165 ?_
                            refine lv_i2l hx hb dX8_findMinor_166 rfl ?_
                            refine lv_lload hx hb dX8_findMinor_167 (lv_at hl 10 rfl) ?_
                            refine lv_aload_n hx hb dX8_findMinor_169 rfl (lv_at hl 0 rfl) ?_
                            obtain ⟨v199, ev199, hf⟩ := ob_s hf
                            refine px_getR hx hb hts nX8_findMinor_X8 hown hK w ev199 rfl (by decide) mX8_findMinor_20 rfl dX8_findMinor_170 ?_
                            refine lv_iload hx hb dX8_findMinor_173 (lv_at hl 8 rfl) ?_
                            refine lv_iload hx hb dX8_findMinor_175 (lv_at hl 11 rfl) ?_
                            refine lv_iadd hx hb dX8_findMinor_177 ?_
                            obtain ⟨v200, ev200, hf⟩ := ob_s hf
                            refine px_iald hx hb hK w ev200 dX8_findMinor_178 ?_
                            refine lv_i2l hx hb dX8_findMinor_179 rfl ?_
                            refine lv_lmul hx hb dX8_findMinor_180 ?_
                            refine lv_ladd hx hb dX8_findMinor_181 ?_
                            obtain ⟨⟨v201, h202⟩, eh202, hf⟩ := ob_s hf
                            dsimp only at hf
                            refine px_callSi (As := [.long ((v198.toInt64) + (y173 * (v200.toInt64)))]) (rest := [.int ((x4 + z192) + z166), .ref (ι v196)]) ⟨hx, hb, hml, hown, hts⟩ hC w (kX8_modulo l D dA b0 ι N ((v198.toInt64) + (y173 * (v200.toInt64))) h193 v201 h202 eh202) (va_cwS 1 hts gX8_findMinor_X8_modulo rfl rfl rfl (by decide +kernel) ⟨Nat.le_of_ble_eq_true rfl, Nat.le_of_ble_eq_true rfl⟩) rfl hl.1 rfl (Nat.le_of_ble_eq_true rfl) dX8_findMinor_182 ⟨Nat.le_of_ble_eq_true rfl, Nat.le_of_ble_eq_true rfl⟩ (fun H locs w => ?_)
                            obtain ⟨h203, eh203, hf⟩ := ob_s hf
                            refine px_iast hx hb hK w eh203 dX8_findMinor_185 (fun H locs w => ?_)
                            obtain ⟨x204, ex204, hf⟩ := nm_s hf
                            refine lv_iinc (v := x204) (lv' := [(12, .int x204), (0, .ref (ι a0)), (1, .int a1), (2, .int a2), (3, .int y1), (4, .int x3), (5, .int x4), (6, .int z108), (7, .int z109), (8, .int x117), (9, .int z166), (10, .long y173)]) hx hb dX8_findMinor_186 hl (k := 11) rfl (by rw [ex204]; rfl) (by decide) rfl (fun ls hl => ?_)
                            refine lv_goto (tgt := 124) hx hb dX8_findMinor_189 (by decide) ?_
                            exact ih124 x204 h203 H locs ls hf (lv_sub hl [1, 2, 3, 4, 5, 6, 7, 8, 9, 10, 11, 0] rfl) w
                    exact hlp124 N (0 : Int32) h174 H locs ls (by rw [eκ124]; exact hf) (lv_sub hl [1, 2, 3, 4, 5, 6, 7, 8, 9, 10, 11, 0] rfl) w
                  obtain ⟨j172, ej172, hf⟩ := jn_s hf
                  refine lv_if_eq (tgt := 121) hx hb dX8_findMinor_106 (by decide) (fun c205 => ?_) (fun c205 => ?_)
                  · have hf := if_t hf c205
                    exact hj121 x171 h167 H locs ls (by rw [ej172] at hf; exact hf) (lv_sub hl [1, 2, 3, 4, 5, 6, 7, 8, 9, 10, 0] rfl) w
                  · have hf := if_f hf c205
                    refine lv_ldc2 (v := 32003) hx hb hown (hts _ mX8_findMinor_69) dX8_findMinor_109 ?_
                    refine lv_lload hx hb dX8_findMinor_112 (lv_at hl 0 rfl) ?_
                    refine lv_lsub hx hb dX8_findMinor_114 ?_
                    refine lv_ldc2 (v := 32003) hx hb hown (hts _ mX8_findMinor_69) dX8_findMinor_115 ?_
                    refine px_lrem hx hb dX8_findMinor_118 (by decide) ?_
                    obtain ⟨x206, ex206, hf⟩ := nm_s hf
                    refine px_nmJ ex206 ?_
                    refine lv_lstore (lv' := [(10, .long x206), (0, .ref (ι a0)), (1, .int a1), (2, .int a2), (3, .int y1), (4, .int x3), (5, .int x4), (6, .int z108), (7, .int z109), (8, .int x117), (9, .int z166)]) hx hb dX8_findMinor_119 hl (by decide) rfl (fun ls hl => ?_)
                    exact hj121 x206 h167 H locs ls (by rw [ej172] at hf; exact hf) (lv_sub hl [1, 2, 3, 4, 5, 6, 7, 8, 9, 10, 0] rfl) w
            exact hlp78 N (0 : Int32) h110 H locs ls (by rw [eκ78]; exact hf) (lv_sub hl [2, 3, 4, 5, 6, 7, 8, 9, 1, 0] rfl) w
          · have hf := if_t hf c116
            refine lv_goto (tgt := 210) hx hb dX8_findMinor_55 (by decide) ?_
            exact hj210 z108 h110 H locs ls (by rw [ej112] at hf; exact hf) (lv_sub hl [0, 1, 2, 3, 4, 5, 6, 7] rfl) w
    exact hlp40 N (0 : Int32) (0 : Int32) h2 H locs ls (by rw [eκ40]; exact hf) (lv_sub hl [4, 5, 6, 7, 3, 2, 1, 0] rfl) w
  obtain ⟨κ2, eκ2⟩ : ∃ k : Int32 → Hp → Option Hp, k = (fun y1 h2 => nm (a1 - ((1 : Int32) <<< (y1 &&& 31))) fun x3 => nm ((13 : Int32) * (((16 : Int32) * a1) + a2)) fun x4 => lX8_findMinor_40 N a0 a1 a2 y1 x3 x4 N (0 : Int32) (0 : Int32) h2 (fun y5 y6 h7 => some h7)) := ⟨_, rfl⟩
  have hlp2 : ∀ (n : Nat) (z212 : Int32) (h213 : Hp) (H : Heap) (locs : List Loc) (ls : Array Slot), lX8_findMinor_2 N a0 a1 a2 n z212 h213 κ2 = some h' → lv_has ls 13 [(0, .ref (ι a0)), (1, .int a1), (2, .int a2), (3, .int z212)] → WD D dA b0 ι h213 s.heap H locs → W p l e (headSpec wsX8_findMinor rmX8_findMinor).room s m ([.ref (ι a0), .int a1, .int a2] : List Value).toArray below meth c H locs 0 0 (MQ below (QV D dA b0 ι h') ([.ref (ι a0), .int a1, .int a2] : List Value).toArray s 0 0 (qA b0)) (F0 m 2 ls []) := by
    intro n2
    induction n2 with
    | zero => intro z212 h213 H locs ls hf; exact absurd hf (by rw [lX8_findMinor_2]; exact fun q => nomatch q)
    | succ n2 ih2 =>
      intro z212 h213 H locs ls hf hl w
      rw [lX8_findMinor_2] at hf
      refine lv_iload_n hx hb dX8_findMinor_2 rfl (lv_at hl 1 rfl) ?_
      refine lv_iload_n hx hb dX8_findMinor_3 rfl (lv_at hl 3 rfl) ?_
      refine lv_ishr hx hb dX8_findMinor_4 ?_
      refine lv_iconst (v := (1 : Int32)) hx hb dX8_findMinor_5 (by decide) ?_
      refine lv_iand hx hb dX8_findMinor_6 ?_
      refine lv_if_ne (tgt := 16) hx hb dX8_findMinor_7 (by decide) (fun c214 => ?_) (fun c214 => ?_)
      · have hf := if_f hf c214
        exact hx2 z212 h213 H locs ls (by rw [eκ2] at hf; exact hf) (lv_sub hl [0, 1, 2, 3] rfl) w
      · have hf := if_t hf c214
        obtain ⟨x215, ex215, hf⟩ := nm_s hf
        refine lv_iinc (v := x215) (lv' := [(3, .int x215), (0, .ref (ι a0)), (1, .int a1), (2, .int a2)]) hx hb dX8_findMinor_10 hl (k := 3) rfl (by rw [ex215]; rfl) (by decide) rfl (fun ls hl => ?_)
        refine lv_goto (tgt := 2) hx hb dX8_findMinor_13 (by decide) ?_
        exact ih2 x215 h213 H locs ls hf (lv_sub hl [1, 2, 3, 0] rfl) w
  exact hlp2 N (0 : Int32) h H locs ls (by rw [eκ2]; exact hf) (lv_sub hl [1, 2, 3, 0] rfl) w
theorem nX8_findMinors_X8 : ∀ w ∈ wsX80, w ∈ wsX8_findMinors := by decide +kernel
theorem mX8_findMinors_20 : Cond.fieldLink RX8 20 "NormalFormsModel" "minors" "[I" ∈ wsX8_findMinors := by decide +kernel
abbrev rmX8_findMinors : Room := { frames := 3, cells := 0, slots := 0, locals := 67 }
set_option maxHeartbeats 4000000 in
set_option maxRecDepth 100000 in
theorem kX8_findMinors (l : Launch) (D : va_G) (dA : Nat → ClassId) (b0 : Nat) (ι : Nat → Nat) (N : Nat) (a0 : Nat) (h : Hp) (h' : Hp) (hf : fX8_findMinors N a0 h = some h') : Met l yX8_findMinors wsX8_findMinors rmX8_findMinors (PC D dA b0 ι [.ref (ι a0)] h) (QV D dA b0 ι h') 0 0 (qA b0) := by
  unfold fX8_findMinors at hf
  refine Met.ofW (cc := cX8_findMinors) (maxL := 3) (ret := none) (by decide +kernel) rfl ?_
  intro p e s m args below meth c s₁ B hml hv
  obtain ⟨rfl, w0⟩ := hv
  have hx := B.exec
  have hb := B.bytes
  have hr := B.returns
  have hts := atoms_spec (ws := wsX8_findMinors) B.pre
  have hown : s.vm.findClass RX8 = some m.cls := findClass_of_methodNamed B.named
  have hlocks := B.notSynchronized
  have hC := w0.c
  have hK := hC.1
  have w := WD.start w0
  clear w0
  have hl := lv_entry ([.ref (ι a0)]) (n := 3) (Nat.le_of_ble_eq_true rfl)
  rw [lg_entry_eq]
  generalize (lg_sl ([.ref (ι a0)]) ++ List.replicate (3 - (lg_sl ([.ref (ι a0)])).length) Slot.unset).toArray = ls at hl ⊢
  have hl : lv_has ls 3 [(0, .ref (ι a0))] := hl
  obtain ⟨H, hH⟩ : ∃ H : Heap, H = s.heap := ⟨_, rfl⟩
  obtain ⟨locs, hlo⟩ : ∃ locs : List Loc, locs = [] := ⟨_, rfl⟩
  rw [← hlo]
  have w : WD D dA b0 ι h s.heap H locs := by rw [hH, hlo]; exact w
  refine px_start hH ?_
  refine lv_iconst (v := (0 : Int32)) hx hb dX8_findMinors_0 (by decide) ?_
  refine lv_istore_n (lv' := [(1, .int (0 : Int32)), (0, .ref (ι a0))]) hx hb dX8_findMinors_1 rfl hl (by decide) rfl (fun ls hl => ?_)
  have hx2 : ∀ (y1 : Int32) (h2 : Hp) (H : Heap) (locs : List Loc) (ls : Array Slot), ((gR h2 a0 10 6).bind fun v3 => (aIs h2 v3 (0 : Int32) (1 : Int32)).bind fun h4 => lX8_findMinors_31 N a0 N (1 : Int32) h4 (fun y5 h6 => some h6)) = some h' → lv_has ls 3 [(0, .ref (ι a0)), (1, .int y1)] → WD D dA b0 ι h2 s.heap H locs → W p l e (headSpec wsX8_findMinors rmX8_findMinors).room s m ([.ref (ι a0)] : List Value).toArray below meth c H locs 0 0 (MQ below (QV D dA b0 ι h') ([.ref (ι a0)] : List Value).toArray s 0 0 (qA b0)) (F0 m 22 ls []) := by
    intro y1 h2 H locs ls hf hl w
    refine lv_aload_n hx hb dX8_findMinors_22 rfl (lv_at hl 0 rfl) ?_
    obtain ⟨v3, ev3, hf⟩ := ob_s hf
    refine px_getR hx hb hts nX8_findMinors_X8 hown hK w ev3 rfl (by decide) mX8_findMinors_20 rfl dX8_findMinors_23 ?_
    refine lv_iconst (v := (0 : Int32)) hx hb dX8_findMinors_26 (by decide) ?_
    refine lv_iconst (v := (1 : Int32)) hx hb dX8_findMinors_27 (by decide) ?_
    obtain ⟨h4, eh4, hf⟩ := ob_s hf
    refine px_iast hx hb hK w eh4 dX8_findMinors_28 (fun H locs w => ?_)
    refine lv_iconst (v := (1 : Int32)) hx hb dX8_findMinors_29 (by decide) ?_
    refine lv_istore_n (lv' := [(1, .int (1 : Int32)), (0, .ref (ι a0))]) hx hb dX8_findMinors_30 rfl hl (by decide) rfl (fun ls hl => ?_)
    have hx31 : ∀ (y5 : Int32) (h6 : Hp) (H : Heap) (locs : List Loc) (ls : Array Slot), (some h6) = some h' → lv_has ls 3 [(0, .ref (ι a0)), (1, .int y5)] → WD D dA b0 ι h6 s.heap H locs → W p l e (headSpec wsX8_findMinors rmX8_findMinors).room s m ([.ref (ι a0)] : List Value).toArray below meth c H locs 0 0 (MQ below (QV D dA b0 ι h') ([.ref (ι a0)] : List Value).toArray s 0 0 (qA b0)) (F0 m 74 ls []) := by
      intro y5 h6 H locs ls hf hl w
      exact W.vret hx hb hr (qv_end hf w hC) w.locs_ok dX8_findMinors_74
    obtain ⟨κ31, eκ31⟩ : ∃ k : Int32 → Hp → Option Hp, k = (fun y5 h6 => some h6) := ⟨_, rfl⟩
    have hlp31 : ∀ (n : Nat) (z43 : Int32) (h44 : Hp) (H : Heap) (locs : List Loc) (ls : Array Slot), lX8_findMinors_31 N a0 n z43 h44 κ31 = some h' → lv_has ls 3 [(0, .ref (ι a0)), (1, .int z43)] → WD D dA b0 ι h44 s.heap H locs → W p l e (headSpec wsX8_findMinors rmX8_findMinors).room s m ([.ref (ι a0)] : List Value).toArray below meth c H locs 0 0 (MQ below (QV D dA b0 ι h') ([.ref (ι a0)] : List Value).toArray s 0 0 (qA b0)) (F0 m 31 ls []) := by
      intro n31
      induction n31 with
      | zero => intro z43 h44 H locs ls hf; exact absurd hf (by rw [lX8_findMinors_31]; exact fun q => nomatch q)
      | succ n31 ih31 =>
        intro z43 h44 H locs ls hf hl w
        rw [lX8_findMinors_31] at hf
        refine lv_iload_n hx hb dX8_findMinors_31 rfl (lv_at hl 1 rfl) ?_
        refine lv_bipush (v := (16 : Int32)) hx hb dX8_findMinors_32 (by decide) ?_
        refine lv_icmp_ge (tgt := 74) hx hb dX8_findMinors_34 (by decide) (fun c45 => ?_) (fun c45 => ?_)
        · have hf := if_t hf c45
          exact hx31 z43 h44 H locs ls (by rw [eκ31] at hf; exact hf) (lv_sub hl [0, 1] rfl) w
        · have hf := if_f hf c45
          refine lv_iconst (v := (1 : Int32)) hx hb dX8_findMinors_37 (by decide) ?_
          refine lv_istore_n (lv' := [(2, .int (1 : Int32)), (0, .ref (ι a0)), (1, .int z43)]) hx hb dX8_findMinors_38 rfl hl (by decide) rfl (fun ls hl => ?_)
          have hx39 : ∀ (y46 : Int32) (h47 : Hp) (H : Heap) (locs : List Loc) (ls : Array Slot), (nm (z43 + (1 : Int32)) fun x48 => lX8_findMinors_31 N a0 n31 x48 h47 κ31) = some h' → lv_has ls 3 [(0, .ref (ι a0)), (1, .int z43), (2, .int y46)] → WD D dA b0 ι h47 s.heap H locs → W p l e (headSpec wsX8_findMinors rmX8_findMinors).room s m ([.ref (ι a0)] : List Value).toArray below meth c H locs 0 0 (MQ below (QV D dA b0 ι h') ([.ref (ι a0)] : List Value).toArray s 0 0 (qA b0)) (F0 m 68 ls []) := by
            intro y46 h47 H locs ls hf hl w
            obtain ⟨x48, ex48, hf⟩ := nm_s hf
            refine lv_iinc (v := x48) (lv' := [(1, .int x48), (0, .ref (ι a0)), (2, .int y46)]) hx hb dX8_findMinors_68 hl (k := 1) rfl (by rw [ex48]; rfl) (by decide) rfl (fun ls hl => ?_)
            refine lv_goto (tgt := 31) hx hb dX8_findMinors_71 (by decide) ?_
            exact ih31 x48 h47 H locs ls hf (lv_sub hl [1, 0] rfl) w
          obtain ⟨κ39, eκ39⟩ : ∃ k : Int32 → Hp → Option Hp, k = (fun y46 h47 => nm (z43 + (1 : Int32)) fun x48 => lX8_findMinors_31 N a0 n31 x48 h47 κ31) := ⟨_, rfl⟩
          have hlp39 : ∀ (n : Nat) (z64 : Int32) (h65 : Hp) (H : Heap) (locs : List Loc) (ls : Array Slot), lX8_findMinors_39 N a0 z43 n z64 h65 κ39 = some h' → lv_has ls 3 [(0, .ref (ι a0)), (1, .int z43), (2, .int z64)] → WD D dA b0 ι h65 s.heap H locs → W p l e (headSpec wsX8_findMinors rmX8_findMinors).room s m ([.ref (ι a0)] : List Value).toArray below meth c H locs 0 0 (MQ below (QV D dA b0 ι h') ([.ref (ι a0)] : List Value).toArray s 0 0 (qA b0)) (F0 m 39 ls []) := by
            intro n39
            induction n39 with
            | zero => intro z64 h65 H locs ls hf; exact absurd hf (by rw [lX8_findMinors_39]; exact fun q => nomatch q)
            | succ n39 ih39 =>
              intro z64 h65 H locs ls hf hl w
              rw [lX8_findMinors_39] at hf
              refine lv_iload_n hx hb dX8_findMinors_39 rfl (lv_at hl 2 rfl) ?_
              refine lv_bipush (v := (16 : Int32)) hx hb dX8_findMinors_40 (by decide) ?_
              refine lv_icmp_ge (tgt := 68) hx hb dX8_findMinors_42 (by decide) (fun c66 => ?_) (fun c66 => ?_)
              · have hf := if_t hf c66
                exact hx39 z64 h65 H locs ls (by rw [eκ39] at hf; exact hf) (lv_sub hl [0, 1, 2] rfl) w
              · have hf := if_f hf c66
                refine lv_iload_n hx hb dX8_findMinors_45 rfl (lv_at hl 1 rfl) ?_
                obtain ⟨⟨v67, h68⟩, eh68, hf⟩ := ob_s hf
                dsimp only at hf
                refine px_callSi (As := [.int z43]) (rest := []) ⟨hx, hb, hml, hown, hts⟩ hC w (kX8_bits l D dA b0 ι N z43 h65 v67 h68 eh68) (va_cwS 1 hts gX8_findMinors_X8_bits rfl rfl rfl (by decide +kernel) ⟨Nat.le_of_ble_eq_true rfl, Nat.le_of_ble_eq_true rfl⟩) rfl hl.1 rfl (Nat.le_of_ble_eq_true rfl) dX8_findMinors_46 ⟨Nat.le_of_ble_eq_true rfl, Nat.le_of_ble_eq_true rfl⟩ (fun H locs w => ?_)
                refine lv_iload_n hx hb dX8_findMinors_49 rfl (lv_at hl 2 rfl) ?_
                obtain ⟨⟨v69, h70⟩, eh70, hf⟩ := ob_s hf
                dsimp only at hf
                refine px_callSi (As := [.int z64]) (rest := [.int v67]) ⟨hx, hb, hml, hown, hts⟩ hC w (kX8_bits l D dA b0 ι N z64 h68 v69 h70 eh70) (va_cwS 1 hts gX8_findMinors_X8_bits rfl rfl rfl (by decide +kernel) ⟨Nat.le_of_ble_eq_true rfl, Nat.le_of_ble_eq_true rfl⟩) rfl hl.1 rfl (Nat.le_of_ble_eq_true rfl) dX8_findMinors_50 ⟨Nat.le_of_ble_eq_true rfl, Nat.le_of_ble_eq_true rfl⟩ (fun H locs w => ?_)
                have hj62 : ∀ (h72 : Hp) (H : Heap) (locs : List Loc) (ls : Array Slot), (nm (z64 + (1 : Int32)) fun x73 => lX8_findMinors_39 N a0 z43 n39 x73 h72 κ39) = some h' → lv_has ls 3 [(0, .ref (ι a0)), (1, .int z43), (2, .int z64)] → WD D dA b0 ι h72 s.heap H locs → W p l e (headSpec wsX8_findMinors rmX8_findMinors).room s m ([.ref (ι a0)] : List Value).toArray below meth c H locs 0 0 (MQ below (QV D dA b0 ι h') ([.ref (ι a0)] : List Value).toArray s 0 0 (qA b0)) (F0 m 62 ls []) := by
                  intro h72 H locs ls hf hl w
                  obtain ⟨x73, ex73, hf⟩ := nm_s hf
                  refine lv_iinc (v := x73) (lv' := [(2, .int x73), (0, .ref (ι a0)), (1, .int z43)]) hx hb dX8_findMinors_62 hl (k := 2) rfl (by rw [ex73]; rfl) (by decide) rfl (fun ls hl => ?_)
                  refine lv_goto (tgt := 39) hx hb dX8_findMinors_65 (by decide) ?_
                  exact ih39 x73 h72 H locs ls hf (lv_sub hl [1, 2, 0] rfl) w
                obtain ⟨j71, ej71, hf⟩ := jn_s hf
                refine lv_icmp_ne (tgt := 62) hx hb dX8_findMinors_53 (by decide) (fun c74 => ?_) (fun c74 => ?_)
                · have hf := if_f hf c74
                  exact hj62 h70 H locs ls (by rw [ej71] at hf; exact hf) (lv_sub hl [0, 1, 2] rfl) w
                · have hf := if_t hf c74
                  refine lv_aload_n hx hb dX8_findMinors_56 rfl (lv_at hl 0 rfl) ?_
                  refine lv_iload_n hx hb dX8_findMinors_57 rfl (lv_at hl 1 rfl) ?_
                  refine lv_iload_n hx hb dX8_findMinors_58 rfl (lv_at hl 2 rfl) ?_
                  obtain ⟨u77, eu77, hf⟩ := ob_s hf
                  obtain ⟨h76, eh76, hf⟩ := ob_s hf
                  refine px_callVv (As := [.int z43, .int z64]) (rest := []) ⟨hx, hb, hml, hown, hts⟩ hC w (kX8_findMinor l D dA b0 ι N a0 z43 z64 h70 h76 eh76) (cwV 2 hts gX8_findMinors_X8_findMinor rfl rfl rfl (by decide +kernel) ⟨Nat.le_of_ble_eq_true rfl, Nat.le_of_ble_eq_true rfl⟩) eu77 rfl rfl hl.1 rfl (Nat.le_of_ble_eq_true rfl) dX8_findMinors_59 ⟨Nat.le_of_ble_eq_true rfl, Nat.le_of_ble_eq_true rfl⟩ (fun H locs w => ?_)
                  exact hj62 h76 H locs ls (by rw [ej71] at hf; exact hf) (lv_sub hl [0, 1, 2] rfl) w
          exact hlp39 N (1 : Int32) h44 H locs ls (by rw [eκ39]; exact hf) (lv_sub hl [1, 2, 0] rfl) w
    exact hlp31 N (1 : Int32) h4 H locs ls (by rw [eκ31]; exact hf) (lv_sub hl [1, 0] rfl) w
  obtain ⟨κ2, eκ2⟩ : ∃ k : Int32 → Hp → Option Hp, k = (fun y1 h2 => (gR h2 a0 10 6).bind fun v3 => (aIs h2 v3 (0 : Int32) (1 : Int32)).bind fun h4 => lX8_findMinors_31 N a0 N (1 : Int32) h4 (fun y5 h6 => some h6)) := ⟨_, rfl⟩
  have hlp2 : ∀ (n : Nat) (z85 : Int32) (h86 : Hp) (H : Heap) (locs : List Loc) (ls : Array Slot), lX8_findMinors_2 N a0 n z85 h86 κ2 = some h' → lv_has ls 3 [(0, .ref (ι a0)), (1, .int z85)] → WD D dA b0 ι h86 s.heap H locs → W p l e (headSpec wsX8_findMinors rmX8_findMinors).room s m ([.ref (ι a0)] : List Value).toArray below meth c H locs 0 0 (MQ below (QV D dA b0 ι h') ([.ref (ι a0)] : List Value).toArray s 0 0 (qA b0)) (F0 m 2 ls []) := by
    intro n2
    induction n2 with
    | zero => intro z85 h86 H locs ls hf; exact absurd hf (by rw [lX8_findMinors_2]; exact fun q => nomatch q)
    | succ n2 ih2 =>
      intro z85 h86 H locs ls hf hl w
      rw [lX8_findMinors_2] at hf
      refine lv_iload_n hx hb dX8_findMinors_2 rfl (lv_at hl 1 rfl) ?_
      refine lv_sipush (v := (3328 : Int32)) hx hb dX8_findMinors_3 (by decide) ?_
      refine lv_icmp_ge (tgt := 22) hx hb dX8_findMinors_6 (by decide) (fun c87 => ?_) (fun c87 => ?_)
      · have hf := if_t hf c87
        exact hx2 z85 h86 H locs ls (by rw [eκ2] at hf; exact hf) (lv_sub hl [0, 1] rfl) w
      · have hf := if_f hf c87
        refine lv_aload_n hx hb dX8_findMinors_9 rfl (lv_at hl 0 rfl) ?_
        obtain ⟨v88, ev88, hf⟩ := ob_s hf
        refine px_getR hx hb hts nX8_findMinors_X8 hown hK w ev88 rfl (by decide) mX8_findMinors_20 rfl dX8_findMinors_10 ?_
        refine lv_iload_n hx hb dX8_findMinors_13 rfl (lv_at hl 1 rfl) ?_
        refine lv_iconst (v := (0 : Int32)) hx hb dX8_findMinors_14 (by decide) ?_
        obtain ⟨h89, eh89, hf⟩ := ob_s hf
        refine px_iast hx hb hK w eh89 dX8_findMinors_15 (fun H locs w => ?_)
        obtain ⟨x90, ex90, hf⟩ := nm_s hf
        refine lv_iinc (v := x90) (lv' := [(1, .int x90), (0, .ref (ι a0))]) hx hb dX8_findMinors_16 hl (k := 1) rfl (by rw [ex90]; rfl) (by decide) rfl (fun ls hl => ?_)
        refine lv_goto (tgt := 2) hx hb dX8_findMinors_19 (by decide) ?_
        exact ih2 x90 h89 H locs ls hf (lv_sub hl [1, 0] rfl) w
  exact hlp2 N (0 : Int32) h H locs ls (by rw [eκ2]; exact hf) (lv_sub hl [1, 0] rfl) w
theorem nX8_loadEntries_X8 : ∀ w ∈ wsX80, w ∈ wsX8_loadEntries := by decide +kernel
theorem mX8_loadEntries_23 : Cond.fieldLink RX8 23 "NormalFormsModel" "work" "[I" ∈ wsX8_loadEntries := by decide +kernel
theorem mX8_loadEntries_7 : Cond.fieldLink RX8 7 "NormalFormsModel" "entries" "[I" ∈ wsX8_loadEntries := by decide +kernel
abbrev rmX8_loadEntries : Room := { frames := 4, cells := 0, slots := 0, locals := 89 }
set_option maxHeartbeats 4000000 in
set_option maxRecDepth 100000 in
theorem kX8_loadEntries (l : Launch) (D : va_G) (dA : Nat → ClassId) (b0 : Nat) (ι : Nat → Nat) (N : Nat) (a0 : Nat) (h : Hp) (h' : Hp) (hf : fX8_loadEntries N a0 h = some h') : Met l yX8_loadEntries wsX8_loadEntries rmX8_loadEntries (PC D dA b0 ι [.ref (ι a0)] h) (QV D dA b0 ι h') 0 0 (qA b0) := by
  unfold fX8_loadEntries at hf
  refine Met.ofW (cc := cX8_loadEntries) (maxL := 2) (ret := none) (by decide +kernel) rfl ?_
  intro p e s m args below meth c s₁ B hml hv
  obtain ⟨rfl, w0⟩ := hv
  have hx := B.exec
  have hb := B.bytes
  have hr := B.returns
  have hts := atoms_spec (ws := wsX8_loadEntries) B.pre
  have hown : s.vm.findClass RX8 = some m.cls := findClass_of_methodNamed B.named
  have hlocks := B.notSynchronized
  have hC := w0.c
  have hK := hC.1
  have w := WD.start w0
  clear w0
  have hl := lv_entry ([.ref (ι a0)]) (n := 2) (Nat.le_of_ble_eq_true rfl)
  rw [lg_entry_eq]
  generalize (lg_sl ([.ref (ι a0)]) ++ List.replicate (2 - (lg_sl ([.ref (ι a0)])).length) Slot.unset).toArray = ls at hl ⊢
  have hl : lv_has ls 2 [(0, .ref (ι a0))] := hl
  obtain ⟨H, hH⟩ : ∃ H : Heap, H = s.heap := ⟨_, rfl⟩
  obtain ⟨locs, hlo⟩ : ∃ locs : List Loc, locs = [] := ⟨_, rfl⟩
  rw [← hlo]
  have w : WD D dA b0 ι h s.heap H locs := by rw [hH, hlo]; exact w
  refine px_start hH ?_
  refine lv_iconst (v := (0 : Int32)) hx hb dX8_loadEntries_0 (by decide) ?_
  refine lv_istore_n (lv' := [(1, .int (0 : Int32)), (0, .ref (ι a0))]) hx hb dX8_loadEntries_1 rfl hl (by decide) rfl (fun ls hl => ?_)
  have hx2 : ∀ (y1 : Int32) (h2 : Hp) (H : Heap) (locs : List Loc) (ls : Array Slot), ((cK h2 a0 10).bind fun u5 => (fX8_findMinors N a0 h2).bind fun h4 => some h4) = some h' → lv_has ls 2 [(0, .ref (ι a0)), (1, .int y1)] → WD D dA b0 ι h2 s.heap H locs → W p l e (headSpec wsX8_loadEntries rmX8_loadEntries).room s m ([.ref (ι a0)] : List Value).toArray below meth c H locs 0 0 (MQ below (QV D dA b0 ι h') ([.ref (ι a0)] : List Value).toArray s 0 0 (qA b0)) (F0 m 26 ls []) := by
    intro y1 h2 H locs ls hf hl w
    refine lv_aload_n hx hb dX8_loadEntries_26 rfl (lv_at hl 0 rfl) ?_
    obtain ⟨u5, eu5, hf⟩ := ob_s hf
    obtain ⟨h4, eh4, hf⟩ := ob_s hf
    refine px_callVv (As := []) (rest := []) ⟨hx, hb, hml, hown, hts⟩ hC w (kX8_findMinors l D dA b0 ι N a0 h2 h4 eh4) (cwV 0 hts gX8_loadEntries_X8_findMinors rfl rfl rfl (by decide +kernel) ⟨Nat.le_of_ble_eq_true rfl, Nat.le_of_ble_eq_true rfl⟩) eu5 rfl rfl hl.1 rfl (Nat.le_of_ble_eq_true rfl) dX8_loadEntries_27 ⟨Nat.le_of_ble_eq_true rfl, Nat.le_of_ble_eq_true rfl⟩ (fun H locs w => ?_)
    exact W.vret hx hb hr (qv_end hf w hC) w.locs_ok dX8_loadEntries_30
  obtain ⟨κ2, eκ2⟩ : ∃ k : Int32 → Hp → Option Hp, k = (fun y1 h2 => (cK h2 a0 10).bind fun u5 => (fX8_findMinors N a0 h2).bind fun h4 => some h4) := ⟨_, rfl⟩
  have hlp2 : ∀ (n : Nat) (z15 : Int32) (h16 : Hp) (H : Heap) (locs : List Loc) (ls : Array Slot), lX8_loadEntries_2 N a0 n z15 h16 κ2 = some h' → lv_has ls 2 [(0, .ref (ι a0)), (1, .int z15)] → WD D dA b0 ι h16 s.heap H locs → W p l e (headSpec wsX8_loadEntries rmX8_loadEntries).room s m ([.ref (ι a0)] : List Value).toArray below meth c H locs 0 0 (MQ below (QV D dA b0 ι h') ([.ref (ι a0)] : List Value).toArray s 0 0 (qA b0)) (F0 m 2 ls []) := by
    intro n2
    induction n2 with
    | zero => intro z15 h16 H locs ls hf; exact absurd hf (by rw [lX8_loadEntries_2]; exact fun q => nomatch q)
    | succ n2 ih2 =>
      intro z15 h16 H locs ls hf hl w
      rw [lX8_loadEntries_2] at hf
      refine lv_iload_n hx hb dX8_loadEntries_2 rfl (lv_at hl 1 rfl) ?_
      refine lv_bipush (v := (64 : Int32)) hx hb dX8_loadEntries_3 (by decide) ?_
      refine lv_icmp_ge (tgt := 26) hx hb dX8_loadEntries_5 (by decide) (fun c17 => ?_) (fun c17 => ?_)
      · have hf := if_t hf c17
        exact hx2 z15 h16 H locs ls (by rw [eκ2] at hf; exact hf) (lv_sub hl [0, 1] rfl) w
      · have hf := if_f hf c17
        refine lv_aload_n hx hb dX8_loadEntries_8 rfl (lv_at hl 0 rfl) ?_
        obtain ⟨v18, ev18, hf⟩ := ob_s hf
        refine px_getR hx hb hts nX8_loadEntries_X8 hown hK w ev18 rfl (by decide) mX8_loadEntries_23 rfl dX8_loadEntries_9 ?_
        refine lv_iload_n hx hb dX8_loadEntries_12 rfl (lv_at hl 1 rfl) ?_
        refine lv_aload_n hx hb dX8_loadEntries_13 rfl (lv_at hl 0 rfl) ?_
        obtain ⟨v19, ev19, hf⟩ := ob_s hf
        refine px_getR hx hb hts nX8_loadEntries_X8 hown hK w ev19 rfl (by decide) mX8_loadEntries_7 rfl dX8_loadEntries_14 ?_
        refine lv_iload_n hx hb dX8_loadEntries_17 rfl (lv_at hl 1 rfl) ?_
        obtain ⟨v20, ev20, hf⟩ := ob_s hf
        refine px_iald hx hb hK w ev20 dX8_loadEntries_18 ?_
        obtain ⟨h21, eh21, hf⟩ := ob_s hf
        refine px_iast hx hb hK w eh21 dX8_loadEntries_19 (fun H locs w => ?_)
        obtain ⟨x22, ex22, hf⟩ := nm_s hf
        refine lv_iinc (v := x22) (lv' := [(1, .int x22), (0, .ref (ι a0))]) hx hb dX8_loadEntries_20 hl (k := 1) rfl (by rw [ex22]; rfl) (by decide) rfl (fun ls hl => ?_)
        refine lv_goto (tgt := 2) hx hb dX8_loadEntries_23 (by decide) ?_
        exact ih2 x22 h21 H locs ls hf (lv_sub hl [1, 0] rfl) w
  exact hlp2 N (0 : Int32) h H locs ls (by rw [eκ2]; exact hf) (lv_sub hl [1, 0] rfl) w
theorem nX8_isMinor_X8 : ∀ w ∈ wsX80, w ∈ wsX8_isMinor := by decide +kernel
theorem mX8_isMinor_20 : Cond.fieldLink RX8 20 "NormalFormsModel" "minors" "[I" ∈ wsX8_isMinor := by decide +kernel
abbrev rmX8_isMinor : Room := { frames := 1, cells := 0, slots := 0, locals := 12 }
set_option maxHeartbeats 4000000 in
set_option maxRecDepth 100000 in
theorem kX8_isMinor (l : Launch) (D : va_G) (dA : Nat → ClassId) (b0 : Nat) (ι : Nat → Nat) (N : Nat) (a0 : Nat) (a1 : Int32) (a2 : Int32) (h : Hp) (r : Int32) (h' : Hp) (hf : fX8_isMinor N a0 a1 a2 h = some (r, h')) : Met l yX8_isMinor wsX8_isMinor rmX8_isMinor (PC D dA b0 ι [.ref (ι a0), .int a1, .int a2] h) (QI D dA b0 ι r h') 0 0 (qA b0) := by
  unfold fX8_isMinor at hf
  refine Met.ofW (cc := cX8_isMinor) (maxL := 5) (ret := (some .boolean)) (by decide +kernel) rfl ?_
  intro p e s m args below meth c s₁ B hml hv
  obtain ⟨rfl, w0⟩ := hv
  have hx := B.exec
  have hb := B.bytes
  have hr := B.returns
  have hts := atoms_spec (ws := wsX8_isMinor) B.pre
  have hown : s.vm.findClass RX8 = some m.cls := findClass_of_methodNamed B.named
  have hlocks := B.notSynchronized
  have hC := w0.c
  have hK := hC.1
  have w := WD.start w0
  clear w0
  have hl := lv_entry ([.ref (ι a0), .int a1, .int a2]) (n := 5) (Nat.le_of_ble_eq_true rfl)
  rw [lg_entry_eq]
  generalize (lg_sl ([.ref (ι a0), .int a1, .int a2]) ++ List.replicate (5 - (lg_sl ([.ref (ι a0), .int a1, .int a2])).length) Slot.unset).toArray = ls at hl ⊢
  have hl : lv_has ls 5 [(0, .ref (ι a0)), (1, .int a1), (2, .int a2)] := hl
  obtain ⟨H, hH⟩ : ∃ H : Heap, H = s.heap := ⟨_, rfl⟩
  obtain ⟨locs, hlo⟩ : ∃ locs : List Loc, locs = [] := ⟨_, rfl⟩
  rw [← hlo]
  have w : WD D dA b0 ι h s.heap H locs := by rw [hH, hlo]; exact w
  refine px_start hH ?_
  refine lv_iconst (v := (0 : Int32)) hx hb dX8_isMinor_0 (by decide) ?_
  refine lv_istore_n (lv' := [(3, .int (0 : Int32)), (0, .ref (ι a0)), (1, .int a1), (2, .int a2)]) hx hb dX8_isMinor_1 rfl hl (by decide) rfl (fun ls hl => ?_)
  refine lv_iconst (v := (0 : Int32)) hx hb dX8_isMinor_2 (by decide) ?_
  refine lv_istore (lv' := [(4, .int (0 : Int32)), (3, .int (0 : Int32)), (0, .ref (ι a0)), (1, .int a1), (2, .int a2)]) hx hb dX8_isMinor_3 hl (by decide) rfl (fun ls hl => ?_)
  have hx5 : ∀ (y1 : Int32) (y2 : Int32) (h3 : Hp) (H : Heap) (locs : List Loc) (ls : Array Slot), (if y1 = 0 ∨ y1 = 1 then some (y1, h3) else none) = some (r, h') → lv_has ls 5 [(0, .ref (ι a0)), (1, .int a1), (2, .int a2), (3, .int y1), (4, .int y2)] → WD D dA b0 ι h3 s.heap H locs → W p l e (headSpec wsX8_isMinor rmX8_isMinor).room s m ([.ref (ι a0), .int a1, .int a2] : List Value).toArray below meth c H locs 0 0 (MQ below (QI D dA b0 ι r h') ([.ref (ι a0), .int a1, .int a2] : List Value).toArray s 0 0 (qA b0)) (F0 m 48 ls []) := by
    intro y1 y2 h3 H locs ls hf hl w
    refine lv_iload_n hx hb dX8_isMinor_48 rfl (lv_at hl 3 rfl) ?_
    obtain ⟨hz, hf⟩ := if_s hf
    exact W.zret hx hb hr (nar01 hz) (qi_end hf w hC) w.locs_ok dX8_isMinor_49
  obtain ⟨κ5, eκ5⟩ : ∃ k : Int32 → Int32 → Hp → Option (Int32 × Hp), k = (fun y1 y2 h3 => if y1 = 0 ∨ y1 = 1 then some (y1, h3) else none) := ⟨_, rfl⟩
  have hlp5 : ∀ (n : Nat) (z19 : Int32) (z20 : Int32) (h21 : Hp) (H : Heap) (locs : List Loc) (ls : Array Slot), lX8_isMinor_5 N a0 a1 a2 n z19 z20 h21 κ5 = some (r, h') → lv_has ls 5 [(0, .ref (ι a0)), (1, .int a1), (2, .int a2), (3, .int z19), (4, .int z20)] → WD D dA b0 ι h21 s.heap H locs → W p l e (headSpec wsX8_isMinor rmX8_isMinor).room s m ([.ref (ι a0), .int a1, .int a2] : List Value).toArray below meth c H locs 0 0 (MQ below (QI D dA b0 ι r h') ([.ref (ι a0), .int a1, .int a2] : List Value).toArray s 0 0 (qA b0)) (F0 m 5 ls []) := by
    intro n5
    induction n5 with
    | zero => intro z19 z20 h21 H locs ls hf; exact absurd hf (by rw [lX8_isMinor_5]; exact fun q => nomatch q)
    | succ n5 ih5 =>
      intro z19 z20 h21 H locs ls hf hl w
      rw [lX8_isMinor_5] at hf
      refine lv_iload hx hb dX8_isMinor_5 (lv_at hl 4 rfl) ?_
      refine lv_bipush (v := (13 : Int32)) hx hb dX8_isMinor_7 (by decide) ?_
      refine lv_icmp_ge (tgt := 48) hx hb dX8_isMinor_9 (by decide) (fun c22 => ?_) (fun c22 => ?_)
      · have hf := if_t hf c22
        exact hx5 z19 z20 h21 H locs ls (by rw [eκ5] at hf; exact hf) (lv_sub hl [0, 1, 2, 3, 4] rfl) w
      · have hf := if_f hf c22
        refine lv_iload_n hx hb dX8_isMinor_12 rfl (lv_at hl 3 rfl) ?_
        have hj41 : ∀ (t25 : Int32) (h24 : Hp) (H : Heap) (locs : List Loc) (ls : Array Slot), (nm (z20 + (1 : Int32)) fun x26 => lX8_isMinor_5 N a0 a1 a2 n5 t25 x26 h24 κ5) = some (r, h') → lv_has ls 5 [(0, .ref (ι a0)), (1, .int a1), (2, .int a2), (3, .int z19), (4, .int z20)] → WD D dA b0 ι h24 s.heap H locs → W p l e (headSpec wsX8_isMinor rmX8_isMinor).room s m ([.ref (ι a0), .int a1, .int a2] : List Value).toArray below meth c H locs 0 0 (MQ below (QI D dA b0 ι r h') ([.ref (ι a0), .int a1, .int a2] : List Value).toArray s 0 0 (qA b0)) (F0 m 41 ls [.int t25]) := by
          intro t25 h24 H locs ls hf hl w
          refine lv_istore_n (lv' := [(3, .int t25), (0, .ref (ι a0)), (1, .int a1), (2, .int a2), (4, .int z20)]) hx hb dX8_isMinor_41 rfl hl (by decide) rfl (fun ls hl => ?_)
          obtain ⟨x26, ex26, hf⟩ := nm_s hf
          refine lv_iinc (v := x26) (lv' := [(4, .int x26), (3, .int t25), (0, .ref (ι a0)), (1, .int a1), (2, .int a2)]) hx hb dX8_isMinor_42 hl (k := 4) rfl (by rw [ex26]; rfl) (by decide) rfl (fun ls hl => ?_)
          refine lv_goto (tgt := 5) hx hb dX8_isMinor_45 (by decide) ?_
          exact ih5 t25 x26 h24 H locs ls hf (lv_sub hl [2, 3, 4, 1, 0] rfl) w
        obtain ⟨j23, ej23, hf⟩ := jn_s hf
        have hj36 : ∀ (h28 : Hp) (H : Heap) (locs : List Loc) (ls : Array Slot), (j23 (1 : Int32) h28) = some (r, h') → lv_has ls 5 [(0, .ref (ι a0)), (1, .int a1), (2, .int a2), (3, .int z19), (4, .int z20)] → WD D dA b0 ι h28 s.heap H locs → W p l e (headSpec wsX8_isMinor rmX8_isMinor).room s m ([.ref (ι a0), .int a1, .int a2] : List Value).toArray below meth c H locs 0 0 (MQ below (QI D dA b0 ι r h') ([.ref (ι a0), .int a1, .int a2] : List Value).toArray s 0 0 (qA b0)) (F0 m 36 ls []) := by
          intro h28 H locs ls hf hl w
          refine lv_iconst (v := (1 : Int32)) hx hb dX8_isMinor_36 (by decide) ?_
          refine lv_goto (tgt := 41) hx hb dX8_isMinor_37 (by decide) ?_
          exact hj41 (1 : Int32) h28 H locs ls (by rw [ej23] at hf; exact hf) (lv_sub hl [0, 1, 2, 3, 4] rfl) w
        obtain ⟨j27, ej27, hf⟩ := jn_s hf
        refine lv_if_ne (tgt := 36) hx hb dX8_isMinor_13 (by decide) (fun c29 => ?_) (fun c29 => ?_)
        · have hf := if_f hf c29
          exact hj36 h21 H locs ls (by rw [ej27] at hf; exact hf) (lv_sub hl [0, 1, 2, 3, 4] rfl) w
        · have hf := if_t hf c29
          refine lv_aload_n hx hb dX8_isMinor_16 rfl (lv_at hl 0 rfl) ?_
          obtain ⟨v30, ev30, hf⟩ := ob_s hf
          refine px_getR hx hb hts nX8_isMinor_X8 hown hK w ev30 rfl (by decide) mX8_isMinor_20 rfl dX8_isMinor_17 ?_
          refine lv_bipush (v := (13 : Int32)) hx hb dX8_isMinor_20 (by decide) ?_
          refine lv_bipush (v := (16 : Int32)) hx hb dX8_isMinor_22 (by decide) ?_
          refine lv_iload_n hx hb dX8_isMinor_24 rfl (lv_at hl 1 rfl) ?_
          refine lv_imul hx hb dX8_isMinor_25 ?_
          refine lv_iload_n hx hb dX8_isMinor_26 rfl (lv_at hl 2 rfl) ?_
          refine lv_iadd hx hb dX8_isMinor_27 ?_
          refine lv_imul hx hb dX8_isMinor_28 ?_
          refine lv_iload hx hb dX8_isMinor_29 (lv_at hl 4 rfl) ?_
          refine lv_iadd hx hb dX8_isMinor_31 ?_
          obtain ⟨v31, ev31, hf⟩ := ob_s hf
          refine px_iald hx hb hK w ev31 dX8_isMinor_32 ?_
          refine lv_if_eq (tgt := 40) hx hb dX8_isMinor_33 (by decide) (fun c32 => ?_) (fun c32 => ?_)
          · have hf := if_t hf c32
            refine lv_iconst (v := (0 : Int32)) hx hb dX8_isMinor_40 (by decide) ?_
            exact hj41 (0 : Int32) h21 H locs ls (by rw [ej23] at hf; exact hf) (lv_sub hl [0, 1, 2, 3, 4] rfl) w
          · have hf := if_f hf c32
            exact hj36 h21 H locs ls (by rw [ej27] at hf; exact hf) (lv_sub hl [0, 1, 2, 3, 4] rfl) w
  exact hlp5 N (0 : Int32) (0 : Int32) h H locs ls (by rw [eκ5]; exact hf) (lv_sub hl [2, 3, 4, 1, 0] rfl) w
abbrev rmX8_rankNow : Room := { frames := 2, cells := 0, slots := 0, locals := 36 }
set_option maxHeartbeats 4000000 in
set_option maxRecDepth 100000 in
theorem kX8_rankNow (l : Launch) (D : va_G) (dA : Nat → ClassId) (b0 : Nat) (ι : Nat → Nat) (N : Nat) (a0 : Nat) (h : Hp) (r : Int32) (h' : Hp) (hf : fX8_rankNow N a0 h = some (r, h')) : Met l yX8_rankNow wsX8_rankNow rmX8_rankNow (PC D dA b0 ι [.ref (ι a0)] h) (QI D dA b0 ι r h') 0 0 (qA b0) := by
  unfold fX8_rankNow at hf
  refine Met.ofW (cc := cX8_rankNow) (maxL := 4) (ret := (some .int)) (by decide +kernel) rfl ?_
  intro p e s m args below meth c s₁ B hml hv
  obtain ⟨rfl, w0⟩ := hv
  have hx := B.exec
  have hb := B.bytes
  have hr := B.returns
  have hts := atoms_spec (ws := wsX8_rankNow) B.pre
  have hown : s.vm.findClass RX8 = some m.cls := findClass_of_methodNamed B.named
  have hlocks := B.notSynchronized
  have hC := w0.c
  have hK := hC.1
  have w := WD.start w0
  clear w0
  have hl := lv_entry ([.ref (ι a0)]) (n := 4) (Nat.le_of_ble_eq_true rfl)
  rw [lg_entry_eq]
  generalize (lg_sl ([.ref (ι a0)]) ++ List.replicate (4 - (lg_sl ([.ref (ι a0)])).length) Slot.unset).toArray = ls at hl ⊢
  have hl : lv_has ls 4 [(0, .ref (ι a0))] := hl
  obtain ⟨H, hH⟩ : ∃ H : Heap, H = s.heap := ⟨_, rfl⟩
  obtain ⟨locs, hlo⟩ : ∃ locs : List Loc, locs = [] := ⟨_, rfl⟩
  rw [← hlo]
  have w : WD D dA b0 ι h s.heap H locs := by rw [hH, hlo]; exact w
  refine px_start hH ?_
  refine lv_iconst (v := (0 : Int32)) hx hb dX8_rankNow_0 (by decide) ?_
  refine lv_istore_n (lv' := [(1, .int (0 : Int32)), (0, .ref (ι a0))]) hx hb dX8_rankNow_1 rfl hl (by decide) rfl (fun ls hl => ?_)
  refine lv_iconst (v := (0 : Int32)) hx hb dX8_rankNow_2 (by decide) ?_
  refine lv_istore_n (lv' := [(2, .int (0 : Int32)), (1, .int (0 : Int32)), (0, .ref (ι a0))]) hx hb dX8_rankNow_3 rfl hl (by decide) rfl (fun ls hl => ?_)
  have hx4 : ∀ (y1 : Int32) (y2 : Int32) (h3 : Hp) (H : Heap) (locs : List Loc) (ls : Array Slot), (some (y1, h3)) = some (r, h') → lv_has ls 4 [(0, .ref (ι a0)), (1, .int y1), (2, .int y2)] → WD D dA b0 ι h3 s.heap H locs → W p l e (headSpec wsX8_rankNow rmX8_rankNow).room s m ([.ref (ι a0)] : List Value).toArray below meth c H locs 0 0 (MQ below (QI D dA b0 ι r h') ([.ref (ι a0)] : List Value).toArray s 0 0 (qA b0)) (F0 m 63 ls []) := by
    intro y1 y2 h3 H locs ls hf hl w
    refine lv_iload_n hx hb dX8_rankNow_63 rfl (lv_at hl 1 rfl) ?_
    exact W.iret hx hb hr (qi_end hf w hC) w.locs_ok dX8_rankNow_64
  obtain ⟨κ4, eκ4⟩ : ∃ k : Int32 → Int32 → Hp → Option (Int32 × Hp), k = (fun y1 y2 h3 => some (y1, h3)) := ⟨_, rfl⟩
  have hlp4 : ∀ (n : Nat) (z58 : Int32) (z59 : Int32) (h60 : Hp) (H : Heap) (locs : List Loc) (ls : Array Slot), lX8_rankNow_4 N a0 n z58 z59 h60 κ4 = some (r, h') → lv_has ls 4 [(0, .ref (ι a0)), (1, .int z58), (2, .int z59)] → WD D dA b0 ι h60 s.heap H locs → W p l e (headSpec wsX8_rankNow rmX8_rankNow).room s m ([.ref (ι a0)] : List Value).toArray below meth c H locs 0 0 (MQ below (QI D dA b0 ι r h') ([.ref (ι a0)] : List Value).toArray s 0 0 (qA b0)) (F0 m 4 ls []) := by
    intro n4
    induction n4 with
    | zero => intro z58 z59 h60 H locs ls hf; exact absurd hf (by rw [lX8_rankNow_4]; exact fun q => nomatch q)
    | succ n4 ih4 =>
      intro z58 z59 h60 H locs ls hf hl w
      rw [lX8_rankNow_4] at hf
      refine lv_iload_n hx hb dX8_rankNow_4 rfl (lv_at hl 2 rfl) ?_
      refine lv_bipush (v := (16 : Int32)) hx hb dX8_rankNow_5 (by decide) ?_
      refine lv_icmp_ge (tgt := 63) hx hb dX8_rankNow_7 (by decide) (fun c61 => ?_) (fun c61 => ?_)
      · have hf := if_t hf c61
        exact hx4 z58 z59 h60 H locs ls (by rw [eκ4] at hf; exact hf) (lv_sub hl [0, 1, 2] rfl) w
      · have hf := if_f hf c61
        refine lv_iconst (v := (0 : Int32)) hx hb dX8_rankNow_10 (by decide) ?_
        refine lv_istore_n (lv' := [(3, .int (0 : Int32)), (0, .ref (ι a0)), (1, .int z58), (2, .int z59)]) hx hb dX8_rankNow_11 rfl hl (by decide) rfl (fun ls hl => ?_)
        have hx12 : ∀ (y62 : Int32) (y63 : Int32) (h64 : Hp) (H : Heap) (locs : List Loc) (ls : Array Slot), (nm (z59 + (1 : Int32)) fun x65 => lX8_rankNow_4 N a0 n4 y62 x65 h64 κ4) = some (r, h') → lv_has ls 4 [(0, .ref (ι a0)), (1, .int y62), (2, .int z59), (3, .int y63)] → WD D dA b0 ι h64 s.heap H locs → W p l e (headSpec wsX8_rankNow rmX8_rankNow).room s m ([.ref (ι a0)] : List Value).toArray below meth c H locs 0 0 (MQ below (QI D dA b0 ι r h') ([.ref (ι a0)] : List Value).toArray s 0 0 (qA b0)) (F0 m 57 ls []) := by
          intro y62 y63 h64 H locs ls hf hl w
          obtain ⟨x65, ex65, hf⟩ := nm_s hf
          refine lv_iinc (v := x65) (lv' := [(2, .int x65), (0, .ref (ι a0)), (1, .int y62), (3, .int y63)]) hx hb dX8_rankNow_57 hl (k := 2) rfl (by rw [ex65]; rfl) (by decide) rfl (fun ls hl => ?_)
          refine lv_goto (tgt := 4) hx hb dX8_rankNow_60 (by decide) ?_
          exact ih4 y62 x65 h64 H locs ls hf (lv_sub hl [1, 2, 0] rfl) w
        obtain ⟨κ12, eκ12⟩ : ∃ k : Int32 → Int32 → Hp → Option (Int32 × Hp), k = (fun y62 y63 h64 => nm (z59 + (1 : Int32)) fun x65 => lX8_rankNow_4 N a0 n4 y62 x65 h64 κ4) := ⟨_, rfl⟩
        have hlp12 : ∀ (n : Nat) (z89 : Int32) (z90 : Int32) (h91 : Hp) (H : Heap) (locs : List Loc) (ls : Array Slot), lX8_rankNow_12 N a0 z59 n z89 z90 h91 κ12 = some (r, h') → lv_has ls 4 [(0, .ref (ι a0)), (1, .int z89), (2, .int z59), (3, .int z90)] → WD D dA b0 ι h91 s.heap H locs → W p l e (headSpec wsX8_rankNow rmX8_rankNow).room s m ([.ref (ι a0)] : List Value).toArray below meth c H locs 0 0 (MQ below (QI D dA b0 ι r h') ([.ref (ι a0)] : List Value).toArray s 0 0 (qA b0)) (F0 m 12 ls []) := by
          intro n12
          induction n12 with
          | zero => intro z89 z90 h91 H locs ls hf; exact absurd hf (by rw [lX8_rankNow_12]; exact fun q => nomatch q)
          | succ n12 ih12 =>
            intro z89 z90 h91 H locs ls hf hl w
            rw [lX8_rankNow_12] at hf
            refine lv_iload_n hx hb dX8_rankNow_12 rfl (lv_at hl 3 rfl) ?_
            refine lv_bipush (v := (16 : Int32)) hx hb dX8_rankNow_13 (by decide) ?_
            refine lv_icmp_ge (tgt := 57) hx hb dX8_rankNow_15 (by decide) (fun c92 => ?_) (fun c92 => ?_)
            · have hf := if_t hf c92
              exact hx12 z89 z90 h91 H locs ls (by rw [eκ12] at hf; exact hf) (lv_sub hl [0, 1, 2, 3] rfl) w
            · have hf := if_f hf c92
              refine lv_iload_n hx hb dX8_rankNow_18 rfl (lv_at hl 2 rfl) ?_
              obtain ⟨⟨v93, h94⟩, eh94, hf⟩ := ob_s hf
              dsimp only at hf
              refine px_callSi (As := [.int z59]) (rest := []) ⟨hx, hb, hml, hown, hts⟩ hC w (kX8_bits l D dA b0 ι N z59 h91 v93 h94 eh94) (va_cwS 1 hts gX8_rankNow_X8_bits rfl rfl rfl (by decide +kernel) ⟨Nat.le_of_ble_eq_true rfl, Nat.le_of_ble_eq_true rfl⟩) rfl hl.1 rfl (Nat.le_of_ble_eq_true rfl) dX8_rankNow_19 ⟨Nat.le_of_ble_eq_true rfl, Nat.le_of_ble_eq_true rfl⟩ (fun H locs w => ?_)
              refine lv_iload_n hx hb dX8_rankNow_22 rfl (lv_at hl 3 rfl) ?_
              obtain ⟨⟨v95, h96⟩, eh96, hf⟩ := ob_s hf
              dsimp only at hf
              refine px_callSi (As := [.int z90]) (rest := [.int v93]) ⟨hx, hb, hml, hown, hts⟩ hC w (kX8_bits l D dA b0 ι N z90 h94 v95 h96 eh96) (va_cwS 1 hts gX8_rankNow_X8_bits rfl rfl rfl (by decide +kernel) ⟨Nat.le_of_ble_eq_true rfl, Nat.le_of_ble_eq_true rfl⟩) rfl hl.1 rfl (Nat.le_of_ble_eq_true rfl) dX8_rankNow_23 ⟨Nat.le_of_ble_eq_true rfl, Nat.le_of_ble_eq_true rfl⟩ (fun H locs w => ?_)
              have hj51 : ∀ (y98 : Int32) (h99 : Hp) (H : Heap) (locs : List Loc) (ls : Array Slot), (nm (z90 + (1 : Int32)) fun x100 => lX8_rankNow_12 N a0 z59 n12 y98 x100 h99 κ12) = some (r, h') → lv_has ls 4 [(0, .ref (ι a0)), (1, .int y98), (2, .int z59), (3, .int z90)] → WD D dA b0 ι h99 s.heap H locs → W p l e (headSpec wsX8_rankNow rmX8_rankNow).room s m ([.ref (ι a0)] : List Value).toArray below meth c H locs 0 0 (MQ below (QI D dA b0 ι r h') ([.ref (ι a0)] : List Value).toArray s 0 0 (qA b0)) (F0 m 51 ls []) := by
                intro y98 h99 H locs ls hf hl w
                obtain ⟨x100, ex100, hf⟩ := nm_s hf
                refine lv_iinc (v := x100) (lv' := [(3, .int x100), (0, .ref (ι a0)), (1, .int y98), (2, .int z59)]) hx hb dX8_rankNow_51 hl (k := 3) rfl (by rw [ex100]; rfl) (by decide) rfl (fun ls hl => ?_)
                refine lv_goto (tgt := 12) hx hb dX8_rankNow_54 (by decide) ?_
                exact ih12 y98 x100 h99 H locs ls hf (lv_sub hl [1, 2, 3, 0] rfl) w
              obtain ⟨j97, ej97, hf⟩ := jn_s hf
              refine lv_icmp_ne (tgt := 51) hx hb dX8_rankNow_26 (by decide) (fun c101 => ?_) (fun c101 => ?_)
              · have hf := if_f hf c101
                exact hj51 z89 h96 H locs ls (by rw [ej97] at hf; exact hf) (lv_sub hl [0, 1, 2, 3] rfl) w
              · have hf := if_t hf c101
                refine lv_iload_n hx hb dX8_rankNow_29 rfl (lv_at hl 2 rfl) ?_
                obtain ⟨⟨v102, h103⟩, eh103, hf⟩ := ob_s hf
                dsimp only at hf
                refine px_callSi (As := [.int z59]) (rest := []) ⟨hx, hb, hml, hown, hts⟩ hC w (kX8_bits l D dA b0 ι N z59 h96 v102 h103 eh103) (va_cwS 1 hts gX8_rankNow_X8_bits rfl rfl rfl (by decide +kernel) ⟨Nat.le_of_ble_eq_true rfl, Nat.le_of_ble_eq_true rfl⟩) rfl hl.1 rfl (Nat.le_of_ble_eq_true rfl) dX8_rankNow_30 ⟨Nat.le_of_ble_eq_true rfl, Nat.le_of_ble_eq_true rfl⟩ (fun H locs w => ?_)
                refine lv_iload_n hx hb dX8_rankNow_33 rfl (lv_at hl 1 rfl) ?_
                refine lv_icmp_le (tgt := 51) hx hb dX8_rankNow_34 (by decide) (fun c104 => ?_) (fun c104 => ?_)
                · have hf := if_t hf c104
                  exact hj51 z89 h103 H locs ls (by rw [ej97] at hf; exact hf) (lv_sub hl [0, 1, 2, 3] rfl) w
                · have hf := if_f hf c104
                  refine lv_aload_n hx hb dX8_rankNow_37 rfl (lv_at hl 0 rfl) ?_
                  refine lv_iload_n hx hb dX8_rankNow_38 rfl (lv_at hl 2 rfl) ?_
                  refine lv_iload_n hx hb dX8_rankNow_39 rfl (lv_at hl 3 rfl) ?_
                  obtain ⟨u107, eu107, hf⟩ := ob_s hf
                  obtain ⟨⟨v105, h106⟩, eh106, hf⟩ := ob_s hf
                  dsimp only at hf
                  refine px_callVi (As := [.int z59, .int z90]) (rest := []) ⟨hx, hb, hml, hown, hts⟩ hC w (kX8_isMinor l D dA b0 ι N a0 z59 z90 h103 v105 h106 eh106) (cwV 2 hts gX8_rankNow_X8_isMinor rfl rfl rfl (by decide +kernel) ⟨Nat.le_of_ble_eq_true rfl, Nat.le_of_ble_eq_true rfl⟩) eu107 rfl rfl hl.1 rfl (Nat.le_of_ble_eq_true rfl) dX8_rankNow_40 ⟨Nat.le_of_ble_eq_true rfl, Nat.le_of_ble_eq_true rfl⟩ (fun H locs w => ?_)
                  refine lv_if_eq (tgt := 51) hx hb dX8_rankNow_43 (by decide) (fun c108 => ?_) (fun c108 => ?_)
                  · have hf := if_t hf c108
                    exact hj51 z89 h106 H locs ls (by rw [ej97] at hf; exact hf) (lv_sub hl [0, 1, 2, 3] rfl) w
                  · have hf := if_f hf c108
                    refine lv_iload_n hx hb dX8_rankNow_46 rfl (lv_at hl 2 rfl) ?_
                    obtain ⟨⟨v109, h110⟩, eh110, hf⟩ := ob_s hf
                    dsimp only at hf
                    refine px_callSi (As := [.int z59]) (rest := []) ⟨hx, hb, hml, hown, hts⟩ hC w (kX8_bits l D dA b0 ι N z59 h106 v109 h110 eh110) (va_cwS 1 hts gX8_rankNow_X8_bits rfl rfl rfl (by decide +kernel) ⟨Nat.le_of_ble_eq_true rfl, Nat.le_of_ble_eq_true rfl⟩) rfl hl.1 rfl (Nat.le_of_ble_eq_true rfl) dX8_rankNow_47 ⟨Nat.le_of_ble_eq_true rfl, Nat.le_of_ble_eq_true rfl⟩ (fun H locs w => ?_)
                    refine lv_istore_n (lv' := [(1, .int v109), (0, .ref (ι a0)), (2, .int z59), (3, .int z90)]) hx hb dX8_rankNow_50 rfl hl (by decide) rfl (fun ls hl => ?_)
                    exact hj51 v109 h110 H locs ls (by rw [ej97] at hf; exact hf) (lv_sub hl [1, 0, 2, 3] rfl) w
        exact hlp12 N z58 (0 : Int32) h60 H locs ls (by rw [eκ12]; exact hf) (lv_sub hl [1, 2, 3, 0] rfl) w
  exact hlp4 N (0 : Int32) (0 : Int32) h H locs ls (by rw [eκ4]; exact hf) (lv_sub hl [2, 1, 0] rfl) w
theorem nX8_rank_X8 : ∀ w ∈ wsX80, w ∈ wsX8_rank := by decide +kernel
theorem mX8_rank_65 : Cond.fieldLink RX8 65 "NormalFormsModel" "code" "I" ∈ wsX8_rank := by decide +kernel
abbrev rmX8_rank : Room := { frames := 5, cells := 0, slots := 0, locals := 110 }
set_option maxHeartbeats 4000000 in
set_option maxRecDepth 100000 in
theorem kX8_rank (l : Launch) (D : va_G) (dA : Nat → ClassId) (b0 : Nat) (ι : Nat → Nat) (N : Nat) (a0 : Nat) (h : Hp) (r : Int32) (h' : Hp) (hf : fX8_rank N a0 h = some (r, h')) : Met l yX8_rank wsX8_rank rmX8_rank (PC D dA b0 ι [.ref (ι a0)] h) (QI D dA b0 ι r h') 0 0 (qA b0) := by
  unfold fX8_rank at hf
  refine Met.ofW (cc := cX8_rank) (maxL := 1) (ret := (some .int)) (by decide +kernel) rfl ?_
  intro p e s m args below meth c s₁ B hml hv
  obtain ⟨rfl, w0⟩ := hv
  have hx := B.exec
  have hb := B.bytes
  have hr := B.returns
  have hts := atoms_spec (ws := wsX8_rank) B.pre
  have hown : s.vm.findClass RX8 = some m.cls := findClass_of_methodNamed B.named
  have hlocks := B.notSynchronized
  have hC := w0.c
  have hK := hC.1
  have w := WD.start w0
  clear w0
  have hl := lv_entry ([.ref (ι a0)]) (n := 1) (Nat.le_of_ble_eq_true rfl)
  rw [lg_entry_eq]
  generalize (lg_sl ([.ref (ι a0)]) ++ List.replicate (1 - (lg_sl ([.ref (ι a0)])).length) Slot.unset).toArray = ls at hl ⊢
  have hl : lv_has ls 1 [(0, .ref (ι a0))] := hl
  obtain ⟨H, hH⟩ : ∃ H : Heap, H = s.heap := ⟨_, rfl⟩
  obtain ⟨locs, hlo⟩ : ∃ locs : List Loc, locs = [] := ⟨_, rfl⟩
  rw [← hlo]
  have w : WD D dA b0 ι h s.heap H locs := by rw [hH, hlo]; exact w
  refine px_start hH ?_
  refine lv_aload_n hx hb dX8_rank_0 rfl (lv_at hl 0 rfl) ?_
  refine lv_iconst (v := (0 : Int32)) hx hb dX8_rank_1 (by decide) ?_
  obtain ⟨h1, eh1, hf⟩ := ob_s hf
  refine px_put hx hb hts nX8_rank_X8 tyX8 tyX8_ok nmX8 hown hK w eh1 rfl (by decide) mX8_rank_65 rfl rfl rfl rfl dX8_rank_2 rfl (fun H locs w => ?_)
  refine lv_aload_n hx hb dX8_rank_5 rfl (lv_at hl 0 rfl) ?_
  obtain ⟨u4, eu4, hf⟩ := ob_s hf
  obtain ⟨h3, eh3, hf⟩ := ob_s hf
  refine px_callVv (As := []) (rest := []) ⟨hx, hb, hml, hown, hts⟩ hC w (kX8_loadEntries l D dA b0 ι N a0 h1 h3 eh3) (cwV 0 hts gX8_rank_X8_loadEntries rfl rfl rfl (by decide +kernel) ⟨Nat.le_of_ble_eq_true rfl, Nat.le_of_ble_eq_true rfl⟩) eu4 rfl rfl hl.1 rfl (Nat.le_of_ble_eq_true rfl) dX8_rank_6 ⟨Nat.le_of_ble_eq_true rfl, Nat.le_of_ble_eq_true rfl⟩ (fun H locs w => ?_)
  refine lv_aload_n hx hb dX8_rank_9 rfl (lv_at hl 0 rfl) ?_
  obtain ⟨u7, eu7, hf⟩ := ob_s hf
  obtain ⟨⟨v5, h6⟩, eh6, hf⟩ := ob_s hf
  dsimp only at hf
  refine px_callVi (As := []) (rest := []) ⟨hx, hb, hml, hown, hts⟩ hC w (kX8_rankNow l D dA b0 ι N a0 h3 v5 h6 eh6) (cwV 0 hts gX8_rank_X8_rankNow rfl rfl rfl (by decide +kernel) ⟨Nat.le_of_ble_eq_true rfl, Nat.le_of_ble_eq_true rfl⟩) eu7 rfl rfl hl.1 rfl (Nat.le_of_ble_eq_true rfl) dX8_rank_10 ⟨Nat.le_of_ble_eq_true rfl, Nat.le_of_ble_eq_true rfl⟩ (fun H locs w => ?_)
  exact W.iret hx hb hr (qi_end hf w hC) w.locs_ok dX8_rank_13
theorem nX8_isSquare_X8 : ∀ w ∈ wsX80, w ∈ wsX8_isSquare := by decide +kernel
theorem mX8_isSquare_71 : Cond.fieldLink RX8 71 "NormalFormsModel" "rows" "I" ∈ wsX8_isSquare := by decide +kernel
theorem mX8_isSquare_74 : Cond.fieldLink RX8 74 "NormalFormsModel" "columns" "I" ∈ wsX8_isSquare := by decide +kernel
theorem mX8_isSquare_65 : Cond.fieldLink RX8 65 "NormalFormsModel" "code" "I" ∈ wsX8_isSquare := by decide +kernel
abbrev rmX8_isSquare : Room := { frames := 1, cells := 0, slots := 0, locals := 12 }
set_option maxHeartbeats 4000000 in
set_option maxRecDepth 100000 in
theorem kX8_isSquare (l : Launch) (D : va_G) (dA : Nat → ClassId) (b0 : Nat) (ι : Nat → Nat) (N : Nat) (a0 : Nat) (h : Hp) (r : Int32) (h' : Hp) (hf : fX8_isSquare N a0 h = some (r, h')) : Met l yX8_isSquare wsX8_isSquare rmX8_isSquare (PC D dA b0 ι [.ref (ι a0)] h) (QI D dA b0 ι r h') 0 0 (qA b0) := by
  unfold fX8_isSquare at hf
  refine Met.ofW (cc := cX8_isSquare) (maxL := 1) (ret := (some .boolean)) (by decide +kernel) rfl ?_
  intro p e s m args below meth c s₁ B hml hv
  obtain ⟨rfl, w0⟩ := hv
  have hx := B.exec
  have hb := B.bytes
  have hr := B.returns
  have hts := atoms_spec (ws := wsX8_isSquare) B.pre
  have hown : s.vm.findClass RX8 = some m.cls := findClass_of_methodNamed B.named
  have hlocks := B.notSynchronized
  have hC := w0.c
  have hK := hC.1
  have w := WD.start w0
  clear w0
  have hl := lv_entry ([.ref (ι a0)]) (n := 1) (Nat.le_of_ble_eq_true rfl)
  rw [lg_entry_eq]
  generalize (lg_sl ([.ref (ι a0)]) ++ List.replicate (1 - (lg_sl ([.ref (ι a0)])).length) Slot.unset).toArray = ls at hl ⊢
  have hl : lv_has ls 1 [(0, .ref (ι a0))] := hl
  obtain ⟨H, hH⟩ : ∃ H : Heap, H = s.heap := ⟨_, rfl⟩
  obtain ⟨locs, hlo⟩ : ∃ locs : List Loc, locs = [] := ⟨_, rfl⟩
  rw [← hlo]
  have w : WD D dA b0 ι h s.heap H locs := by rw [hH, hlo]; exact w
  refine px_start hH ?_
  refine lv_aload_n hx hb dX8_isSquare_0 rfl (lv_at hl 0 rfl) ?_
  refine lv_aload_n hx hb dX8_isSquare_1 rfl (lv_at hl 0 rfl) ?_
  obtain ⟨v1, ev1, hf⟩ := ob_s hf
  refine px_getI hx hb hts nX8_isSquare_X8 hown hK w ev1 rfl (by decide) mX8_isSquare_71 rfl dX8_isSquare_2 ?_
  refine lv_aload_n hx hb dX8_isSquare_5 rfl (lv_at hl 0 rfl) ?_
  obtain ⟨v2, ev2, hf⟩ := ob_s hf
  refine px_getI hx hb hts nX8_isSquare_X8 hown hK w ev2 rfl (by decide) mX8_isSquare_74 rfl dX8_isSquare_6 ?_
  have hj17 : ∀ (t5 : Int32) (h4 : Hp) (H : Heap) (locs : List Loc) (ls : Array Slot), ((pV h4 a0 10 0 (.int t5)).bind fun h6 => (gI h6 a0 10 0).bind fun v7 => jn (fun t10 h9 => if t10 = 0 ∨ t10 = 1 then some (t10, h9) else none) fun (j8 : Int32 → Hp → Option (Int32 × Hp)) => if v7 = 0 then j8 (1 : Int32) h6 else j8 (0 : Int32) h6) = some (r, h') → lv_has ls 1 [(0, .ref (ι a0))] → WD D dA b0 ι h4 s.heap H locs → W p l e (headSpec wsX8_isSquare rmX8_isSquare).room s m ([.ref (ι a0)] : List Value).toArray below meth c H locs 0 0 (MQ below (QI D dA b0 ι r h') ([.ref (ι a0)] : List Value).toArray s 0 0 (qA b0)) (F0 m 17 ls [.int t5, .ref (ι a0)]) := by
    intro t5 h4 H locs ls hf hl w
    obtain ⟨h6, eh6, hf⟩ := ob_s hf
    refine px_put hx hb hts nX8_isSquare_X8 tyX8 tyX8_ok nmX8 hown hK w eh6 rfl (by decide) mX8_isSquare_65 rfl rfl rfl rfl dX8_isSquare_17 rfl (fun H locs w => ?_)
    refine lv_aload_n hx hb dX8_isSquare_20 rfl (lv_at hl 0 rfl) ?_
    obtain ⟨v7, ev7, hf⟩ := ob_s hf
    refine px_getI hx hb hts nX8_isSquare_X8 hown hK w ev7 rfl (by decide) mX8_isSquare_65 rfl dX8_isSquare_21 ?_
    have hj32 : ∀ (t10 : Int32) (h9 : Hp) (H : Heap) (locs : List Loc) (ls : Array Slot), (if t10 = 0 ∨ t10 = 1 then some (t10, h9) else none) = some (r, h') → lv_has ls 1 [(0, .ref (ι a0))] → WD D dA b0 ι h9 s.heap H locs → W p l e (headSpec wsX8_isSquare rmX8_isSquare).room s m ([.ref (ι a0)] : List Value).toArray below meth c H locs 0 0 (MQ below (QI D dA b0 ι r h') ([.ref (ι a0)] : List Value).toArray s 0 0 (qA b0)) (F0 m 32 ls [.int t10]) := by
      intro t10 h9 H locs ls hf hl w
      obtain ⟨hz, hf⟩ := if_s hf
      exact W.zret hx hb hr (nar01 hz) (qi_end hf w hC) w.locs_ok dX8_isSquare_32
    obtain ⟨j8, ej8, hf⟩ := jn_s hf
    refine lv_if_ne (tgt := 31) hx hb dX8_isSquare_24 (by decide) (fun c11 => ?_) (fun c11 => ?_)
    · have hf := if_f hf c11
      refine lv_iconst (v := (0 : Int32)) hx hb dX8_isSquare_31 (by decide) ?_
      exact hj32 (0 : Int32) h6 H locs ls (by rw [ej8] at hf; exact hf) (lv_sub hl [0] rfl) w
    · have hf := if_t hf c11
      refine lv_iconst (v := (1 : Int32)) hx hb dX8_isSquare_27 (by decide) ?_
      refine lv_goto (tgt := 32) hx hb dX8_isSquare_28 (by decide) ?_
      exact hj32 (1 : Int32) h6 H locs ls (by rw [ej8] at hf; exact hf) (lv_sub hl [0] rfl) w
  obtain ⟨j3, ej3, hf⟩ := jn_s hf
  refine lv_icmp_ne (tgt := 16) hx hb dX8_isSquare_9 (by decide) (fun c12 => ?_) (fun c12 => ?_)
  · have hf := if_f hf c12
    refine lv_iconst (v := (1 : Int32)) hx hb dX8_isSquare_16 (by decide) ?_
    exact hj17 (1 : Int32) h H locs ls (by rw [ej3] at hf; exact hf) (lv_sub hl [0] rfl) w
  · have hf := if_t hf c12
    refine lv_iconst (v := (0 : Int32)) hx hb dX8_isSquare_12 (by decide) ?_
    refine lv_goto (tgt := 17) hx hb dX8_isSquare_13 (by decide) ?_
    exact hj17 (0 : Int32) h H locs ls (by rw [ej3] at hf; exact hf) (lv_sub hl [0] rfl) w
theorem nX8_whole_X8 : ∀ w ∈ wsX80, w ∈ wsX8_whole := by decide +kernel
theorem mX8_whole_71 : Cond.fieldLink RX8 71 "NormalFormsModel" "rows" "I" ∈ wsX8_whole := by decide +kernel
abbrev rmX8_whole : Room := { frames := 1, cells := 0, slots := 0, locals := 12 }
set_option maxHeartbeats 4000000 in
set_option maxRecDepth 100000 in
theorem kX8_whole (l : Launch) (D : va_G) (dA : Nat → ClassId) (b0 : Nat) (ι : Nat → Nat) (N : Nat) (a0 : Nat) (h : Hp) (r : Int32) (h' : Hp) (hf : fX8_whole N a0 h = some (r, h')) : Met l yX8_whole wsX8_whole rmX8_whole (PC D dA b0 ι [.ref (ι a0)] h) (QI D dA b0 ι r h') 0 0 (qA b0) := by
  unfold fX8_whole at hf
  refine Met.ofW (cc := cX8_whole) (maxL := 2) (ret := (some .int)) (by decide +kernel) rfl ?_
  intro p e s m args below meth c s₁ B hml hv
  obtain ⟨rfl, w0⟩ := hv
  have hx := B.exec
  have hb := B.bytes
  have hr := B.returns
  have hts := atoms_spec (ws := wsX8_whole) B.pre
  have hown : s.vm.findClass RX8 = some m.cls := findClass_of_methodNamed B.named
  have hlocks := B.notSynchronized
  have hC := w0.c
  have hK := hC.1
  have w := WD.start w0
  clear w0
  have hl := lv_entry ([.ref (ι a0)]) (n := 2) (Nat.le_of_ble_eq_true rfl)
  rw [lg_entry_eq]
  generalize (lg_sl ([.ref (ι a0)]) ++ List.replicate (2 - (lg_sl ([.ref (ι a0)])).length) Slot.unset).toArray = ls at hl ⊢
  have hl : lv_has ls 2 [(0, .ref (ι a0))] := hl
  obtain ⟨H, hH⟩ : ∃ H : Heap, H = s.heap := ⟨_, rfl⟩
  obtain ⟨locs, hlo⟩ : ∃ locs : List Loc, locs = [] := ⟨_, rfl⟩
  rw [← hlo]
  have w : WD D dA b0 ι h s.heap H locs := by rw [hH, hlo]; exact w
  refine px_start hH ?_
  refine lv_iconst (v := (1 : Int32)) hx hb dX8_whole_0 (by decide) ?_
  refine lv_aload_n hx hb dX8_whole_1 rfl (lv_at hl 0 rfl) ?_
  obtain ⟨v1, ev1, hf⟩ := ob_s hf
  refine px_getI hx hb hts nX8_whole_X8 hown hK w ev1 rfl (by decide) mX8_whole_71 rfl dX8_whole_2 ?_
  refine lv_ishl hx hb dX8_whole_5 ?_
  refine lv_iconst (v := (1 : Int32)) hx hb dX8_whole_6 (by decide) ?_
  refine lv_isub hx hb dX8_whole_7 ?_
  obtain ⟨x2, ex2, hf⟩ := nm_s hf
  refine px_nmI ex2 ?_
  refine lv_istore_n (lv' := [(1, .int x2), (0, .ref (ι a0))]) hx hb dX8_whole_8 rfl hl (by decide) rfl (fun ls hl => ?_)
  refine lv_bipush (v := (13 : Int32)) hx hb dX8_whole_9 (by decide) ?_
  refine lv_bipush (v := (16 : Int32)) hx hb dX8_whole_11 (by decide) ?_
  refine lv_iload_n hx hb dX8_whole_13 rfl (lv_at hl 0 rfl) ?_
  refine lv_imul hx hb dX8_whole_14 ?_
  refine lv_iload_n hx hb dX8_whole_15 rfl (lv_at hl 0 rfl) ?_
  refine lv_iadd hx hb dX8_whole_16 ?_
  refine lv_imul hx hb dX8_whole_17 ?_
  exact W.iret hx hb hr (qi_end hf w hC) w.locs_ok dX8_whole_18
theorem mX8_determinant_117 : Cond.constantLong RX8 117 (12) ∈ wsX8_determinant := by decide +kernel
theorem nX8_determinant_X8 : ∀ w ∈ wsX80, w ∈ wsX8_determinant := by decide +kernel
theorem mX8_determinant_20 : Cond.fieldLink RX8 20 "NormalFormsModel" "minors" "[I" ∈ wsX8_determinant := by decide +kernel
abbrev rmX8_determinant : Room := { frames := 5, cells := 0, slots := 0, locals := 110 }
set_option maxHeartbeats 4000000 in
set_option maxRecDepth 100000 in
theorem kX8_determinant (l : Launch) (D : va_G) (dA : Nat → ClassId) (b0 : Nat) (ι : Nat → Nat) (N : Nat) (a0 : Nat) (a1 : Int32) (h : Hp) (r : Int32) (h' : Hp) (hf : fX8_determinant N a0 a1 h = some (r, h')) : Met l yX8_determinant wsX8_determinant rmX8_determinant (PC D dA b0 ι [.ref (ι a0), .int a1] h) (QI D dA b0 ι r h') 0 0 (qA b0) := by
  unfold fX8_determinant at hf
  refine Met.ofW (cc := cX8_determinant) (maxL := 2) (ret := (some .int)) (by decide +kernel) rfl ?_
  intro p e s m args below meth c s₁ B hml hv
  obtain ⟨rfl, w0⟩ := hv
  have hx := B.exec
  have hb := B.bytes
  have hr := B.returns
  have hts := atoms_spec (ws := wsX8_determinant) B.pre
  have hown : s.vm.findClass RX8 = some m.cls := findClass_of_methodNamed B.named
  have hlocks := B.notSynchronized
  have hC := w0.c
  have hK := hC.1
  have w := WD.start w0
  clear w0
  have hl := lv_entry ([.ref (ι a0), .int a1]) (n := 2) (Nat.le_of_ble_eq_true rfl)
  rw [lg_entry_eq]
  generalize (lg_sl ([.ref (ι a0), .int a1]) ++ List.replicate (2 - (lg_sl ([.ref (ι a0), .int a1])).length) Slot.unset).toArray = ls at hl ⊢
  have hl : lv_has ls 2 [(0, .ref (ι a0)), (1, .int a1)] := hl
  obtain ⟨H, hH⟩ : ∃ H : Heap, H = s.heap := ⟨_, rfl⟩
  obtain ⟨locs, hlo⟩ : ∃ locs : List Loc, locs = [] := ⟨_, rfl⟩
  rw [← hlo]
  have w : WD D dA b0 ι h s.heap H locs := by rw [hH, hlo]; exact w
  refine px_start hH ?_
  refine lv_aload_n hx hb dX8_determinant_0 rfl (lv_at hl 0 rfl) ?_
  obtain ⟨u3, eu3, hf⟩ := ob_s hf
  obtain ⟨⟨v1, h2⟩, eh2, hf⟩ := ob_s hf
  dsimp only at hf
  refine px_callVi (As := []) (rest := []) ⟨hx, hb, hml, hown, hts⟩ hC w (kX8_isSquare l D dA b0 ι N a0 h v1 h2 eh2) (cwV 0 hts gX8_determinant_X8_isSquare rfl rfl rfl (by decide +kernel) ⟨Nat.le_of_ble_eq_true rfl, Nat.le_of_ble_eq_true rfl⟩) eu3 rfl rfl hl.1 rfl (Nat.le_of_ble_eq_true rfl) dX8_determinant_1 ⟨Nat.le_of_ble_eq_true rfl, Nat.le_of_ble_eq_true rfl⟩ (fun H locs w => ?_)
  refine lv_if_ne (tgt := 9) hx hb dX8_determinant_4 (by decide) (fun c4 => ?_) (fun c4 => ?_)
  · have hf := if_f hf c4
    refine lv_aload_n hx hb dX8_determinant_9 rfl (lv_at hl 0 rfl) ?_
    obtain ⟨u7, eu7, hf⟩ := ob_s hf
    obtain ⟨h6, eh6, hf⟩ := ob_s hf
    refine px_callVv (As := []) (rest := []) ⟨hx, hb, hml, hown, hts⟩ hC w (kX8_loadEntries l D dA b0 ι N a0 h2 h6 eh6) (cwV 0 hts gX8_determinant_X8_loadEntries rfl rfl rfl (by decide +kernel) ⟨Nat.le_of_ble_eq_true rfl, Nat.le_of_ble_eq_true rfl⟩) eu7 rfl rfl hl.1 rfl (Nat.le_of_ble_eq_true rfl) dX8_determinant_10 ⟨Nat.le_of_ble_eq_true rfl, Nat.le_of_ble_eq_true rfl⟩ (fun H locs w => ?_)
    refine lv_iload_n hx hb dX8_determinant_13 rfl (lv_at hl 1 rfl) ?_
    refine lv_i2l hx hb dX8_determinant_14 rfl ?_
    refine lv_lconst (v := 0) hx hb dX8_determinant_15 (by decide) ?_
    refine lv_ldc2 (v := 12) hx hb hown (hts _ mX8_determinant_117) dX8_determinant_16 ?_
    obtain ⟨⟨v8, h9⟩, eh9, hf⟩ := ob_s hf
    dsimp only at hf
    refine px_callSi (As := [.long (a1.toInt64), .long (0 : Int64), .long (12 : Int64)]) (rest := []) ⟨hx, hb, hml, hown, hts⟩ hC w (kX8_in l D dA b0 ι N (a1.toInt64) (0 : Int64) (12 : Int64) h6 v8 h9 eh9) (va_cwS 3 hts gX8_determinant_X8_in rfl rfl rfl (by decide +kernel) ⟨Nat.le_of_ble_eq_true rfl, Nat.le_of_ble_eq_true rfl⟩) rfl hl.1 rfl (Nat.le_of_ble_eq_true rfl) dX8_determinant_19 ⟨Nat.le_of_ble_eq_true rfl, Nat.le_of_ble_eq_true rfl⟩ (fun H locs w => ?_)
    have hj40 : ∀ (t12 : Int32) (h11 : Hp) (H : Heap) (locs : List Loc) (ls : Array Slot), (some (t12, h11)) = some (r, h') → lv_has ls 2 [(0, .ref (ι a0)), (1, .int a1)] → WD D dA b0 ι h11 s.heap H locs → W p l e (headSpec wsX8_determinant rmX8_determinant).room s m ([.ref (ι a0), .int a1] : List Value).toArray below meth c H locs 0 0 (MQ below (QI D dA b0 ι r h') ([.ref (ι a0), .int a1] : List Value).toArray s 0 0 (qA b0)) (F0 m 40 ls [.int t12]) := by
      intro t12 h11 H locs ls hf hl w
      exact W.iret hx hb hr (qi_end hf w hC) w.locs_ok dX8_determinant_40
    obtain ⟨j10, ej10, hf⟩ := jn_s hf
    refine lv_if_eq (tgt := 39) hx hb dX8_determinant_22 (by decide) (fun c13 => ?_) (fun c13 => ?_)
    · have hf := if_t hf c13
      refine lv_iconst (v := (0 : Int32)) hx hb dX8_determinant_39 (by decide) ?_
      exact hj40 (0 : Int32) h9 H locs ls (by rw [ej10] at hf; exact hf) (lv_sub hl [0, 1] rfl) w
    · have hf := if_f hf c13
      refine lv_aload_n hx hb dX8_determinant_25 rfl (lv_at hl 0 rfl) ?_
      obtain ⟨v14, ev14, hf⟩ := ob_s hf
      refine px_getR hx hb hts nX8_determinant_X8 hown hK w ev14 rfl (by decide) mX8_determinant_20 rfl dX8_determinant_26 ?_
      refine lv_aload_n hx hb dX8_determinant_29 rfl (lv_at hl 0 rfl) ?_
      obtain ⟨u17, eu17, hf⟩ := ob_s hf
      obtain ⟨⟨v15, h16⟩, eh16, hf⟩ := ob_s hf
      dsimp only at hf
      refine px_callVi (As := []) (rest := [.ref (ι v14)]) ⟨hx, hb, hml, hown, hts⟩ hC w (kX8_whole l D dA b0 ι N a0 h9 v15 h16 eh16) (cwV 0 hts gX8_determinant_X8_whole rfl rfl rfl (by decide +kernel) ⟨Nat.le_of_ble_eq_true rfl, Nat.le_of_ble_eq_true rfl⟩) eu17 rfl rfl hl.1 rfl (Nat.le_of_ble_eq_true rfl) dX8_determinant_30 ⟨Nat.le_of_ble_eq_true rfl, Nat.le_of_ble_eq_true rfl⟩ (fun H locs w => ?_)
      refine lv_iload_n hx hb dX8_determinant_33 rfl (lv_at hl 1 rfl) ?_
      refine lv_iadd hx hb dX8_determinant_34 ?_
      obtain ⟨v18, ev18, hf⟩ := ob_s hf
      refine px_iald hx hb hK w ev18 dX8_determinant_35 ?_
      refine lv_goto (tgt := 40) hx hb dX8_determinant_36 (by decide) ?_
      exact hj40 v18 h16 H locs ls (by rw [ej10] at hf; exact hf) (lv_sub hl [0, 1] rfl) w
  · have hf := if_t hf c4
    refine lv_iconst (v := (0 : Int32)) hx hb dX8_determinant_7 (by decide) ?_
    exact W.iret hx hb hr (qi_end hf w hC) w.locs_ok dX8_determinant_8
