abbrev rmX8_high : Room := { frames := 1, cells := 0, slots := 0, locals := 12 }
set_option maxHeartbeats 4000000 in
set_option maxRecDepth 100000 in
theorem kX8_high (l : Launch) (D : va_G) (dA : Nat → ClassId) (b0 : Nat) (ι : Nat → Nat) (N : Nat) (a0 : Nat) (h : Hp) (r : Int32) (h' : Hp) (hf : fX8_high N a0 h = some (r, h')) : Met l yX8_high wsX8_high rmX8_high (PC D dA b0 ι [.ref (ι a0)] h) (QI D dA b0 ι r h') 0 0 (qA b0) := by
  unfold fX8_high at hf
  refine Met.ofW (cc := cX8_high) (maxL := 2) (ret := (some .int)) (by decide +kernel) rfl ?_
  intro p e s m args below meth c s₁ B hml hv
  obtain ⟨rfl, w0⟩ := hv
  have hx := B.exec
  have hb := B.bytes
  have hr := B.returns
  have hts := atoms_spec (ws := wsX8_high) B.pre
  have hown : s.vm.findClass RX8 = some m.cls := findClass_of_methodNamed B.named
  have hlocks := B.notSynchronized
  have hC := w0.c
  have hK := hC.1
  have w := WD.start w0
  clear w0
  have hl := lv_entry ([.ref (ι a0)]) (n := 2) (Nat.le_of_ble_eq_true rfl)
  rw [lg_entry_eq]
  generalize (lg_sl ([.ref (ι a0)]) ++ List.replicate (2 - (lg_sl ([.ref (ι a0)])).length) Slot.unset).toArray = ls at hl ⊢
  have hl : lv_has ls 2 [(0, .ref (ι a0))] := hl
  obtain ⟨H, hH⟩ : ∃ H : Heap, H = s.heap := ⟨_, rfl⟩
  obtain ⟨locs, hlo⟩ : ∃ locs : List Loc, locs = [] := ⟨_, rfl⟩
  rw [← hlo]
  have w : WD D dA b0 ι h s.heap H locs := by rw [hH, hlo]; exact w
  refine px_start hH ?_
  refine lv_sipush (v := (255 : Int32)) hx hb dX8_high_0 (by decide) ?_
  refine lv_istore_n (lv' := [(1, .int (255 : Int32)), (0, .ref (ι a0))]) hx hb dX8_high_3 rfl hl (by decide) rfl (fun ls hl => ?_)
  have hx4 : ∀ (y1 : Int32) (h2 : Hp) (H : Heap) (locs : List Loc) (ls : Array Slot), (some (y1, h2)) = some (r, h') → lv_has ls 2 [(0, .ref (ι a0)), (1, .int y1)] → WD D dA b0 ι h2 s.heap H locs → W p l e (headSpec wsX8_high rmX8_high).room s m ([.ref (ι a0)] : List Value).toArray below meth c H locs 0 0 (MQ below (QI D dA b0 ι r h') ([.ref (ι a0)] : List Value).toArray s 0 0 (qA b0)) (F0 m 20 ls []) := by
    intro y1 h2 H locs ls hf hl w
    refine lv_iload_n hx hb dX8_high_20 rfl (lv_at hl 1 rfl) ?_
    exact W.iret hx hb hr (qi_end hf w hC) w.locs_ok dX8_high_21
  obtain ⟨κ4, eκ4⟩ : ∃ k : Int32 → Hp → Option (Int32 × Hp), k = (fun y1 h2 => some (y1, h2)) := ⟨_, rfl⟩
  have hlp4 : ∀ (n : Nat) (z10 : Int32) (h11 : Hp) (H : Heap) (locs : List Loc) (ls : Array Slot), lX8_high_4 N a0 n z10 h11 κ4 = some (r, h') → lv_has ls 2 [(0, .ref (ι a0)), (1, .int z10)] → WD D dA b0 ι h11 s.heap H locs → W p l e (headSpec wsX8_high rmX8_high).room s m ([.ref (ι a0)] : List Value).toArray below meth c H locs 0 0 (MQ below (QI D dA b0 ι r h') ([.ref (ι a0)] : List Value).toArray s 0 0 (qA b0)) (F0 m 4 ls []) := by
    intro n4
    induction n4 with
    | zero => intro z10 h11 H locs ls hf; exact absurd hf (by rw [lX8_high_4]; exact fun q => nomatch q)
    | succ n4 ih4 =>
      intro z10 h11 H locs ls hf hl w
      rw [lX8_high_4] at hf
      refine lv_iload_n hx hb dX8_high_4 rfl (lv_at hl 1 rfl) ?_
      refine lv_if_lt (tgt := 20) hx hb dX8_high_5 (by decide) (fun c12 => ?_) (fun c12 => ?_)
      · have hf := if_t hf c12
        exact hx4 z10 h11 H locs ls (by rw [eκ4] at hf; exact hf) (lv_sub hl [0, 1] rfl) w
      · have hf := if_f hf c12
        refine lv_aload_n hx hb dX8_high_8 rfl (lv_at hl 0 rfl) ?_
        refine lv_iload_n hx hb dX8_high_9 rfl (lv_at hl 1 rfl) ?_
        obtain ⟨v13, ev13, hf⟩ := ob_s hf
        refine px_iald hx hb hK w ev13 dX8_high_10 ?_
        refine lv_if_ne (tgt := 20) hx hb dX8_high_11 (by decide) (fun c14 => ?_) (fun c14 => ?_)
        · have hf := if_f hf c14
          exact hx4 z10 h11 H locs ls (by rw [eκ4] at hf; exact hf) (lv_sub hl [0, 1] rfl) w
        · have hf := if_t hf c14
          obtain ⟨x15, ex15, hf⟩ := nm_s hf
          refine lv_iinc (v := x15) (lv' := [(1, .int x15), (0, .ref (ι a0))]) hx hb dX8_high_14 hl (k := 1) rfl (by rw [ex15]; rfl) (by decide) rfl (fun ls hl => ?_)
          refine lv_goto (tgt := 4) hx hb dX8_high_17 (by decide) ?_
          exact ih4 x15 h11 H locs ls hf (lv_sub hl [1, 0] rfl) w
  exact hlp4 N (255 : Int32) h H locs ls (by rw [eκ4]; exact hf) (lv_sub hl [1, 0] rfl) w
abbrev rmX8_empty : Room := { frames := 1, cells := 0, slots := 0, locals := 12 }
set_option maxHeartbeats 4000000 in
set_option maxRecDepth 100000 in
theorem kX8_empty (l : Launch) (D : va_G) (dA : Nat → ClassId) (b0 : Nat) (ι : Nat → Nat) (N : Nat) (a0 : Nat) (h : Hp) (h' : Hp) (hf : fX8_empty N a0 h = some h') : Met l yX8_empty wsX8_empty rmX8_empty (PC D dA b0 ι [.ref (ι a0)] h) (QV D dA b0 ι h') 0 0 (qA b0) := by
  unfold fX8_empty at hf
  refine Met.ofW (cc := cX8_empty) (maxL := 2) (ret := none) (by decide +kernel) rfl ?_
  intro p e s m args below meth c s₁ B hml hv
  obtain ⟨rfl, w0⟩ := hv
  have hx := B.exec
  have hb := B.bytes
  have hr := B.returns
  have hts := atoms_spec (ws := wsX8_empty) B.pre
  have hown : s.vm.findClass RX8 = some m.cls := findClass_of_methodNamed B.named
  have hlocks := B.notSynchronized
  have hC := w0.c
  have hK := hC.1
  have w := WD.start w0
  clear w0
  have hl := lv_entry ([.ref (ι a0)]) (n := 2) (Nat.le_of_ble_eq_true rfl)
  rw [lg_entry_eq]
  generalize (lg_sl ([.ref (ι a0)]) ++ List.replicate (2 - (lg_sl ([.ref (ι a0)])).length) Slot.unset).toArray = ls at hl ⊢
  have hl : lv_has ls 2 [(0, .ref (ι a0))] := hl
  obtain ⟨H, hH⟩ : ∃ H : Heap, H = s.heap := ⟨_, rfl⟩
  obtain ⟨locs, hlo⟩ : ∃ locs : List Loc, locs = [] := ⟨_, rfl⟩
  rw [← hlo]
  have w : WD D dA b0 ι h s.heap H locs := by rw [hH, hlo]; exact w
  refine px_start hH ?_
  refine lv_iconst (v := (0 : Int32)) hx hb dX8_empty_0 (by decide) ?_
  refine lv_istore_n (lv' := [(1, .int (0 : Int32)), (0, .ref (ι a0))]) hx hb dX8_empty_1 rfl hl (by decide) rfl (fun ls hl => ?_)
  have hx2 : ∀ (y1 : Int32) (h2 : Hp) (H : Heap) (locs : List Loc) (ls : Array Slot), (some h2) = some h' → lv_has ls 2 [(0, .ref (ι a0)), (1, .int y1)] → WD D dA b0 ι h2 s.heap H locs → W p l e (headSpec wsX8_empty rmX8_empty).room s m ([.ref (ι a0)] : List Value).toArray below meth c H locs 0 0 (MQ below (QV D dA b0 ι h') ([.ref (ι a0)] : List Value).toArray s 0 0 (qA b0)) (F0 m 19 ls []) := by
    intro y1 h2 H locs ls hf hl w
    exact W.vret hx hb hr (qv_end hf w hC) w.locs_ok dX8_empty_19
  obtain ⟨κ2, eκ2⟩ : ∃ k : Int32 → Hp → Option Hp, k = (fun y1 h2 => some h2) := ⟨_, rfl⟩
  have hlp2 : ∀ (n : Nat) (z9 : Int32) (h10 : Hp) (H : Heap) (locs : List Loc) (ls : Array Slot), lX8_empty_2 N a0 n z9 h10 κ2 = some h' → lv_has ls 2 [(0, .ref (ι a0)), (1, .int z9)] → WD D dA b0 ι h10 s.heap H locs → W p l e (headSpec wsX8_empty rmX8_empty).room s m ([.ref (ι a0)] : List Value).toArray below meth c H locs 0 0 (MQ below (QV D dA b0 ι h') ([.ref (ι a0)] : List Value).toArray s 0 0 (qA b0)) (F0 m 2 ls []) := by
    intro n2
    induction n2 with
    | zero => intro z9 h10 H locs ls hf; exact absurd hf (by rw [lX8_empty_2]; exact fun q => nomatch q)
    | succ n2 ih2 =>
      intro z9 h10 H locs ls hf hl w
      rw [lX8_empty_2] at hf
      refine lv_iload_n hx hb dX8_empty_2 rfl (lv_at hl 1 rfl) ?_
      refine lv_sipush (v := (256 : Int32)) hx hb dX8_empty_3 (by decide) ?_
      refine lv_icmp_ge (tgt := 19) hx hb dX8_empty_6 (by decide) (fun c11 => ?_) (fun c11 => ?_)
      · have hf := if_t hf c11
        exact hx2 z9 h10 H locs ls (by rw [eκ2] at hf; exact hf) (lv_sub hl [0, 1] rfl) w
      · have hf := if_f hf c11
        refine lv_aload_n hx hb dX8_empty_9 rfl (lv_at hl 0 rfl) ?_
        refine lv_iload_n hx hb dX8_empty_10 rfl (lv_at hl 1 rfl) ?_
        refine lv_iconst (v := (0 : Int32)) hx hb dX8_empty_11 (by decide) ?_
        obtain ⟨h12, eh12, hf⟩ := ob_s hf
        refine px_iast hx hb hK w eh12 dX8_empty_12 (fun H locs w => ?_)
        obtain ⟨x13, ex13, hf⟩ := nm_s hf
        refine lv_iinc (v := x13) (lv' := [(1, .int x13), (0, .ref (ι a0))]) hx hb dX8_empty_13 hl (k := 1) rfl (by rw [ex13]; rfl) (by decide) rfl (fun ls hl => ?_)
        refine lv_goto (tgt := 2) hx hb dX8_empty_16 (by decide) ?_
        exact ih2 x13 h12 H locs ls hf (lv_sub hl [1, 0] rfl) w
  exact hlp2 N (0 : Int32) h H locs ls (by rw [eκ2]; exact hf) (lv_sub hl [1, 0] rfl) w
theorem mX8_makeMonic_69 : Cond.constantLong RX8 69 (32003) ∈ wsX8_makeMonic := by decide +kernel
abbrev rmX8_makeMonic : Room := { frames := 2, cells := 0, slots := 0, locals := 37 }
set_option maxHeartbeats 4000000 in
set_option maxRecDepth 100000 in
theorem kX8_makeMonic (l : Launch) (D : va_G) (dA : Nat → ClassId) (b0 : Nat) (ι : Nat → Nat) (N : Nat) (a0 : Nat) (h : Hp) (h' : Hp) (hf : fX8_makeMonic N a0 h = some h') : Met l yX8_makeMonic wsX8_makeMonic rmX8_makeMonic (PC D dA b0 ι [.ref (ι a0)] h) (QV D dA b0 ι h') 0 0 (qA b0) := by
  unfold fX8_makeMonic at hf
  refine Met.ofW (cc := cX8_makeMonic) (maxL := 5) (ret := none) (by decide +kernel) rfl ?_
  intro p e s m args below meth c s₁ B hml hv
  obtain ⟨rfl, w0⟩ := hv
  have hx := B.exec
  have hb := B.bytes
  have hr := B.returns
  have hts := atoms_spec (ws := wsX8_makeMonic) B.pre
  have hown : s.vm.findClass RX8 = some m.cls := findClass_of_methodNamed B.named
  have hlocks := B.notSynchronized
  have hC := w0.c
  have hK := hC.1
  have w := WD.start w0
  clear w0
  have hl := lv_entry ([.ref (ι a0)]) (n := 5) (Nat.le_of_ble_eq_true rfl)
  rw [lg_entry_eq]
  generalize (lg_sl ([.ref (ι a0)]) ++ List.replicate (5 - (lg_sl ([.ref (ι a0)])).length) Slot.unset).toArray = ls at hl ⊢
  have hl : lv_has ls 5 [(0, .ref (ι a0))] := hl
  obtain ⟨H, hH⟩ : ∃ H : Heap, H = s.heap := ⟨_, rfl⟩
  obtain ⟨locs, hlo⟩ : ∃ locs : List Loc, locs = [] := ⟨_, rfl⟩
  rw [← hlo]
  have w : WD D dA b0 ι h s.heap H locs := by rw [hH, hlo]; exact w
  refine px_start hH ?_
  refine lv_aload_n hx hb dX8_makeMonic_0 rfl (lv_at hl 0 rfl) ?_
  obtain ⟨⟨v1, h2⟩, eh2, hf⟩ := ob_s hf
  dsimp only at hf
  refine px_callSi (As := [.ref (ι a0)]) (rest := []) ⟨hx, hb, hml, hown, hts⟩ hC w (kX8_high l D dA b0 ι N a0 h v1 h2 eh2) (va_cwS 1 hts gX8_makeMonic_X8_high rfl rfl rfl (by decide +kernel) ⟨Nat.le_of_ble_eq_true rfl, Nat.le_of_ble_eq_true rfl⟩) rfl hl.1 rfl (Nat.le_of_ble_eq_true rfl) dX8_makeMonic_1 ⟨Nat.le_of_ble_eq_true rfl, Nat.le_of_ble_eq_true rfl⟩ (fun H locs w => ?_)
  refine lv_istore_n (lv' := [(1, .int v1), (0, .ref (ι a0))]) hx hb dX8_makeMonic_4 rfl hl (by decide) rfl (fun ls hl => ?_)
  refine lv_iload_n hx hb dX8_makeMonic_5 rfl (lv_at hl 0 rfl) ?_
  have hj20 : ∀ (t5 : Int64) (h4 : Hp) (H : Heap) (locs : List Loc) (ls : Array Slot), (lX8_makeMonic_24 N a0 v1 t5 N (0 : Int32) h4 (fun y6 h7 => some h7)) = some h' → lv_has ls 5 [(0, .ref (ι a0)), (1, .int v1)] → WD D dA b0 ι h4 s.heap H locs → W p l e (headSpec wsX8_makeMonic rmX8_makeMonic).room s m ([.ref (ι a0)] : List Value).toArray below meth c H locs 0 0 (MQ below (QV D dA b0 ι h') ([.ref (ι a0)] : List Value).toArray s 0 0 (qA b0)) (F0 m 20 ls [.long t5]) := by
    intro t5 h4 H locs ls hf hl w
    refine lv_lstore_n (lv' := [(2, .long t5), (0, .ref (ι a0)), (1, .int v1)]) hx hb dX8_makeMonic_20 rfl hl (by decide) rfl (fun ls hl => ?_)
    refine lv_iconst (v := (0 : Int32)) hx hb dX8_makeMonic_21 (by decide) ?_
    refine lv_istore (lv' := [(4, .int (0 : Int32)), (2, .long t5), (0, .ref (ι a0)), (1, .int v1)]) hx hb dX8_makeMonic_22 hl (by decide) rfl (fun ls hl => ?_)
    have hx24 : ∀ (y6 : Int32) (h7 : Hp) (H : Heap) (locs : List Loc) (ls : Array Slot), (some h7) = some h' → lv_has ls 5 [(0, .ref (ι a0)), (1, .int v1), (2, .long t5), (4, .int y6)] → WD D dA b0 ι h7 s.heap H locs → W p l e (headSpec wsX8_makeMonic rmX8_makeMonic).room s m ([.ref (ι a0)] : List Value).toArray below meth c H locs 0 0 (MQ below (QV D dA b0 ι h') ([.ref (ι a0)] : List Value).toArray s 0 0 (qA b0)) (F0 m 52 ls []) := by
      intro y6 h7 H locs ls hf hl w
      exact W.vret hx hb hr (qv_end hf w hC) w.locs_ok dX8_makeMonic_52
    obtain ⟨κ24, eκ24⟩ : ∃ k : Int32 → Hp → Option Hp, k = (fun y6 h7 => some h7) := ⟨_, rfl⟩
    have hlp24 : ∀ (n : Nat) (z15 : Int32) (h16 : Hp) (H : Heap) (locs : List Loc) (ls : Array Slot), lX8_makeMonic_24 N a0 v1 t5 n z15 h16 κ24 = some h' → lv_has ls 5 [(0, .ref (ι a0)), (1, .int v1), (2, .long t5), (4, .int z15)] → WD D dA b0 ι h16 s.heap H locs → W p l e (headSpec wsX8_makeMonic rmX8_makeMonic).room s m ([.ref (ι a0)] : List Value).toArray below meth c H locs 0 0 (MQ below (QV D dA b0 ι h') ([.ref (ι a0)] : List Value).toArray s 0 0 (qA b0)) (F0 m 24 ls []) := by
      intro n24
      induction n24 with
      | zero => intro z15 h16 H locs ls hf; exact absurd hf (by rw [lX8_makeMonic_24]; exact fun q => nomatch q)
      | succ n24 ih24 =>
        intro z15 h16 H locs ls hf hl w
        rw [lX8_makeMonic_24] at hf
        refine lv_iload hx hb dX8_makeMonic_24 (lv_at hl 3 rfl) ?_
        refine lv_iload_n hx hb dX8_makeMonic_26 rfl (lv_at hl 1 rfl) ?_
        refine lv_icmp_gt (tgt := 52) hx hb dX8_makeMonic_27 (by decide) (fun c17 => ?_) (fun c17 => ?_)
        · have hf := if_t hf c17
          exact hx24 z15 h16 H locs ls (by rw [eκ24] at hf; exact hf) (lv_sub hl [0, 1, 2, 3] rfl) w
        · have hf := if_f hf c17
          refine lv_aload_n hx hb dX8_makeMonic_30 rfl (lv_at hl 0 rfl) ?_
          refine lv_iload hx hb dX8_makeMonic_31 (lv_at hl 3 rfl) ?_
          refine lv_aload_n hx hb dX8_makeMonic_33 rfl (lv_at hl 0 rfl) ?_
          refine lv_iload hx hb dX8_makeMonic_34 (lv_at hl 3 rfl) ?_
          obtain ⟨v18, ev18, hf⟩ := ob_s hf
          refine px_iald hx hb hK w ev18 dX8_makeMonic_36 ?_
          refine lv_i2l hx hb dX8_makeMonic_37 rfl ?_
          refine lv_lload_n hx hb dX8_makeMonic_38 rfl (lv_at hl 2 rfl) ?_
          refine lv_lmul hx hb dX8_makeMonic_39 ?_
          refine lv_ldc2 (v := 32003) hx hb hown (hts _ mX8_makeMonic_69) dX8_makeMonic_40 ?_
          refine px_lrem hx hb dX8_makeMonic_43 (by decide) ?_
          refine lv_l2i hx hb dX8_makeMonic_44 rfl ?_
          obtain ⟨h19, eh19, hf⟩ := ob_s hf
          refine px_iast hx hb hK w eh19 dX8_makeMonic_45 (fun H locs w => ?_)
          obtain ⟨x20, ex20, hf⟩ := nm_s hf
          refine lv_iinc (v := x20) (lv' := [(4, .int x20), (0, .ref (ι a0)), (1, .int v1), (2, .long t5)]) hx hb dX8_makeMonic_46 hl (k := 3) rfl (by rw [ex20]; rfl) (by decide) rfl (fun ls hl => ?_)
          refine lv_goto (tgt := 24) hx hb dX8_makeMonic_49 (by decide) ?_
          exact ih24 x20 h19 H locs ls hf (lv_sub hl [1, 2, 3, 0] rfl) w
    exact hlp24 N (0 : Int32) h4 H locs ls (by rw [eκ24]; exact hf) (lv_sub hl [2, 3, 1, 0] rfl) w
  obtain ⟨j3, ej3, hf⟩ := jn_s hf
  refine lv_if_ge (tgt := 13) hx hb dX8_makeMonic_6 (by decide) (fun c21 => ?_) (fun c21 => ?_)
  · have hf := if_t hf c21
    refine lv_aload_n hx hb dX8_makeMonic_13 rfl (lv_at hl 1 rfl) ?_
    refine lv_iload_n hx hb dX8_makeMonic_14 rfl (lv_at hl 0 rfl) ?_
    obtain ⟨v22, ev22, hf⟩ := ob_s hf
    refine px_iald hx hb hK w ev22 dX8_makeMonic_15 ?_
    obtain ⟨⟨v23, h24⟩, eh24, hf⟩ := ob_s hf
    dsimp only at hf
    refine px_callSi (As := [.int v22]) (rest := []) ⟨hx, hb, hml, hown, hts⟩ hC w (kX8_inverse l D dA b0 ι N v22 h2 v23 h24 eh24) (va_cwS 1 hts gX8_makeMonic_X8_inverse rfl rfl rfl (by decide +kernel) ⟨Nat.le_of_ble_eq_true rfl, Nat.le_of_ble_eq_true rfl⟩) rfl hl.1 rfl (Nat.le_of_ble_eq_true rfl) dX8_makeMonic_16 ⟨Nat.le_of_ble_eq_true rfl, Nat.le_of_ble_eq_true rfl⟩ (fun H locs w => ?_)
    refine lv_i2l hx hb dX8_makeMonic_19 rfl ?_
    exact hj20 (v23.toInt64) h24 H locs ls (by rw [ej3] at hf; exact hf) (lv_sub hl [1, 0] rfl) w
  · have hf := if_f hf c21
    refine lv_lconst (v := 1) hx hb dX8_makeMonic_9 (by decide) ?_
    refine lv_goto (tgt := 20) hx hb dX8_makeMonic_10 (by decide) ?_
    exact hj20 (1 : Int64) h2 H locs ls (by rw [ej3] at hf; exact hf) (lv_sub hl [1, 0] rfl) w
theorem nX8_divide_X8 : ∀ w ∈ wsX80, w ∈ wsX8_divide := by decide +kernel
theorem mX8_divide_38 : Cond.fieldLink RX8 38 "NormalFormsModel" "c" "[I" ∈ wsX8_divide := by decide +kernel
theorem mX8_divide_69 : Cond.constantLong RX8 69 (32003) ∈ wsX8_divide := by decide +kernel
abbrev rmX8_divide : Room := { frames := 2, cells := 0, slots := 0, locals := 37 }
set_option maxHeartbeats 4000000 in
set_option maxRecDepth 100000 in
theorem kX8_divide (l : Launch) (D : va_G) (dA : Nat → ClassId) (b0 : Nat) (ι : Nat → Nat) (N : Nat) (a0 : Nat) (a1 : Nat) (a2 : Nat) (h : Hp) (h' : Hp) (hf : fX8_divide N a0 a1 a2 h = some h') : Met l yX8_divide wsX8_divide rmX8_divide (PC D dA b0 ι [.ref (ι a0), .ref (ι a1), .ref (ι a2)] h) (QV D dA b0 ι h') 0 0 (qA b0) := by
  unfold fX8_divide at hf
  refine Met.ofW (cc := cX8_divide) (maxL := 10) (ret := none) (by decide +kernel) rfl ?_
  intro p e s m args below meth c s₁ B hml hv
  obtain ⟨rfl, w0⟩ := hv
  have hx := B.exec
  have hb := B.bytes
  have hr := B.returns
  have hts := atoms_spec (ws := wsX8_divide) B.pre
  have hown : s.vm.findClass RX8 = some m.cls := findClass_of_methodNamed B.named
  have hlocks := B.notSynchronized
  have hC := w0.c
  have hK := hC.1
  have w := WD.start w0
  clear w0
  have hl := lv_entry ([.ref (ι a0), .ref (ι a1), .ref (ι a2)]) (n := 10) (Nat.le_of_ble_eq_true rfl)
  rw [lg_entry_eq]
  generalize (lg_sl ([.ref (ι a0), .ref (ι a1), .ref (ι a2)]) ++ List.replicate (10 - (lg_sl ([.ref (ι a0), .ref (ι a1), .ref (ι a2)])).length) Slot.unset).toArray = ls at hl ⊢
  have hl : lv_has ls 10 [(0, .ref (ι a0)), (1, .ref (ι a1)), (2, .ref (ι a2))] := hl
  obtain ⟨H, hH⟩ : ∃ H : Heap, H = s.heap := ⟨_, rfl⟩
  obtain ⟨locs, hlo⟩ : ∃ locs : List Loc, locs = [] := ⟨_, rfl⟩
  rw [← hlo]
  have w : WD D dA b0 ι h s.heap H locs := by rw [hH, hlo]; exact w
  refine px_start hH ?_
  refine lv_aload_n hx hb dX8_divide_0 rfl (lv_at hl 2 rfl) ?_
  obtain ⟨⟨v1, h2⟩, eh2, hf⟩ := ob_s hf
  dsimp only at hf
  refine px_callSi (As := [.ref (ι a2)]) (rest := []) ⟨hx, hb, hml, hown, hts⟩ hC w (kX8_high l D dA b0 ι N a2 h v1 h2 eh2) (va_cwS 1 hts gX8_divide_X8_high rfl rfl rfl (by decide +kernel) ⟨Nat.le_of_ble_eq_true rfl, Nat.le_of_ble_eq_true rfl⟩) rfl hl.1 rfl (Nat.le_of_ble_eq_true rfl) dX8_divide_1 ⟨Nat.le_of_ble_eq_true rfl, Nat.le_of_ble_eq_true rfl⟩ (fun H locs w => ?_)
  refine lv_istore_n (lv' := [(3, .int v1), (0, .ref (ι a0)), (1, .ref (ι a1)), (2, .ref (ι a2))]) hx hb dX8_divide_4 rfl hl (by decide) rfl (fun ls hl => ?_)
  refine lv_aload_n hx hb dX8_divide_5 rfl (lv_at hl 3 rfl) ?_
  refine lv_iload_n hx hb dX8_divide_6 rfl (lv_at hl 0 rfl) ?_
  obtain ⟨v3, ev3, hf⟩ := ob_s hf
  refine px_iald hx hb hK w ev3 dX8_divide_7 ?_
  obtain ⟨⟨v4, h5⟩, eh5, hf⟩ := ob_s hf
  dsimp only at hf
  refine px_callSi (As := [.int v3]) (rest := []) ⟨hx, hb, hml, hown, hts⟩ hC w (kX8_inverse l D dA b0 ι N v3 h2 v4 h5 eh5) (va_cwS 1 hts gX8_divide_X8_inverse rfl rfl rfl (by decide +kernel) ⟨Nat.le_of_ble_eq_true rfl, Nat.le_of_ble_eq_true rfl⟩) rfl hl.1 rfl (Nat.le_of_ble_eq_true rfl) dX8_divide_8 ⟨Nat.le_of_ble_eq_true rfl, Nat.le_of_ble_eq_true rfl⟩ (fun H locs w => ?_)
  refine lv_i2l hx hb dX8_divide_11 rfl ?_
  obtain ⟨x6, ex6, hf⟩ := nm_s hf
  refine px_nmJ ex6 ?_
  refine lv_lstore (lv' := [(4, .long x6), (3, .int v1), (0, .ref (ι a0)), (1, .ref (ι a1)), (2, .ref (ι a2))]) hx hb dX8_divide_12 hl (by decide) rfl (fun ls hl => ?_)
  refine lv_aload_n hx hb dX8_divide_14 rfl (lv_at hl 2 rfl) ?_
  obtain ⟨v7, ev7, hf⟩ := ob_s hf
  refine px_getR hx hb hts nX8_divide_X8 hown hK w ev7 rfl (by decide) mX8_divide_38 rfl dX8_divide_15 ?_
  obtain ⟨h9, eh9, hf⟩ := ob_s hf
  refine px_callSv (As := [.ref (ι v7)]) (rest := []) ⟨hx, hb, hml, hown, hts⟩ hC w (kX8_empty l D dA b0 ι N v7 h5 h9 eh9) (va_cwS 1 hts gX8_divide_X8_empty rfl rfl rfl (by decide +kernel) ⟨Nat.le_of_ble_eq_true rfl, Nat.le_of_ble_eq_true rfl⟩) rfl hl.1 rfl (Nat.le_of_ble_eq_true rfl) dX8_divide_18 ⟨Nat.le_of_ble_eq_true rfl, Nat.le_of_ble_eq_true rfl⟩ (fun H locs w => ?_)
  refine lv_sipush (v := (255 : Int32)) hx hb dX8_divide_21 (by decide) ?_
  refine lv_istore (lv' := [(6, .int (255 : Int32)), (4, .long x6), (3, .int v1), (0, .ref (ι a0)), (1, .ref (ι a1)), (2, .ref (ι a2))]) hx hb dX8_divide_24 hl (by decide) rfl (fun ls hl => ?_)
  have hx26 : ∀ (y10 : Int32) (h11 : Hp) (H : Heap) (locs : List Loc) (ls : Array Slot), (some h11) = some h' → lv_has ls 10 [(0, .ref (ι a0)), (1, .ref (ι a1)), (2, .ref (ι a2)), (3, .int v1), (4, .long x6), (6, .int y10)] → WD D dA b0 ι h11 s.heap H locs → W p l e (headSpec wsX8_divide rmX8_divide).room s m ([.ref (ι a0), .ref (ι a1), .ref (ι a2)] : List Value).toArray below meth c H locs 0 0 (MQ below (QV D dA b0 ι h') ([.ref (ι a0), .ref (ι a1), .ref (ι a2)] : List Value).toArray s 0 0 (qA b0)) (F0 m 120 ls []) := by
    intro y10 h11 H locs ls hf hl w
    exact W.vret hx hb hr (qv_end hf w hC) w.locs_ok dX8_divide_120
  obtain ⟨κ26, eκ26⟩ : ∃ k : Int32 → Hp → Option Hp, k = (fun y10 h11 => some h11) := ⟨_, rfl⟩
  have hlp26 : ∀ (n : Nat) (z46 : Int32) (h47 : Hp) (H : Heap) (locs : List Loc) (ls : Array Slot), lX8_divide_26 N a0 a1 a2 v1 x6 n z46 h47 κ26 = some h' → lv_has ls 10 [(0, .ref (ι a0)), (1, .ref (ι a1)), (2, .ref (ι a2)), (3, .int v1), (4, .long x6), (6, .int z46)] → WD D dA b0 ι h47 s.heap H locs → W p l e (headSpec wsX8_divide rmX8_divide).room s m ([.ref (ι a0), .ref (ι a1), .ref (ι a2)] : List Value).toArray below meth c H locs 0 0 (MQ below (QV D dA b0 ι h') ([.ref (ι a0), .ref (ι a1), .ref (ι a2)] : List Value).toArray s 0 0 (qA b0)) (F0 m 26 ls []) := by
    intro n26
    induction n26 with
    | zero => intro z46 h47 H locs ls hf; exact absurd hf (by rw [lX8_divide_26]; exact fun q => nomatch q)
    | succ n26 ih26 =>
      intro z46 h47 H locs ls hf hl w
      rw [lX8_divide_26] at hf
      refine lv_iload hx hb dX8_divide_26 (lv_at hl 5 rfl) ?_
      refine lv_iload_n hx hb dX8_divide_28 rfl (lv_at hl 3 rfl) ?_
      refine lv_icmp_lt (tgt := 120) hx hb dX8_divide_29 (by decide) (fun c48 => ?_) (fun c48 => ?_)
      · have hf := if_t hf c48
        exact hx26 z46 h47 H locs ls (by rw [eκ26] at hf; exact hf) (lv_sub hl [0, 1, 2, 3, 4, 5] rfl) w
      · have hf := if_f hf c48
        refine lv_aload_n hx hb dX8_divide_32 rfl (lv_at hl 1 rfl) ?_
        refine lv_iload hx hb dX8_divide_33 (lv_at hl 5 rfl) ?_
        obtain ⟨v49, ev49, hf⟩ := ob_s hf
        refine px_iald hx hb hK w ev49 dX8_divide_35 ?_
        have hj114 : ∀ (h51 : Hp) (H : Heap) (locs : List Loc) (ls : Array Slot), (nm (z46 + (-1 : Int32)) fun x52 => lX8_divide_26 N a0 a1 a2 v1 x6 n26 x52 h51 κ26) = some h' → lv_has ls 10 [(0, .ref (ι a0)), (1, .ref (ι a1)), (2, .ref (ι a2)), (3, .int v1), (4, .long x6), (6, .int z46)] → WD D dA b0 ι h51 s.heap H locs → W p l e (headSpec wsX8_divide rmX8_divide).room s m ([.ref (ι a0), .ref (ι a1), .ref (ι a2)] : List Value).toArray below meth c H locs 0 0 (MQ below (QV D dA b0 ι h') ([.ref (ι a0), .ref (ι a1), .ref (ι a2)] : List Value).toArray s 0 0 (qA b0)) (F0 m 114 ls []) := by
          intro h51 H locs ls hf hl w
          obtain ⟨x52, ex52, hf⟩ := nm_s hf
          refine lv_iinc (v := x52) (lv' := [(6, .int x52), (0, .ref (ι a0)), (1, .ref (ι a1)), (2, .ref (ι a2)), (3, .int v1), (4, .long x6)]) hx hb dX8_divide_114 hl (k := 5) rfl (by rw [ex52]; rfl) (by decide) rfl (fun ls hl => ?_)
          refine lv_goto (tgt := 26) hx hb dX8_divide_117 (by decide) ?_
          exact ih26 x52 h51 H locs ls hf (lv_sub hl [1, 2, 3, 4, 5, 0] rfl) w
        obtain ⟨j50, ej50, hf⟩ := jn_s hf
        refine lv_if_ne (tgt := 42) hx hb dX8_divide_36 (by decide) (fun c53 => ?_) (fun c53 => ?_)
        · have hf := if_f hf c53
          refine lv_aload_n hx hb dX8_divide_42 rfl (lv_at hl 1 rfl) ?_
          refine lv_iload hx hb dX8_divide_43 (lv_at hl 5 rfl) ?_
          obtain ⟨v54, ev54, hf⟩ := ob_s hf
          refine px_iald hx hb hK w ev54 dX8_divide_45 ?_
          refine lv_i2l hx hb dX8_divide_46 rfl ?_
          refine lv_lload hx hb dX8_divide_47 (lv_at hl 4 rfl) ?_
          refine lv_lmul hx hb dX8_divide_49 ?_
          refine lv_ldc2 (v := 32003) hx hb hown (hts _ mX8_divide_69) dX8_divide_50 ?_
          refine px_lrem hx hb dX8_divide_53 (by decide) ?_
          obtain ⟨x55, ex55, hf⟩ := nm_s hf
          refine px_nmJ ex55 ?_
          refine lv_lstore (lv' := [(7, .long x55), (0, .ref (ι a0)), (1, .ref (ι a1)), (2, .ref (ι a2)), (3, .int v1), (4, .long x6), (6, .int z46)]) hx hb dX8_divide_54 hl (by decide) rfl (fun ls hl => ?_)
          refine lv_aload_n hx hb dX8_divide_56 rfl (lv_at hl 1 rfl) ?_
          obtain ⟨v56, ev56, hf⟩ := ob_s hf
          refine px_getR hx hb hts nX8_divide_X8 hown hK w ev56 rfl (by decide) mX8_divide_38 rfl dX8_divide_57 ?_
          refine lv_iload hx hb dX8_divide_60 (lv_at hl 6 rfl) ?_
          refine lv_iload_n hx hb dX8_divide_62 rfl (lv_at hl 4 rfl) ?_
          refine lv_isub hx hb dX8_divide_63 ?_
          refine lv_lload hx hb dX8_divide_64 (lv_at hl 0 rfl) ?_
          refine lv_l2i hx hb dX8_divide_66 rfl ?_
          obtain ⟨h57, eh57, hf⟩ := ob_s hf
          refine px_iast hx hb hK w eh57 dX8_divide_67 (fun H locs w => ?_)
          refine lv_iconst (v := (0 : Int32)) hx hb dX8_divide_68 (by decide) ?_
          refine lv_istore (lv' := [(9, .int (0 : Int32)), (7, .long x55), (0, .ref (ι a0)), (1, .ref (ι a1)), (2, .ref (ι a2)), (3, .int v1), (4, .long x6), (6, .int z46)]) hx hb dX8_divide_69 hl (by decide) rfl (fun ls hl => ?_)
          have hx71 : ∀ (y58 : Int32) (h59 : Hp) (H : Heap) (locs : List Loc) (ls : Array Slot), (j50 h59) = some h' → lv_has ls 10 [(0, .ref (ι a0)), (1, .ref (ι a1)), (2, .ref (ι a2)), (3, .int v1), (4, .long x6), (6, .int z46), (7, .long x55), (9, .int y58)] → WD D dA b0 ι h59 s.heap H locs → W p l e (headSpec wsX8_divide rmX8_divide).room s m ([.ref (ι a0), .ref (ι a1), .ref (ι a2)] : List Value).toArray below meth c H locs 0 0 (MQ below (QV D dA b0 ι h') ([.ref (ι a0), .ref (ι a1), .ref (ι a2)] : List Value).toArray s 0 0 (qA b0)) (F0 m 114 ls []) := by
            intro y58 h59 H locs ls hf hl w
            exact hj114 h59 H locs ls (by rw [ej50] at hf; exact hf) (lv_sub hl [0, 1, 2, 3, 4, 5] rfl) w
          obtain ⟨κ71, eκ71⟩ : ∃ k : Int32 → Hp → Option Hp, k = (fun y58 h59 => j50 h59) := ⟨_, rfl⟩
          have hlp71 : ∀ (n : Nat) (z70 : Int32) (h71 : Hp) (H : Heap) (locs : List Loc) (ls : Array Slot), lX8_divide_71 N a0 a1 a2 v1 x6 z46 x55 n z70 h71 κ71 = some h' → lv_has ls 10 [(0, .ref (ι a0)), (1, .ref (ι a1)), (2, .ref (ι a2)), (3, .int v1), (4, .long x6), (6, .int z46), (7, .long x55), (9, .int z70)] → WD D dA b0 ι h71 s.heap H locs → W p l e (headSpec wsX8_divide rmX8_divide).room s m ([.ref (ι a0), .ref (ι a1), .ref (ι a2)] : List Value).toArray below meth c H locs 0 0 (MQ below (QV D dA b0 ι h') ([.ref (ι a0), .ref (ι a1), .ref (ι a2)] : List Value).toArray s 0 0 (qA b0)) (F0 m 71 ls []) := by
            intro n71
            induction n71 with
            | zero => intro z70 h71 H locs ls hf; exact absurd hf (by rw [lX8_divide_71]; exact fun q => nomatch q)
            | succ n71 ih71 =>
              intro z70 h71 H locs ls hf hl w
              rw [lX8_divide_71] at hf
              refine lv_iload hx hb dX8_divide_71 (lv_at hl 7 rfl) ?_
              refine lv_iload_n hx hb dX8_divide_73 rfl (lv_at hl 3 rfl) ?_
              refine lv_icmp_gt (tgt := 114) hx hb dX8_divide_74 (by decide) (fun c72 => ?_) (fun c72 => ?_)
              · have hf := if_t hf c72
                exact hx71 z70 h71 H locs ls (by rw [eκ71] at hf; exact hf) (lv_sub hl [0, 1, 2, 3, 4, 5, 6, 7] rfl) w
              · have hf := if_f hf c72
                refine lv_aload_n hx hb dX8_divide_77 rfl (lv_at hl 1 rfl) ?_
                refine lv_iload hx hb dX8_divide_78 (lv_at hl 5 rfl) ?_
                refine lv_iload_n hx hb dX8_divide_80 rfl (lv_at hl 3 rfl) ?_
                refine lv_isub hx hb dX8_divide_81 ?_
                refine lv_iload hx hb dX8_divide_82 (lv_at hl 7 rfl) ?_
                refine lv_iadd hx hb dX8_divide_84 ?_
                refine lv_aload_n hx hb dX8_divide_85 rfl (lv_at hl 1 rfl) ?_
                refine lv_iload hx hb dX8_divide_86 (lv_at hl 5 rfl) ?_
                refine lv_iload_n hx hb dX8_divide_88 rfl (lv_at hl 3 rfl) ?_
                refine lv_isub hx hb dX8_divide_89 ?_
                refine lv_iload hx hb dX8_divide_90 (lv_at hl 7 rfl) ?_
                refine lv_iadd hx hb dX8_divide_92 ?_
                obtain ⟨v73, ev73, hf⟩ := ob_s hf
                refine px_iald hx hb hK w ev73 dX8_divide_93 ?_
                refine lv_i2l hx hb dX8_divide_94 rfl ?_
                refine lv_lload hx hb dX8_divide_95 (lv_at hl 6 rfl) ?_
                refine lv_aload_n hx hb dX8_divide_97 rfl (lv_at hl 2 rfl) ?_
                refine lv_iload hx hb dX8_divide_98 (lv_at hl 7 rfl) ?_
                obtain ⟨v74, ev74, hf⟩ := ob_s hf
                refine px_iald hx hb hK w ev74 dX8_divide_100 ?_
                refine lv_i2l hx hb dX8_divide_101 rfl ?_
                refine lv_lmul hx hb dX8_divide_102 ?_
                refine lv_lsub hx hb dX8_divide_103 ?_
                obtain ⟨⟨v75, h76⟩, eh76, hf⟩ := ob_s hf
                dsimp only at hf
                refine px_callSi (As := [.long ((v73.toInt64) - (x55 * (v74.toInt64)))]) (rest := [.int ((z46 - v1) + z70), .ref (ι a1)]) ⟨hx, hb, hml, hown, hts⟩ hC w (kX8_modulo l D dA b0 ι N ((v73.toInt64) - (x55 * (v74.toInt64))) h71 v75 h76 eh76) (va_cwS 1 hts gX8_divide_X8_modulo rfl rfl rfl (by decide +kernel) ⟨Nat.le_of_ble_eq_true rfl, Nat.le_of_ble_eq_true rfl⟩) rfl hl.1 rfl (Nat.le_of_ble_eq_true rfl) dX8_divide_104 ⟨Nat.le_of_ble_eq_true rfl, Nat.le_of_ble_eq_true rfl⟩ (fun H locs w => ?_)
                obtain ⟨h77, eh77, hf⟩ := ob_s hf
                refine px_iast hx hb hK w eh77 dX8_divide_107 (fun H locs w => ?_)
                obtain ⟨x78, ex78, hf⟩ := nm_s hf
                refine lv_iinc (v := x78) (lv' := [(9, .int x78), (0, .ref (ι a0)), (1, .ref (ι a1)), (2, .ref (ι a2)), (3, .int v1), (4, .long x6), (6, .int z46), (7, .long x55)]) hx hb dX8_divide_108 hl (k := 7) rfl (by rw [ex78]; rfl) (by decide) rfl (fun ls hl => ?_)
                refine lv_goto (tgt := 71) hx hb dX8_divide_111 (by decide) ?_
                exact ih71 x78 h77 H locs ls hf (lv_sub hl [1, 2, 3, 4, 5, 6, 7, 0] rfl) w
          exact hlp71 N (0 : Int32) h57 H locs ls (by rw [eκ71]; exact hf) (lv_sub hl [2, 3, 4, 5, 6, 7, 1, 0] rfl) w
        · have hf := if_t hf c53
          refine lv_goto (tgt := 114) hx hb dX8_divide_39 (by decide) ?_
          exact hj114 h47 H locs ls (by rw [ej50] at hf; exact hf) (lv_sub hl [0, 1, 2, 3, 4, 5] rfl) w
  exact hlp26 N (255 : Int32) h9 H locs ls (by rw [eκ26]; exact hf) (lv_sub hl [3, 4, 5, 2, 1, 0] rfl) w
theorem nX8_common_X8 : ∀ w ∈ wsX80, w ∈ wsX8_common := by decide +kernel
theorem mX8_common_32 : Cond.fieldLink RX8 32 "NormalFormsModel" "a" "[I" ∈ wsX8_common := by decide +kernel
theorem mX8_common_35 : Cond.fieldLink RX8 35 "NormalFormsModel" "b" "[I" ∈ wsX8_common := by decide +kernel
abbrev rmX8_common : Room := { frames := 3, cells := 0, slots := 0, locals := 66 }
set_option maxHeartbeats 4000000 in
set_option maxRecDepth 100000 in
theorem kX8_common (l : Launch) (D : va_G) (dA : Nat → ClassId) (b0 : Nat) (ι : Nat → Nat) (N : Nat) (a0 : Nat) (h : Hp) (h' : Hp) (hf : fX8_common N a0 h = some h') : Met l yX8_common wsX8_common rmX8_common (PC D dA b0 ι [.ref (ι a0)] h) (QV D dA b0 ι h') 0 0 (qA b0) := by
  unfold fX8_common at hf
  refine Met.ofW (cc := cX8_common) (maxL := 3) (ret := none) (by decide +kernel) rfl ?_
  intro p e s m args below meth c s₁ B hml hv
  obtain ⟨rfl, w0⟩ := hv
  have hx := B.exec
  have hb := B.bytes
  have hr := B.returns
  have hts := atoms_spec (ws := wsX8_common) B.pre
  have hown : s.vm.findClass RX8 = some m.cls := findClass_of_methodNamed B.named
  have hlocks := B.notSynchronized
  have hC := w0.c
  have hK := hC.1
  have w := WD.start w0
  clear w0
  have hl := lv_entry ([.ref (ι a0)]) (n := 3) (Nat.le_of_ble_eq_true rfl)
  rw [lg_entry_eq]
  generalize (lg_sl ([.ref (ι a0)]) ++ List.replicate (3 - (lg_sl ([.ref (ι a0)])).length) Slot.unset).toArray = ls at hl ⊢
  have hl : lv_has ls 3 [(0, .ref (ι a0))] := hl
  obtain ⟨H, hH⟩ : ∃ H : Heap, H = s.heap := ⟨_, rfl⟩
  obtain ⟨locs, hlo⟩ : ∃ locs : List Loc, locs = [] := ⟨_, rfl⟩
  rw [← hlo]
  have w : WD D dA b0 ι h s.heap H locs := by rw [hH, hlo]; exact w
  refine px_start hH ?_
  have hx0 : ∀ (h1 : Hp) (H : Heap) (locs : List Loc) (ls : Array Slot), ((gR h1 a0 10 10).bind fun v2 => (fX8_makeMonic N v2 h1).bind fun h4 => some h4) = some h' → lv_has ls 3 [(0, .ref (ι a0))] → WD D dA b0 ι h1 s.heap H locs → W p l e (headSpec wsX8_common rmX8_common).room s m ([.ref (ι a0)] : List Value).toArray below meth c H locs 0 0 (MQ below (QV D dA b0 ι h') ([.ref (ι a0)] : List Value).toArray s 0 0 (qA b0)) (F0 m 66 ls []) := by
    intro  h1 H locs ls hf hl w
    refine lv_aload_n hx hb dX8_common_66 rfl (lv_at hl 0 rfl) ?_
    obtain ⟨v2, ev2, hf⟩ := ob_s hf
    refine px_getR hx hb hts nX8_common_X8 hown hK w ev2 rfl (by decide) mX8_common_32 rfl dX8_common_67 ?_
    obtain ⟨h4, eh4, hf⟩ := ob_s hf
    refine px_callSv (As := [.ref (ι v2)]) (rest := []) ⟨hx, hb, hml, hown, hts⟩ hC w (kX8_makeMonic l D dA b0 ι N v2 h1 h4 eh4) (va_cwS 1 hts gX8_common_X8_makeMonic rfl rfl rfl (by decide +kernel) ⟨Nat.le_of_ble_eq_true rfl, Nat.le_of_ble_eq_true rfl⟩) rfl hl.1 rfl (Nat.le_of_ble_eq_true rfl) dX8_common_70 ⟨Nat.le_of_ble_eq_true rfl, Nat.le_of_ble_eq_true rfl⟩ (fun H locs w => ?_)
    exact W.vret hx hb hr (qv_end hf w hC) w.locs_ok dX8_common_73
  obtain ⟨κ0, eκ0⟩ : ∃ k : Hp → Option Hp, k = (fun h1 => (gR h1 a0 10 10).bind fun v2 => (fX8_makeMonic N v2 h1).bind fun h4 => some h4) := ⟨_, rfl⟩
  have hlp0 : ∀ (n : Nat) (h43 : Hp) (H : Heap) (locs : List Loc) (ls : Array Slot), lX8_common_0 N a0 n  h43 κ0 = some h' → lv_has ls 3 [(0, .ref (ι a0))] → WD D dA b0 ι h43 s.heap H locs → W p l e (headSpec wsX8_common rmX8_common).room s m ([.ref (ι a0)] : List Value).toArray below meth c H locs 0 0 (MQ below (QV D dA b0 ι h') ([.ref (ι a0)] : List Value).toArray s 0 0 (qA b0)) (F0 m 0 ls []) := by
    intro n0
    induction n0 with
    | zero => intro  h43 H locs ls hf; exact absurd hf (by rw [lX8_common_0]; exact fun q => nomatch q)
    | succ n0 ih0 =>
      intro  h43 H locs ls hf hl w
      rw [lX8_common_0] at hf
      refine lv_aload_n hx hb dX8_common_0 rfl (lv_at hl 0 rfl) ?_
      obtain ⟨v44, ev44, hf⟩ := ob_s hf
      refine px_getR hx hb hts nX8_common_X8 hown hK w ev44 rfl (by decide) mX8_common_35 rfl dX8_common_1 ?_
      obtain ⟨⟨v45, h46⟩, eh46, hf⟩ := ob_s hf
      dsimp only at hf
      refine px_callSi (As := [.ref (ι v44)]) (rest := []) ⟨hx, hb, hml, hown, hts⟩ hC w (kX8_high l D dA b0 ι N v44 h43 v45 h46 eh46) (va_cwS 1 hts gX8_common_X8_high rfl rfl rfl (by decide +kernel) ⟨Nat.le_of_ble_eq_true rfl, Nat.le_of_ble_eq_true rfl⟩) rfl hl.1 rfl (Nat.le_of_ble_eq_true rfl) dX8_common_4 ⟨Nat.le_of_ble_eq_true rfl, Nat.le_of_ble_eq_true rfl⟩ (fun H locs w => ?_)
      refine lv_if_lt (tgt := 66) hx hb dX8_common_7 (by decide) (fun c47 => ?_) (fun c47 => ?_)
      · have hf := if_t hf c47
        exact hx0 h46 H locs ls (by rw [eκ0] at hf; exact hf) (lv_sub hl [0] rfl) w
      · have hf := if_f hf c47
        refine lv_aload_n hx hb dX8_common_10 rfl (lv_at hl 0 rfl) ?_
        refine lv_aload_n hx hb dX8_common_11 rfl (lv_at hl 0 rfl) ?_
        obtain ⟨v48, ev48, hf⟩ := ob_s hf
        refine px_getR hx hb hts nX8_common_X8 hown hK w ev48 rfl (by decide) mX8_common_32 rfl dX8_common_12 ?_
        refine lv_aload_n hx hb dX8_common_15 rfl (lv_at hl 0 rfl) ?_
        obtain ⟨v49, ev49, hf⟩ := ob_s hf
        refine px_getR hx hb hts nX8_common_X8 hown hK w ev49 rfl (by decide) mX8_common_35 rfl dX8_common_16 ?_
        obtain ⟨u52, eu52, hf⟩ := ob_s hf
        obtain ⟨h51, eh51, hf⟩ := ob_s hf
        refine px_callVv (As := [.ref (ι v48), .ref (ι v49)]) (rest := []) ⟨hx, hb, hml, hown, hts⟩ hC w (kX8_divide l D dA b0 ι N a0 v48 v49 h46 h51 eh51) (cwV 2 hts gX8_common_X8_divide rfl rfl rfl (by decide +kernel) ⟨Nat.le_of_ble_eq_true rfl, Nat.le_of_ble_eq_true rfl⟩) eu52 rfl rfl hl.1 rfl (Nat.le_of_ble_eq_true rfl) dX8_common_19 ⟨Nat.le_of_ble_eq_true rfl, Nat.le_of_ble_eq_true rfl⟩ (fun H locs w => ?_)
        refine lv_iconst (v := (0 : Int32)) hx hb dX8_common_22 (by decide) ?_
        refine lv_istore_n (lv' := [(1, .int (0 : Int32)), (0, .ref (ι a0))]) hx hb dX8_common_23 rfl hl (by decide) rfl (fun ls hl => ?_)
        have hx24 : ∀ (y53 : Int32) (h54 : Hp) (H : Heap) (locs : List Loc) (ls : Array Slot), (lX8_common_0 N a0 n0 h54 κ0) = some h' → lv_has ls 3 [(0, .ref (ι a0)), (1, .int y53)] → WD D dA b0 ι h54 s.heap H locs → W p l e (headSpec wsX8_common rmX8_common).room s m ([.ref (ι a0)] : List Value).toArray below meth c H locs 0 0 (MQ below (QV D dA b0 ι h') ([.ref (ι a0)] : List Value).toArray s 0 0 (qA b0)) (F0 m 63 ls []) := by
          intro y53 h54 H locs ls hf hl w
          refine lv_goto (tgt := 0) hx hb dX8_common_63 (by decide) ?_
          exact ih0 h54 H locs ls hf (lv_sub hl [0] rfl) w
        obtain ⟨κ24, eκ24⟩ : ∃ k : Int32 → Hp → Option Hp, k = (fun y53 h54 => lX8_common_0 N a0 n0 h54 κ0) := ⟨_, rfl⟩
        have hlp24 : ∀ (n : Nat) (z68 : Int32) (h69 : Hp) (H : Heap) (locs : List Loc) (ls : Array Slot), lX8_common_24 N a0 n z68 h69 κ24 = some h' → lv_has ls 3 [(0, .ref (ι a0)), (1, .int z68)] → WD D dA b0 ι h69 s.heap H locs → W p l e (headSpec wsX8_common rmX8_common).room s m ([.ref (ι a0)] : List Value).toArray below meth c H locs 0 0 (MQ below (QV D dA b0 ι h') ([.ref (ι a0)] : List Value).toArray s 0 0 (qA b0)) (F0 m 24 ls []) := by
          intro n24
          induction n24 with
          | zero => intro z68 h69 H locs ls hf; exact absurd hf (by rw [lX8_common_24]; exact fun q => nomatch q)
          | succ n24 ih24 =>
            intro z68 h69 H locs ls hf hl w
            rw [lX8_common_24] at hf
            refine lv_iload_n hx hb dX8_common_24 rfl (lv_at hl 1 rfl) ?_
            refine lv_sipush (v := (256 : Int32)) hx hb dX8_common_25 (by decide) ?_
            refine lv_icmp_ge (tgt := 63) hx hb dX8_common_28 (by decide) (fun c70 => ?_) (fun c70 => ?_)
            · have hf := if_t hf c70
              exact hx24 z68 h69 H locs ls (by rw [eκ24] at hf; exact hf) (lv_sub hl [0, 1] rfl) w
            · have hf := if_f hf c70
              refine lv_aload_n hx hb dX8_common_31 rfl (lv_at hl 0 rfl) ?_
              obtain ⟨v71, ev71, hf⟩ := ob_s hf
              refine px_getR hx hb hts nX8_common_X8 hown hK w ev71 rfl (by decide) mX8_common_32 rfl dX8_common_32 ?_
              refine lv_iload_n hx hb dX8_common_35 rfl (lv_at hl 1 rfl) ?_
              obtain ⟨v72, ev72, hf⟩ := ob_s hf
              refine px_iald hx hb hK w ev72 dX8_common_36 ?_
              refine lv_istore_n (lv' := [(2, .int v72), (0, .ref (ι a0)), (1, .int z68)]) hx hb dX8_common_37 rfl hl (by decide) rfl (fun ls hl => ?_)
              refine lv_aload_n hx hb dX8_common_38 rfl (lv_at hl 1 rfl) ?_
              obtain ⟨v73, ev73, hf⟩ := ob_s hf
              refine px_getR hx hb hts nX8_common_X8 hown hK w ev73 rfl (by decide) mX8_common_32 rfl dX8_common_39 ?_
              refine lv_iload_n hx hb dX8_common_42 rfl (lv_at hl 2 rfl) ?_
              refine lv_aload_n hx hb dX8_common_43 rfl (lv_at hl 1 rfl) ?_
              obtain ⟨v74, ev74, hf⟩ := ob_s hf
              refine px_getR hx hb hts nX8_common_X8 hown hK w ev74 rfl (by decide) mX8_common_35 rfl dX8_common_44 ?_
              refine lv_iload_n hx hb dX8_common_47 rfl (lv_at hl 2 rfl) ?_
              obtain ⟨v75, ev75, hf⟩ := ob_s hf
              refine px_iald hx hb hK w ev75 dX8_common_48 ?_
              obtain ⟨h76, eh76, hf⟩ := ob_s hf
              refine px_iast hx hb hK w eh76 dX8_common_49 (fun H locs w => ?_)
              refine lv_aload_n hx hb dX8_common_50 rfl (lv_at hl 1 rfl) ?_
              obtain ⟨v77, ev77, hf⟩ := ob_s hf
              refine px_getR hx hb hts nX8_common_X8 hown hK w ev77 rfl (by decide) mX8_common_35 rfl dX8_common_51 ?_
              refine lv_iload_n hx hb dX8_common_54 rfl (lv_at hl 2 rfl) ?_
              refine lv_iload_n hx hb dX8_common_55 rfl (lv_at hl 0 rfl) ?_
              obtain ⟨h78, eh78, hf⟩ := ob_s hf
              refine px_iast hx hb hK w eh78 dX8_common_56 (fun H locs w => ?_)
              obtain ⟨x79, ex79, hf⟩ := nm_s hf
              refine lv_iinc (v := x79) (lv' := [(1, .int x79), (2, .int v72), (0, .ref (ι a0))]) hx hb dX8_common_57 hl (k := 2) rfl (by rw [ex79]; rfl) (by decide) rfl (fun ls hl => ?_)
              refine lv_goto (tgt := 24) hx hb dX8_common_60 (by decide) ?_
              exact ih24 x79 h78 H locs ls hf (lv_sub hl [2, 0] rfl) w
        exact hlp24 N (0 : Int32) h51 H locs ls (by rw [eκ24]; exact hf) (lv_sub hl [1, 0] rfl) w
  exact hlp0 N  h H locs ls (by rw [eκ0]; exact hf) (lv_sub hl [0] rfl) w
theorem nX8_put0_X8 : ∀ w ∈ wsX80, w ∈ wsX8_put0 := by decide +kernel
theorem mX8_put0_17 : Cond.fieldLink RX8 17 "NormalFormsModel" "forms" "[I" ∈ wsX8_put0 := by decide +kernel
abbrev rmX8_put0 : Room := { frames := 1, cells := 0, slots := 0, locals := 12 }
set_option maxHeartbeats 4000000 in
set_option maxRecDepth 100000 in
theorem kX8_put0 (l : Launch) (D : va_G) (dA : Nat → ClassId) (b0 : Nat) (ι : Nat → Nat) (N : Nat) (a0 : Nat) (a1 : Int32) (a2 : Int32) (a3 : Int32) (a4 : Nat) (h : Hp) (h' : Hp) (hf : fX8_put0 N a0 a1 a2 a3 a4 h = some h') : Met l yX8_put0 wsX8_put0 rmX8_put0 (PC D dA b0 ι [.ref (ι a0), .int a1, .int a2, .int a3, .ref (ι a4)] h) (QV D dA b0 ι h') 0 0 (qA b0) := by
  unfold fX8_put0 at hf
  refine Met.ofW (cc := cX8_put0) (maxL := 6) (ret := none) (by decide +kernel) rfl ?_
  intro p e s m args below meth c s₁ B hml hv
  obtain ⟨rfl, w0⟩ := hv
  have hx := B.exec
  have hb := B.bytes
  have hr := B.returns
  have hts := atoms_spec (ws := wsX8_put0) B.pre
  have hown : s.vm.findClass RX8 = some m.cls := findClass_of_methodNamed B.named
  have hlocks := B.notSynchronized
  have hC := w0.c
  have hK := hC.1
  have w := WD.start w0
  clear w0
  have hl := lv_entry ([.ref (ι a0), .int a1, .int a2, .int a3, .ref (ι a4)]) (n := 6) (Nat.le_of_ble_eq_true rfl)
  rw [lg_entry_eq]
  generalize (lg_sl ([.ref (ι a0), .int a1, .int a2, .int a3, .ref (ι a4)]) ++ List.replicate (6 - (lg_sl ([.ref (ι a0), .int a1, .int a2, .int a3, .ref (ι a4)])).length) Slot.unset).toArray = ls at hl ⊢
  have hl : lv_has ls 6 [(0, .ref (ι a0)), (1, .int a1), (2, .int a2), (3, .int a3), (4, .ref (ι a4))] := hl
  obtain ⟨H, hH⟩ : ∃ H : Heap, H = s.heap := ⟨_, rfl⟩
  obtain ⟨locs, hlo⟩ : ∃ locs : List Loc, locs = [] := ⟨_, rfl⟩
  rw [← hlo]
  have w : WD D dA b0 ι h s.heap H locs := by rw [hH, hlo]; exact w
  refine px_start hH ?_
  refine lv_iconst (v := (0 : Int32)) hx hb dX8_put0_0 (by decide) ?_
  refine lv_istore (lv' := [(5, .int (0 : Int32)), (0, .ref (ι a0)), (1, .int a1), (2, .int a2), (3, .int a3), (4, .ref (ι a4))]) hx hb dX8_put0_1 hl (by decide) rfl (fun ls hl => ?_)
  have hx3 : ∀ (y1 : Int32) (h2 : Hp) (H : Heap) (locs : List Loc) (ls : Array Slot), (some h2) = some h' → lv_has ls 6 [(0, .ref (ι a0)), (1, .int a1), (2, .int a2), (3, .int a3), (4, .ref (ι a4)), (5, .int y1)] → WD D dA b0 ι h2 s.heap H locs → W p l e (headSpec wsX8_put0 rmX8_put0).room s m ([.ref (ι a0), .int a1, .int a2, .int a3, .ref (ι a4)] : List Value).toArray below meth c H locs 0 0 (MQ below (QV D dA b0 ι h') ([.ref (ι a0), .int a1, .int a2, .int a3, .ref (ι a4)] : List Value).toArray s 0 0 (qA b0)) (F0 m 42 ls []) := by
    intro y1 h2 H locs ls hf hl w
    exact W.vret hx hb hr (qv_end hf w hC) w.locs_ok dX8_put0_42
  obtain ⟨κ3, eκ3⟩ : ∃ k : Int32 → Hp → Option Hp, k = (fun y1 h2 => some h2) := ⟨_, rfl⟩
  have hlp3 : ∀ (n : Nat) (z11 : Int32) (h12 : Hp) (H : Heap) (locs : List Loc) (ls : Array Slot), lX8_put0_3 N a0 a1 a2 a3 a4 n z11 h12 κ3 = some h' → lv_has ls 6 [(0, .ref (ι a0)), (1, .int a1), (2, .int a2), (3, .int a3), (4, .ref (ι a4)), (5, .int z11)] → WD D dA b0 ι h12 s.heap H locs → W p l e (headSpec wsX8_put0 rmX8_put0).room s m ([.ref (ι a0), .int a1, .int a2, .int a3, .ref (ι a4)] : List Value).toArray below meth c H locs 0 0 (MQ below (QV D dA b0 ι h') ([.ref (ι a0), .int a1, .int a2, .int a3, .ref (ι a4)] : List Value).toArray s 0 0 (qA b0)) (F0 m 3 ls []) := by
    intro n3
    induction n3 with
    | zero => intro z11 h12 H locs ls hf; exact absurd hf (by rw [lX8_put0_3]; exact fun q => nomatch q)
    | succ n3 ih3 =>
      intro z11 h12 H locs ls hf hl w
      rw [lX8_put0_3] at hf
      refine lv_iload hx hb dX8_put0_3 (lv_at hl 5 rfl) ?_
      refine lv_bipush (v := (40 : Int32)) hx hb dX8_put0_5 (by decide) ?_
      refine lv_icmp_ge (tgt := 42) hx hb dX8_put0_7 (by decide) (fun c13 => ?_) (fun c13 => ?_)
      · have hf := if_t hf c13
        exact hx3 z11 h12 H locs ls (by rw [eκ3] at hf; exact hf) (lv_sub hl [0, 1, 2, 3, 4, 5] rfl) w
      · have hf := if_f hf c13
        refine lv_aload_n hx hb dX8_put0_10 rfl (lv_at hl 0 rfl) ?_
        obtain ⟨v14, ev14, hf⟩ := ob_s hf
        refine px_getR hx hb hts nX8_put0_X8 hown hK w ev14 rfl (by decide) mX8_put0_17 rfl dX8_put0_11 ?_
        refine lv_bipush (v := (40 : Int32)) hx hb dX8_put0_14 (by decide) ?_
        refine lv_bipush (v := (16 : Int32)) hx hb dX8_put0_16 (by decide) ?_
        refine lv_iload_n hx hb dX8_put0_18 rfl (lv_at hl 1 rfl) ?_
        refine lv_imul hx hb dX8_put0_19 ?_
        refine lv_iconst (v := (4 : Int32)) hx hb dX8_put0_20 (by decide) ?_
        refine lv_iload_n hx hb dX8_put0_21 rfl (lv_at hl 2 rfl) ?_
        refine lv_imul hx hb dX8_put0_22 ?_
        refine lv_iadd hx hb dX8_put0_23 ?_
        refine lv_iload_n hx hb dX8_put0_24 rfl (lv_at hl 3 rfl) ?_
        refine lv_iadd hx hb dX8_put0_25 ?_
        refine lv_imul hx hb dX8_put0_26 ?_
        refine lv_iload hx hb dX8_put0_27 (lv_at hl 5 rfl) ?_
        refine lv_iadd hx hb dX8_put0_29 ?_
        refine lv_aload hx hb dX8_put0_30 (lv_at hl 4 rfl) ?_
        refine lv_iload hx hb dX8_put0_32 (lv_at hl 5 rfl) ?_
        obtain ⟨v15, ev15, hf⟩ := ob_s hf
        refine px_iald hx hb hK w ev15 dX8_put0_34 ?_
        obtain ⟨h16, eh16, hf⟩ := ob_s hf
        refine px_iast hx hb hK w eh16 dX8_put0_35 (fun H locs w => ?_)
        obtain ⟨x17, ex17, hf⟩ := nm_s hf
        refine lv_iinc (v := x17) (lv' := [(5, .int x17), (0, .ref (ι a0)), (1, .int a1), (2, .int a2), (3, .int a3), (4, .ref (ι a4))]) hx hb dX8_put0_36 hl (k := 5) rfl (by rw [ex17]; rfl) (by decide) rfl (fun ls hl => ?_)
        refine lv_goto (tgt := 3) hx hb dX8_put0_39 (by decide) ?_
        exact ih3 x17 h16 H locs ls hf (lv_sub hl [1, 2, 3, 4, 5, 0] rfl) w
  exact hlp3 N (0 : Int32) h H locs ls (by rw [eκ3]; exact hf) (lv_sub hl [1, 2, 3, 4, 5, 0] rfl) w
theorem nX8_clearForm_X8 : ∀ w ∈ wsX80, w ∈ wsX8_clearForm := by decide +kernel
theorem mX8_clearForm_17 : Cond.fieldLink RX8 17 "NormalFormsModel" "forms" "[I" ∈ wsX8_clearForm := by decide +kernel
abbrev rmX8_clearForm : Room := { frames := 1, cells := 0, slots := 0, locals := 12 }
set_option maxHeartbeats 4000000 in
set_option maxRecDepth 100000 in
theorem kX8_clearForm (l : Launch) (D : va_G) (dA : Nat → ClassId) (b0 : Nat) (ι : Nat → Nat) (N : Nat) (a0 : Nat) (a1 : Int32) (h : Hp) (h' : Hp) (hf : fX8_clearForm N a0 a1 h = some h') : Met l yX8_clearForm wsX8_clearForm rmX8_clearForm (PC D dA b0 ι [.ref (ι a0), .int a1] h) (QV D dA b0 ι h') 0 0 (qA b0) := by
  unfold fX8_clearForm at hf
  refine Met.ofW (cc := cX8_clearForm) (maxL := 3) (ret := none) (by decide +kernel) rfl ?_
  intro p e s m args below meth c s₁ B hml hv
  obtain ⟨rfl, w0⟩ := hv
  have hx := B.exec
  have hb := B.bytes
  have hr := B.returns
  have hts := atoms_spec (ws := wsX8_clearForm) B.pre
  have hown : s.vm.findClass RX8 = some m.cls := findClass_of_methodNamed B.named
  have hlocks := B.notSynchronized
  have hC := w0.c
  have hK := hC.1
  have w := WD.start w0
  clear w0
  have hl := lv_entry ([.ref (ι a0), .int a1]) (n := 3) (Nat.le_of_ble_eq_true rfl)
  rw [lg_entry_eq]
  generalize (lg_sl ([.ref (ι a0), .int a1]) ++ List.replicate (3 - (lg_sl ([.ref (ι a0), .int a1])).length) Slot.unset).toArray = ls at hl ⊢
  have hl : lv_has ls 3 [(0, .ref (ι a0)), (1, .int a1)] := hl
  obtain ⟨H, hH⟩ : ∃ H : Heap, H = s.heap := ⟨_, rfl⟩
  obtain ⟨locs, hlo⟩ : ∃ locs : List Loc, locs = [] := ⟨_, rfl⟩
  rw [← hlo]
  have w : WD D dA b0 ι h s.heap H locs := by rw [hH, hlo]; exact w
  refine px_start hH ?_
  refine lv_iconst (v := (0 : Int32)) hx hb dX8_clearForm_0 (by decide) ?_
  refine lv_istore_n (lv' := [(2, .int (0 : Int32)), (0, .ref (ι a0)), (1, .int a1)]) hx hb dX8_clearForm_1 rfl hl (by decide) rfl (fun ls hl => ?_)
  have hx2 : ∀ (y1 : Int32) (h2 : Hp) (H : Heap) (locs : List Loc) (ls : Array Slot), (some h2) = some h' → lv_has ls 3 [(0, .ref (ι a0)), (1, .int a1), (2, .int y1)] → WD D dA b0 ι h2 s.heap H locs → W p l e (headSpec wsX8_clearForm rmX8_clearForm).room s m ([.ref (ι a0), .int a1] : List Value).toArray below meth c H locs 0 0 (MQ below (QV D dA b0 ι h') ([.ref (ι a0), .int a1] : List Value).toArray s 0 0 (qA b0)) (F0 m 28 ls []) := by
    intro y1 h2 H locs ls hf hl w
    exact W.vret hx hb hr (qv_end hf w hC) w.locs_ok dX8_clearForm_28
  obtain ⟨κ2, eκ2⟩ : ∃ k : Int32 → Hp → Option Hp, k = (fun y1 h2 => some h2) := ⟨_, rfl⟩
  have hlp2 : ∀ (n : Nat) (z10 : Int32) (h11 : Hp) (H : Heap) (locs : List Loc) (ls : Array Slot), lX8_clearForm_2 N a0 a1 n z10 h11 κ2 = some h' → lv_has ls 3 [(0, .ref (ι a0)), (1, .int a1), (2, .int z10)] → WD D dA b0 ι h11 s.heap H locs → W p l e (headSpec wsX8_clearForm rmX8_clearForm).room s m ([.ref (ι a0), .int a1] : List Value).toArray below meth c H locs 0 0 (MQ below (QV D dA b0 ι h') ([.ref (ι a0), .int a1] : List Value).toArray s 0 0 (qA b0)) (F0 m 2 ls []) := by
    intro n2
    induction n2 with
    | zero => intro z10 h11 H locs ls hf; exact absurd hf (by rw [lX8_clearForm_2]; exact fun q => nomatch q)
    | succ n2 ih2 =>
      intro z10 h11 H locs ls hf hl w
      rw [lX8_clearForm_2] at hf
      refine lv_iload_n hx hb dX8_clearForm_2 rfl (lv_at hl 2 rfl) ?_
      refine lv_sipush (v := (640 : Int32)) hx hb dX8_clearForm_3 (by decide) ?_
      refine lv_icmp_ge (tgt := 28) hx hb dX8_clearForm_6 (by decide) (fun c12 => ?_) (fun c12 => ?_)
      · have hf := if_t hf c12
        exact hx2 z10 h11 H locs ls (by rw [eκ2] at hf; exact hf) (lv_sub hl [0, 1, 2] rfl) w
      · have hf := if_f hf c12
        refine lv_aload_n hx hb dX8_clearForm_9 rfl (lv_at hl 0 rfl) ?_
        obtain ⟨v13, ev13, hf⟩ := ob_s hf
        refine px_getR hx hb hts nX8_clearForm_X8 hown hK w ev13 rfl (by decide) mX8_clearForm_17 rfl dX8_clearForm_10 ?_
        refine lv_sipush (v := (640 : Int32)) hx hb dX8_clearForm_13 (by decide) ?_
        refine lv_iload_n hx hb dX8_clearForm_16 rfl (lv_at hl 1 rfl) ?_
        refine lv_imul hx hb dX8_clearForm_17 ?_
        refine lv_iload_n hx hb dX8_clearForm_18 rfl (lv_at hl 2 rfl) ?_
        refine lv_iadd hx hb dX8_clearForm_19 ?_
        refine lv_iconst (v := (0 : Int32)) hx hb dX8_clearForm_20 (by decide) ?_
        obtain ⟨h14, eh14, hf⟩ := ob_s hf
        refine px_iast hx hb hK w eh14 dX8_clearForm_21 (fun H locs w => ?_)
        obtain ⟨x15, ex15, hf⟩ := nm_s hf
        refine lv_iinc (v := x15) (lv' := [(2, .int x15), (0, .ref (ι a0)), (1, .int a1)]) hx hb dX8_clearForm_22 hl (k := 2) rfl (by rw [ex15]; rfl) (by decide) rfl (fun ls hl => ?_)
        refine lv_goto (tgt := 2) hx hb dX8_clearForm_25 (by decide) ?_
        exact ih2 x15 h14 H locs ls hf (lv_sub hl [1, 2, 0] rfl) w
  exact hlp2 N (0 : Int32) h H locs ls (by rw [eκ2]; exact hf) (lv_sub hl [1, 2, 0] rfl) w
theorem nX8_makeSmith_X8 : ∀ w ∈ wsX80, w ∈ wsX8_makeSmith := by decide +kernel
theorem mX8_makeSmith_41 : Cond.fieldLink RX8 41 "NormalFormsModel" "before" "[I" ∈ wsX8_makeSmith := by decide +kernel
theorem mX8_makeSmith_32 : Cond.fieldLink RX8 32 "NormalFormsModel" "a" "[I" ∈ wsX8_makeSmith := by decide +kernel
theorem mX8_makeSmith_35 : Cond.fieldLink RX8 35 "NormalFormsModel" "b" "[I" ∈ wsX8_makeSmith := by decide +kernel
theorem mX8_makeSmith_38 : Cond.fieldLink RX8 38 "NormalFormsModel" "c" "[I" ∈ wsX8_makeSmith := by decide +kernel
theorem mX8_makeSmith_20 : Cond.fieldLink RX8 20 "NormalFormsModel" "minors" "[I" ∈ wsX8_makeSmith := by decide +kernel
abbrev rmX8_makeSmith : Room := { frames := 4, cells := 0, slots := 0, locals := 88 }
set_option maxHeartbeats 4000000 in
set_option maxRecDepth 100000 in
theorem kX8_makeSmith (l : Launch) (D : va_G) (dA : Nat → ClassId) (b0 : Nat) (ι : Nat → Nat) (N : Nat) (a0 : Nat) (h : Hp) (h' : Hp) (hf : fX8_makeSmith N a0 h = some h') : Met l yX8_makeSmith wsX8_makeSmith rmX8_makeSmith (PC D dA b0 ι [.ref (ι a0)] h) (QV D dA b0 ι h') 0 0 (qA b0) := by
  unfold fX8_makeSmith at hf
  refine Met.ofW (cc := cX8_makeSmith) (maxL := 6) (ret := none) (by decide +kernel) rfl ?_
  intro p e s m args below meth c s₁ B hml hv
  obtain ⟨rfl, w0⟩ := hv
  have hx := B.exec
  have hb := B.bytes
  have hr := B.returns
  have hts := atoms_spec (ws := wsX8_makeSmith) B.pre
  have hown : s.vm.findClass RX8 = some m.cls := findClass_of_methodNamed B.named
  have hlocks := B.notSynchronized
  have hC := w0.c
  have hK := hC.1
  have w := WD.start w0
  clear w0
  have hl := lv_entry ([.ref (ι a0)]) (n := 6) (Nat.le_of_ble_eq_true rfl)
  rw [lg_entry_eq]
  generalize (lg_sl ([.ref (ι a0)]) ++ List.replicate (6 - (lg_sl ([.ref (ι a0)])).length) Slot.unset).toArray = ls at hl ⊢
  have hl : lv_has ls 6 [(0, .ref (ι a0))] := hl
  obtain ⟨H, hH⟩ : ∃ H : Heap, H = s.heap := ⟨_, rfl⟩
  obtain ⟨locs, hlo⟩ : ∃ locs : List Loc, locs = [] := ⟨_, rfl⟩
  rw [← hlo]
  have w : WD D dA b0 ι h s.heap H locs := by rw [hH, hlo]; exact w
  refine px_start hH ?_
  refine lv_aload_n hx hb dX8_makeSmith_0 rfl (lv_at hl 0 rfl) ?_
  obtain ⟨u3, eu3, hf⟩ := ob_s hf
  obtain ⟨⟨v1, h2⟩, eh2, hf⟩ := ob_s hf
  dsimp only at hf
  refine px_callVi (As := []) (rest := []) ⟨hx, hb, hml, hown, hts⟩ hC w (kX8_rankNow l D dA b0 ι N a0 h v1 h2 eh2) (cwV 0 hts gX8_makeSmith_X8_rankNow rfl rfl rfl (by decide +kernel) ⟨Nat.le_of_ble_eq_true rfl, Nat.le_of_ble_eq_true rfl⟩) eu3 rfl rfl hl.1 rfl (Nat.le_of_ble_eq_true rfl) dX8_makeSmith_1 ⟨Nat.le_of_ble_eq_true rfl, Nat.le_of_ble_eq_true rfl⟩ (fun H locs w => ?_)
  refine lv_istore_n (lv' := [(1, .int v1), (0, .ref (ι a0))]) hx hb dX8_makeSmith_4 rfl hl (by decide) rfl (fun ls hl => ?_)
  refine lv_aload_n hx hb dX8_makeSmith_5 rfl (lv_at hl 1 rfl) ?_
  obtain ⟨v4, ev4, hf⟩ := ob_s hf
  refine px_getR hx hb hts nX8_makeSmith_X8 hown hK w ev4 rfl (by decide) mX8_makeSmith_41 rfl dX8_makeSmith_6 ?_
  obtain ⟨h6, eh6, hf⟩ := ob_s hf
  refine px_callSv (As := [.ref (ι v4)]) (rest := []) ⟨hx, hb, hml, hown, hts⟩ hC w (kX8_empty l D dA b0 ι N v4 h2 h6 eh6) (va_cwS 1 hts gX8_makeSmith_X8_empty rfl rfl rfl (by decide +kernel) ⟨Nat.le_of_ble_eq_true rfl, Nat.le_of_ble_eq_true rfl⟩) rfl hl.1 rfl (Nat.le_of_ble_eq_true rfl) dX8_makeSmith_9 ⟨Nat.le_of_ble_eq_true rfl, Nat.le_of_ble_eq_true rfl⟩ (fun H locs w => ?_)
  refine lv_aload_n hx hb dX8_makeSmith_12 rfl (lv_at hl 1 rfl) ?_
  obtain ⟨v7, ev7, hf⟩ := ob_s hf
  refine px_getR hx hb hts nX8_makeSmith_X8 hown hK w ev7 rfl (by decide) mX8_makeSmith_41 rfl dX8_makeSmith_13 ?_
  refine lv_iconst (v := (0 : Int32)) hx hb dX8_makeSmith_16 (by decide) ?_
  refine lv_iconst (v := (1 : Int32)) hx hb dX8_makeSmith_17 (by decide) ?_
  obtain ⟨h8, eh8, hf⟩ := ob_s hf
  refine px_iast hx hb hK w eh8 dX8_makeSmith_18 (fun H locs w => ?_)
  refine lv_iconst (v := (1 : Int32)) hx hb dX8_makeSmith_19 (by decide) ?_
  refine lv_istore_n (lv' := [(2, .int (1 : Int32)), (1, .int v1), (0, .ref (ι a0))]) hx hb dX8_makeSmith_20 rfl hl (by decide) rfl (fun ls hl => ?_)
  have hx21 : ∀ (y9 : Int32) (h10 : Hp) (H : Heap) (locs : List Loc) (ls : Array Slot), (some h10) = some h' → lv_has ls 6 [(0, .ref (ι a0)), (1, .int v1), (2, .int y9)] → WD D dA b0 ι h10 s.heap H locs → W p l e (headSpec wsX8_makeSmith rmX8_makeSmith).room s m ([.ref (ι a0)] : List Value).toArray below meth c H locs 0 0 (MQ below (QV D dA b0 ι h') ([.ref (ι a0)] : List Value).toArray s 0 0 (qA b0)) (F0 m 222 ls []) := by
    intro y9 h10 H locs ls hf hl w
    exact W.vret hx hb hr (qv_end hf w hC) w.locs_ok dX8_makeSmith_222
  obtain ⟨κ21, eκ21⟩ : ∃ k : Int32 → Hp → Option Hp, k = (fun y9 h10 => some h10) := ⟨_, rfl⟩
  have hlp21 : ∀ (n : Nat) (z231 : Int32) (h232 : Hp) (H : Heap) (locs : List Loc) (ls : Array Slot), lX8_makeSmith_21 N a0 v1 n z231 h232 κ21 = some h' → lv_has ls 6 [(0, .ref (ι a0)), (1, .int v1), (2, .int z231)] → WD D dA b0 ι h232 s.heap H locs → W p l e (headSpec wsX8_makeSmith rmX8_makeSmith).room s m ([.ref (ι a0)] : List Value).toArray below meth c H locs 0 0 (MQ below (QV D dA b0 ι h') ([.ref (ι a0)] : List Value).toArray s 0 0 (qA b0)) (F0 m 21 ls []) := by
    intro n21
    induction n21 with
    | zero => intro z231 h232 H locs ls hf; exact absurd hf (by rw [lX8_makeSmith_21]; exact fun q => nomatch q)
    | succ n21 ih21 =>
      intro z231 h232 H locs ls hf hl w
      rw [lX8_makeSmith_21] at hf
      refine lv_iload_n hx hb dX8_makeSmith_21 rfl (lv_at hl 2 rfl) ?_
      refine lv_iload_n hx hb dX8_makeSmith_22 rfl (lv_at hl 1 rfl) ?_
      refine lv_icmp_gt (tgt := 222) hx hb dX8_makeSmith_23 (by decide) (fun c233 => ?_) (fun c233 => ?_)
      · have hf := if_t hf c233
        exact hx21 z231 h232 H locs ls (by rw [eκ21] at hf; exact hf) (lv_sub hl [0, 1, 2] rfl) w
      · have hf := if_f hf c233
        refine lv_aload_n hx hb dX8_makeSmith_26 rfl (lv_at hl 0 rfl) ?_
        obtain ⟨v234, ev234, hf⟩ := ob_s hf
        refine px_getR hx hb hts nX8_makeSmith_X8 hown hK w ev234 rfl (by decide) mX8_makeSmith_32 rfl dX8_makeSmith_27 ?_
        obtain ⟨h236, eh236, hf⟩ := ob_s hf
        refine px_callSv (As := [.ref (ι v234)]) (rest := []) ⟨hx, hb, hml, hown, hts⟩ hC w (kX8_empty l D dA b0 ι N v234 h232 h236 eh236) (va_cwS 1 hts gX8_makeSmith_X8_empty rfl rfl rfl (by decide +kernel) ⟨Nat.le_of_ble_eq_true rfl, Nat.le_of_ble_eq_true rfl⟩) rfl hl.1 rfl (Nat.le_of_ble_eq_true rfl) dX8_makeSmith_30 ⟨Nat.le_of_ble_eq_true rfl, Nat.le_of_ble_eq_true rfl⟩ (fun H locs w => ?_)
        refine lv_iconst (v := (0 : Int32)) hx hb dX8_makeSmith_33 (by decide) ?_
        refine lv_istore_n (lv' := [(3, .int (0 : Int32)), (0, .ref (ι a0)), (1, .int v1), (2, .int z231)]) hx hb dX8_makeSmith_34 rfl hl (by decide) rfl (fun ls hl => ?_)
        have hx35 : ∀ (y237 : Int32) (h238 : Hp) (H : Heap) (locs : List Loc) (ls : Array Slot), (lX8_makeSmith_137 N a0 v1 z231 N (0 : Int32) h238 (fun y239 h240 => (gR h240 a0 10 11).bind fun v241 => (gR h240 a0 10 13).bind fun v242 => (cK h240 a0 10).bind fun u245 => (fX8_divide N a0 v241 v242 h240).bind fun h244 => (gR h244 a0 10 12).bind fun v246 => (cK h244 a0 10).bind fun u249 => (fX8_put0 N a0 (1 : Int32) (z231 - (1 : Int32)) (z231 - (1 : Int32)) v246 h244).bind fun h248 => lX8_makeSmith_191 N a0 v1 z231 N (0 : Int32) h248 (fun y250 h251 => nm (z231 + (1 : Int32)) fun x252 => lX8_makeSmith_21 N a0 v1 n21 x252 h251 κ21))) = some h' → lv_has ls 6 [(0, .ref (ι a0)), (1, .int v1), (2, .int z231), (3, .int y237)] → WD D dA b0 ι h238 s.heap H locs → W p l e (headSpec wsX8_makeSmith rmX8_makeSmith).room s m ([.ref (ι a0)] : List Value).toArray below meth c H locs 0 0 (MQ below (QV D dA b0 ι h') ([.ref (ι a0)] : List Value).toArray s 0 0 (qA b0)) (F0 m 135 ls []) := by
          intro y237 h238 H locs ls hf hl w
          refine lv_iconst (v := (0 : Int32)) hx hb dX8_makeSmith_135 (by decide) ?_
          refine lv_istore_n (lv' := [(3, .int (0 : Int32)), (0, .ref (ι a0)), (1, .int v1), (2, .int z231)]) hx hb dX8_makeSmith_136 rfl hl (by decide) rfl (fun ls hl => ?_)
          have hx137 : ∀ (y239 : Int32) (h240 : Hp) (H : Heap) (locs : List Loc) (ls : Array Slot), ((gR h240 a0 10 11).bind fun v241 => (gR h240 a0 10 13).bind fun v242 => (cK h240 a0 10).bind fun u245 => (fX8_divide N a0 v241 v242 h240).bind fun h244 => (gR h244 a0 10 12).bind fun v246 => (cK h244 a0 10).bind fun u249 => (fX8_put0 N a0 (1 : Int32) (z231 - (1 : Int32)) (z231 - (1 : Int32)) v246 h244).bind fun h248 => lX8_makeSmith_191 N a0 v1 z231 N (0 : Int32) h248 (fun y250 h251 => nm (z231 + (1 : Int32)) fun x252 => lX8_makeSmith_21 N a0 v1 n21 x252 h251 κ21)) = some h' → lv_has ls 6 [(0, .ref (ι a0)), (1, .int v1), (2, .int z231), (3, .int y239)] → WD D dA b0 ι h240 s.heap H locs → W p l e (headSpec wsX8_makeSmith rmX8_makeSmith).room s m ([.ref (ι a0)] : List Value).toArray below meth c H locs 0 0 (MQ below (QV D dA b0 ι h') ([.ref (ι a0)] : List Value).toArray s 0 0 (qA b0)) (F0 m 162 ls []) := by
            intro y239 h240 H locs ls hf hl w
            refine lv_aload_n hx hb dX8_makeSmith_162 rfl (lv_at hl 0 rfl) ?_
            refine lv_aload_n hx hb dX8_makeSmith_163 rfl (lv_at hl 0 rfl) ?_
            obtain ⟨v241, ev241, hf⟩ := ob_s hf
            refine px_getR hx hb hts nX8_makeSmith_X8 hown hK w ev241 rfl (by decide) mX8_makeSmith_35 rfl dX8_makeSmith_164 ?_
            refine lv_aload_n hx hb dX8_makeSmith_167 rfl (lv_at hl 0 rfl) ?_
            obtain ⟨v242, ev242, hf⟩ := ob_s hf
            refine px_getR hx hb hts nX8_makeSmith_X8 hown hK w ev242 rfl (by decide) mX8_makeSmith_41 rfl dX8_makeSmith_168 ?_
            obtain ⟨u245, eu245, hf⟩ := ob_s hf
            obtain ⟨h244, eh244, hf⟩ := ob_s hf
            refine px_callVv (As := [.ref (ι v241), .ref (ι v242)]) (rest := []) ⟨hx, hb, hml, hown, hts⟩ hC w (kX8_divide l D dA b0 ι N a0 v241 v242 h240 h244 eh244) (cwV 2 hts gX8_makeSmith_X8_divide rfl rfl rfl (by decide +kernel) ⟨Nat.le_of_ble_eq_true rfl, Nat.le_of_ble_eq_true rfl⟩) eu245 rfl rfl hl.1 rfl (Nat.le_of_ble_eq_true rfl) dX8_makeSmith_171 ⟨Nat.le_of_ble_eq_true rfl, Nat.le_of_ble_eq_true rfl⟩ (fun H locs w => ?_)
            refine lv_aload_n hx hb dX8_makeSmith_174 rfl (lv_at hl 0 rfl) ?_
            refine lv_iconst (v := (1 : Int32)) hx hb dX8_makeSmith_175 (by decide) ?_
            refine lv_iload_n hx hb dX8_makeSmith_176 rfl (lv_at hl 2 rfl) ?_
            refine lv_iconst (v := (1 : Int32)) hx hb dX8_makeSmith_177 (by decide) ?_
            refine lv_isub hx hb dX8_makeSmith_178 ?_
            refine lv_iload_n hx hb dX8_makeSmith_179 rfl (lv_at hl 2 rfl) ?_
            refine lv_iconst (v := (1 : Int32)) hx hb dX8_makeSmith_180 (by decide) ?_
            refine lv_isub hx hb dX8_makeSmith_181 ?_
            refine lv_aload_n hx hb dX8_makeSmith_182 rfl (lv_at hl 0 rfl) ?_
            obtain ⟨v246, ev246, hf⟩ := ob_s hf
            refine px_getR hx hb hts nX8_makeSmith_X8 hown hK w ev246 rfl (by decide) mX8_makeSmith_38 rfl dX8_makeSmith_183 ?_
            obtain ⟨u249, eu249, hf⟩ := ob_s hf
            obtain ⟨h248, eh248, hf⟩ := ob_s hf
            refine px_callVv (As := [.int (1 : Int32), .int (z231 - (1 : Int32)), .int (z231 - (1 : Int32)), .ref (ι v246)]) (rest := []) ⟨hx, hb, hml, hown, hts⟩ hC w (kX8_put0 l D dA b0 ι N a0 (1 : Int32) (z231 - (1 : Int32)) (z231 - (1 : Int32)) v246 h244 h248 eh248) (cwV 4 hts gX8_makeSmith_X8_put0 rfl rfl rfl (by decide +kernel) ⟨Nat.le_of_ble_eq_true rfl, Nat.le_of_ble_eq_true rfl⟩) eu249 rfl rfl hl.1 rfl (Nat.le_of_ble_eq_true rfl) dX8_makeSmith_186 ⟨Nat.le_of_ble_eq_true rfl, Nat.le_of_ble_eq_true rfl⟩ (fun H locs w => ?_)
            refine lv_iconst (v := (0 : Int32)) hx hb dX8_makeSmith_189 (by decide) ?_
            refine lv_istore_n (lv' := [(3, .int (0 : Int32)), (0, .ref (ι a0)), (1, .int v1), (2, .int z231)]) hx hb dX8_makeSmith_190 rfl hl (by decide) rfl (fun ls hl => ?_)
            have hx191 : ∀ (y250 : Int32) (h251 : Hp) (H : Heap) (locs : List Loc) (ls : Array Slot), (nm (z231 + (1 : Int32)) fun x252 => lX8_makeSmith_21 N a0 v1 n21 x252 h251 κ21) = some h' → lv_has ls 6 [(0, .ref (ι a0)), (1, .int v1), (2, .int z231), (3, .int y250)] → WD D dA b0 ι h251 s.heap H locs → W p l e (headSpec wsX8_makeSmith rmX8_makeSmith).room s m ([.ref (ι a0)] : List Value).toArray below meth c H locs 0 0 (MQ below (QV D dA b0 ι h') ([.ref (ι a0)] : List Value).toArray s 0 0 (qA b0)) (F0 m 216 ls []) := by
              intro y250 h251 H locs ls hf hl w
              obtain ⟨x252, ex252, hf⟩ := nm_s hf
              refine lv_iinc (v := x252) (lv' := [(2, .int x252), (0, .ref (ι a0)), (1, .int v1), (3, .int y250)]) hx hb dX8_makeSmith_216 hl (k := 2) rfl (by rw [ex252]; rfl) (by decide) rfl (fun ls hl => ?_)
              refine lv_goto (tgt := 21) hx hb dX8_makeSmith_219 (by decide) ?_
              exact ih21 x252 h251 H locs ls hf (lv_sub hl [1, 2, 0] rfl) w
            obtain ⟨κ191, eκ191⟩ : ∃ k : Int32 → Hp → Option Hp, k = (fun y250 h251 => nm (z231 + (1 : Int32)) fun x252 => lX8_makeSmith_21 N a0 v1 n21 x252 h251 κ21) := ⟨_, rfl⟩
            have hlp191 : ∀ (n : Nat) (z262 : Int32) (h263 : Hp) (H : Heap) (locs : List Loc) (ls : Array Slot), lX8_makeSmith_191 N a0 v1 z231 n z262 h263 κ191 = some h' → lv_has ls 6 [(0, .ref (ι a0)), (1, .int v1), (2, .int z231), (3, .int z262)] → WD D dA b0 ι h263 s.heap H locs → W p l e (headSpec wsX8_makeSmith rmX8_makeSmith).room s m ([.ref (ι a0)] : List Value).toArray below meth c H locs 0 0 (MQ below (QV D dA b0 ι h') ([.ref (ι a0)] : List Value).toArray s 0 0 (qA b0)) (F0 m 191 ls []) := by
              intro n191
              induction n191 with
              | zero => intro z262 h263 H locs ls hf; exact absurd hf (by rw [lX8_makeSmith_191]; exact fun q => nomatch q)
              | succ n191 ih191 =>
                intro z262 h263 H locs ls hf hl w
                rw [lX8_makeSmith_191] at hf
                refine lv_iload_n hx hb dX8_makeSmith_191 rfl (lv_at hl 3 rfl) ?_
                refine lv_sipush (v := (256 : Int32)) hx hb dX8_makeSmith_192 (by decide) ?_
                refine lv_icmp_ge (tgt := 216) hx hb dX8_makeSmith_195 (by decide) (fun c264 => ?_) (fun c264 => ?_)
                · have hf := if_t hf c264
                  exact hx191 z262 h263 H locs ls (by rw [eκ191] at hf; exact hf) (lv_sub hl [0, 1, 2, 3] rfl) w
                · have hf := if_f hf c264
                  refine lv_aload_n hx hb dX8_makeSmith_198 rfl (lv_at hl 0 rfl) ?_
                  obtain ⟨v265, ev265, hf⟩ := ob_s hf
                  refine px_getR hx hb hts nX8_makeSmith_X8 hown hK w ev265 rfl (by decide) mX8_makeSmith_41 rfl dX8_makeSmith_199 ?_
                  refine lv_iload_n hx hb dX8_makeSmith_202 rfl (lv_at hl 3 rfl) ?_
                  refine lv_aload_n hx hb dX8_makeSmith_203 rfl (lv_at hl 0 rfl) ?_
                  obtain ⟨v266, ev266, hf⟩ := ob_s hf
                  refine px_getR hx hb hts nX8_makeSmith_X8 hown hK w ev266 rfl (by decide) mX8_makeSmith_32 rfl dX8_makeSmith_204 ?_
                  refine lv_iload_n hx hb dX8_makeSmith_207 rfl (lv_at hl 3 rfl) ?_
                  obtain ⟨v267, ev267, hf⟩ := ob_s hf
                  refine px_iald hx hb hK w ev267 dX8_makeSmith_208 ?_
                  obtain ⟨h268, eh268, hf⟩ := ob_s hf
                  refine px_iast hx hb hK w eh268 dX8_makeSmith_209 (fun H locs w => ?_)
                  obtain ⟨x269, ex269, hf⟩ := nm_s hf
                  refine lv_iinc (v := x269) (lv' := [(3, .int x269), (0, .ref (ι a0)), (1, .int v1), (2, .int z231)]) hx hb dX8_makeSmith_210 hl (k := 3) rfl (by rw [ex269]; rfl) (by decide) rfl (fun ls hl => ?_)
                  refine lv_goto (tgt := 191) hx hb dX8_makeSmith_213 (by decide) ?_
                  exact ih191 x269 h268 H locs ls hf (lv_sub hl [1, 2, 3, 0] rfl) w
            exact hlp191 N (0 : Int32) h248 H locs ls (by rw [eκ191]; exact hf) (lv_sub hl [1, 2, 3, 0] rfl) w
          obtain ⟨κ137, eκ137⟩ : ∃ k : Int32 → Hp → Option Hp, k = (fun y239 h240 => (gR h240 a0 10 11).bind fun v241 => (gR h240 a0 10 13).bind fun v242 => (cK h240 a0 10).bind fun u245 => (fX8_divide N a0 v241 v242 h240).bind fun h244 => (gR h244 a0 10 12).bind fun v246 => (cK h244 a0 10).bind fun u249 => (fX8_put0 N a0 (1 : Int32) (z231 - (1 : Int32)) (z231 - (1 : Int32)) v246 h244).bind fun h248 => lX8_makeSmith_191 N a0 v1 z231 N (0 : Int32) h248 (fun y250 h251 => nm (z231 + (1 : Int32)) fun x252 => lX8_makeSmith_21 N a0 v1 n21 x252 h251 κ21)) := ⟨_, rfl⟩
          have hlp137 : ∀ (n : Nat) (z279 : Int32) (h280 : Hp) (H : Heap) (locs : List Loc) (ls : Array Slot), lX8_makeSmith_137 N a0 v1 z231 n z279 h280 κ137 = some h' → lv_has ls 6 [(0, .ref (ι a0)), (1, .int v1), (2, .int z231), (3, .int z279)] → WD D dA b0 ι h280 s.heap H locs → W p l e (headSpec wsX8_makeSmith rmX8_makeSmith).room s m ([.ref (ι a0)] : List Value).toArray below meth c H locs 0 0 (MQ below (QV D dA b0 ι h') ([.ref (ι a0)] : List Value).toArray s 0 0 (qA b0)) (F0 m 137 ls []) := by
            intro n137
            induction n137 with
            | zero => intro z279 h280 H locs ls hf; exact absurd hf (by rw [lX8_makeSmith_137]; exact fun q => nomatch q)
            | succ n137 ih137 =>
              intro z279 h280 H locs ls hf hl w
              rw [lX8_makeSmith_137] at hf
              refine lv_iload_n hx hb dX8_makeSmith_137 rfl (lv_at hl 3 rfl) ?_
              refine lv_sipush (v := (256 : Int32)) hx hb dX8_makeSmith_138 (by decide) ?_
              refine lv_icmp_ge (tgt := 162) hx hb dX8_makeSmith_141 (by decide) (fun c281 => ?_) (fun c281 => ?_)
              · have hf := if_t hf c281
                exact hx137 z279 h280 H locs ls (by rw [eκ137] at hf; exact hf) (lv_sub hl [0, 1, 2, 3] rfl) w
              · have hf := if_f hf c281
                refine lv_aload_n hx hb dX8_makeSmith_144 rfl (lv_at hl 0 rfl) ?_
                obtain ⟨v282, ev282, hf⟩ := ob_s hf
                refine px_getR hx hb hts nX8_makeSmith_X8 hown hK w ev282 rfl (by decide) mX8_makeSmith_35 rfl dX8_makeSmith_145 ?_
                refine lv_iload_n hx hb dX8_makeSmith_148 rfl (lv_at hl 3 rfl) ?_
                refine lv_aload_n hx hb dX8_makeSmith_149 rfl (lv_at hl 0 rfl) ?_
                obtain ⟨v283, ev283, hf⟩ := ob_s hf
                refine px_getR hx hb hts nX8_makeSmith_X8 hown hK w ev283 rfl (by decide) mX8_makeSmith_32 rfl dX8_makeSmith_150 ?_
                refine lv_iload_n hx hb dX8_makeSmith_153 rfl (lv_at hl 3 rfl) ?_
                obtain ⟨v284, ev284, hf⟩ := ob_s hf
                refine px_iald hx hb hK w ev284 dX8_makeSmith_154 ?_
                obtain ⟨h285, eh285, hf⟩ := ob_s hf
                refine px_iast hx hb hK w eh285 dX8_makeSmith_155 (fun H locs w => ?_)
                obtain ⟨x286, ex286, hf⟩ := nm_s hf
                refine lv_iinc (v := x286) (lv' := [(3, .int x286), (0, .ref (ι a0)), (1, .int v1), (2, .int z231)]) hx hb dX8_makeSmith_156 hl (k := 3) rfl (by rw [ex286]; rfl) (by decide) rfl (fun ls hl => ?_)
                refine lv_goto (tgt := 137) hx hb dX8_makeSmith_159 (by decide) ?_
                exact ih137 x286 h285 H locs ls hf (lv_sub hl [1, 2, 3, 0] rfl) w
          exact hlp137 N (0 : Int32) h238 H locs ls (by rw [eκ137]; exact hf) (lv_sub hl [1, 2, 3, 0] rfl) w
        obtain ⟨κ35, eκ35⟩ : ∃ k : Int32 → Hp → Option Hp, k = (fun y237 h238 => lX8_makeSmith_137 N a0 v1 z231 N (0 : Int32) h238 (fun y239 h240 => (gR h240 a0 10 11).bind fun v241 => (gR h240 a0 10 13).bind fun v242 => (cK h240 a0 10).bind fun u245 => (fX8_divide N a0 v241 v242 h240).bind fun h244 => (gR h244 a0 10 12).bind fun v246 => (cK h244 a0 10).bind fun u249 => (fX8_put0 N a0 (1 : Int32) (z231 - (1 : Int32)) (z231 - (1 : Int32)) v246 h244).bind fun h248 => lX8_makeSmith_191 N a0 v1 z231 N (0 : Int32) h248 (fun y250 h251 => nm (z231 + (1 : Int32)) fun x252 => lX8_makeSmith_21 N a0 v1 n21 x252 h251 κ21))) := ⟨_, rfl⟩
        have hlp35 : ∀ (n : Nat) (z369 : Int32) (h370 : Hp) (H : Heap) (locs : List Loc) (ls : Array Slot), lX8_makeSmith_35 N a0 v1 z231 n z369 h370 κ35 = some h' → lv_has ls 6 [(0, .ref (ι a0)), (1, .int v1), (2, .int z231), (3, .int z369)] → WD D dA b0 ι h370 s.heap H locs → W p l e (headSpec wsX8_makeSmith rmX8_makeSmith).room s m ([.ref (ι a0)] : List Value).toArray below meth c H locs 0 0 (MQ below (QV D dA b0 ι h') ([.ref (ι a0)] : List Value).toArray s 0 0 (qA b0)) (F0 m 35 ls []) := by
          intro n35
          induction n35 with
          | zero => intro z369 h370 H locs ls hf; exact absurd hf (by rw [lX8_makeSmith_35]; exact fun q => nomatch q)
          | succ n35 ih35 =>
            intro z369 h370 H locs ls hf hl w
            rw [lX8_makeSmith_35] at hf
            refine lv_iload_n hx hb dX8_makeSmith_35 rfl (lv_at hl 3 rfl) ?_
            refine lv_bipush (v := (16 : Int32)) hx hb dX8_makeSmith_36 (by decide) ?_
            refine lv_icmp_ge (tgt := 135) hx hb dX8_makeSmith_38 (by decide) (fun c371 => ?_) (fun c371 => ?_)
            · have hf := if_t hf c371
              exact hx35 z369 h370 H locs ls (by rw [eκ35] at hf; exact hf) (lv_sub hl [0, 1, 2, 3] rfl) w
            · have hf := if_f hf c371
              refine lv_iconst (v := (0 : Int32)) hx hb dX8_makeSmith_41 (by decide) ?_
              refine lv_istore (lv' := [(4, .int (0 : Int32)), (0, .ref (ι a0)), (1, .int v1), (2, .int z231), (3, .int z369)]) hx hb dX8_makeSmith_42 hl (by decide) rfl (fun ls hl => ?_)
              have hx44 : ∀ (y372 : Int32) (h373 : Hp) (H : Heap) (locs : List Loc) (ls : Array Slot), (nm (z369 + (1 : Int32)) fun x374 => lX8_makeSmith_35 N a0 v1 z231 n35 x374 h373 κ35) = some h' → lv_has ls 6 [(0, .ref (ι a0)), (1, .int v1), (2, .int z231), (3, .int z369), (4, .int y372)] → WD D dA b0 ι h373 s.heap H locs → W p l e (headSpec wsX8_makeSmith rmX8_makeSmith).room s m ([.ref (ι a0)] : List Value).toArray below meth c H locs 0 0 (MQ below (QV D dA b0 ι h') ([.ref (ι a0)] : List Value).toArray s 0 0 (qA b0)) (F0 m 129 ls []) := by
                intro y372 h373 H locs ls hf hl w
                obtain ⟨x374, ex374, hf⟩ := nm_s hf
                refine lv_iinc (v := x374) (lv' := [(3, .int x374), (0, .ref (ι a0)), (1, .int v1), (2, .int z231), (4, .int y372)]) hx hb dX8_makeSmith_129 hl (k := 3) rfl (by rw [ex374]; rfl) (by decide) rfl (fun ls hl => ?_)
                refine lv_goto (tgt := 35) hx hb dX8_makeSmith_132 (by decide) ?_
                exact ih35 x374 h373 H locs ls hf (lv_sub hl [1, 2, 3, 0] rfl) w
              obtain ⟨κ44, eκ44⟩ : ∃ k : Int32 → Hp → Option Hp, k = (fun y372 h373 => nm (z369 + (1 : Int32)) fun x374 => lX8_makeSmith_35 N a0 v1 z231 n35 x374 h373 κ35) := ⟨_, rfl⟩
              have hlp44 : ∀ (n : Nat) (z413 : Int32) (h414 : Hp) (H : Heap) (locs : List Loc) (ls : Array Slot), lX8_makeSmith_44 N a0 v1 z231 z369 n z413 h414 κ44 = some h' → lv_has ls 6 [(0, .ref (ι a0)), (1, .int v1), (2, .int z231), (3, .int z369), (4, .int z413)] → WD D dA b0 ι h414 s.heap H locs → W p l e (headSpec wsX8_makeSmith rmX8_makeSmith).room s m ([.ref (ι a0)] : List Value).toArray below meth c H locs 0 0 (MQ below (QV D dA b0 ι h') ([.ref (ι a0)] : List Value).toArray s 0 0 (qA b0)) (F0 m 44 ls []) := by
                intro n44
                induction n44 with
                | zero => intro z413 h414 H locs ls hf; exact absurd hf (by rw [lX8_makeSmith_44]; exact fun q => nomatch q)
                | succ n44 ih44 =>
                  intro z413 h414 H locs ls hf hl w
                  rw [lX8_makeSmith_44] at hf
                  refine lv_iload hx hb dX8_makeSmith_44 (lv_at hl 4 rfl) ?_
                  refine lv_bipush (v := (16 : Int32)) hx hb dX8_makeSmith_46 (by decide) ?_
                  refine lv_icmp_ge (tgt := 129) hx hb dX8_makeSmith_48 (by decide) (fun c415 => ?_) (fun c415 => ?_)
                  · have hf := if_t hf c415
                    exact hx44 z413 h414 H locs ls (by rw [eκ44] at hf; exact hf) (lv_sub hl [0, 1, 2, 3, 4] rfl) w
                  · have hf := if_f hf c415
                    refine lv_iload_n hx hb dX8_makeSmith_51 rfl (lv_at hl 3 rfl) ?_
                    obtain ⟨⟨v416, h417⟩, eh417, hf⟩ := ob_s hf
                    dsimp only at hf
                    refine px_callSi (As := [.int z369]) (rest := []) ⟨hx, hb, hml, hown, hts⟩ hC w (kX8_bits l D dA b0 ι N z369 h414 v416 h417 eh417) (va_cwS 1 hts gX8_makeSmith_X8_bits rfl rfl rfl (by decide +kernel) ⟨Nat.le_of_ble_eq_true rfl, Nat.le_of_ble_eq_true rfl⟩) rfl hl.1 rfl (Nat.le_of_ble_eq_true rfl) dX8_makeSmith_52 ⟨Nat.le_of_ble_eq_true rfl, Nat.le_of_ble_eq_true rfl⟩ (fun H locs w => ?_)
                    refine lv_iload_n hx hb dX8_makeSmith_55 rfl (lv_at hl 2 rfl) ?_
                    have hj123 : ∀ (h419 : Hp) (H : Heap) (locs : List Loc) (ls : Array Slot), (nm (z413 + (1 : Int32)) fun x420 => lX8_makeSmith_44 N a0 v1 z231 z369 n44 x420 h419 κ44) = some h' → lv_has ls 6 [(0, .ref (ι a0)), (1, .int v1), (2, .int z231), (3, .int z369), (4, .int z413)] → WD D dA b0 ι h419 s.heap H locs → W p l e (headSpec wsX8_makeSmith rmX8_makeSmith).room s m ([.ref (ι a0)] : List Value).toArray below meth c H locs 0 0 (MQ below (QV D dA b0 ι h') ([.ref (ι a0)] : List Value).toArray s 0 0 (qA b0)) (F0 m 123 ls []) := by
                      intro h419 H locs ls hf hl w
                      obtain ⟨x420, ex420, hf⟩ := nm_s hf
                      refine lv_iinc (v := x420) (lv' := [(4, .int x420), (0, .ref (ι a0)), (1, .int v1), (2, .int z231), (3, .int z369)]) hx hb dX8_makeSmith_123 hl (k := 4) rfl (by rw [ex420]; rfl) (by decide) rfl (fun ls hl => ?_)
                      refine lv_goto (tgt := 44) hx hb dX8_makeSmith_126 (by decide) ?_
                      exact ih44 x420 h419 H locs ls hf (lv_sub hl [1, 2, 3, 4, 0] rfl) w
                    obtain ⟨j418, ej418, hf⟩ := jn_s hf
                    refine lv_icmp_ne (tgt := 123) hx hb dX8_makeSmith_56 (by decide) (fun c421 => ?_) (fun c421 => ?_)
                    · have hf := if_f hf c421
                      exact hj123 h417 H locs ls (by rw [ej418] at hf; exact hf) (lv_sub hl [0, 1, 2, 3, 4] rfl) w
                    · have hf := if_t hf c421
                      refine lv_iload hx hb dX8_makeSmith_59 (lv_at hl 4 rfl) ?_
                      obtain ⟨⟨v422, h423⟩, eh423, hf⟩ := ob_s hf
                      dsimp only at hf
                      refine px_callSi (As := [.int z413]) (rest := []) ⟨hx, hb, hml, hown, hts⟩ hC w (kX8_bits l D dA b0 ι N z413 h417 v422 h423 eh423) (va_cwS 1 hts gX8_makeSmith_X8_bits rfl rfl rfl (by decide +kernel) ⟨Nat.le_of_ble_eq_true rfl, Nat.le_of_ble_eq_true rfl⟩) rfl hl.1 rfl (Nat.le_of_ble_eq_true rfl) dX8_makeSmith_61 ⟨Nat.le_of_ble_eq_true rfl, Nat.le_of_ble_eq_true rfl⟩ (fun H locs w => ?_)
                      refine lv_iload_n hx hb dX8_makeSmith_64 rfl (lv_at hl 2 rfl) ?_
                      refine lv_icmp_eq (tgt := 71) hx hb dX8_makeSmith_65 (by decide) (fun c424 => ?_) (fun c424 => ?_)
                      · have hf := if_t hf c424
                        refine lv_aload_n hx hb dX8_makeSmith_71 rfl (lv_at hl 0 rfl) ?_
                        obtain ⟨v425, ev425, hf⟩ := ob_s hf
                        refine px_getR hx hb hts nX8_makeSmith_X8 hown hK w ev425 rfl (by decide) mX8_makeSmith_35 rfl dX8_makeSmith_72 ?_
                        obtain ⟨h427, eh427, hf⟩ := ob_s hf
                        refine px_callSv (As := [.ref (ι v425)]) (rest := []) ⟨hx, hb, hml, hown, hts⟩ hC w (kX8_empty l D dA b0 ι N v425 h423 h427 eh427) (va_cwS 1 hts gX8_makeSmith_X8_empty rfl rfl rfl (by decide +kernel) ⟨Nat.le_of_ble_eq_true rfl, Nat.le_of_ble_eq_true rfl⟩) rfl hl.1 rfl (Nat.le_of_ble_eq_true rfl) dX8_makeSmith_75 ⟨Nat.le_of_ble_eq_true rfl, Nat.le_of_ble_eq_true rfl⟩ (fun H locs w => ?_)
                        refine lv_iconst (v := (0 : Int32)) hx hb dX8_makeSmith_78 (by decide) ?_
                        refine lv_istore (lv' := [(5, .int (0 : Int32)), (0, .ref (ι a0)), (1, .int v1), (2, .int z231), (3, .int z369), (4, .int z413)]) hx hb dX8_makeSmith_79 hl (by decide) rfl (fun ls hl => ?_)
                        have hx81 : ∀ (y428 : Int32) (h429 : Hp) (H : Heap) (locs : List Loc) (ls : Array Slot), ((cK h429 a0 10).bind fun u432 => (fX8_common N a0 h429).bind fun h431 => j418 h431) = some h' → lv_has ls 6 [(0, .ref (ι a0)), (1, .int v1), (2, .int z231), (3, .int z369), (4, .int z413), (5, .int y428)] → WD D dA b0 ι h429 s.heap H locs → W p l e (headSpec wsX8_makeSmith rmX8_makeSmith).room s m ([.ref (ι a0)] : List Value).toArray below meth c H locs 0 0 (MQ below (QV D dA b0 ι h') ([.ref (ι a0)] : List Value).toArray s 0 0 (qA b0)) (F0 m 119 ls []) := by
                          intro y428 h429 H locs ls hf hl w
                          refine lv_aload_n hx hb dX8_makeSmith_119 rfl (lv_at hl 0 rfl) ?_
                          obtain ⟨u432, eu432, hf⟩ := ob_s hf
                          obtain ⟨h431, eh431, hf⟩ := ob_s hf
                          refine px_callVv (As := []) (rest := []) ⟨hx, hb, hml, hown, hts⟩ hC w (kX8_common l D dA b0 ι N a0 h429 h431 eh431) (cwV 0 hts gX8_makeSmith_X8_common rfl rfl rfl (by decide +kernel) ⟨Nat.le_of_ble_eq_true rfl, Nat.le_of_ble_eq_true rfl⟩) eu432 rfl rfl hl.1 rfl (Nat.le_of_ble_eq_true rfl) dX8_makeSmith_120 ⟨Nat.le_of_ble_eq_true rfl, Nat.le_of_ble_eq_true rfl⟩ (fun H locs w => ?_)
                          exact hj123 h431 H locs ls (by rw [ej418] at hf; exact hf) (lv_sub hl [0, 1, 2, 3, 4] rfl) w
                        obtain ⟨κ81, eκ81⟩ : ∃ k : Int32 → Hp → Option Hp, k = (fun y428 h429 => (cK h429 a0 10).bind fun u432 => (fX8_common N a0 h429).bind fun h431 => j418 h431) := ⟨_, rfl⟩
                        have hlp81 : ∀ (n : Nat) (z442 : Int32) (h443 : Hp) (H : Heap) (locs : List Loc) (ls : Array Slot), lX8_makeSmith_81 N a0 v1 z231 z369 z413 n z442 h443 κ81 = some h' → lv_has ls 6 [(0, .ref (ι a0)), (1, .int v1), (2, .int z231), (3, .int z369), (4, .int z413), (5, .int z442)] → WD D dA b0 ι h443 s.heap H locs → W p l e (headSpec wsX8_makeSmith rmX8_makeSmith).room s m ([.ref (ι a0)] : List Value).toArray below meth c H locs 0 0 (MQ below (QV D dA b0 ι h') ([.ref (ι a0)] : List Value).toArray s 0 0 (qA b0)) (F0 m 81 ls []) := by
                          intro n81
                          induction n81 with
                          | zero => intro z442 h443 H locs ls hf; exact absurd hf (by rw [lX8_makeSmith_81]; exact fun q => nomatch q)
                          | succ n81 ih81 =>
                            intro z442 h443 H locs ls hf hl w
                            rw [lX8_makeSmith_81] at hf
                            refine lv_iload hx hb dX8_makeSmith_81 (lv_at hl 5 rfl) ?_
                            refine lv_bipush (v := (13 : Int32)) hx hb dX8_makeSmith_83 (by decide) ?_
                            refine lv_icmp_ge (tgt := 119) hx hb dX8_makeSmith_85 (by decide) (fun c444 => ?_) (fun c444 => ?_)
                            · have hf := if_t hf c444
                              exact hx81 z442 h443 H locs ls (by rw [eκ81] at hf; exact hf) (lv_sub hl [0, 1, 2, 3, 4, 5] rfl) w
                            · have hf := if_f hf c444
                              refine lv_aload_n hx hb dX8_makeSmith_88 rfl (lv_at hl 0 rfl) ?_
                              obtain ⟨v445, ev445, hf⟩ := ob_s hf
                              refine px_getR hx hb hts nX8_makeSmith_X8 hown hK w ev445 rfl (by decide) mX8_makeSmith_35 rfl dX8_makeSmith_89 ?_
                              refine lv_iload hx hb dX8_makeSmith_92 (lv_at hl 5 rfl) ?_
                              refine lv_aload_n hx hb dX8_makeSmith_94 rfl (lv_at hl 0 rfl) ?_
                              obtain ⟨v446, ev446, hf⟩ := ob_s hf
                              refine px_getR hx hb hts nX8_makeSmith_X8 hown hK w ev446 rfl (by decide) mX8_makeSmith_20 rfl dX8_makeSmith_95 ?_
                              refine lv_bipush (v := (13 : Int32)) hx hb dX8_makeSmith_98 (by decide) ?_
                              refine lv_bipush (v := (16 : Int32)) hx hb dX8_makeSmith_100 (by decide) ?_
                              refine lv_iload_n hx hb dX8_makeSmith_102 rfl (lv_at hl 3 rfl) ?_
                              refine lv_imul hx hb dX8_makeSmith_103 ?_
                              refine lv_iload hx hb dX8_makeSmith_104 (lv_at hl 4 rfl) ?_
                              refine lv_iadd hx hb dX8_makeSmith_106 ?_
                              refine lv_imul hx hb dX8_makeSmith_107 ?_
                              refine lv_iload hx hb dX8_makeSmith_108 (lv_at hl 5 rfl) ?_
                              refine lv_iadd hx hb dX8_makeSmith_110 ?_
                              obtain ⟨v447, ev447, hf⟩ := ob_s hf
                              refine px_iald hx hb hK w ev447 dX8_makeSmith_111 ?_
                              obtain ⟨h448, eh448, hf⟩ := ob_s hf
                              refine px_iast hx hb hK w eh448 dX8_makeSmith_112 (fun H locs w => ?_)
                              obtain ⟨x449, ex449, hf⟩ := nm_s hf
                              refine lv_iinc (v := x449) (lv' := [(5, .int x449), (0, .ref (ι a0)), (1, .int v1), (2, .int z231), (3, .int z369), (4, .int z413)]) hx hb dX8_makeSmith_113 hl (k := 5) rfl (by rw [ex449]; rfl) (by decide) rfl (fun ls hl => ?_)
                              refine lv_goto (tgt := 81) hx hb dX8_makeSmith_116 (by decide) ?_
                              exact ih81 x449 h448 H locs ls hf (lv_sub hl [1, 2, 3, 4, 5, 0] rfl) w
                        exact hlp81 N (0 : Int32) h427 H locs ls (by rw [eκ81]; exact hf) (lv_sub hl [1, 2, 3, 4, 5, 0] rfl) w
                      · have hf := if_f hf c424
                        refine lv_goto (tgt := 123) hx hb dX8_makeSmith_68 (by decide) ?_
                        exact hj123 h423 H locs ls (by rw [ej418] at hf; exact hf) (lv_sub hl [0, 1, 2, 3, 4] rfl) w
              exact hlp44 N (0 : Int32) h370 H locs ls (by rw [eκ44]; exact hf) (lv_sub hl [1, 2, 3, 4, 0] rfl) w
        exact hlp35 N (0 : Int32) h236 H locs ls (by rw [eκ35]; exact hf) (lv_sub hl [1, 2, 3, 0] rfl) w
  exact hlp21 N (1 : Int32) h8 H locs ls (by rw [eκ21]; exact hf) (lv_sub hl [2, 1, 0] rfl) w
theorem nX8_makeInverse_X8 : ∀ w ∈ wsX80, w ∈ wsX8_makeInverse := by decide +kernel
theorem mX8_makeInverse_20 : Cond.fieldLink RX8 20 "NormalFormsModel" "minors" "[I" ∈ wsX8_makeInverse := by decide +kernel
theorem mX8_makeInverse_71 : Cond.fieldLink RX8 71 "NormalFormsModel" "rows" "I" ∈ wsX8_makeInverse := by decide +kernel
theorem mX8_makeInverse_32 : Cond.fieldLink RX8 32 "NormalFormsModel" "a" "[I" ∈ wsX8_makeInverse := by decide +kernel
abbrev rmX8_makeInverse : Room := { frames := 2, cells := 0, slots := 0, locals := 37 }
set_option maxHeartbeats 4000000 in
set_option maxRecDepth 100000 in
theorem kX8_makeInverse (l : Launch) (D : va_G) (dA : Nat → ClassId) (b0 : Nat) (ι : Nat → Nat) (N : Nat) (a0 : Nat) (h : Hp) (r : Int32) (h' : Hp) (hf : fX8_makeInverse N a0 h = some (r, h')) : Met l yX8_makeInverse wsX8_makeInverse rmX8_makeInverse (PC D dA b0 ι [.ref (ι a0)] h) (QI D dA b0 ι r h') 0 0 (qA b0) := by
  unfold fX8_makeInverse at hf
  refine Met.ofW (cc := cX8_makeInverse) (maxL := 10) (ret := (some .boolean)) (by decide +kernel) rfl ?_
  intro p e s m args below meth c s₁ B hml hv
  obtain ⟨rfl, w0⟩ := hv
  have hx := B.exec
  have hb := B.bytes
  have hr := B.returns
  have hts := atoms_spec (ws := wsX8_makeInverse) B.pre
  have hown : s.vm.findClass RX8 = some m.cls := findClass_of_methodNamed B.named
  have hlocks := B.notSynchronized
  have hC := w0.c
  have hK := hC.1
  have w := WD.start w0
  clear w0
  have hl := lv_entry ([.ref (ι a0)]) (n := 10) (Nat.le_of_ble_eq_true rfl)
  rw [lg_entry_eq]
  generalize (lg_sl ([.ref (ι a0)]) ++ List.replicate (10 - (lg_sl ([.ref (ι a0)])).length) Slot.unset).toArray = ls at hl ⊢
  have hl : lv_has ls 10 [(0, .ref (ι a0))] := hl
  obtain ⟨H, hH⟩ : ∃ H : Heap, H = s.heap := ⟨_, rfl⟩
  obtain ⟨locs, hlo⟩ : ∃ locs : List Loc, locs = [] := ⟨_, rfl⟩
  rw [← hlo]
  have w : WD D dA b0 ι h s.heap H locs := by rw [hH, hlo]; exact w
  refine px_start hH ?_
  refine lv_aload_n hx hb dX8_makeInverse_0 rfl (lv_at hl 0 rfl) ?_
  obtain ⟨u3, eu3, hf⟩ := ob_s hf
  obtain ⟨⟨v1, h2⟩, eh2, hf⟩ := ob_s hf
  dsimp only at hf
  refine px_callVi (As := []) (rest := []) ⟨hx, hb, hml, hown, hts⟩ hC w (kX8_whole l D dA b0 ι N a0 h v1 h2 eh2) (cwV 0 hts gX8_makeInverse_X8_whole rfl rfl rfl (by decide +kernel) ⟨Nat.le_of_ble_eq_true rfl, Nat.le_of_ble_eq_true rfl⟩) eu3 rfl rfl hl.1 rfl (Nat.le_of_ble_eq_true rfl) dX8_makeInverse_1 ⟨Nat.le_of_ble_eq_true rfl, Nat.le_of_ble_eq_true rfl⟩ (fun H locs w => ?_)
  refine lv_istore_n (lv' := [(1, .int v1), (0, .ref (ι a0))]) hx hb dX8_makeInverse_4 rfl hl (by decide) rfl (fun ls hl => ?_)
  refine lv_aload_n hx hb dX8_makeInverse_5 rfl (lv_at hl 1 rfl) ?_
  obtain ⟨v4, ev4, hf⟩ := ob_s hf
  refine px_getR hx hb hts nX8_makeInverse_X8 hown hK w ev4 rfl (by decide) mX8_makeInverse_20 rfl dX8_makeInverse_6 ?_
  refine lv_iload_n hx hb dX8_makeInverse_9 rfl (lv_at hl 0 rfl) ?_
  obtain ⟨v5, ev5, hf⟩ := ob_s hf
  refine px_iald hx hb hK w ev5 dX8_makeInverse_10 ?_
  have hj19 : ∀ (t8 : Int32) (h7 : Hp) (H : Heap) (locs : List Loc) (ls : Array Slot), (lX8_makeInverse_22 N a0 v1 N t8 (1 : Int32) h7 (fun y9 y10 h11 => if y9 = 0 then some ((0 : Int32), h11) else (gR h11 a0 10 6).bind fun v13 => (aI h11 v13 v1).bind fun v14 => (fX8_inverse N v14 h11).bind fun (v15, h16) => nm (v15.toInt64) fun x17 => (gI h16 a0 10 1).bind fun v18 => nm (((1 : Int32) <<< (v18 &&& 31)) - (1 : Int32)) fun x19 => lX8_makeInverse_85 N a0 v1 y9 x17 x19 N (0 : Int32) h16 (fun y20 h21 => some ((1 : Int32), h21)))) = some (r, h') → lv_has ls 10 [(0, .ref (ι a0)), (1, .int v1)] → WD D dA b0 ι h7 s.heap H locs → W p l e (headSpec wsX8_makeInverse rmX8_makeInverse).room s m ([.ref (ι a0)] : List Value).toArray below meth c H locs 0 0 (MQ below (QI D dA b0 ι r h') ([.ref (ι a0)] : List Value).toArray s 0 0 (qA b0)) (F0 m 19 ls [.int t8]) := by
    intro t8 h7 H locs ls hf hl w
    refine lv_istore_n (lv' := [(2, .int t8), (0, .ref (ι a0)), (1, .int v1)]) hx hb dX8_makeInverse_19 rfl hl (by decide) rfl (fun ls hl => ?_)
    refine lv_iconst (v := (1 : Int32)) hx hb dX8_makeInverse_20 (by decide) ?_
    refine lv_istore_n (lv' := [(3, .int (1 : Int32)), (2, .int t8), (0, .ref (ι a0)), (1, .int v1)]) hx hb dX8_makeInverse_21 rfl hl (by decide) rfl (fun ls hl => ?_)
    have hx22 : ∀ (y9 : Int32) (y10 : Int32) (h11 : Hp) (H : Heap) (locs : List Loc) (ls : Array Slot), (if y9 = 0 then some ((0 : Int32), h11) else (gR h11 a0 10 6).bind fun v13 => (aI h11 v13 v1).bind fun v14 => (fX8_inverse N v14 h11).bind fun (v15, h16) => nm (v15.toInt64) fun x17 => (gI h16 a0 10 1).bind fun v18 => nm (((1 : Int32) <<< (v18 &&& 31)) - (1 : Int32)) fun x19 => lX8_makeInverse_85 N a0 v1 y9 x17 x19 N (0 : Int32) h16 (fun y20 h21 => some ((1 : Int32), h21))) = some (r, h') → lv_has ls 10 [(0, .ref (ι a0)), (1, .int v1), (2, .int y9), (3, .int y10)] → WD D dA b0 ι h11 s.heap H locs → W p l e (headSpec wsX8_makeInverse rmX8_makeInverse).room s m ([.ref (ι a0)] : List Value).toArray below meth c H locs 0 0 (MQ below (QI D dA b0 ι r h') ([.ref (ι a0)] : List Value).toArray s 0 0 (qA b0)) (F0 m 55 ls []) := by
      intro y9 y10 h11 H locs ls hf hl w
      refine lv_iload_n hx hb dX8_makeInverse_55 rfl (lv_at hl 2 rfl) ?_
      refine lv_if_ne (tgt := 61) hx hb dX8_makeInverse_56 (by decide) (fun c12 => ?_) (fun c12 => ?_)
      · have hf := if_f hf c12
        refine lv_aload_n hx hb dX8_makeInverse_61 rfl (lv_at hl 0 rfl) ?_
        obtain ⟨v13, ev13, hf⟩ := ob_s hf
        refine px_getR hx hb hts nX8_makeInverse_X8 hown hK w ev13 rfl (by decide) mX8_makeInverse_20 rfl dX8_makeInverse_62 ?_
        refine lv_iload_n hx hb dX8_makeInverse_65 rfl (lv_at hl 1 rfl) ?_
        obtain ⟨v14, ev14, hf⟩ := ob_s hf
        refine px_iald hx hb hK w ev14 dX8_makeInverse_66 ?_
        obtain ⟨⟨v15, h16⟩, eh16, hf⟩ := ob_s hf
        dsimp only at hf
        refine px_callSi (As := [.int v14]) (rest := []) ⟨hx, hb, hml, hown, hts⟩ hC w (kX8_inverse l D dA b0 ι N v14 h11 v15 h16 eh16) (va_cwS 1 hts gX8_makeInverse_X8_inverse rfl rfl rfl (by decide +kernel) ⟨Nat.le_of_ble_eq_true rfl, Nat.le_of_ble_eq_true rfl⟩) rfl hl.1 rfl (Nat.le_of_ble_eq_true rfl) dX8_makeInverse_67 ⟨Nat.le_of_ble_eq_true rfl, Nat.le_of_ble_eq_true rfl⟩ (fun H locs w => ?_)
        refine lv_i2l hx hb dX8_makeInverse_70 rfl ?_
        obtain ⟨x17, ex17, hf⟩ := nm_s hf
        refine px_nmJ ex17 ?_
        refine lv_lstore_n (lv' := [(3, .long x17), (0, .ref (ι a0)), (1, .int v1), (2, .int y9)]) hx hb dX8_makeInverse_71 rfl hl (by decide) rfl (fun ls hl => ?_)
        refine lv_iconst (v := (1 : Int32)) hx hb dX8_makeInverse_72 (by decide) ?_
        refine lv_aload_n hx hb dX8_makeInverse_73 rfl (lv_at hl 1 rfl) ?_
        obtain ⟨v18, ev18, hf⟩ := ob_s hf
        refine px_getI hx hb hts nX8_makeInverse_X8 hown hK w ev18 rfl (by decide) mX8_makeInverse_71 rfl dX8_makeInverse_74 ?_
        refine lv_ishl hx hb dX8_makeInverse_77 ?_
        refine lv_iconst (v := (1 : Int32)) hx hb dX8_makeInverse_78 (by decide) ?_
        refine lv_isub hx hb dX8_makeInverse_79 ?_
        obtain ⟨x19, ex19, hf⟩ := nm_s hf
        refine px_nmI ex19 ?_
        refine lv_istore (lv' := [(5, .int x19), (3, .long x17), (0, .ref (ι a0)), (1, .int v1), (2, .int y9)]) hx hb dX8_makeInverse_80 hl (by decide) rfl (fun ls hl => ?_)
        refine lv_iconst (v := (0 : Int32)) hx hb dX8_makeInverse_82 (by decide) ?_
        refine lv_istore (lv' := [(6, .int (0 : Int32)), (5, .int x19), (3, .long x17), (0, .ref (ι a0)), (1, .int v1), (2, .int y9)]) hx hb dX8_makeInverse_83 hl (by decide) rfl (fun ls hl => ?_)
        have hx85 : ∀ (y20 : Int32) (h21 : Hp) (H : Heap) (locs : List Loc) (ls : Array Slot), (some ((1 : Int32), h21)) = some (r, h') → lv_has ls 10 [(0, .ref (ι a0)), (1, .int v1), (2, .int y9), (3, .long x17), (5, .int x19), (6, .int y20)] → WD D dA b0 ι h21 s.heap H locs → W p l e (headSpec wsX8_makeInverse rmX8_makeInverse).room s m ([.ref (ι a0)] : List Value).toArray below meth c H locs 0 0 (MQ below (QI D dA b0 ι r h') ([.ref (ι a0)] : List Value).toArray s 0 0 (qA b0)) (F0 m 227 ls []) := by
          intro y20 h21 H locs ls hf hl w
          refine lv_iconst (v := (1 : Int32)) hx hb dX8_makeInverse_227 (by decide) ?_
          exact W.zret hx hb hr rfl (qi_end hf w hC) w.locs_ok dX8_makeInverse_228
        obtain ⟨κ85, eκ85⟩ : ∃ k : Int32 → Hp → Option (Int32 × Hp), k = (fun y20 h21 => some ((1 : Int32), h21)) := ⟨_, rfl⟩
        have hlp85 : ∀ (n : Nat) (z127 : Int32) (h128 : Hp) (H : Heap) (locs : List Loc) (ls : Array Slot), lX8_makeInverse_85 N a0 v1 y9 x17 x19 n z127 h128 κ85 = some (r, h') → lv_has ls 10 [(0, .ref (ι a0)), (1, .int v1), (2, .int y9), (3, .long x17), (5, .int x19), (6, .int z127)] → WD D dA b0 ι h128 s.heap H locs → W p l e (headSpec wsX8_makeInverse rmX8_makeInverse).room s m ([.ref (ι a0)] : List Value).toArray below meth c H locs 0 0 (MQ below (QI D dA b0 ι r h') ([.ref (ι a0)] : List Value).toArray s 0 0 (qA b0)) (F0 m 85 ls []) := by
          intro n85
          induction n85 with
          | zero => intro z127 h128 H locs ls hf; exact absurd hf (by rw [lX8_makeInverse_85]; exact fun q => nomatch q)
          | succ n85 ih85 =>
            intro z127 h128 H locs ls hf hl w
            rw [lX8_makeInverse_85] at hf
            refine lv_iload hx hb dX8_makeInverse_85 (lv_at hl 5 rfl) ?_
            refine lv_aload_n hx hb dX8_makeInverse_87 rfl (lv_at hl 0 rfl) ?_
            obtain ⟨v129, ev129, hf⟩ := ob_s hf
            refine px_getI hx hb hts nX8_makeInverse_X8 hown hK w ev129 rfl (by decide) mX8_makeInverse_71 rfl dX8_makeInverse_88 ?_
            refine lv_icmp_ge (tgt := 227) hx hb dX8_makeInverse_91 (by decide) (fun c130 => ?_) (fun c130 => ?_)
            · have hf := if_t hf c130
              exact hx85 z127 h128 H locs ls (by rw [eκ85] at hf; exact hf) (lv_sub hl [0, 1, 2, 3, 4, 5] rfl) w
            · have hf := if_f hf c130
              refine lv_iconst (v := (0 : Int32)) hx hb dX8_makeInverse_94 (by decide) ?_
              refine lv_istore (lv' := [(7, .int (0 : Int32)), (0, .ref (ι a0)), (1, .int v1), (2, .int y9), (3, .long x17), (5, .int x19), (6, .int z127)]) hx hb dX8_makeInverse_95 hl (by decide) rfl (fun ls hl => ?_)
              have hx97 : ∀ (y131 : Int32) (h132 : Hp) (H : Heap) (locs : List Loc) (ls : Array Slot), (nm (z127 + (1 : Int32)) fun x133 => lX8_makeInverse_85 N a0 v1 y9 x17 x19 n85 x133 h132 κ85) = some (r, h') → lv_has ls 10 [(0, .ref (ι a0)), (1, .int v1), (2, .int y9), (3, .long x17), (5, .int x19), (6, .int z127), (7, .int y131)] → WD D dA b0 ι h132 s.heap H locs → W p l e (headSpec wsX8_makeInverse rmX8_makeInverse).room s m ([.ref (ι a0)] : List Value).toArray below meth c H locs 0 0 (MQ below (QI D dA b0 ι r h') ([.ref (ι a0)] : List Value).toArray s 0 0 (qA b0)) (F0 m 221 ls []) := by
                intro y131 h132 H locs ls hf hl w
                obtain ⟨x133, ex133, hf⟩ := nm_s hf
                refine lv_iinc (v := x133) (lv' := [(6, .int x133), (0, .ref (ι a0)), (1, .int v1), (2, .int y9), (3, .long x17), (5, .int x19), (7, .int y131)]) hx hb dX8_makeInverse_221 hl (k := 5) rfl (by rw [ex133]; rfl) (by decide) rfl (fun ls hl => ?_)
                refine lv_goto (tgt := 85) hx hb dX8_makeInverse_224 (by decide) ?_
                exact ih85 x133 h132 H locs ls hf (lv_sub hl [1, 2, 3, 4, 5, 0] rfl) w
              obtain ⟨κ97, eκ97⟩ : ∃ k : Int32 → Hp → Option (Int32 × Hp), k = (fun y131 h132 => nm (z127 + (1 : Int32)) fun x133 => lX8_makeInverse_85 N a0 v1 y9 x17 x19 n85 x133 h132 κ85) := ⟨_, rfl⟩
              have hlp97 : ∀ (n : Nat) (z183 : Int32) (h184 : Hp) (H : Heap) (locs : List Loc) (ls : Array Slot), lX8_makeInverse_97 N a0 v1 y9 x17 x19 z127 n z183 h184 κ97 = some (r, h') → lv_has ls 10 [(0, .ref (ι a0)), (1, .int v1), (2, .int y9), (3, .long x17), (5, .int x19), (6, .int z127), (7, .int z183)] → WD D dA b0 ι h184 s.heap H locs → W p l e (headSpec wsX8_makeInverse rmX8_makeInverse).room s m ([.ref (ι a0)] : List Value).toArray below meth c H locs 0 0 (MQ below (QI D dA b0 ι r h') ([.ref (ι a0)] : List Value).toArray s 0 0 (qA b0)) (F0 m 97 ls []) := by
                intro n97
                induction n97 with
                | zero => intro z183 h184 H locs ls hf; exact absurd hf (by rw [lX8_makeInverse_97]; exact fun q => nomatch q)
                | succ n97 ih97 =>
                  intro z183 h184 H locs ls hf hl w
                  rw [lX8_makeInverse_97] at hf
                  refine lv_iload hx hb dX8_makeInverse_97 (lv_at hl 6 rfl) ?_
                  refine lv_aload_n hx hb dX8_makeInverse_99 rfl (lv_at hl 0 rfl) ?_
                  obtain ⟨v185, ev185, hf⟩ := ob_s hf
                  refine px_getI hx hb hts nX8_makeInverse_X8 hown hK w ev185 rfl (by decide) mX8_makeInverse_71 rfl dX8_makeInverse_100 ?_
                  refine lv_icmp_ge (tgt := 221) hx hb dX8_makeInverse_103 (by decide) (fun c186 => ?_) (fun c186 => ?_)
                  · have hf := if_t hf c186
                    exact hx97 z183 h184 H locs ls (by rw [eκ97] at hf; exact hf) (lv_sub hl [0, 1, 2, 3, 4, 5, 6] rfl) w
                  · have hf := if_f hf c186
                    refine lv_bipush (v := (13 : Int32)) hx hb dX8_makeInverse_106 (by decide) ?_
                    refine lv_bipush (v := (16 : Int32)) hx hb dX8_makeInverse_108 (by decide) ?_
                    refine lv_iload hx hb dX8_makeInverse_110 (lv_at hl 4 rfl) ?_
                    refine lv_iconst (v := (1 : Int32)) hx hb dX8_makeInverse_112 (by decide) ?_
                    refine lv_iload hx hb dX8_makeInverse_113 (lv_at hl 6 rfl) ?_
                    refine lv_ishl hx hb dX8_makeInverse_115 ?_
                    refine lv_isub hx hb dX8_makeInverse_116 ?_
                    refine lv_imul hx hb dX8_makeInverse_117 ?_
                    refine lv_iload hx hb dX8_makeInverse_118 (lv_at hl 4 rfl) ?_
                    refine lv_iadd hx hb dX8_makeInverse_120 ?_
                    refine lv_iconst (v := (1 : Int32)) hx hb dX8_makeInverse_121 (by decide) ?_
                    refine lv_iload hx hb dX8_makeInverse_122 (lv_at hl 5 rfl) ?_
                    refine lv_ishl hx hb dX8_makeInverse_124 ?_
                    refine lv_isub hx hb dX8_makeInverse_125 ?_
                    refine lv_imul hx hb dX8_makeInverse_126 ?_
                    obtain ⟨x187, ex187, hf⟩ := nm_s hf
                    refine px_nmI ex187 ?_
                    refine lv_istore (lv' := [(8, .int x187), (0, .ref (ι a0)), (1, .int v1), (2, .int y9), (3, .long x17), (5, .int x19), (6, .int z127), (7, .int z183)]) hx hb dX8_makeInverse_127 hl (by decide) rfl (fun ls hl => ?_)
                    refine lv_aload_n hx hb dX8_makeInverse_129 rfl (lv_at hl 1 rfl) ?_
                    obtain ⟨v188, ev188, hf⟩ := ob_s hf
                    refine px_getR hx hb hts nX8_makeInverse_X8 hown hK w ev188 rfl (by decide) mX8_makeInverse_32 rfl dX8_makeInverse_130 ?_
                    obtain ⟨h190, eh190, hf⟩ := ob_s hf
                    refine px_callSv (As := [.ref (ι v188)]) (rest := []) ⟨hx, hb, hml, hown, hts⟩ hC w (kX8_empty l D dA b0 ι N v188 h184 h190 eh190) (va_cwS 1 hts gX8_makeInverse_X8_empty rfl rfl rfl (by decide +kernel) ⟨Nat.le_of_ble_eq_true rfl, Nat.le_of_ble_eq_true rfl⟩) rfl hl.1 rfl (Nat.le_of_ble_eq_true rfl) dX8_makeInverse_133 ⟨Nat.le_of_ble_eq_true rfl, Nat.le_of_ble_eq_true rfl⟩ (fun H locs w => ?_)
                    refine lv_iconst (v := (0 : Int32)) hx hb dX8_makeInverse_136 (by decide) ?_
                    refine lv_istore (lv' := [(9, .int (0 : Int32)), (8, .int x187), (0, .ref (ι a0)), (1, .int v1), (2, .int y9), (3, .long x17), (5, .int x19), (6, .int z127), (7, .int z183)]) hx hb dX8_makeInverse_137 hl (by decide) rfl (fun ls hl => ?_)
                    have hx139 : ∀ (y191 : Int32) (h192 : Hp) (H : Heap) (locs : List Loc) (ls : Array Slot), ((gR h192 a0 10 10).bind fun v193 => (cK h192 a0 10).bind fun u196 => (fX8_put0 N a0 (2 : Int32) z127 z183 v193 h192).bind fun h195 => nm (z183 + (1 : Int32)) fun x197 => lX8_makeInverse_97 N a0 v1 y9 x17 x19 z127 n97 x197 h195 κ97) = some (r, h') → lv_has ls 10 [(0, .ref (ι a0)), (1, .int v1), (2, .int y9), (3, .long x17), (5, .int x19), (6, .int z127), (7, .int z183), (8, .int x187), (9, .int y191)] → WD D dA b0 ι h192 s.heap H locs → W p l e (headSpec wsX8_makeInverse rmX8_makeInverse).room s m ([.ref (ι a0)] : List Value).toArray below meth c H locs 0 0 (MQ below (QI D dA b0 ι r h') ([.ref (ι a0)] : List Value).toArray s 0 0 (qA b0)) (F0 m 202 ls []) := by
                      intro y191 h192 H locs ls hf hl w
                      refine lv_aload_n hx hb dX8_makeInverse_202 rfl (lv_at hl 0 rfl) ?_
                      refine lv_iconst (v := (2 : Int32)) hx hb dX8_makeInverse_203 (by decide) ?_
                      refine lv_iload hx hb dX8_makeInverse_204 (lv_at hl 5 rfl) ?_
                      refine lv_iload hx hb dX8_makeInverse_206 (lv_at hl 6 rfl) ?_
                      refine lv_aload_n hx hb dX8_makeInverse_208 rfl (lv_at hl 0 rfl) ?_
                      obtain ⟨v193, ev193, hf⟩ := ob_s hf
                      refine px_getR hx hb hts nX8_makeInverse_X8 hown hK w ev193 rfl (by decide) mX8_makeInverse_32 rfl dX8_makeInverse_209 ?_
                      obtain ⟨u196, eu196, hf⟩ := ob_s hf
                      obtain ⟨h195, eh195, hf⟩ := ob_s hf
                      refine px_callVv (As := [.int (2 : Int32), .int z127, .int z183, .ref (ι v193)]) (rest := []) ⟨hx, hb, hml, hown, hts⟩ hC w (kX8_put0 l D dA b0 ι N a0 (2 : Int32) z127 z183 v193 h192 h195 eh195) (cwV 4 hts gX8_makeInverse_X8_put0 rfl rfl rfl (by decide +kernel) ⟨Nat.le_of_ble_eq_true rfl, Nat.le_of_ble_eq_true rfl⟩) eu196 rfl rfl hl.1 rfl (Nat.le_of_ble_eq_true rfl) dX8_makeInverse_212 ⟨Nat.le_of_ble_eq_true rfl, Nat.le_of_ble_eq_true rfl⟩ (fun H locs w => ?_)
                      obtain ⟨x197, ex197, hf⟩ := nm_s hf
                      refine lv_iinc (v := x197) (lv' := [(7, .int x197), (0, .ref (ι a0)), (1, .int v1), (2, .int y9), (3, .long x17), (5, .int x19), (6, .int z127), (8, .int x187), (9, .int y191)]) hx hb dX8_makeInverse_215 hl (k := 6) rfl (by rw [ex197]; rfl) (by decide) rfl (fun ls hl => ?_)
                      refine lv_goto (tgt := 97) hx hb dX8_makeInverse_218 (by decide) ?_
                      exact ih97 x197 h195 H locs ls hf (lv_sub hl [1, 2, 3, 4, 5, 6, 0] rfl) w
                    obtain ⟨κ139, eκ139⟩ : ∃ k : Int32 → Hp → Option (Int32 × Hp), k = (fun y191 h192 => (gR h192 a0 10 10).bind fun v193 => (cK h192 a0 10).bind fun u196 => (fX8_put0 N a0 (2 : Int32) z127 z183 v193 h192).bind fun h195 => nm (z183 + (1 : Int32)) fun x197 => lX8_makeInverse_97 N a0 v1 y9 x17 x19 z127 n97 x197 h195 κ97) := ⟨_, rfl⟩
                    have hlp139 : ∀ (n : Nat) (z215 : Int32) (h216 : Hp) (H : Heap) (locs : List Loc) (ls : Array Slot), lX8_makeInverse_139 N a0 v1 y9 x17 x19 z127 z183 x187 n z215 h216 κ139 = some (r, h') → lv_has ls 10 [(0, .ref (ι a0)), (1, .int v1), (2, .int y9), (3, .long x17), (5, .int x19), (6, .int z127), (7, .int z183), (8, .int x187), (9, .int z215)] → WD D dA b0 ι h216 s.heap H locs → W p l e (headSpec wsX8_makeInverse rmX8_makeInverse).room s m ([.ref (ι a0)] : List Value).toArray below meth c H locs 0 0 (MQ below (QI D dA b0 ι r h') ([.ref (ι a0)] : List Value).toArray s 0 0 (qA b0)) (F0 m 139 ls []) := by
                      intro n139
                      induction n139 with
                      | zero => intro z215 h216 H locs ls hf; exact absurd hf (by rw [lX8_makeInverse_139]; exact fun q => nomatch q)
                      | succ n139 ih139 =>
                        intro z215 h216 H locs ls hf hl w
                        rw [lX8_makeInverse_139] at hf
                        refine lv_iload hx hb dX8_makeInverse_139 (lv_at hl 8 rfl) ?_
                        refine lv_bipush (v := (13 : Int32)) hx hb dX8_makeInverse_141 (by decide) ?_
                        refine lv_icmp_ge (tgt := 202) hx hb dX8_makeInverse_143 (by decide) (fun c217 => ?_) (fun c217 => ?_)
                        · have hf := if_t hf c217
                          exact hx139 z215 h216 H locs ls (by rw [eκ139] at hf; exact hf) (lv_sub hl [0, 1, 2, 3, 4, 5, 6, 7, 8] rfl) w
                        · have hf := if_f hf c217
                          refine lv_aload_n hx hb dX8_makeInverse_146 rfl (lv_at hl 0 rfl) ?_
                          obtain ⟨v218, ev218, hf⟩ := ob_s hf
                          refine px_getR hx hb hts nX8_makeInverse_X8 hown hK w ev218 rfl (by decide) mX8_makeInverse_32 rfl dX8_makeInverse_147 ?_
                          refine lv_iload hx hb dX8_makeInverse_150 (lv_at hl 8 rfl) ?_
                          refine lv_iload hx hb dX8_makeInverse_152 (lv_at hl 5 rfl) ?_
                          refine lv_iload hx hb dX8_makeInverse_154 (lv_at hl 6 rfl) ?_
                          refine lv_iadd hx hb dX8_makeInverse_156 ?_
                          refine lv_iconst (v := (2 : Int32)) hx hb dX8_makeInverse_157 (by decide) ?_
                          refine px_irem hx hb dX8_makeInverse_158 (by decide) ?_
                          have hj192 : ∀ (t221 : Int64) (h220 : Hp) (H : Heap) (locs : List Loc) (ls : Array Slot), ((fX8_modulo N t221 h220).bind fun (v222, h223) => (aIs h223 v218 z215 v222).bind fun h224 => nm (z215 + (1 : Int32)) fun x225 => lX8_makeInverse_139 N a0 v1 y9 x17 x19 z127 z183 x187 n139 x225 h224 κ139) = some (r, h') → lv_has ls 10 [(0, .ref (ι a0)), (1, .int v1), (2, .int y9), (3, .long x17), (5, .int x19), (6, .int z127), (7, .int z183), (8, .int x187), (9, .int z215)] → WD D dA b0 ι h220 s.heap H locs → W p l e (headSpec wsX8_makeInverse rmX8_makeInverse).room s m ([.ref (ι a0)] : List Value).toArray below meth c H locs 0 0 (MQ below (QI D dA b0 ι r h') ([.ref (ι a0)] : List Value).toArray s 0 0 (qA b0)) (F0 m 192 ls [.long t221, .int z215, .ref (ι v218)]) := by
                            intro t221 h220 H locs ls hf hl w
                            obtain ⟨⟨v222, h223⟩, eh223, hf⟩ := ob_s hf
                            dsimp only at hf
                            refine px_callSi (As := [.long t221]) (rest := [.int z215, .ref (ι v218)]) ⟨hx, hb, hml, hown, hts⟩ hC w (kX8_modulo l D dA b0 ι N t221 h220 v222 h223 eh223) (va_cwS 1 hts gX8_makeInverse_X8_modulo rfl rfl rfl (by decide +kernel) ⟨Nat.le_of_ble_eq_true rfl, Nat.le_of_ble_eq_true rfl⟩) rfl hl.1 rfl (Nat.le_of_ble_eq_true rfl) dX8_makeInverse_192 ⟨Nat.le_of_ble_eq_true rfl, Nat.le_of_ble_eq_true rfl⟩ (fun H locs w => ?_)
                            obtain ⟨h224, eh224, hf⟩ := ob_s hf
                            refine px_iast hx hb hK w eh224 dX8_makeInverse_195 (fun H locs w => ?_)
                            obtain ⟨x225, ex225, hf⟩ := nm_s hf
                            refine lv_iinc (v := x225) (lv' := [(9, .int x225), (0, .ref (ι a0)), (1, .int v1), (2, .int y9), (3, .long x17), (5, .int x19), (6, .int z127), (7, .int z183), (8, .int x187)]) hx hb dX8_makeInverse_196 hl (k := 8) rfl (by rw [ex225]; rfl) (by decide) rfl (fun ls hl => ?_)
                            refine lv_goto (tgt := 139) hx hb dX8_makeInverse_199 (by decide) ?_
                            exact ih139 x225 h224 H locs ls hf (lv_sub hl [1, 2, 3, 4, 5, 6, 7, 8, 0] rfl) w
                          obtain ⟨j219, ej219, hf⟩ := jn_s hf
                          refine lv_if_ne (tgt := 178) hx hb dX8_makeInverse_159 (by decide) (fun c226 => ?_) (fun c226 => ?_)
                          · have hf := if_f hf c226
                            refine lv_aload_n hx hb dX8_makeInverse_178 rfl (lv_at hl 0 rfl) ?_
                            obtain ⟨v227, ev227, hf⟩ := ob_s hf
                            refine px_getR hx hb hts nX8_makeInverse_X8 hown hK w ev227 rfl (by decide) mX8_makeInverse_20 rfl dX8_makeInverse_179 ?_
                            refine lv_iload hx hb dX8_makeInverse_182 (lv_at hl 7 rfl) ?_
                            refine lv_iload hx hb dX8_makeInverse_184 (lv_at hl 8 rfl) ?_
                            refine lv_iadd hx hb dX8_makeInverse_186 ?_
                            obtain ⟨v228, ev228, hf⟩ := ob_s hf
                            refine px_iald hx hb hK w ev228 dX8_makeInverse_187 ?_
                            refine lv_ineg hx hb dX8_makeInverse_188 ?_
                            refine lv_i2l hx hb dX8_makeInverse_189 rfl ?_
                            refine lv_lload_n hx hb dX8_makeInverse_190 rfl (lv_at hl 3 rfl) ?_
                            refine lv_lmul hx hb dX8_makeInverse_191 ?_
                            exact hj192 (((-v228).toInt64) * x17) h216 H locs ls (by rw [ej219] at hf; exact hf) (lv_sub hl [0, 1, 2, 3, 4, 5, 6, 7, 8] rfl) w
                          · have hf := if_t hf c226
                            refine lv_aload_n hx hb dX8_makeInverse_162 rfl (lv_at hl 0 rfl) ?_
                            obtain ⟨v229, ev229, hf⟩ := ob_s hf
                            refine px_getR hx hb hts nX8_makeInverse_X8 hown hK w ev229 rfl (by decide) mX8_makeInverse_20 rfl dX8_makeInverse_163 ?_
                            refine lv_iload hx hb dX8_makeInverse_166 (lv_at hl 7 rfl) ?_
                            refine lv_iload hx hb dX8_makeInverse_168 (lv_at hl 8 rfl) ?_
                            refine lv_iadd hx hb dX8_makeInverse_170 ?_
                            obtain ⟨v230, ev230, hf⟩ := ob_s hf
                            refine px_iald hx hb hK w ev230 dX8_makeInverse_171 ?_
                            refine lv_i2l hx hb dX8_makeInverse_172 rfl ?_
                            refine lv_lload_n hx hb dX8_makeInverse_173 rfl (lv_at hl 3 rfl) ?_
                            refine lv_lmul hx hb dX8_makeInverse_174 ?_
                            refine lv_goto (tgt := 192) hx hb dX8_makeInverse_175 (by decide) ?_
                            exact hj192 ((v230.toInt64) * x17) h216 H locs ls (by rw [ej219] at hf; exact hf) (lv_sub hl [0, 1, 2, 3, 4, 5, 6, 7, 8] rfl) w
                    exact hlp139 N (0 : Int32) h190 H locs ls (by rw [eκ139]; exact hf) (lv_sub hl [2, 3, 4, 5, 6, 7, 8, 1, 0] rfl) w
              exact hlp97 N (0 : Int32) h128 H locs ls (by rw [eκ97]; exact hf) (lv_sub hl [1, 2, 3, 4, 5, 6, 0] rfl) w
        exact hlp85 N (0 : Int32) h16 H locs ls (by rw [eκ85]; exact hf) (lv_sub hl [3, 4, 5, 2, 1, 0] rfl) w
      · have hf := if_t hf c12
        refine lv_iconst (v := (0 : Int32)) hx hb dX8_makeInverse_59 (by decide) ?_
        exact W.zret hx hb hr rfl (qi_end hf w hC) w.locs_ok dX8_makeInverse_60
    obtain ⟨κ22, eκ22⟩ : ∃ k : Int32 → Int32 → Hp → Option (Int32 × Hp), k = (fun y9 y10 h11 => if y9 = 0 then some ((0 : Int32), h11) else (gR h11 a0 10 6).bind fun v13 => (aI h11 v13 v1).bind fun v14 => (fX8_inverse N v14 h11).bind fun (v15, h16) => nm (v15.toInt64) fun x17 => (gI h16 a0 10 1).bind fun v18 => nm (((1 : Int32) <<< (v18 &&& 31)) - (1 : Int32)) fun x19 => lX8_makeInverse_85 N a0 v1 y9 x17 x19 N (0 : Int32) h16 (fun y20 h21 => some ((1 : Int32), h21))) := ⟨_, rfl⟩
    have hlp22 : ∀ (n : Nat) (z246 : Int32) (z247 : Int32) (h248 : Hp) (H : Heap) (locs : List Loc) (ls : Array Slot), lX8_makeInverse_22 N a0 v1 n z246 z247 h248 κ22 = some (r, h') → lv_has ls 10 [(0, .ref (ι a0)), (1, .int v1), (2, .int z246), (3, .int z247)] → WD D dA b0 ι h248 s.heap H locs → W p l e (headSpec wsX8_makeInverse rmX8_makeInverse).room s m ([.ref (ι a0)] : List Value).toArray below meth c H locs 0 0 (MQ below (QI D dA b0 ι r h') ([.ref (ι a0)] : List Value).toArray s 0 0 (qA b0)) (F0 m 22 ls []) := by
      intro n22
      induction n22 with
      | zero => intro z246 z247 h248 H locs ls hf; exact absurd hf (by rw [lX8_makeInverse_22]; exact fun q => nomatch q)
      | succ n22 ih22 =>
        intro z246 z247 h248 H locs ls hf hl w
        rw [lX8_makeInverse_22] at hf
        refine lv_iload_n hx hb dX8_makeInverse_22 rfl (lv_at hl 3 rfl) ?_
        refine lv_bipush (v := (13 : Int32)) hx hb dX8_makeInverse_23 (by decide) ?_
        refine lv_icmp_ge (tgt := 55) hx hb dX8_makeInverse_25 (by decide) (fun c249 => ?_) (fun c249 => ?_)
        · have hf := if_t hf c249
          exact hx22 z246 z247 h248 H locs ls (by rw [eκ22] at hf; exact hf) (lv_sub hl [0, 1, 2, 3] rfl) w
        · have hf := if_f hf c249
          refine lv_iload_n hx hb dX8_makeInverse_28 rfl (lv_at hl 2 rfl) ?_
          have hj48 : ∀ (t252 : Int32) (h251 : Hp) (H : Heap) (locs : List Loc) (ls : Array Slot), (nm (z247 + (1 : Int32)) fun x253 => lX8_makeInverse_22 N a0 v1 n22 t252 x253 h251 κ22) = some (r, h') → lv_has ls 10 [(0, .ref (ι a0)), (1, .int v1), (2, .int z246), (3, .int z247)] → WD D dA b0 ι h251 s.heap H locs → W p l e (headSpec wsX8_makeInverse rmX8_makeInverse).room s m ([.ref (ι a0)] : List Value).toArray below meth c H locs 0 0 (MQ below (QI D dA b0 ι r h') ([.ref (ι a0)] : List Value).toArray s 0 0 (qA b0)) (F0 m 48 ls [.int t252]) := by
            intro t252 h251 H locs ls hf hl w
            refine lv_istore_n (lv' := [(2, .int t252), (0, .ref (ι a0)), (1, .int v1), (3, .int z247)]) hx hb dX8_makeInverse_48 rfl hl (by decide) rfl (fun ls hl => ?_)
            obtain ⟨x253, ex253, hf⟩ := nm_s hf
            refine lv_iinc (v := x253) (lv' := [(3, .int x253), (2, .int t252), (0, .ref (ι a0)), (1, .int v1)]) hx hb dX8_makeInverse_49 hl (k := 3) rfl (by rw [ex253]; rfl) (by decide) rfl (fun ls hl => ?_)
            refine lv_goto (tgt := 22) hx hb dX8_makeInverse_52 (by decide) ?_
            exact ih22 t252 x253 h251 H locs ls hf (lv_sub hl [2, 3, 1, 0] rfl) w
          obtain ⟨j250, ej250, hf⟩ := jn_s hf
          have hj47 : ∀ (h255 : Hp) (H : Heap) (locs : List Loc) (ls : Array Slot), (j250 (0 : Int32) h255) = some (r, h') → lv_has ls 10 [(0, .ref (ι a0)), (1, .int v1), (2, .int z246), (3, .int z247)] → WD D dA b0 ι h255 s.heap H locs → W p l e (headSpec wsX8_makeInverse rmX8_makeInverse).room s m ([.ref (ι a0)] : List Value).toArray below meth c H locs 0 0 (MQ below (QI D dA b0 ι r h') ([.ref (ι a0)] : List Value).toArray s 0 0 (qA b0)) (F0 m 47 ls []) := by
            intro h255 H locs ls hf hl w
            refine lv_iconst (v := (0 : Int32)) hx hb dX8_makeInverse_47 (by decide) ?_
            exact hj48 (0 : Int32) h255 H locs ls (by rw [ej250] at hf; exact hf) (lv_sub hl [0, 1, 2, 3] rfl) w
          obtain ⟨j254, ej254, hf⟩ := jn_s hf
          refine lv_if_eq (tgt := 47) hx hb dX8_makeInverse_29 (by decide) (fun c256 => ?_) (fun c256 => ?_)
          · have hf := if_t hf c256
            exact hj47 h248 H locs ls (by rw [ej254] at hf; exact hf) (lv_sub hl [0, 1, 2, 3] rfl) w
          · have hf := if_f hf c256
            refine lv_aload_n hx hb dX8_makeInverse_32 rfl (lv_at hl 0 rfl) ?_
            obtain ⟨v257, ev257, hf⟩ := ob_s hf
            refine px_getR hx hb hts nX8_makeInverse_X8 hown hK w ev257 rfl (by decide) mX8_makeInverse_20 rfl dX8_makeInverse_33 ?_
            refine lv_iload_n hx hb dX8_makeInverse_36 rfl (lv_at hl 1 rfl) ?_
            refine lv_iload_n hx hb dX8_makeInverse_37 rfl (lv_at hl 3 rfl) ?_
            refine lv_iadd hx hb dX8_makeInverse_38 ?_
            obtain ⟨v258, ev258, hf⟩ := ob_s hf
            refine px_iald hx hb hK w ev258 dX8_makeInverse_39 ?_
            refine lv_if_ne (tgt := 47) hx hb dX8_makeInverse_40 (by decide) (fun c259 => ?_) (fun c259 => ?_)
            · have hf := if_f hf c259
              exact hj47 h248 H locs ls (by rw [ej254] at hf; exact hf) (lv_sub hl [0, 1, 2, 3] rfl) w
            · have hf := if_t hf c259
              refine lv_iconst (v := (1 : Int32)) hx hb dX8_makeInverse_43 (by decide) ?_
              refine lv_goto (tgt := 48) hx hb dX8_makeInverse_44 (by decide) ?_
              exact hj48 (1 : Int32) h248 H locs ls (by rw [ej250] at hf; exact hf) (lv_sub hl [0, 1, 2, 3] rfl) w
    exact hlp22 N t8 (1 : Int32) h7 H locs ls (by rw [eκ22]; exact hf) (lv_sub hl [2, 3, 1, 0] rfl) w
  obtain ⟨j6, ej6, hf⟩ := jn_s hf
  refine lv_if_eq (tgt := 18) hx hb dX8_makeInverse_11 (by decide) (fun c260 => ?_) (fun c260 => ?_)
  · have hf := if_t hf c260
    refine lv_iconst (v := (0 : Int32)) hx hb dX8_makeInverse_18 (by decide) ?_
    exact hj19 (0 : Int32) h2 H locs ls (by rw [ej6] at hf; exact hf) (lv_sub hl [1, 0] rfl) w
  · have hf := if_f hf c260
    refine lv_iconst (v := (1 : Int32)) hx hb dX8_makeInverse_14 (by decide) ?_
    refine lv_goto (tgt := 19) hx hb dX8_makeInverse_15 (by decide) ?_
    exact hj19 (1 : Int32) h2 H locs ls (by rw [ej6] at hf; exact hf) (lv_sub hl [1, 0] rfl) w
theorem nX8_take_X8 : ∀ w ∈ wsX80, w ∈ wsX8_take := by decide +kernel
theorem mX8_take_26 : Cond.fieldLink RX8 26 "NormalFormsModel" "made" "[I" ∈ wsX8_take := by decide +kernel
abbrev rmX8_take : Room := { frames := 1, cells := 0, slots := 0, locals := 12 }
set_option maxHeartbeats 4000000 in
set_option maxRecDepth 100000 in
theorem kX8_take (l : Launch) (D : va_G) (dA : Nat → ClassId) (b0 : Nat) (ι : Nat → Nat) (N : Nat) (a0 : Nat) (a1 : Nat) (a2 : Int32) (a3 : Int32) (h : Hp) (h' : Hp) (hf : fX8_take N a0 a1 a2 a3 h = some h') : Met l yX8_take wsX8_take rmX8_take (PC D dA b0 ι [.ref (ι a0), .ref (ι a1), .int a2, .int a3] h) (QV D dA b0 ι h') 0 0 (qA b0) := by
  unfold fX8_take at hf
  refine Met.ofW (cc := cX8_take) (maxL := 5) (ret := none) (by decide +kernel) rfl ?_
  intro p e s m args below meth c s₁ B hml hv
  obtain ⟨rfl, w0⟩ := hv
  have hx := B.exec
  have hb := B.bytes
  have hr := B.returns
  have hts := atoms_spec (ws := wsX8_take) B.pre
  have hown : s.vm.findClass RX8 = some m.cls := findClass_of_methodNamed B.named
  have hlocks := B.notSynchronized
  have hC := w0.c
  have hK := hC.1
  have w := WD.start w0
  clear w0
  have hl := lv_entry ([.ref (ι a0), .ref (ι a1), .int a2, .int a3]) (n := 5) (Nat.le_of_ble_eq_true rfl)
  rw [lg_entry_eq]
  generalize (lg_sl ([.ref (ι a0), .ref (ι a1), .int a2, .int a3]) ++ List.replicate (5 - (lg_sl ([.ref (ι a0), .ref (ι a1), .int a2, .int a3])).length) Slot.unset).toArray = ls at hl ⊢
  have hl : lv_has ls 5 [(0, .ref (ι a0)), (1, .ref (ι a1)), (2, .int a2), (3, .int a3)] := hl
  obtain ⟨H, hH⟩ : ∃ H : Heap, H = s.heap := ⟨_, rfl⟩
  obtain ⟨locs, hlo⟩ : ∃ locs : List Loc, locs = [] := ⟨_, rfl⟩
  rw [← hlo]
  have w : WD D dA b0 ι h s.heap H locs := by rw [hH, hlo]; exact w
  refine px_start hH ?_
  refine lv_iconst (v := (0 : Int32)) hx hb dX8_take_0 (by decide) ?_
  refine lv_istore (lv' := [(4, .int (0 : Int32)), (0, .ref (ι a0)), (1, .ref (ι a1)), (2, .int a2), (3, .int a3)]) hx hb dX8_take_1 hl (by decide) rfl (fun ls hl => ?_)
  have hx3 : ∀ (y1 : Int32) (h2 : Hp) (H : Heap) (locs : List Loc) (ls : Array Slot), (some h2) = some h' → lv_has ls 5 [(0, .ref (ι a0)), (1, .ref (ι a1)), (2, .int a2), (3, .int a3), (4, .int y1)] → WD D dA b0 ι h2 s.heap H locs → W p l e (headSpec wsX8_take rmX8_take).room s m ([.ref (ι a0), .ref (ι a1), .int a2, .int a3] : List Value).toArray below meth c H locs 0 0 (MQ below (QV D dA b0 ι h') ([.ref (ι a0), .ref (ι a1), .int a2, .int a3] : List Value).toArray s 0 0 (qA b0)) (F0 m 38 ls []) := by
    intro y1 h2 H locs ls hf hl w
    exact W.vret hx hb hr (qv_end hf w hC) w.locs_ok dX8_take_38
  obtain ⟨κ3, eκ3⟩ : ∃ k : Int32 → Hp → Option Hp, k = (fun y1 h2 => some h2) := ⟨_, rfl⟩
  have hlp3 : ∀ (n : Nat) (z11 : Int32) (h12 : Hp) (H : Heap) (locs : List Loc) (ls : Array Slot), lX8_take_3 N a0 a1 a2 a3 n z11 h12 κ3 = some h' → lv_has ls 5 [(0, .ref (ι a0)), (1, .ref (ι a1)), (2, .int a2), (3, .int a3), (4, .int z11)] → WD D dA b0 ι h12 s.heap H locs → W p l e (headSpec wsX8_take rmX8_take).room s m ([.ref (ι a0), .ref (ι a1), .int a2, .int a3] : List Value).toArray below meth c H locs 0 0 (MQ below (QV D dA b0 ι h') ([.ref (ι a0), .ref (ι a1), .int a2, .int a3] : List Value).toArray s 0 0 (qA b0)) (F0 m 3 ls []) := by
    intro n3
    induction n3 with
    | zero => intro z11 h12 H locs ls hf; exact absurd hf (by rw [lX8_take_3]; exact fun q => nomatch q)
    | succ n3 ih3 =>
      intro z11 h12 H locs ls hf hl w
      rw [lX8_take_3] at hf
      refine lv_iload hx hb dX8_take_3 (lv_at hl 4 rfl) ?_
      refine lv_sipush (v := (256 : Int32)) hx hb dX8_take_5 (by decide) ?_
      refine lv_icmp_ge (tgt := 38) hx hb dX8_take_8 (by decide) (fun c13 => ?_) (fun c13 => ?_)
      · have hf := if_t hf c13
        exact hx3 z11 h12 H locs ls (by rw [eκ3] at hf; exact hf) (lv_sub hl [0, 1, 2, 3, 4] rfl) w
      · have hf := if_f hf c13
        refine lv_aload_n hx hb dX8_take_11 rfl (lv_at hl 1 rfl) ?_
        refine lv_iload hx hb dX8_take_12 (lv_at hl 4 rfl) ?_
        refine lv_aload_n hx hb dX8_take_14 rfl (lv_at hl 0 rfl) ?_
        obtain ⟨v14, ev14, hf⟩ := ob_s hf
        refine px_getR hx hb hts nX8_take_X8 hown hK w ev14 rfl (by decide) mX8_take_26 rfl dX8_take_15 ?_
        refine lv_sipush (v := (256 : Int32)) hx hb dX8_take_18 (by decide) ?_
        refine lv_iconst (v := (4 : Int32)) hx hb dX8_take_21 (by decide) ?_
        refine lv_iload_n hx hb dX8_take_22 rfl (lv_at hl 2 rfl) ?_
        refine lv_imul hx hb dX8_take_23 ?_
        refine lv_iload_n hx hb dX8_take_24 rfl (lv_at hl 3 rfl) ?_
        refine lv_iadd hx hb dX8_take_25 ?_
        refine lv_imul hx hb dX8_take_26 ?_
        refine lv_iload hx hb dX8_take_27 (lv_at hl 4 rfl) ?_
        refine lv_iadd hx hb dX8_take_29 ?_
        obtain ⟨v15, ev15, hf⟩ := ob_s hf
        refine px_iald hx hb hK w ev15 dX8_take_30 ?_
        obtain ⟨h16, eh16, hf⟩ := ob_s hf
        refine px_iast hx hb hK w eh16 dX8_take_31 (fun H locs w => ?_)
        obtain ⟨x17, ex17, hf⟩ := nm_s hf
        refine lv_iinc (v := x17) (lv' := [(4, .int x17), (0, .ref (ι a0)), (1, .ref (ι a1)), (2, .int a2), (3, .int a3)]) hx hb dX8_take_32 hl (k := 4) rfl (by rw [ex17]; rfl) (by decide) rfl (fun ls hl => ?_)
        refine lv_goto (tgt := 3) hx hb dX8_take_35 (by decide) ?_
        exact ih3 x17 h16 H locs ls hf (lv_sub hl [1, 2, 3, 4, 0] rfl) w
  exact hlp3 N (0 : Int32) h H locs ls (by rw [eκ3]; exact hf) (lv_sub hl [1, 2, 3, 4, 0] rfl) w
theorem nX8_give_X8 : ∀ w ∈ wsX80, w ∈ wsX8_give := by decide +kernel
theorem mX8_give_26 : Cond.fieldLink RX8 26 "NormalFormsModel" "made" "[I" ∈ wsX8_give := by decide +kernel
abbrev rmX8_give : Room := { frames := 1, cells := 0, slots := 0, locals := 12 }
set_option maxHeartbeats 4000000 in
set_option maxRecDepth 100000 in
theorem kX8_give (l : Launch) (D : va_G) (dA : Nat → ClassId) (b0 : Nat) (ι : Nat → Nat) (N : Nat) (a0 : Nat) (a1 : Nat) (a2 : Int32) (a3 : Int32) (h : Hp) (h' : Hp) (hf : fX8_give N a0 a1 a2 a3 h = some h') : Met l yX8_give wsX8_give rmX8_give (PC D dA b0 ι [.ref (ι a0), .ref (ι a1), .int a2, .int a3] h) (QV D dA b0 ι h') 0 0 (qA b0) := by
  unfold fX8_give at hf
  refine Met.ofW (cc := cX8_give) (maxL := 5) (ret := none) (by decide +kernel) rfl ?_
  intro p e s m args below meth c s₁ B hml hv
  obtain ⟨rfl, w0⟩ := hv
  have hx := B.exec
  have hb := B.bytes
  have hr := B.returns
  have hts := atoms_spec (ws := wsX8_give) B.pre
  have hown : s.vm.findClass RX8 = some m.cls := findClass_of_methodNamed B.named
  have hlocks := B.notSynchronized
  have hC := w0.c
  have hK := hC.1
  have w := WD.start w0
  clear w0
  have hl := lv_entry ([.ref (ι a0), .ref (ι a1), .int a2, .int a3]) (n := 5) (Nat.le_of_ble_eq_true rfl)
  rw [lg_entry_eq]
  generalize (lg_sl ([.ref (ι a0), .ref (ι a1), .int a2, .int a3]) ++ List.replicate (5 - (lg_sl ([.ref (ι a0), .ref (ι a1), .int a2, .int a3])).length) Slot.unset).toArray = ls at hl ⊢
  have hl : lv_has ls 5 [(0, .ref (ι a0)), (1, .ref (ι a1)), (2, .int a2), (3, .int a3)] := hl
  obtain ⟨H, hH⟩ : ∃ H : Heap, H = s.heap := ⟨_, rfl⟩
  obtain ⟨locs, hlo⟩ : ∃ locs : List Loc, locs = [] := ⟨_, rfl⟩
  rw [← hlo]
  have w : WD D dA b0 ι h s.heap H locs := by rw [hH, hlo]; exact w
  refine px_start hH ?_
  refine lv_iconst (v := (0 : Int32)) hx hb dX8_give_0 (by decide) ?_
  refine lv_istore (lv' := [(4, .int (0 : Int32)), (0, .ref (ι a0)), (1, .ref (ι a1)), (2, .int a2), (3, .int a3)]) hx hb dX8_give_1 hl (by decide) rfl (fun ls hl => ?_)
  have hx3 : ∀ (y1 : Int32) (h2 : Hp) (H : Heap) (locs : List Loc) (ls : Array Slot), (some h2) = some h' → lv_has ls 5 [(0, .ref (ι a0)), (1, .ref (ι a1)), (2, .int a2), (3, .int a3), (4, .int y1)] → WD D dA b0 ι h2 s.heap H locs → W p l e (headSpec wsX8_give rmX8_give).room s m ([.ref (ι a0), .ref (ι a1), .int a2, .int a3] : List Value).toArray below meth c H locs 0 0 (MQ below (QV D dA b0 ι h') ([.ref (ι a0), .ref (ι a1), .int a2, .int a3] : List Value).toArray s 0 0 (qA b0)) (F0 m 38 ls []) := by
    intro y1 h2 H locs ls hf hl w
    exact W.vret hx hb hr (qv_end hf w hC) w.locs_ok dX8_give_38
  obtain ⟨κ3, eκ3⟩ : ∃ k : Int32 → Hp → Option Hp, k = (fun y1 h2 => some h2) := ⟨_, rfl⟩
  have hlp3 : ∀ (n : Nat) (z11 : Int32) (h12 : Hp) (H : Heap) (locs : List Loc) (ls : Array Slot), lX8_give_3 N a0 a1 a2 a3 n z11 h12 κ3 = some h' → lv_has ls 5 [(0, .ref (ι a0)), (1, .ref (ι a1)), (2, .int a2), (3, .int a3), (4, .int z11)] → WD D dA b0 ι h12 s.heap H locs → W p l e (headSpec wsX8_give rmX8_give).room s m ([.ref (ι a0), .ref (ι a1), .int a2, .int a3] : List Value).toArray below meth c H locs 0 0 (MQ below (QV D dA b0 ι h') ([.ref (ι a0), .ref (ι a1), .int a2, .int a3] : List Value).toArray s 0 0 (qA b0)) (F0 m 3 ls []) := by
    intro n3
    induction n3 with
    | zero => intro z11 h12 H locs ls hf; exact absurd hf (by rw [lX8_give_3]; exact fun q => nomatch q)
    | succ n3 ih3 =>
      intro z11 h12 H locs ls hf hl w
      rw [lX8_give_3] at hf
      refine lv_iload hx hb dX8_give_3 (lv_at hl 4 rfl) ?_
      refine lv_sipush (v := (256 : Int32)) hx hb dX8_give_5 (by decide) ?_
      refine lv_icmp_ge (tgt := 38) hx hb dX8_give_8 (by decide) (fun c13 => ?_) (fun c13 => ?_)
      · have hf := if_t hf c13
        exact hx3 z11 h12 H locs ls (by rw [eκ3] at hf; exact hf) (lv_sub hl [0, 1, 2, 3, 4] rfl) w
      · have hf := if_f hf c13
        refine lv_aload_n hx hb dX8_give_11 rfl (lv_at hl 0 rfl) ?_
        obtain ⟨v14, ev14, hf⟩ := ob_s hf
        refine px_getR hx hb hts nX8_give_X8 hown hK w ev14 rfl (by decide) mX8_give_26 rfl dX8_give_12 ?_
        refine lv_sipush (v := (256 : Int32)) hx hb dX8_give_15 (by decide) ?_
        refine lv_iconst (v := (4 : Int32)) hx hb dX8_give_18 (by decide) ?_
        refine lv_iload_n hx hb dX8_give_19 rfl (lv_at hl 2 rfl) ?_
        refine lv_imul hx hb dX8_give_20 ?_
        refine lv_iload_n hx hb dX8_give_21 rfl (lv_at hl 3 rfl) ?_
        refine lv_iadd hx hb dX8_give_22 ?_
        refine lv_imul hx hb dX8_give_23 ?_
        refine lv_iload hx hb dX8_give_24 (lv_at hl 4 rfl) ?_
        refine lv_iadd hx hb dX8_give_26 ?_
        refine lv_aload_n hx hb dX8_give_27 rfl (lv_at hl 1 rfl) ?_
        refine lv_iload hx hb dX8_give_28 (lv_at hl 4 rfl) ?_
        obtain ⟨v15, ev15, hf⟩ := ob_s hf
        refine px_iald hx hb hK w ev15 dX8_give_30 ?_
        obtain ⟨h16, eh16, hf⟩ := ob_s hf
        refine px_iast hx hb hK w eh16 dX8_give_31 (fun H locs w => ?_)
        obtain ⟨x17, ex17, hf⟩ := nm_s hf
        refine lv_iinc (v := x17) (lv' := [(4, .int x17), (0, .ref (ι a0)), (1, .ref (ι a1)), (2, .int a2), (3, .int a3)]) hx hb dX8_give_32 hl (k := 4) rfl (by rw [ex17]; rfl) (by decide) rfl (fun ls hl => ?_)
        refine lv_goto (tgt := 3) hx hb dX8_give_35 (by decide) ?_
        exact ih3 x17 h16 H locs ls hf (lv_sub hl [1, 2, 3, 4, 0] rfl) w
  exact hlp3 N (0 : Int32) h H locs ls (by rw [eκ3]; exact hf) (lv_sub hl [1, 2, 3, 4, 0] rfl) w
theorem nX8_takeOff_X8 : ∀ w ∈ wsX80, w ∈ wsX8_takeOff := by decide +kernel
theorem mX8_takeOff_38 : Cond.fieldLink RX8 38 "NormalFormsModel" "c" "[I" ∈ wsX8_takeOff := by decide +kernel
theorem mX8_takeOff_26 : Cond.fieldLink RX8 26 "NormalFormsModel" "made" "[I" ∈ wsX8_takeOff := by decide +kernel
abbrev rmX8_takeOff : Room := { frames := 2, cells := 0, slots := 0, locals := 35 }
set_option maxHeartbeats 4000000 in
set_option maxRecDepth 100000 in
theorem kX8_takeOff (l : Launch) (D : va_G) (dA : Nat → ClassId) (b0 : Nat) (ι : Nat → Nat) (N : Nat) (a0 : Nat) (a1 : Int32) (a2 : Int32) (h : Hp) (h' : Hp) (hf : fX8_takeOff N a0 a1 a2 h = some h') : Met l yX8_takeOff wsX8_takeOff rmX8_takeOff (PC D dA b0 ι [.ref (ι a0), .int a1, .int a2] h) (QV D dA b0 ι h') 0 0 (qA b0) := by
  unfold fX8_takeOff at hf
  refine Met.ofW (cc := cX8_takeOff) (maxL := 11) (ret := none) (by decide +kernel) rfl ?_
  intro p e s m args below meth c s₁ B hml hv
  obtain ⟨rfl, w0⟩ := hv
  have hx := B.exec
  have hb := B.bytes
  have hr := B.returns
  have hts := atoms_spec (ws := wsX8_takeOff) B.pre
  have hown : s.vm.findClass RX8 = some m.cls := findClass_of_methodNamed B.named
  have hlocks := B.notSynchronized
  have hC := w0.c
  have hK := hC.1
  have w := WD.start w0
  clear w0
  have hl := lv_entry ([.ref (ι a0), .int a1, .int a2]) (n := 11) (Nat.le_of_ble_eq_true rfl)
  rw [lg_entry_eq]
  generalize (lg_sl ([.ref (ι a0), .int a1, .int a2]) ++ List.replicate (11 - (lg_sl ([.ref (ι a0), .int a1, .int a2])).length) Slot.unset).toArray = ls at hl ⊢
  have hl : lv_has ls 11 [(0, .ref (ι a0)), (1, .int a1), (2, .int a2)] := hl
  obtain ⟨H, hH⟩ : ∃ H : Heap, H = s.heap := ⟨_, rfl⟩
  obtain ⟨locs, hlo⟩ : ∃ locs : List Loc, locs = [] := ⟨_, rfl⟩
  rw [← hlo]
  have w : WD D dA b0 ι h s.heap H locs := by rw [hH, hlo]; exact w
  refine px_start hH ?_
  refine lv_aload_n hx hb dX8_takeOff_0 rfl (lv_at hl 0 rfl) ?_
  obtain ⟨v1, ev1, hf⟩ := ob_s hf
  refine px_getR hx hb hts nX8_takeOff_X8 hown hK w ev1 rfl (by decide) mX8_takeOff_38 rfl dX8_takeOff_1 ?_
  obtain ⟨⟨v2, h3⟩, eh3, hf⟩ := ob_s hf
  dsimp only at hf
  refine px_callSi (As := [.ref (ι v1)]) (rest := []) ⟨hx, hb, hml, hown, hts⟩ hC w (kX8_high l D dA b0 ι N v1 h v2 h3 eh3) (va_cwS 1 hts gX8_takeOff_X8_high rfl rfl rfl (by decide +kernel) ⟨Nat.le_of_ble_eq_true rfl, Nat.le_of_ble_eq_true rfl⟩) rfl hl.1 rfl (Nat.le_of_ble_eq_true rfl) dX8_takeOff_4 ⟨Nat.le_of_ble_eq_true rfl, Nat.le_of_ble_eq_true rfl⟩ (fun H locs w => ?_)
  refine lv_istore_n (lv' := [(3, .int v2), (0, .ref (ι a0)), (1, .int a1), (2, .int a2)]) hx hb dX8_takeOff_7 rfl hl (by decide) rfl (fun ls hl => ?_)
  refine lv_iconst (v := (0 : Int32)) hx hb dX8_takeOff_8 (by decide) ?_
  refine lv_istore (lv' := [(4, .int (0 : Int32)), (3, .int v2), (0, .ref (ι a0)), (1, .int a1), (2, .int a2)]) hx hb dX8_takeOff_9 hl (by decide) rfl (fun ls hl => ?_)
  have hx11 : ∀ (y4 : Int32) (h5 : Hp) (H : Heap) (locs : List Loc) (ls : Array Slot), (some h5) = some h' → lv_has ls 11 [(0, .ref (ι a0)), (1, .int a1), (2, .int a2), (3, .int v2), (4, .int y4)] → WD D dA b0 ι h5 s.heap H locs → W p l e (headSpec wsX8_takeOff rmX8_takeOff).room s m ([.ref (ι a0), .int a1, .int a2] : List Value).toArray below meth c H locs 0 0 (MQ below (QV D dA b0 ι h') ([.ref (ι a0), .int a1, .int a2] : List Value).toArray s 0 0 (qA b0)) (F0 m 157 ls []) := by
    intro y4 h5 H locs ls hf hl w
    exact W.vret hx hb hr (qv_end hf w hC) w.locs_ok dX8_takeOff_157
  obtain ⟨κ11, eκ11⟩ : ∃ k : Int32 → Hp → Option Hp, k = (fun y4 h5 => some h5) := ⟨_, rfl⟩
  have hlp11 : ∀ (n : Nat) (z108 : Int32) (h109 : Hp) (H : Heap) (locs : List Loc) (ls : Array Slot), lX8_takeOff_11 N a0 a1 a2 v2 n z108 h109 κ11 = some h' → lv_has ls 11 [(0, .ref (ι a0)), (1, .int a1), (2, .int a2), (3, .int v2), (4, .int z108)] → WD D dA b0 ι h109 s.heap H locs → W p l e (headSpec wsX8_takeOff rmX8_takeOff).room s m ([.ref (ι a0), .int a1, .int a2] : List Value).toArray below meth c H locs 0 0 (MQ below (QV D dA b0 ι h') ([.ref (ι a0), .int a1, .int a2] : List Value).toArray s 0 0 (qA b0)) (F0 m 11 ls []) := by
    intro n11
    induction n11 with
    | zero => intro z108 h109 H locs ls hf; exact absurd hf (by rw [lX8_takeOff_11]; exact fun q => nomatch q)
    | succ n11 ih11 =>
      intro z108 h109 H locs ls hf hl w
      rw [lX8_takeOff_11] at hf
      refine lv_iload hx hb dX8_takeOff_11 (lv_at hl 4 rfl) ?_
      refine lv_iconst (v := (4 : Int32)) hx hb dX8_takeOff_13 (by decide) ?_
      refine lv_icmp_ge (tgt := 157) hx hb dX8_takeOff_14 (by decide) (fun c110 => ?_) (fun c110 => ?_)
      · have hf := if_t hf c110
        exact hx11 z108 h109 H locs ls (by rw [eκ11] at hf; exact hf) (lv_sub hl [0, 1, 2, 3, 4] rfl) w
      · have hf := if_f hf c110
        refine lv_sipush (v := (256 : Int32)) hx hb dX8_takeOff_17 (by decide) ?_
        refine lv_iconst (v := (4 : Int32)) hx hb dX8_takeOff_20 (by decide) ?_
        refine lv_iload_n hx hb dX8_takeOff_21 rfl (lv_at hl 1 rfl) ?_
        refine lv_imul hx hb dX8_takeOff_22 ?_
        refine lv_iload hx hb dX8_takeOff_23 (lv_at hl 4 rfl) ?_
        refine lv_iadd hx hb dX8_takeOff_25 ?_
        refine lv_imul hx hb dX8_takeOff_26 ?_
        obtain ⟨x111, ex111, hf⟩ := nm_s hf
        refine px_nmI ex111 ?_
        refine lv_istore (lv' := [(5, .int x111), (0, .ref (ι a0)), (1, .int a1), (2, .int a2), (3, .int v2), (4, .int z108)]) hx hb dX8_takeOff_27 hl (by decide) rfl (fun ls hl => ?_)
        refine lv_sipush (v := (256 : Int32)) hx hb dX8_takeOff_29 (by decide) ?_
        refine lv_iconst (v := (4 : Int32)) hx hb dX8_takeOff_32 (by decide) ?_
        refine lv_iload_n hx hb dX8_takeOff_33 rfl (lv_at hl 3 rfl) ?_
        refine lv_imul hx hb dX8_takeOff_34 ?_
        refine lv_iload hx hb dX8_takeOff_35 (lv_at hl 5 rfl) ?_
        refine lv_iadd hx hb dX8_takeOff_37 ?_
        refine lv_imul hx hb dX8_takeOff_38 ?_
        obtain ⟨x112, ex112, hf⟩ := nm_s hf
        refine px_nmI ex112 ?_
        refine lv_istore (lv' := [(6, .int x112), (5, .int x111), (0, .ref (ι a0)), (1, .int a1), (2, .int a2), (3, .int v2), (4, .int z108)]) hx hb dX8_takeOff_39 hl (by decide) rfl (fun ls hl => ?_)
        refine lv_iconst (v := (0 : Int32)) hx hb dX8_takeOff_41 (by decide) ?_
        refine lv_istore (lv' := [(7, .int (0 : Int32)), (6, .int x112), (5, .int x111), (0, .ref (ι a0)), (1, .int a1), (2, .int a2), (3, .int v2), (4, .int z108)]) hx hb dX8_takeOff_42 hl (by decide) rfl (fun ls hl => ?_)
        have hx44 : ∀ (y113 : Int32) (h114 : Hp) (H : Heap) (locs : List Loc) (ls : Array Slot), (nm (z108 + (1 : Int32)) fun x115 => lX8_takeOff_11 N a0 a1 a2 v2 n11 x115 h114 κ11) = some h' → lv_has ls 11 [(0, .ref (ι a0)), (1, .int a1), (2, .int a2), (3, .int v2), (4, .int z108), (5, .int x111), (6, .int x112), (7, .int y113)] → WD D dA b0 ι h114 s.heap H locs → W p l e (headSpec wsX8_takeOff rmX8_takeOff).room s m ([.ref (ι a0), .int a1, .int a2] : List Value).toArray below meth c H locs 0 0 (MQ below (QV D dA b0 ι h') ([.ref (ι a0), .int a1, .int a2] : List Value).toArray s 0 0 (qA b0)) (F0 m 151 ls []) := by
          intro y113 h114 H locs ls hf hl w
          obtain ⟨x115, ex115, hf⟩ := nm_s hf
          refine lv_iinc (v := x115) (lv' := [(4, .int x115), (0, .ref (ι a0)), (1, .int a1), (2, .int a2), (3, .int v2), (5, .int x111), (6, .int x112), (7, .int y113)]) hx hb dX8_takeOff_151 hl (k := 4) rfl (by rw [ex115]; rfl) (by decide) rfl (fun ls hl => ?_)
          refine lv_goto (tgt := 11) hx hb dX8_takeOff_154 (by decide) ?_
          exact ih11 x115 h114 H locs ls hf (lv_sub hl [1, 2, 3, 4, 0] rfl) w
        obtain ⟨κ44, eκ44⟩ : ∃ k : Int32 → Hp → Option Hp, k = (fun y113 h114 => nm (z108 + (1 : Int32)) fun x115 => lX8_takeOff_11 N a0 a1 a2 v2 n11 x115 h114 κ11) := ⟨_, rfl⟩
        have hlp44 : ∀ (n : Nat) (z163 : Int32) (h164 : Hp) (H : Heap) (locs : List Loc) (ls : Array Slot), lX8_takeOff_44 N a0 a1 a2 v2 z108 x111 x112 n z163 h164 κ44 = some h' → lv_has ls 11 [(0, .ref (ι a0)), (1, .int a1), (2, .int a2), (3, .int v2), (4, .int z108), (5, .int x111), (6, .int x112), (7, .int z163)] → WD D dA b0 ι h164 s.heap H locs → W p l e (headSpec wsX8_takeOff rmX8_takeOff).room s m ([.ref (ι a0), .int a1, .int a2] : List Value).toArray below meth c H locs 0 0 (MQ below (QV D dA b0 ι h') ([.ref (ι a0), .int a1, .int a2] : List Value).toArray s 0 0 (qA b0)) (F0 m 44 ls []) := by
          intro n44
          induction n44 with
          | zero => intro z163 h164 H locs ls hf; exact absurd hf (by rw [lX8_takeOff_44]; exact fun q => nomatch q)
          | succ n44 ih44 =>
            intro z163 h164 H locs ls hf hl w
            rw [lX8_takeOff_44] at hf
            refine lv_iload hx hb dX8_takeOff_44 (lv_at hl 7 rfl) ?_
            refine lv_iload_n hx hb dX8_takeOff_46 rfl (lv_at hl 3 rfl) ?_
            refine lv_icmp_gt (tgt := 151) hx hb dX8_takeOff_47 (by decide) (fun c165 => ?_) (fun c165 => ?_)
            · have hf := if_t hf c165
              exact hx44 z163 h164 H locs ls (by rw [eκ44] at hf; exact hf) (lv_sub hl [0, 1, 2, 3, 4, 5, 6, 7] rfl) w
            · have hf := if_f hf c165
              refine lv_aload_n hx hb dX8_takeOff_50 rfl (lv_at hl 0 rfl) ?_
              obtain ⟨v166, ev166, hf⟩ := ob_s hf
              refine px_getR hx hb hts nX8_takeOff_X8 hown hK w ev166 rfl (by decide) mX8_takeOff_38 rfl dX8_takeOff_51 ?_
              refine lv_iload hx hb dX8_takeOff_54 (lv_at hl 7 rfl) ?_
              obtain ⟨v167, ev167, hf⟩ := ob_s hf
              refine px_iald hx hb hK w ev167 dX8_takeOff_56 ?_
              refine lv_i2l hx hb dX8_takeOff_57 rfl ?_
              obtain ⟨x168, ex168, hf⟩ := nm_s hf
              refine px_nmJ ex168 ?_
              refine lv_lstore (lv' := [(8, .long x168), (0, .ref (ι a0)), (1, .int a1), (2, .int a2), (3, .int v2), (4, .int z108), (5, .int x111), (6, .int x112), (7, .int z163)]) hx hb dX8_takeOff_58 hl (by decide) rfl (fun ls hl => ?_)
              refine lv_iconst (v := (0 : Int32)) hx hb dX8_takeOff_60 (by decide) ?_
              refine lv_istore (lv' := [(10, .int (0 : Int32)), (8, .long x168), (0, .ref (ι a0)), (1, .int a1), (2, .int a2), (3, .int v2), (4, .int z108), (5, .int x111), (6, .int x112), (7, .int z163)]) hx hb dX8_takeOff_61 hl (by decide) rfl (fun ls hl => ?_)
              have hx63 : ∀ (y169 : Int32) (h170 : Hp) (H : Heap) (locs : List Loc) (ls : Array Slot), (nm (z163 + (1 : Int32)) fun x171 => lX8_takeOff_44 N a0 a1 a2 v2 z108 x111 x112 n44 x171 h170 κ44) = some h' → lv_has ls 11 [(0, .ref (ι a0)), (1, .int a1), (2, .int a2), (3, .int v2), (4, .int z108), (5, .int x111), (6, .int x112), (7, .int z163), (8, .long x168), (10, .int y169)] → WD D dA b0 ι h170 s.heap H locs → W p l e (headSpec wsX8_takeOff rmX8_takeOff).room s m ([.ref (ι a0), .int a1, .int a2] : List Value).toArray below meth c H locs 0 0 (MQ below (QV D dA b0 ι h') ([.ref (ι a0), .int a1, .int a2] : List Value).toArray s 0 0 (qA b0)) (F0 m 145 ls []) := by
                intro y169 h170 H locs ls hf hl w
                obtain ⟨x171, ex171, hf⟩ := nm_s hf
                refine lv_iinc (v := x171) (lv' := [(7, .int x171), (0, .ref (ι a0)), (1, .int a1), (2, .int a2), (3, .int v2), (4, .int z108), (5, .int x111), (6, .int x112), (8, .long x168), (10, .int y169)]) hx hb dX8_takeOff_145 hl (k := 7) rfl (by rw [ex171]; rfl) (by decide) rfl (fun ls hl => ?_)
                refine lv_goto (tgt := 44) hx hb dX8_takeOff_148 (by decide) ?_
                exact ih44 x171 h170 H locs ls hf (lv_sub hl [1, 2, 3, 4, 5, 6, 7, 0] rfl) w
              obtain ⟨κ63, eκ63⟩ : ∃ k : Int32 → Hp → Option Hp, k = (fun y169 h170 => nm (z163 + (1 : Int32)) fun x171 => lX8_takeOff_44 N a0 a1 a2 v2 z108 x111 x112 n44 x171 h170 κ44) := ⟨_, rfl⟩
              have hlp63 : ∀ (n : Nat) (z191 : Int32) (h192 : Hp) (H : Heap) (locs : List Loc) (ls : Array Slot), lX8_takeOff_63 N a0 a1 a2 v2 z108 x111 x112 z163 x168 n z191 h192 κ63 = some h' → lv_has ls 11 [(0, .ref (ι a0)), (1, .int a1), (2, .int a2), (3, .int v2), (4, .int z108), (5, .int x111), (6, .int x112), (7, .int z163), (8, .long x168), (10, .int z191)] → WD D dA b0 ι h192 s.heap H locs → W p l e (headSpec wsX8_takeOff rmX8_takeOff).room s m ([.ref (ι a0), .int a1, .int a2] : List Value).toArray below meth c H locs 0 0 (MQ below (QV D dA b0 ι h') ([.ref (ι a0), .int a1, .int a2] : List Value).toArray s 0 0 (qA b0)) (F0 m 63 ls []) := by
                intro n63
                induction n63 with
                | zero => intro z191 h192 H locs ls hf; exact absurd hf (by rw [lX8_takeOff_63]; exact fun q => nomatch q)
                | succ n63 ih63 =>
                  intro z191 h192 H locs ls hf hl w
                  rw [lX8_takeOff_63] at hf
                  refine lv_iload hx hb dX8_takeOff_63 (lv_at hl 9 rfl) ?_
                  refine lv_iload hx hb dX8_takeOff_65 (lv_at hl 7 rfl) ?_
                  refine lv_iadd hx hb dX8_takeOff_67 ?_
                  refine lv_sipush (v := (256 : Int32)) hx hb dX8_takeOff_68 (by decide) ?_
                  refine lv_icmp_ge (tgt := 145) hx hb dX8_takeOff_71 (by decide) (fun c193 => ?_) (fun c193 => ?_)
                  · have hf := if_t hf c193
                    exact hx63 z191 h192 H locs ls (by rw [eκ63] at hf; exact hf) (lv_sub hl [0, 1, 2, 3, 4, 5, 6, 7, 8, 9] rfl) w
                  · have hf := if_f hf c193
                    refine lv_lload hx hb dX8_takeOff_74 (lv_at hl 8 rfl) ?_
                    refine lv_lconst (v := 0) hx hb dX8_takeOff_76 (by decide) ?_
                    refine W.lcmp hx hb dX8_takeOff_77 ?_
                    refine lv_if_le (tgt := 145) hx hb dX8_takeOff_78 (by decide) (fun c194 => ?_) (fun c194 => ?_)
                    · have hf := if_t hf c194
                      exact hx63 z191 h192 H locs ls (by rw [eκ63] at hf; exact hf) (lv_sub hl [0, 1, 2, 3, 4, 5, 6, 7, 8, 9] rfl) w
                    · have hf := if_f hf c194
                      refine lv_aload_n hx hb dX8_takeOff_81 rfl (lv_at hl 0 rfl) ?_
                      obtain ⟨v195, ev195, hf⟩ := ob_s hf
                      refine px_getR hx hb hts nX8_takeOff_X8 hown hK w ev195 rfl (by decide) mX8_takeOff_26 rfl dX8_takeOff_82 ?_
                      refine lv_iload hx hb dX8_takeOff_85 (lv_at hl 6 rfl) ?_
                      refine lv_iload hx hb dX8_takeOff_87 (lv_at hl 9 rfl) ?_
                      refine lv_iadd hx hb dX8_takeOff_89 ?_
                      obtain ⟨v196, ev196, hf⟩ := ob_s hf
                      refine px_iald hx hb hK w ev196 dX8_takeOff_90 ?_
                      have hj139 : ∀ (h198 : Hp) (H : Heap) (locs : List Loc) (ls : Array Slot), (nm (z191 + (1 : Int32)) fun x199 => lX8_takeOff_63 N a0 a1 a2 v2 z108 x111 x112 z163 x168 n63 x199 h198 κ63) = some h' → lv_has ls 11 [(0, .ref (ι a0)), (1, .int a1), (2, .int a2), (3, .int v2), (4, .int z108), (5, .int x111), (6, .int x112), (7, .int z163), (8, .long x168), (10, .int z191)] → WD D dA b0 ι h198 s.heap H locs → W p l e (headSpec wsX8_takeOff rmX8_takeOff).room s m ([.ref (ι a0), .int a1, .int a2] : List Value).toArray below meth c H locs 0 0 (MQ below (QV D dA b0 ι h') ([.ref (ι a0), .int a1, .int a2] : List Value).toArray s 0 0 (qA b0)) (F0 m 139 ls []) := by
                        intro h198 H locs ls hf hl w
                        obtain ⟨x199, ex199, hf⟩ := nm_s hf
                        refine lv_iinc (v := x199) (lv' := [(10, .int x199), (0, .ref (ι a0)), (1, .int a1), (2, .int a2), (3, .int v2), (4, .int z108), (5, .int x111), (6, .int x112), (7, .int z163), (8, .long x168)]) hx hb dX8_takeOff_139 hl (k := 9) rfl (by rw [ex199]; rfl) (by decide) rfl (fun ls hl => ?_)
                        refine lv_goto (tgt := 63) hx hb dX8_takeOff_142 (by decide) ?_
                        exact ih63 x199 h198 H locs ls hf (lv_sub hl [1, 2, 3, 4, 5, 6, 7, 8, 9, 0] rfl) w
                      obtain ⟨j197, ej197, hf⟩ := jn_s hf
                      refine lv_if_eq (tgt := 139) hx hb dX8_takeOff_91 (by decide) (fun c200 => ?_) (fun c200 => ?_)
                      · have hf := if_t hf c200
                        exact hj139 h192 H locs ls (by rw [ej197] at hf; exact hf) (lv_sub hl [0, 1, 2, 3, 4, 5, 6, 7, 8, 9] rfl) w
                      · have hf := if_f hf c200
                        refine lv_aload_n hx hb dX8_takeOff_94 rfl (lv_at hl 0 rfl) ?_
                        obtain ⟨v201, ev201, hf⟩ := ob_s hf
                        refine px_getR hx hb hts nX8_takeOff_X8 hown hK w ev201 rfl (by decide) mX8_takeOff_26 rfl dX8_takeOff_95 ?_
                        refine lv_iload hx hb dX8_takeOff_98 (lv_at hl 5 rfl) ?_
                        refine lv_iload hx hb dX8_takeOff_100 (lv_at hl 9 rfl) ?_
                        refine lv_iadd hx hb dX8_takeOff_102 ?_
                        refine lv_iload hx hb dX8_takeOff_103 (lv_at hl 7 rfl) ?_
                        refine lv_iadd hx hb dX8_takeOff_105 ?_
                        refine lv_aload_n hx hb dX8_takeOff_106 rfl (lv_at hl 0 rfl) ?_
                        obtain ⟨v202, ev202, hf⟩ := ob_s hf
                        refine px_getR hx hb hts nX8_takeOff_X8 hown hK w ev202 rfl (by decide) mX8_takeOff_26 rfl dX8_takeOff_107 ?_
                        refine lv_iload hx hb dX8_takeOff_110 (lv_at hl 5 rfl) ?_
                        refine lv_iload hx hb dX8_takeOff_112 (lv_at hl 9 rfl) ?_
                        refine lv_iadd hx hb dX8_takeOff_114 ?_
                        refine lv_iload hx hb dX8_takeOff_115 (lv_at hl 7 rfl) ?_
                        refine lv_iadd hx hb dX8_takeOff_117 ?_
                        obtain ⟨v203, ev203, hf⟩ := ob_s hf
                        refine px_iald hx hb hK w ev203 dX8_takeOff_118 ?_
                        refine lv_i2l hx hb dX8_takeOff_119 rfl ?_
                        refine lv_lload hx hb dX8_takeOff_120 (lv_at hl 8 rfl) ?_
                        refine lv_aload_n hx hb dX8_takeOff_122 rfl (lv_at hl 0 rfl) ?_
                        obtain ⟨v204, ev204, hf⟩ := ob_s hf
                        refine px_getR hx hb hts nX8_takeOff_X8 hown hK w ev204 rfl (by decide) mX8_takeOff_26 rfl dX8_takeOff_123 ?_
                        refine lv_iload hx hb dX8_takeOff_126 (lv_at hl 6 rfl) ?_
                        refine lv_iload hx hb dX8_takeOff_128 (lv_at hl 9 rfl) ?_
                        refine lv_iadd hx hb dX8_takeOff_130 ?_
                        obtain ⟨v205, ev205, hf⟩ := ob_s hf
                        refine px_iald hx hb hK w ev205 dX8_takeOff_131 ?_
                        refine lv_i2l hx hb dX8_takeOff_132 rfl ?_
                        refine lv_lmul hx hb dX8_takeOff_133 ?_
                        refine lv_lsub hx hb dX8_takeOff_134 ?_
                        obtain ⟨⟨v206, h207⟩, eh207, hf⟩ := ob_s hf
                        dsimp only at hf
                        refine px_callSi (As := [.long ((v203.toInt64) - (x168 * (v205.toInt64)))]) (rest := [.int ((x111 + z191) + z163), .ref (ι v201)]) ⟨hx, hb, hml, hown, hts⟩ hC w (kX8_modulo l D dA b0 ι N ((v203.toInt64) - (x168 * (v205.toInt64))) h192 v206 h207 eh207) (va_cwS 1 hts gX8_takeOff_X8_modulo rfl rfl rfl (by decide +kernel) ⟨Nat.le_of_ble_eq_true rfl, Nat.le_of_ble_eq_true rfl⟩) rfl hl.1 rfl (Nat.le_of_ble_eq_true rfl) dX8_takeOff_135 ⟨Nat.le_of_ble_eq_true rfl, Nat.le_of_ble_eq_true rfl⟩ (fun H locs w => ?_)
                        obtain ⟨h208, eh208, hf⟩ := ob_s hf
                        refine px_iast hx hb hK w eh208 dX8_takeOff_138 (fun H locs w => ?_)
                        exact hj139 h208 H locs ls (by rw [ej197] at hf; exact hf) (lv_sub hl [0, 1, 2, 3, 4, 5, 6, 7, 8, 9] rfl) w
              exact hlp63 N (0 : Int32) h164 H locs ls (by rw [eκ63]; exact hf) (lv_sub hl [2, 3, 4, 5, 6, 7, 8, 9, 1, 0] rfl) w
        exact hlp44 N (0 : Int32) h109 H locs ls (by rw [eκ44]; exact hf) (lv_sub hl [3, 4, 5, 6, 7, 2, 1, 0] rfl) w
  exact hlp11 N (0 : Int32) h3 H locs ls (by rw [eκ11]; exact hf) (lv_sub hl [2, 3, 4, 1, 0] rfl) w
theorem nX8_exchange_X8 : ∀ w ∈ wsX80, w ∈ wsX8_exchange := by decide +kernel
theorem mX8_exchange_26 : Cond.fieldLink RX8 26 "NormalFormsModel" "made" "[I" ∈ wsX8_exchange := by decide +kernel
abbrev rmX8_exchange : Room := { frames := 1, cells := 0, slots := 0, locals := 12 }
set_option maxHeartbeats 4000000 in
set_option maxRecDepth 100000 in
theorem kX8_exchange (l : Launch) (D : va_G) (dA : Nat → ClassId) (b0 : Nat) (ι : Nat → Nat) (N : Nat) (a0 : Nat) (a1 : Int32) (a2 : Int32) (h : Hp) (h' : Hp) (hf : fX8_exchange N a0 a1 a2 h = some h') : Met l yX8_exchange wsX8_exchange rmX8_exchange (PC D dA b0 ι [.ref (ι a0), .int a1, .int a2] h) (QV D dA b0 ι h') 0 0 (qA b0) := by
  unfold fX8_exchange at hf
  refine Met.ofW (cc := cX8_exchange) (maxL := 5) (ret := none) (by decide +kernel) rfl ?_
  intro p e s m args below meth c s₁ B hml hv
  obtain ⟨rfl, w0⟩ := hv
  have hx := B.exec
  have hb := B.bytes
  have hr := B.returns
  have hts := atoms_spec (ws := wsX8_exchange) B.pre
  have hown : s.vm.findClass RX8 = some m.cls := findClass_of_methodNamed B.named
  have hlocks := B.notSynchronized
  have hC := w0.c
  have hK := hC.1
  have w := WD.start w0
  clear w0
  have hl := lv_entry ([.ref (ι a0), .int a1, .int a2]) (n := 5) (Nat.le_of_ble_eq_true rfl)
  rw [lg_entry_eq]
  generalize (lg_sl ([.ref (ι a0), .int a1, .int a2]) ++ List.replicate (5 - (lg_sl ([.ref (ι a0), .int a1, .int a2])).length) Slot.unset).toArray = ls at hl ⊢
  have hl : lv_has ls 5 [(0, .ref (ι a0)), (1, .int a1), (2, .int a2)] := hl
  obtain ⟨H, hH⟩ : ∃ H : Heap, H = s.heap := ⟨_, rfl⟩
  obtain ⟨locs, hlo⟩ : ∃ locs : List Loc, locs = [] := ⟨_, rfl⟩
  rw [← hlo]
  have w : WD D dA b0 ι h s.heap H locs := by rw [hH, hlo]; exact w
  refine px_start hH ?_
  refine lv_iconst (v := (0 : Int32)) hx hb dX8_exchange_0 (by decide) ?_
  refine lv_istore_n (lv' := [(3, .int (0 : Int32)), (0, .ref (ι a0)), (1, .int a1), (2, .int a2)]) hx hb dX8_exchange_1 rfl hl (by decide) rfl (fun ls hl => ?_)
  have hx2 : ∀ (y1 : Int32) (h2 : Hp) (H : Heap) (locs : List Loc) (ls : Array Slot), (some h2) = some h' → lv_has ls 5 [(0, .ref (ι a0)), (1, .int a1), (2, .int a2), (3, .int y1)] → WD D dA b0 ι h2 s.heap H locs → W p l e (headSpec wsX8_exchange rmX8_exchange).room s m ([.ref (ι a0), .int a1, .int a2] : List Value).toArray below meth c H locs 0 0 (MQ below (QV D dA b0 ι h') ([.ref (ι a0), .int a1, .int a2] : List Value).toArray s 0 0 (qA b0)) (F0 m 67 ls []) := by
    intro y1 h2 H locs ls hf hl w
    exact W.vret hx hb hr (qv_end hf w hC) w.locs_ok dX8_exchange_67
  obtain ⟨κ2, eκ2⟩ : ∃ k : Int32 → Hp → Option Hp, k = (fun y1 h2 => some h2) := ⟨_, rfl⟩
  have hlp2 : ∀ (n : Nat) (z16 : Int32) (h17 : Hp) (H : Heap) (locs : List Loc) (ls : Array Slot), lX8_exchange_2 N a0 a1 a2 n z16 h17 κ2 = some h' → lv_has ls 5 [(0, .ref (ι a0)), (1, .int a1), (2, .int a2), (3, .int z16)] → WD D dA b0 ι h17 s.heap H locs → W p l e (headSpec wsX8_exchange rmX8_exchange).room s m ([.ref (ι a0), .int a1, .int a2] : List Value).toArray below meth c H locs 0 0 (MQ below (QV D dA b0 ι h') ([.ref (ι a0), .int a1, .int a2] : List Value).toArray s 0 0 (qA b0)) (F0 m 2 ls []) := by
    intro n2
    induction n2 with
    | zero => intro z16 h17 H locs ls hf; exact absurd hf (by rw [lX8_exchange_2]; exact fun q => nomatch q)
    | succ n2 ih2 =>
      intro z16 h17 H locs ls hf hl w
      rw [lX8_exchange_2] at hf
      refine lv_iload_n hx hb dX8_exchange_2 rfl (lv_at hl 3 rfl) ?_
      refine lv_sipush (v := (1024 : Int32)) hx hb dX8_exchange_3 (by decide) ?_
      refine lv_icmp_ge (tgt := 67) hx hb dX8_exchange_6 (by decide) (fun c18 => ?_) (fun c18 => ?_)
      · have hf := if_t hf c18
        exact hx2 z16 h17 H locs ls (by rw [eκ2] at hf; exact hf) (lv_sub hl [0, 1, 2, 3] rfl) w
      · have hf := if_f hf c18
        refine lv_aload_n hx hb dX8_exchange_9 rfl (lv_at hl 0 rfl) ?_
        obtain ⟨v19, ev19, hf⟩ := ob_s hf
        refine px_getR hx hb hts nX8_exchange_X8 hown hK w ev19 rfl (by decide) mX8_exchange_26 rfl dX8_exchange_10 ?_
        refine lv_sipush (v := (1024 : Int32)) hx hb dX8_exchange_13 (by decide) ?_
        refine lv_iload_n hx hb dX8_exchange_16 rfl (lv_at hl 1 rfl) ?_
        refine lv_imul hx hb dX8_exchange_17 ?_
        refine lv_iload_n hx hb dX8_exchange_18 rfl (lv_at hl 3 rfl) ?_
        refine lv_iadd hx hb dX8_exchange_19 ?_
        obtain ⟨v20, ev20, hf⟩ := ob_s hf
        refine px_iald hx hb hK w ev20 dX8_exchange_20 ?_
        refine lv_istore (lv' := [(4, .int v20), (0, .ref (ι a0)), (1, .int a1), (2, .int a2), (3, .int z16)]) hx hb dX8_exchange_21 hl (by decide) rfl (fun ls hl => ?_)
        refine lv_aload_n hx hb dX8_exchange_23 rfl (lv_at hl 1 rfl) ?_
        obtain ⟨v21, ev21, hf⟩ := ob_s hf
        refine px_getR hx hb hts nX8_exchange_X8 hown hK w ev21 rfl (by decide) mX8_exchange_26 rfl dX8_exchange_24 ?_
        refine lv_sipush (v := (1024 : Int32)) hx hb dX8_exchange_27 (by decide) ?_
        refine lv_iload_n hx hb dX8_exchange_30 rfl (lv_at hl 2 rfl) ?_
        refine lv_imul hx hb dX8_exchange_31 ?_
        refine lv_iload_n hx hb dX8_exchange_32 rfl (lv_at hl 4 rfl) ?_
        refine lv_iadd hx hb dX8_exchange_33 ?_
        refine lv_aload_n hx hb dX8_exchange_34 rfl (lv_at hl 1 rfl) ?_
        obtain ⟨v22, ev22, hf⟩ := ob_s hf
        refine px_getR hx hb hts nX8_exchange_X8 hown hK w ev22 rfl (by decide) mX8_exchange_26 rfl dX8_exchange_35 ?_
        refine lv_sipush (v := (1024 : Int32)) hx hb dX8_exchange_38 (by decide) ?_
        refine lv_iload_n hx hb dX8_exchange_41 rfl (lv_at hl 3 rfl) ?_
        refine lv_imul hx hb dX8_exchange_42 ?_
        refine lv_iload_n hx hb dX8_exchange_43 rfl (lv_at hl 4 rfl) ?_
        refine lv_iadd hx hb dX8_exchange_44 ?_
        obtain ⟨v23, ev23, hf⟩ := ob_s hf
        refine px_iald hx hb hK w ev23 dX8_exchange_45 ?_
        obtain ⟨h24, eh24, hf⟩ := ob_s hf
        refine px_iast hx hb hK w eh24 dX8_exchange_46 (fun H locs w => ?_)
        refine lv_aload_n hx hb dX8_exchange_47 rfl (lv_at hl 1 rfl) ?_
        obtain ⟨v25, ev25, hf⟩ := ob_s hf
        refine px_getR hx hb hts nX8_exchange_X8 hown hK w ev25 rfl (by decide) mX8_exchange_26 rfl dX8_exchange_48 ?_
        refine lv_sipush (v := (1024 : Int32)) hx hb dX8_exchange_51 (by decide) ?_
        refine lv_iload_n hx hb dX8_exchange_54 rfl (lv_at hl 3 rfl) ?_
        refine lv_imul hx hb dX8_exchange_55 ?_
        refine lv_iload_n hx hb dX8_exchange_56 rfl (lv_at hl 4 rfl) ?_
        refine lv_iadd hx hb dX8_exchange_57 ?_
        refine lv_iload hx hb dX8_exchange_58 (lv_at hl 0 rfl) ?_
        obtain ⟨h26, eh26, hf⟩ := ob_s hf
        refine px_iast hx hb hK w eh26 dX8_exchange_60 (fun H locs w => ?_)
        obtain ⟨x27, ex27, hf⟩ := nm_s hf
        refine lv_iinc (v := x27) (lv' := [(3, .int x27), (4, .int v20), (0, .ref (ι a0)), (1, .int a1), (2, .int a2)]) hx hb dX8_exchange_61 hl (k := 4) rfl (by rw [ex27]; rfl) (by decide) rfl (fun ls hl => ?_)
        refine lv_goto (tgt := 2) hx hb dX8_exchange_64 (by decide) ?_
        exact ih2 x27 h26 H locs ls hf (lv_sub hl [2, 3, 4, 0] rfl) w
  exact hlp2 N (0 : Int32) h H locs ls (by rw [eκ2]; exact hf) (lv_sub hl [1, 2, 3, 0] rfl) w
theorem nX8_isNone_X8 : ∀ w ∈ wsX80, w ∈ wsX8_isNone := by decide +kernel
theorem mX8_isNone_35 : Cond.fieldLink RX8 35 "NormalFormsModel" "b" "[I" ∈ wsX8_isNone := by decide +kernel
abbrev rmX8_isNone : Room := { frames := 2, cells := 0, slots := 0, locals := 36 }
set_option maxHeartbeats 4000000 in
set_option maxRecDepth 100000 in
theorem kX8_isNone (l : Launch) (D : va_G) (dA : Nat → ClassId) (b0 : Nat) (ι : Nat → Nat) (N : Nat) (a0 : Nat) (a1 : Int32) (a2 : Int32) (h : Hp) (r : Int32) (h' : Hp) (hf : fX8_isNone N a0 a1 a2 h = some (r, h')) : Met l yX8_isNone wsX8_isNone rmX8_isNone (PC D dA b0 ι [.ref (ι a0), .int a1, .int a2] h) (QI D dA b0 ι r h') 0 0 (qA b0) := by
  unfold fX8_isNone at hf
  refine Met.ofW (cc := cX8_isNone) (maxL := 3) (ret := (some .boolean)) (by decide +kernel) rfl ?_
  intro p e s m args below meth c s₁ B hml hv
  obtain ⟨rfl, w0⟩ := hv
  have hx := B.exec
  have hb := B.bytes
  have hr := B.returns
  have hts := atoms_spec (ws := wsX8_isNone) B.pre
  have hown : s.vm.findClass RX8 = some m.cls := findClass_of_methodNamed B.named
  have hlocks := B.notSynchronized
  have hC := w0.c
  have hK := hC.1
  have w := WD.start w0
  clear w0
  have hl := lv_entry ([.ref (ι a0), .int a1, .int a2]) (n := 3) (Nat.le_of_ble_eq_true rfl)
  rw [lg_entry_eq]
  generalize (lg_sl ([.ref (ι a0), .int a1, .int a2]) ++ List.replicate (3 - (lg_sl ([.ref (ι a0), .int a1, .int a2])).length) Slot.unset).toArray = ls at hl ⊢
  have hl : lv_has ls 3 [(0, .ref (ι a0)), (1, .int a1), (2, .int a2)] := hl
  obtain ⟨H, hH⟩ : ∃ H : Heap, H = s.heap := ⟨_, rfl⟩
  obtain ⟨locs, hlo⟩ : ∃ locs : List Loc, locs = [] := ⟨_, rfl⟩
  rw [← hlo]
  have w : WD D dA b0 ι h s.heap H locs := by rw [hH, hlo]; exact w
  refine px_start hH ?_
  refine lv_aload_n hx hb dX8_isNone_0 rfl (lv_at hl 0 rfl) ?_
  refine lv_aload_n hx hb dX8_isNone_1 rfl (lv_at hl 0 rfl) ?_
  obtain ⟨v1, ev1, hf⟩ := ob_s hf
  refine px_getR hx hb hts nX8_isNone_X8 hown hK w ev1 rfl (by decide) mX8_isNone_35 rfl dX8_isNone_2 ?_
  refine lv_iload_n hx hb dX8_isNone_5 rfl (lv_at hl 1 rfl) ?_
  refine lv_iload_n hx hb dX8_isNone_6 rfl (lv_at hl 2 rfl) ?_
  obtain ⟨u4, eu4, hf⟩ := ob_s hf
  obtain ⟨h3, eh3, hf⟩ := ob_s hf
  refine px_callVv (As := [.ref (ι v1), .int a1, .int a2]) (rest := []) ⟨hx, hb, hml, hown, hts⟩ hC w (kX8_take l D dA b0 ι N a0 v1 a1 a2 h h3 eh3) (cwV 3 hts gX8_isNone_X8_take rfl rfl rfl (by decide +kernel) ⟨Nat.le_of_ble_eq_true rfl, Nat.le_of_ble_eq_true rfl⟩) eu4 rfl rfl hl.1 rfl (Nat.le_of_ble_eq_true rfl) dX8_isNone_7 ⟨Nat.le_of_ble_eq_true rfl, Nat.le_of_ble_eq_true rfl⟩ (fun H locs w => ?_)
  refine lv_aload_n hx hb dX8_isNone_10 rfl (lv_at hl 0 rfl) ?_
  obtain ⟨v5, ev5, hf⟩ := ob_s hf
  refine px_getR hx hb hts nX8_isNone_X8 hown hK w ev5 rfl (by decide) mX8_isNone_35 rfl dX8_isNone_11 ?_
  obtain ⟨⟨v6, h7⟩, eh7, hf⟩ := ob_s hf
  dsimp only at hf
  refine px_callSi (As := [.ref (ι v5)]) (rest := []) ⟨hx, hb, hml, hown, hts⟩ hC w (kX8_high l D dA b0 ι N v5 h3 v6 h7 eh7) (va_cwS 1 hts gX8_isNone_X8_high rfl rfl rfl (by decide +kernel) ⟨Nat.le_of_ble_eq_true rfl, Nat.le_of_ble_eq_true rfl⟩) rfl hl.1 rfl (Nat.le_of_ble_eq_true rfl) dX8_isNone_14 ⟨Nat.le_of_ble_eq_true rfl, Nat.le_of_ble_eq_true rfl⟩ (fun H locs w => ?_)
  have hj25 : ∀ (t10 : Int32) (h9 : Hp) (H : Heap) (locs : List Loc) (ls : Array Slot), (if t10 = 0 ∨ t10 = 1 then some (t10, h9) else none) = some (r, h') → lv_has ls 3 [(0, .ref (ι a0)), (1, .int a1), (2, .int a2)] → WD D dA b0 ι h9 s.heap H locs → W p l e (headSpec wsX8_isNone rmX8_isNone).room s m ([.ref (ι a0), .int a1, .int a2] : List Value).toArray below meth c H locs 0 0 (MQ below (QI D dA b0 ι r h') ([.ref (ι a0), .int a1, .int a2] : List Value).toArray s 0 0 (qA b0)) (F0 m 25 ls [.int t10]) := by
    intro t10 h9 H locs ls hf hl w
    obtain ⟨hz, hf⟩ := if_s hf
    exact W.zret hx hb hr (nar01 hz) (qi_end hf w hC) w.locs_ok dX8_isNone_25
  obtain ⟨j8, ej8, hf⟩ := jn_s hf
  refine lv_if_ge (tgt := 24) hx hb dX8_isNone_17 (by decide) (fun c11 => ?_) (fun c11 => ?_)
  · have hf := if_t hf c11
    refine lv_iconst (v := (0 : Int32)) hx hb dX8_isNone_24 (by decide) ?_
    exact hj25 (0 : Int32) h7 H locs ls (by rw [ej8] at hf; exact hf) (lv_sub hl [0, 1, 2] rfl) w
  · have hf := if_f hf c11
    refine lv_iconst (v := (1 : Int32)) hx hb dX8_isNone_20 (by decide) ?_
    refine lv_goto (tgt := 25) hx hb dX8_isNone_21 (by decide) ?_
    exact hj25 (1 : Int32) h7 H locs ls (by rw [ej8] at hf; exact hf) (lv_sub hl [0, 1, 2] rfl) w
