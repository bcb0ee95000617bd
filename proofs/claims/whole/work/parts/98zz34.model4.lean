theorem nX8_loadNumbers_X8 : ∀ w ∈ wsX80, w ∈ wsX8_loadNumbers := by decide +kernel
theorem mX8_loadNumbers_71 : Cond.fieldLink RX8 71 "NormalFormsModel" "rows" "I" ∈ wsX8_loadNumbers := by decide +kernel
theorem mX8_loadNumbers_23 : Cond.fieldLink RX8 23 "NormalFormsModel" "work" "[I" ∈ wsX8_loadNumbers := by decide +kernel
theorem mX8_loadNumbers_7 : Cond.fieldLink RX8 7 "NormalFormsModel" "entries" "[I" ∈ wsX8_loadNumbers := by decide +kernel
abbrev rmX8_loadNumbers : Room := { frames := 4, cells := 0, slots := 0, locals := 89 }
set_option maxHeartbeats 4000000 in
set_option maxRecDepth 100000 in
theorem kX8_loadNumbers (l : Launch) (D : va_G) (dA : Nat → ClassId) (b0 : Nat) (ι : Nat → Nat) (N : Nat) (a0 : Nat) (h : Hp) (h' : Hp) (hf : fX8_loadNumbers N a0 h = some h') : Met l yX8_loadNumbers wsX8_loadNumbers rmX8_loadNumbers (PC D dA b0 ι [.ref (ι a0)] h) (QV D dA b0 ι h') 0 0 (qA b0) := by
  unfold fX8_loadNumbers at hf
  refine Met.ofW (cc := cX8_loadNumbers) (maxL := 3) (ret := none) (by decide +kernel) rfl ?_
  intro p e s m args below meth c s₁ B hml hv
  obtain ⟨rfl, w0⟩ := hv
  have hx := B.exec
  have hb := B.bytes
  have hr := B.returns
  have hts := atoms_spec (ws := wsX8_loadNumbers) B.pre
  have hown : s.vm.findClass RX8 = some m.cls := findClass_of_methodNamed B.named
  have hlocks := B.notSynchronized
  have hC := w0.c
  have hK := hC.1
  have w := WD.start w0
  clear w0
  have hl := lv_entry ([.ref (ι a0)]) (n := 3) (Nat.le_of_ble_eq_true rfl)
  rw [lg_entry_eq]
  generalize (lg_sl ([.ref (ι a0)]) ++ List.replicate (3 - (lg_sl ([.ref (ι a0)])).length) Slot.unset).toArray = ls at hl ⊢
  have hl : lv_has ls 3 [(0, .ref (ι a0))] := hl
  obtain ⟨H, hH⟩ : ∃ H : Heap, H = s.heap := ⟨_, rfl⟩
  obtain ⟨locs, hlo⟩ : ∃ locs : List Loc, locs = [] := ⟨_, rfl⟩
  rw [← hlo]
  have w : WD D dA b0 ι h s.heap H locs := by rw [hH, hlo]; exact w
  refine px_start hH ?_
  refine lv_iconst (v := (0 : Int32)) hx hb dX8_loadNumbers_0 (by decide) ?_
  refine lv_istore_n (lv' := [(1, .int (0 : Int32)), (0, .ref (ι a0))]) hx hb dX8_loadNumbers_1 rfl hl (by decide) rfl (fun ls hl => ?_)
  have hx2 : ∀ (y1 : Int32) (h2 : Hp) (H : Heap) (locs : List Loc) (ls : Array Slot), (lX8_loadNumbers_23 N a0 N (0 : Int32) h2 (fun y3 h4 => (cK h4 a0 10).bind fun u7 => (fX8_findMinors N a0 h4).bind fun h6 => some h6)) = some h' → lv_has ls 3 [(0, .ref (ι a0)), (1, .int y1)] → WD D dA b0 ι h2 s.heap H locs → W p l e (headSpec wsX8_loadNumbers rmX8_loadNumbers).room s m ([.ref (ι a0)] : List Value).toArray below meth c H locs 0 0 (MQ below (QV D dA b0 ι h') ([.ref (ι a0)] : List Value).toArray s 0 0 (qA b0)) (F0 m 21 ls []) := by
    intro y1 h2 H locs ls hf hl w
    refine lv_iconst (v := (0 : Int32)) hx hb dX8_loadNumbers_21 (by decide) ?_
    refine lv_istore_n (lv' := [(1, .int (0 : Int32)), (0, .ref (ι a0))]) hx hb dX8_loadNumbers_22 rfl hl (by decide) rfl (fun ls hl => ?_)
    have hx23 : ∀ (y3 : Int32) (h4 : Hp) (H : Heap) (locs : List Loc) (ls : Array Slot), ((cK h4 a0 10).bind fun u7 => (fX8_findMinors N a0 h4).bind fun h6 => some h6) = some h' → lv_has ls 3 [(0, .ref (ι a0)), (1, .int y3)] → WD D dA b0 ι h4 s.heap H locs → W p l e (headSpec wsX8_loadNumbers rmX8_loadNumbers).room s m ([.ref (ι a0)] : List Value).toArray below meth c H locs 0 0 (MQ below (QV D dA b0 ι h') ([.ref (ι a0)] : List Value).toArray s 0 0 (qA b0)) (F0 m 103 ls []) := by
      intro y3 h4 H locs ls hf hl w
      refine lv_aload_n hx hb dX8_loadNumbers_103 rfl (lv_at hl 0 rfl) ?_
      obtain ⟨u7, eu7, hf⟩ := ob_s hf
      obtain ⟨h6, eh6, hf⟩ := ob_s hf
      refine px_callVv (As := []) (rest := []) ⟨hx, hb, hml, hown, hts⟩ hC w (kX8_findMinors l D dA b0 ι N a0 h4 h6 eh6) (cwV 0 hts gX8_loadNumbers_X8_findMinors rfl rfl rfl (by decide +kernel) ⟨Nat.le_of_ble_eq_true rfl, Nat.le_of_ble_eq_true rfl⟩) eu7 rfl rfl hl.1 rfl (Nat.le_of_ble_eq_true rfl) dX8_loadNumbers_104 ⟨Nat.le_of_ble_eq_true rfl, Nat.le_of_ble_eq_true rfl⟩ (fun H locs w => ?_)
      exact W.vret hx hb hr (qv_end hf w hC) w.locs_ok dX8_loadNumbers_107
    obtain ⟨κ23, eκ23⟩ : ∃ k : Int32 → Hp → Option Hp, k = (fun y3 h4 => (cK h4 a0 10).bind fun u7 => (fX8_findMinors N a0 h4).bind fun h6 => some h6) := ⟨_, rfl⟩
    have hlp23 : ∀ (n : Nat) (z37 : Int32) (h38 : Hp) (H : Heap) (locs : List Loc) (ls : Array Slot), lX8_loadNumbers_23 N a0 n z37 h38 κ23 = some h' → lv_has ls 3 [(0, .ref (ι a0)), (1, .int z37)] → WD D dA b0 ι h38 s.heap H locs → W p l e (headSpec wsX8_loadNumbers rmX8_loadNumbers).room s m ([.ref (ι a0)] : List Value).toArray below meth c H locs 0 0 (MQ below (QV D dA b0 ι h') ([.ref (ι a0)] : List Value).toArray s 0 0 (qA b0)) (F0 m 23 ls []) := by
      intro n23
      induction n23 with
      | zero => intro z37 h38 H locs ls hf; exact absurd hf (by rw [lX8_loadNumbers_23]; exact fun q => nomatch q)
      | succ n23 ih23 =>
        intro z37 h38 H locs ls hf hl w
        rw [lX8_loadNumbers_23] at hf
        refine lv_iload_n hx hb dX8_loadNumbers_23 rfl (lv_at hl 1 rfl) ?_
        refine lv_aload_n hx hb dX8_loadNumbers_24 rfl (lv_at hl 0 rfl) ?_
        obtain ⟨v39, ev39, hf⟩ := ob_s hf
        refine px_getI hx hb hts nX8_loadNumbers_X8 hown hK w ev39 rfl (by decide) mX8_loadNumbers_71 rfl dX8_loadNumbers_25 ?_
        refine lv_icmp_ge (tgt := 103) hx hb dX8_loadNumbers_28 (by decide) (fun c40 => ?_) (fun c40 => ?_)
        · have hf := if_t hf c40
          exact hx23 z37 h38 H locs ls (by rw [eκ23] at hf; exact hf) (lv_sub hl [0, 1] rfl) w
        · have hf := if_f hf c40
          refine lv_iconst (v := (0 : Int32)) hx hb dX8_loadNumbers_31 (by decide) ?_
          refine lv_istore_n (lv' := [(2, .int (0 : Int32)), (0, .ref (ι a0)), (1, .int z37)]) hx hb dX8_loadNumbers_32 rfl hl (by decide) rfl (fun ls hl => ?_)
          have hx33 : ∀ (y41 : Int32) (h42 : Hp) (H : Heap) (locs : List Loc) (ls : Array Slot), ((gR h42 a0 10 7).bind fun v43 => (aIs h42 v43 ((((16 : Int32) * z37) + ((4 : Int32) * z37)) + (1 : Int32)) (1 : Int32)).bind fun h44 => nm (z37 + (1 : Int32)) fun x45 => lX8_loadNumbers_23 N a0 n23 x45 h44 κ23) = some h' → lv_has ls 3 [(0, .ref (ι a0)), (1, .int z37), (2, .int y41)] → WD D dA b0 ι h42 s.heap H locs → W p l e (headSpec wsX8_loadNumbers rmX8_loadNumbers).room s m ([.ref (ι a0)] : List Value).toArray below meth c H locs 0 0 (MQ below (QV D dA b0 ι h') ([.ref (ι a0)] : List Value).toArray s 0 0 (qA b0)) (F0 m 81 ls []) := by
            intro y41 h42 H locs ls hf hl w
            refine lv_aload_n hx hb dX8_loadNumbers_81 rfl (lv_at hl 0 rfl) ?_
            obtain ⟨v43, ev43, hf⟩ := ob_s hf
            refine px_getR hx hb hts nX8_loadNumbers_X8 hown hK w ev43 rfl (by decide) mX8_loadNumbers_23 rfl dX8_loadNumbers_82 ?_
            refine lv_bipush (v := (16 : Int32)) hx hb dX8_loadNumbers_85 (by decide) ?_
            refine lv_iload_n hx hb dX8_loadNumbers_87 rfl (lv_at hl 1 rfl) ?_
            refine lv_imul hx hb dX8_loadNumbers_88 ?_
            refine lv_iconst (v := (4 : Int32)) hx hb dX8_loadNumbers_89 (by decide) ?_
            refine lv_iload_n hx hb dX8_loadNumbers_90 rfl (lv_at hl 1 rfl) ?_
            refine lv_imul hx hb dX8_loadNumbers_91 ?_
            refine lv_iadd hx hb dX8_loadNumbers_92 ?_
            refine lv_iconst (v := (1 : Int32)) hx hb dX8_loadNumbers_93 (by decide) ?_
            refine lv_iadd hx hb dX8_loadNumbers_94 ?_
            refine lv_iconst (v := (1 : Int32)) hx hb dX8_loadNumbers_95 (by decide) ?_
            obtain ⟨h44, eh44, hf⟩ := ob_s hf
            refine px_iast hx hb hK w eh44 dX8_loadNumbers_96 (fun H locs w => ?_)
            obtain ⟨x45, ex45, hf⟩ := nm_s hf
            refine lv_iinc (v := x45) (lv' := [(1, .int x45), (0, .ref (ι a0)), (2, .int y41)]) hx hb dX8_loadNumbers_97 hl (k := 1) rfl (by rw [ex45]; rfl) (by decide) rfl (fun ls hl => ?_)
            refine lv_goto (tgt := 23) hx hb dX8_loadNumbers_100 (by decide) ?_
            exact ih23 x45 h44 H locs ls hf (lv_sub hl [1, 0] rfl) w
          obtain ⟨κ33, eκ33⟩ : ∃ k : Int32 → Hp → Option Hp, k = (fun y41 h42 => (gR h42 a0 10 7).bind fun v43 => (aIs h42 v43 ((((16 : Int32) * z37) + ((4 : Int32) * z37)) + (1 : Int32)) (1 : Int32)).bind fun h44 => nm (z37 + (1 : Int32)) fun x45 => lX8_loadNumbers_23 N a0 n23 x45 h44 κ23) := ⟨_, rfl⟩
          have hlp33 : ∀ (n : Nat) (z56 : Int32) (h57 : Hp) (H : Heap) (locs : List Loc) (ls : Array Slot), lX8_loadNumbers_33 N a0 z37 n z56 h57 κ33 = some h' → lv_has ls 3 [(0, .ref (ι a0)), (1, .int z37), (2, .int z56)] → WD D dA b0 ι h57 s.heap H locs → W p l e (headSpec wsX8_loadNumbers rmX8_loadNumbers).room s m ([.ref (ι a0)] : List Value).toArray below meth c H locs 0 0 (MQ below (QV D dA b0 ι h') ([.ref (ι a0)] : List Value).toArray s 0 0 (qA b0)) (F0 m 33 ls []) := by
            intro n33
            induction n33 with
            | zero => intro z56 h57 H locs ls hf; exact absurd hf (by rw [lX8_loadNumbers_33]; exact fun q => nomatch q)
            | succ n33 ih33 =>
              intro z56 h57 H locs ls hf hl w
              rw [lX8_loadNumbers_33] at hf
              refine lv_iload_n hx hb dX8_loadNumbers_33 rfl (lv_at hl 2 rfl) ?_
              refine lv_aload_n hx hb dX8_loadNumbers_34 rfl (lv_at hl 0 rfl) ?_
              obtain ⟨v58, ev58, hf⟩ := ob_s hf
              refine px_getI hx hb hts nX8_loadNumbers_X8 hown hK w ev58 rfl (by decide) mX8_loadNumbers_71 rfl dX8_loadNumbers_35 ?_
              refine lv_icmp_ge (tgt := 81) hx hb dX8_loadNumbers_38 (by decide) (fun c59 => ?_) (fun c59 => ?_)
              · have hf := if_t hf c59
                exact hx33 z56 h57 H locs ls (by rw [eκ33] at hf; exact hf) (lv_sub hl [0, 1, 2] rfl) w
              · have hf := if_f hf c59
                refine lv_aload_n hx hb dX8_loadNumbers_41 rfl (lv_at hl 0 rfl) ?_
                obtain ⟨v60, ev60, hf⟩ := ob_s hf
                refine px_getR hx hb hts nX8_loadNumbers_X8 hown hK w ev60 rfl (by decide) mX8_loadNumbers_23 rfl dX8_loadNumbers_42 ?_
                refine lv_bipush (v := (16 : Int32)) hx hb dX8_loadNumbers_45 (by decide) ?_
                refine lv_iload_n hx hb dX8_loadNumbers_47 rfl (lv_at hl 1 rfl) ?_
                refine lv_imul hx hb dX8_loadNumbers_48 ?_
                refine lv_iconst (v := (4 : Int32)) hx hb dX8_loadNumbers_49 (by decide) ?_
                refine lv_iload_n hx hb dX8_loadNumbers_50 rfl (lv_at hl 2 rfl) ?_
                refine lv_imul hx hb dX8_loadNumbers_51 ?_
                refine lv_iadd hx hb dX8_loadNumbers_52 ?_
                refine lv_sipush (v := (32003 : Int32)) hx hb dX8_loadNumbers_53 (by decide) ?_
                refine lv_aload_n hx hb dX8_loadNumbers_56 rfl (lv_at hl 0 rfl) ?_
                obtain ⟨v61, ev61, hf⟩ := ob_s hf
                refine px_getR hx hb hts nX8_loadNumbers_X8 hown hK w ev61 rfl (by decide) mX8_loadNumbers_7 rfl dX8_loadNumbers_57 ?_
                refine lv_bipush (v := (16 : Int32)) hx hb dX8_loadNumbers_60 (by decide) ?_
                refine lv_iload_n hx hb dX8_loadNumbers_62 rfl (lv_at hl 1 rfl) ?_
                refine lv_imul hx hb dX8_loadNumbers_63 ?_
                refine lv_iconst (v := (4 : Int32)) hx hb dX8_loadNumbers_64 (by decide) ?_
                refine lv_iload_n hx hb dX8_loadNumbers_65 rfl (lv_at hl 2 rfl) ?_
                refine lv_imul hx hb dX8_loadNumbers_66 ?_
                refine lv_iadd hx hb dX8_loadNumbers_67 ?_
                obtain ⟨v62, ev62, hf⟩ := ob_s hf
                refine px_iald hx hb hK w ev62 dX8_loadNumbers_68 ?_
                refine lv_isub hx hb dX8_loadNumbers_69 ?_
                refine lv_sipush (v := (32003 : Int32)) hx hb dX8_loadNumbers_70 (by decide) ?_
                refine px_irem hx hb dX8_loadNumbers_73 (by decide) ?_
                obtain ⟨h63, eh63, hf⟩ := ob_s hf
                refine px_iast hx hb hK w eh63 dX8_loadNumbers_74 (fun H locs w => ?_)
                obtain ⟨x64, ex64, hf⟩ := nm_s hf
                refine lv_iinc (v := x64) (lv' := [(2, .int x64), (0, .ref (ι a0)), (1, .int z37)]) hx hb dX8_loadNumbers_75 hl (k := 2) rfl (by rw [ex64]; rfl) (by decide) rfl (fun ls hl => ?_)
                refine lv_goto (tgt := 33) hx hb dX8_loadNumbers_78 (by decide) ?_
                exact ih33 x64 h63 H locs ls hf (lv_sub hl [1, 2, 0] rfl) w
          exact hlp33 N (0 : Int32) h38 H locs ls (by rw [eκ33]; exact hf) (lv_sub hl [1, 2, 0] rfl) w
    exact hlp23 N (0 : Int32) h2 H locs ls (by rw [eκ23]; exact hf) (lv_sub hl [1, 0] rfl) w
  obtain ⟨κ2, eκ2⟩ : ∃ k : Int32 → Hp → Option Hp, k = (fun y1 h2 => lX8_loadNumbers_23 N a0 N (0 : Int32) h2 (fun y3 h4 => (cK h4 a0 10).bind fun u7 => (fX8_findMinors N a0 h4).bind fun h6 => some h6)) := ⟨_, rfl⟩
  have hlp2 : ∀ (n : Nat) (z72 : Int32) (h73 : Hp) (H : Heap) (locs : List Loc) (ls : Array Slot), lX8_loadNumbers_2 N a0 n z72 h73 κ2 = some h' → lv_has ls 3 [(0, .ref (ι a0)), (1, .int z72)] → WD D dA b0 ι h73 s.heap H locs → W p l e (headSpec wsX8_loadNumbers rmX8_loadNumbers).room s m ([.ref (ι a0)] : List Value).toArray below meth c H locs 0 0 (MQ below (QV D dA b0 ι h') ([.ref (ι a0)] : List Value).toArray s 0 0 (qA b0)) (F0 m 2 ls []) := by
    intro n2
    induction n2 with
    | zero => intro z72 h73 H locs ls hf; exact absurd hf (by rw [lX8_loadNumbers_2]; exact fun q => nomatch q)
    | succ n2 ih2 =>
      intro z72 h73 H locs ls hf hl w
      rw [lX8_loadNumbers_2] at hf
      refine lv_iload_n hx hb dX8_loadNumbers_2 rfl (lv_at hl 1 rfl) ?_
      refine lv_bipush (v := (64 : Int32)) hx hb dX8_loadNumbers_3 (by decide) ?_
      refine lv_icmp_ge (tgt := 21) hx hb dX8_loadNumbers_5 (by decide) (fun c74 => ?_) (fun c74 => ?_)
      · have hf := if_t hf c74
        exact hx2 z72 h73 H locs ls (by rw [eκ2] at hf; exact hf) (lv_sub hl [0, 1] rfl) w
      · have hf := if_f hf c74
        refine lv_aload_n hx hb dX8_loadNumbers_8 rfl (lv_at hl 0 rfl) ?_
        obtain ⟨v75, ev75, hf⟩ := ob_s hf
        refine px_getR hx hb hts nX8_loadNumbers_X8 hown hK w ev75 rfl (by decide) mX8_loadNumbers_23 rfl dX8_loadNumbers_9 ?_
        refine lv_iload_n hx hb dX8_loadNumbers_12 rfl (lv_at hl 1 rfl) ?_
        refine lv_iconst (v := (0 : Int32)) hx hb dX8_loadNumbers_13 (by decide) ?_
        obtain ⟨h76, eh76, hf⟩ := ob_s hf
        refine px_iast hx hb hK w eh76 dX8_loadNumbers_14 (fun H locs w => ?_)
        obtain ⟨x77, ex77, hf⟩ := nm_s hf
        refine lv_iinc (v := x77) (lv' := [(1, .int x77), (0, .ref (ι a0))]) hx hb dX8_loadNumbers_15 hl (k := 1) rfl (by rw [ex77]; rfl) (by decide) rfl (fun ls hl => ?_)
        refine lv_goto (tgt := 2) hx hb dX8_loadNumbers_18 (by decide) ?_
        exact ih2 x77 h76 H locs ls hf (lv_sub hl [1, 0] rfl) w
  exact hlp2 N (0 : Int32) h H locs ls (by rw [eκ2]; exact hf) (lv_sub hl [1, 0] rfl) w
theorem mX8_characteristic_117 : Cond.constantLong RX8 117 (12) ∈ wsX8_characteristic := by decide +kernel
theorem nX8_characteristic_X8 : ∀ w ∈ wsX80, w ∈ wsX8_characteristic := by decide +kernel
theorem mX8_characteristic_20 : Cond.fieldLink RX8 20 "NormalFormsModel" "minors" "[I" ∈ wsX8_characteristic := by decide +kernel
abbrev rmX8_characteristic : Room := { frames := 5, cells := 0, slots := 0, locals := 111 }
set_option maxHeartbeats 4000000 in
set_option maxRecDepth 100000 in
theorem kX8_characteristic (l : Launch) (D : va_G) (dA : Nat → ClassId) (b0 : Nat) (ι : Nat → Nat) (N : Nat) (a0 : Nat) (a1 : Int32) (h : Hp) (r : Int32) (h' : Hp) (hf : fX8_characteristic N a0 a1 h = some (r, h')) : Met l yX8_characteristic wsX8_characteristic rmX8_characteristic (PC D dA b0 ι [.ref (ι a0), .int a1] h) (QI D dA b0 ι r h') 0 0 (qA b0) := by
  unfold fX8_characteristic at hf
  refine Met.ofW (cc := cX8_characteristic) (maxL := 2) (ret := (some .int)) (by decide +kernel) rfl ?_
  intro p e s m args below meth c s₁ B hml hv
  obtain ⟨rfl, w0⟩ := hv
  have hx := B.exec
  have hb := B.bytes
  have hr := B.returns
  have hts := atoms_spec (ws := wsX8_characteristic) B.pre
  have hown : s.vm.findClass RX8 = some m.cls := findClass_of_methodNamed B.named
  have hlocks := B.notSynchronized
  have hC := w0.c
  have hK := hC.1
  have w := WD.start w0
  clear w0
  have hl := lv_entry ([.ref (ι a0), .int a1]) (n := 2) (Nat.le_of_ble_eq_true rfl)
  rw [lg_entry_eq]
  generalize (lg_sl ([.ref (ι a0), .int a1]) ++ List.replicate (2 - (lg_sl ([.ref (ι a0), .int a1])).length) Slot.unset).toArray = ls at hl ⊢
  have hl : lv_has ls 2 [(0, .ref (ι a0)), (1, .int a1)] := hl
  obtain ⟨H, hH⟩ : ∃ H : Heap, H = s.heap := ⟨_, rfl⟩
  obtain ⟨locs, hlo⟩ : ∃ locs : List Loc, locs = [] := ⟨_, rfl⟩
  rw [← hlo]
  have w : WD D dA b0 ι h s.heap H locs := by rw [hH, hlo]; exact w
  refine px_start hH ?_
  refine lv_aload_n hx hb dX8_characteristic_0 rfl (lv_at hl 0 rfl) ?_
  obtain ⟨u3, eu3, hf⟩ := ob_s hf
  obtain ⟨⟨v1, h2⟩, eh2, hf⟩ := ob_s hf
  dsimp only at hf
  refine px_callVi (As := []) (rest := []) ⟨hx, hb, hml, hown, hts⟩ hC w (kX8_isSquare l D dA b0 ι N a0 h v1 h2 eh2) (cwV 0 hts gX8_characteristic_X8_isSquare rfl rfl rfl (by decide +kernel) ⟨Nat.le_of_ble_eq_true rfl, Nat.le_of_ble_eq_true rfl⟩) eu3 rfl rfl hl.1 rfl (Nat.le_of_ble_eq_true rfl) dX8_characteristic_1 ⟨Nat.le_of_ble_eq_true rfl, Nat.le_of_ble_eq_true rfl⟩ (fun H locs w => ?_)
  refine lv_if_ne (tgt := 9) hx hb dX8_characteristic_4 (by decide) (fun c4 => ?_) (fun c4 => ?_)
  · have hf := if_f hf c4
    refine lv_aload_n hx hb dX8_characteristic_9 rfl (lv_at hl 0 rfl) ?_
    obtain ⟨u7, eu7, hf⟩ := ob_s hf
    obtain ⟨h6, eh6, hf⟩ := ob_s hf
    refine px_callVv (As := []) (rest := []) ⟨hx, hb, hml, hown, hts⟩ hC w (kX8_loadNumbers l D dA b0 ι N a0 h2 h6 eh6) (cwV 0 hts gX8_characteristic_X8_loadNumbers rfl rfl rfl (by decide +kernel) ⟨Nat.le_of_ble_eq_true rfl, Nat.le_of_ble_eq_true rfl⟩) eu7 rfl rfl hl.1 rfl (Nat.le_of_ble_eq_true rfl) dX8_characteristic_10 ⟨Nat.le_of_ble_eq_true rfl, Nat.le_of_ble_eq_true rfl⟩ (fun H locs w => ?_)
    refine lv_iload_n hx hb dX8_characteristic_13 rfl (lv_at hl 1 rfl) ?_
    refine lv_i2l hx hb dX8_characteristic_14 rfl ?_
    refine lv_lconst (v := 0) hx hb dX8_characteristic_15 (by decide) ?_
    refine lv_ldc2 (v := 12) hx hb hown (hts _ mX8_characteristic_117) dX8_characteristic_16 ?_
    obtain ⟨⟨v8, h9⟩, eh9, hf⟩ := ob_s hf
    dsimp only at hf
    refine px_callSi (As := [.long (a1.toInt64), .long (0 : Int64), .long (12 : Int64)]) (rest := []) ⟨hx, hb, hml, hown, hts⟩ hC w (kX8_in l D dA b0 ι N (a1.toInt64) (0 : Int64) (12 : Int64) h6 v8 h9 eh9) (va_cwS 3 hts gX8_characteristic_X8_in rfl rfl rfl (by decide +kernel) ⟨Nat.le_of_ble_eq_true rfl, Nat.le_of_ble_eq_true rfl⟩) rfl hl.1 rfl (Nat.le_of_ble_eq_true rfl) dX8_characteristic_19 ⟨Nat.le_of_ble_eq_true rfl, Nat.le_of_ble_eq_true rfl⟩ (fun H locs w => ?_)
    have hj40 : ∀ (t12 : Int32) (h11 : Hp) (H : Heap) (locs : List Loc) (ls : Array Slot), (some (t12, h11)) = some (r, h') → lv_has ls 2 [(0, .ref (ι a0)), (1, .int a1)] → WD D dA b0 ι h11 s.heap H locs → W p l e (headSpec wsX8_characteristic rmX8_characteristic).room s m ([.ref (ι a0), .int a1] : List Value).toArray below meth c H locs 0 0 (MQ below (QI D dA b0 ι r h') ([.ref (ι a0), .int a1] : List Value).toArray s 0 0 (qA b0)) (F0 m 40 ls [.int t12]) := by
      intro t12 h11 H locs ls hf hl w
      exact W.iret hx hb hr (qi_end hf w hC) w.locs_ok dX8_characteristic_40
    obtain ⟨j10, ej10, hf⟩ := jn_s hf
    refine lv_if_eq (tgt := 39) hx hb dX8_characteristic_22 (by decide) (fun c13 => ?_) (fun c13 => ?_)
    · have hf := if_t hf c13
      refine lv_iconst (v := (0 : Int32)) hx hb dX8_characteristic_39 (by decide) ?_
      exact hj40 (0 : Int32) h9 H locs ls (by rw [ej10] at hf; exact hf) (lv_sub hl [0, 1] rfl) w
    · have hf := if_f hf c13
      refine lv_aload_n hx hb dX8_characteristic_25 rfl (lv_at hl 0 rfl) ?_
      obtain ⟨v14, ev14, hf⟩ := ob_s hf
      refine px_getR hx hb hts nX8_characteristic_X8 hown hK w ev14 rfl (by decide) mX8_characteristic_20 rfl dX8_characteristic_26 ?_
      refine lv_aload_n hx hb dX8_characteristic_29 rfl (lv_at hl 0 rfl) ?_
      obtain ⟨u17, eu17, hf⟩ := ob_s hf
      obtain ⟨⟨v15, h16⟩, eh16, hf⟩ := ob_s hf
      dsimp only at hf
      refine px_callVi (As := []) (rest := [.ref (ι v14)]) ⟨hx, hb, hml, hown, hts⟩ hC w (kX8_whole l D dA b0 ι N a0 h9 v15 h16 eh16) (cwV 0 hts gX8_characteristic_X8_whole rfl rfl rfl (by decide +kernel) ⟨Nat.le_of_ble_eq_true rfl, Nat.le_of_ble_eq_true rfl⟩) eu17 rfl rfl hl.1 rfl (Nat.le_of_ble_eq_true rfl) dX8_characteristic_30 ⟨Nat.le_of_ble_eq_true rfl, Nat.le_of_ble_eq_true rfl⟩ (fun H locs w => ?_)
      refine lv_iload_n hx hb dX8_characteristic_33 rfl (lv_at hl 1 rfl) ?_
      refine lv_iadd hx hb dX8_characteristic_34 ?_
      obtain ⟨v18, ev18, hf⟩ := ob_s hf
      refine px_iald hx hb hK w ev18 dX8_characteristic_35 ?_
      refine lv_goto (tgt := 40) hx hb dX8_characteristic_36 (by decide) ?_
      exact hj40 v18 h16 H locs ls (by rw [ej10] at hf; exact hf) (lv_sub hl [0, 1] rfl) w
  · have hf := if_t hf c4
    refine lv_iconst (v := (0 : Int32)) hx hb dX8_characteristic_7 (by decide) ?_
    exact W.iret hx hb hr (qi_end hf w hC) w.locs_ok dX8_characteristic_8
theorem nX8_numberAt_X8 : ∀ w ∈ wsX80, w ∈ wsX8_numberAt := by decide +kernel
theorem mX8_numberAt_7 : Cond.fieldLink RX8 7 "NormalFormsModel" "entries" "[I" ∈ wsX8_numberAt := by decide +kernel
abbrev rmX8_numberAt : Room := { frames := 1, cells := 0, slots := 0, locals := 12 }
set_option maxHeartbeats 4000000 in
set_option maxRecDepth 100000 in
theorem kX8_numberAt (l : Launch) (D : va_G) (dA : Nat → ClassId) (b0 : Nat) (ι : Nat → Nat) (N : Nat) (a0 : Nat) (a1 : Int32) (a2 : Int32) (h : Hp) (r : Int32) (h' : Hp) (hf : fX8_numberAt N a0 a1 a2 h = some (r, h')) : Met l yX8_numberAt wsX8_numberAt rmX8_numberAt (PC D dA b0 ι [.ref (ι a0), .int a1, .int a2] h) (QI D dA b0 ι r h') 0 0 (qA b0) := by
  unfold fX8_numberAt at hf
  refine Met.ofW (cc := cX8_numberAt) (maxL := 3) (ret := (some .int)) (by decide +kernel) rfl ?_
  intro p e s m args below meth c s₁ B hml hv
  obtain ⟨rfl, w0⟩ := hv
  have hx := B.exec
  have hb := B.bytes
  have hr := B.returns
  have hts := atoms_spec (ws := wsX8_numberAt) B.pre
  have hown : s.vm.findClass RX8 = some m.cls := findClass_of_methodNamed B.named
  have hlocks := B.notSynchronized
  have hC := w0.c
  have hK := hC.1
  have w := WD.start w0
  clear w0
  have hl := lv_entry ([.ref (ι a0), .int a1, .int a2]) (n := 3) (Nat.le_of_ble_eq_true rfl)
  rw [lg_entry_eq]
  generalize (lg_sl ([.ref (ι a0), .int a1, .int a2]) ++ List.replicate (3 - (lg_sl ([.ref (ι a0), .int a1, .int a2])).length) Slot.unset).toArray = ls at hl ⊢
  have hl : lv_has ls 3 [(0, .ref (ι a0)), (1, .int a1), (2, .int a2)] := hl
  obtain ⟨H, hH⟩ : ∃ H : Heap, H = s.heap := ⟨_, rfl⟩
  obtain ⟨locs, hlo⟩ : ∃ locs : List Loc, locs = [] := ⟨_, rfl⟩
  rw [← hlo]
  have w : WD D dA b0 ι h s.heap H locs := by rw [hH, hlo]; exact w
  refine px_start hH ?_
  refine lv_aload_n hx hb dX8_numberAt_0 rfl (lv_at hl 0 rfl) ?_
  obtain ⟨v1, ev1, hf⟩ := ob_s hf
  refine px_getR hx hb hts nX8_numberAt_X8 hown hK w ev1 rfl (by decide) mX8_numberAt_7 rfl dX8_numberAt_1 ?_
  refine lv_bipush (v := (16 : Int32)) hx hb dX8_numberAt_4 (by decide) ?_
  refine lv_iload_n hx hb dX8_numberAt_6 rfl (lv_at hl 1 rfl) ?_
  refine lv_imul hx hb dX8_numberAt_7 ?_
  refine lv_iconst (v := (4 : Int32)) hx hb dX8_numberAt_8 (by decide) ?_
  refine lv_iload_n hx hb dX8_numberAt_9 rfl (lv_at hl 2 rfl) ?_
  refine lv_imul hx hb dX8_numberAt_10 ?_
  refine lv_iadd hx hb dX8_numberAt_11 ?_
  obtain ⟨v2, ev2, hf⟩ := ob_s hf
  refine px_iald hx hb hK w ev2 dX8_numberAt_12 ?_
  exact W.iret hx hb hr (qi_end hf w hC) w.locs_ok dX8_numberAt_13
theorem nX8_clearBy_X8 : ∀ w ∈ wsX80, w ∈ wsX8_clearBy := by decide +kernel
theorem mX8_clearBy_50 : Cond.fieldLink RX8 50 "NormalFormsModel" "row" "[I" ∈ wsX8_clearBy := by decide +kernel
theorem mX8_clearBy_53 : Cond.fieldLink RX8 53 "NormalFormsModel" "mine" "[I" ∈ wsX8_clearBy := by decide +kernel
theorem mX8_clearBy_47 : Cond.fieldLink RX8 47 "NormalFormsModel" "relation" "[I" ∈ wsX8_clearBy := by decide +kernel
theorem mX8_clearBy_56 : Cond.fieldLink RX8 56 "NormalFormsModel" "cleared" "[I" ∈ wsX8_clearBy := by decide +kernel
abbrev rmX8_clearBy : Room := { frames := 2, cells := 0, slots := 0, locals := 35 }
set_option maxHeartbeats 4000000 in
set_option maxRecDepth 100000 in
theorem kX8_clearBy (l : Launch) (D : va_G) (dA : Nat → ClassId) (b0 : Nat) (ι : Nat → Nat) (N : Nat) (a0 : Nat) (a1 : Int32) (h : Hp) (h' : Hp) (hf : fX8_clearBy N a0 a1 h = some h') : Met l yX8_clearBy wsX8_clearBy rmX8_clearBy (PC D dA b0 ι [.ref (ι a0), .int a1] h) (QV D dA b0 ι h') 0 0 (qA b0) := by
  unfold fX8_clearBy at hf
  refine Met.ofW (cc := cX8_clearBy) (maxL := 6) (ret := none) (by decide +kernel) rfl ?_
  intro p e s m args below meth c s₁ B hml hv
  obtain ⟨rfl, w0⟩ := hv
  have hx := B.exec
  have hb := B.bytes
  have hr := B.returns
  have hts := atoms_spec (ws := wsX8_clearBy) B.pre
  have hown : s.vm.findClass RX8 = some m.cls := findClass_of_methodNamed B.named
  have hlocks := B.notSynchronized
  have hC := w0.c
  have hK := hC.1
  have w := WD.start w0
  clear w0
  have hl := lv_entry ([.ref (ι a0), .int a1]) (n := 6) (Nat.le_of_ble_eq_true rfl)
  rw [lg_entry_eq]
  generalize (lg_sl ([.ref (ι a0), .int a1]) ++ List.replicate (6 - (lg_sl ([.ref (ι a0), .int a1])).length) Slot.unset).toArray = ls at hl ⊢
  have hl : lv_has ls 6 [(0, .ref (ι a0)), (1, .int a1)] := hl
  obtain ⟨H, hH⟩ : ∃ H : Heap, H = s.heap := ⟨_, rfl⟩
  obtain ⟨locs, hlo⟩ : ∃ locs : List Loc, locs = [] := ⟨_, rfl⟩
  rw [← hlo]
  have w : WD D dA b0 ι h s.heap H locs := by rw [hH, hlo]; exact w
  refine px_start hH ?_
  refine lv_iconst (v := (0 : Int32)) hx hb dX8_clearBy_0 (by decide) ?_
  refine lv_istore_n (lv' := [(2, .int (0 : Int32)), (0, .ref (ι a0)), (1, .int a1)]) hx hb dX8_clearBy_1 rfl hl (by decide) rfl (fun ls hl => ?_)
  have hx2 : ∀ (y1 : Int32) (h2 : Hp) (H : Heap) (locs : List Loc) (ls : Array Slot), ((gR h2 a0 10 16).bind fun v3 => (aI h2 v3 y1).bind fun v4 => nm (v4.toInt64) fun x5 => lX8_clearBy_33 N a0 a1 y1 x5 N (0 : Int32) h2 (fun y6 h7 => lX8_clearBy_83 N a0 a1 y1 x5 N (0 : Int32) h7 (fun y8 h9 => some h9))) = some h' → lv_has ls 6 [(0, .ref (ι a0)), (1, .int a1), (2, .int y1)] → WD D dA b0 ι h2 s.heap H locs → W p l e (headSpec wsX8_clearBy rmX8_clearBy).room s m ([.ref (ι a0), .int a1] : List Value).toArray below meth c H locs 0 0 (MQ below (QV D dA b0 ι h') ([.ref (ι a0), .int a1] : List Value).toArray s 0 0 (qA b0)) (F0 m 22 ls []) := by
    intro y1 h2 H locs ls hf hl w
    refine lv_aload_n hx hb dX8_clearBy_22 rfl (lv_at hl 0 rfl) ?_
    obtain ⟨v3, ev3, hf⟩ := ob_s hf
    refine px_getR hx hb hts nX8_clearBy_X8 hown hK w ev3 rfl (by decide) mX8_clearBy_50 rfl dX8_clearBy_23 ?_
    refine lv_iload_n hx hb dX8_clearBy_26 rfl (lv_at hl 2 rfl) ?_
    obtain ⟨v4, ev4, hf⟩ := ob_s hf
    refine px_iald hx hb hK w ev4 dX8_clearBy_27 ?_
    refine lv_i2l hx hb dX8_clearBy_28 rfl ?_
    obtain ⟨x5, ex5, hf⟩ := nm_s hf
    refine px_nmJ ex5 ?_
    refine lv_lstore_n (lv' := [(3, .long x5), (0, .ref (ι a0)), (1, .int a1), (2, .int y1)]) hx hb dX8_clearBy_29 rfl hl (by decide) rfl (fun ls hl => ?_)
    refine lv_iconst (v := (0 : Int32)) hx hb dX8_clearBy_30 (by decide) ?_
    refine lv_istore (lv' := [(5, .int (0 : Int32)), (3, .long x5), (0, .ref (ι a0)), (1, .int a1), (2, .int y1)]) hx hb dX8_clearBy_31 hl (by decide) rfl (fun ls hl => ?_)
    have hx33 : ∀ (y6 : Int32) (h7 : Hp) (H : Heap) (locs : List Loc) (ls : Array Slot), (lX8_clearBy_83 N a0 a1 y1 x5 N (0 : Int32) h7 (fun y8 h9 => some h9)) = some h' → lv_has ls 6 [(0, .ref (ι a0)), (1, .int a1), (2, .int y1), (3, .long x5), (5, .int y6)] → WD D dA b0 ι h7 s.heap H locs → W p l e (headSpec wsX8_clearBy rmX8_clearBy).room s m ([.ref (ι a0), .int a1] : List Value).toArray below meth c H locs 0 0 (MQ below (QV D dA b0 ι h') ([.ref (ι a0), .int a1] : List Value).toArray s 0 0 (qA b0)) (F0 m 80 ls []) := by
      intro y6 h7 H locs ls hf hl w
      refine lv_iconst (v := (0 : Int32)) hx hb dX8_clearBy_80 (by decide) ?_
      refine lv_istore (lv' := [(5, .int (0 : Int32)), (0, .ref (ι a0)), (1, .int a1), (2, .int y1), (3, .long x5)]) hx hb dX8_clearBy_81 hl (by decide) rfl (fun ls hl => ?_)
      have hx83 : ∀ (y8 : Int32) (h9 : Hp) (H : Heap) (locs : List Loc) (ls : Array Slot), (some h9) = some h' → lv_has ls 6 [(0, .ref (ι a0)), (1, .int a1), (2, .int y1), (3, .long x5), (5, .int y8)] → WD D dA b0 ι h9 s.heap H locs → W p l e (headSpec wsX8_clearBy rmX8_clearBy).room s m ([.ref (ι a0), .int a1] : List Value).toArray below meth c H locs 0 0 (MQ below (QV D dA b0 ι h') ([.ref (ι a0), .int a1] : List Value).toArray s 0 0 (qA b0)) (F0 m 128 ls []) := by
        intro y8 h9 H locs ls hf hl w
        exact W.vret hx hb hr (qv_end hf w hC) w.locs_ok dX8_clearBy_128
      obtain ⟨κ83, eκ83⟩ : ∃ k : Int32 → Hp → Option Hp, k = (fun y8 h9 => some h9) := ⟨_, rfl⟩
      have hlp83 : ∀ (n : Nat) (z23 : Int32) (h24 : Hp) (H : Heap) (locs : List Loc) (ls : Array Slot), lX8_clearBy_83 N a0 a1 y1 x5 n z23 h24 κ83 = some h' → lv_has ls 6 [(0, .ref (ι a0)), (1, .int a1), (2, .int y1), (3, .long x5), (5, .int z23)] → WD D dA b0 ι h24 s.heap H locs → W p l e (headSpec wsX8_clearBy rmX8_clearBy).room s m ([.ref (ι a0), .int a1] : List Value).toArray below meth c H locs 0 0 (MQ below (QV D dA b0 ι h') ([.ref (ι a0), .int a1] : List Value).toArray s 0 0 (qA b0)) (F0 m 83 ls []) := by
        intro n83
        induction n83 with
        | zero => intro z23 h24 H locs ls hf; exact absurd hf (by rw [lX8_clearBy_83]; exact fun q => nomatch q)
        | succ n83 ih83 =>
          intro z23 h24 H locs ls hf hl w
          rw [lX8_clearBy_83] at hf
          refine lv_iload hx hb dX8_clearBy_83 (lv_at hl 4 rfl) ?_
          refine lv_iconst (v := (5 : Int32)) hx hb dX8_clearBy_85 (by decide) ?_
          refine lv_icmp_ge (tgt := 128) hx hb dX8_clearBy_86 (by decide) (fun c25 => ?_) (fun c25 => ?_)
          · have hf := if_t hf c25
            exact hx83 z23 h24 H locs ls (by rw [eκ83] at hf; exact hf) (lv_sub hl [0, 1, 2, 3, 4] rfl) w
          · have hf := if_f hf c25
            refine lv_aload_n hx hb dX8_clearBy_89 rfl (lv_at hl 0 rfl) ?_
            obtain ⟨v26, ev26, hf⟩ := ob_s hf
            refine px_getR hx hb hts nX8_clearBy_X8 hown hK w ev26 rfl (by decide) mX8_clearBy_53 rfl dX8_clearBy_90 ?_
            refine lv_iload hx hb dX8_clearBy_93 (lv_at hl 4 rfl) ?_
            refine lv_aload_n hx hb dX8_clearBy_95 rfl (lv_at hl 0 rfl) ?_
            obtain ⟨v27, ev27, hf⟩ := ob_s hf
            refine px_getR hx hb hts nX8_clearBy_X8 hown hK w ev27 rfl (by decide) mX8_clearBy_53 rfl dX8_clearBy_96 ?_
            refine lv_iload hx hb dX8_clearBy_99 (lv_at hl 4 rfl) ?_
            obtain ⟨v28, ev28, hf⟩ := ob_s hf
            refine px_iald hx hb hK w ev28 dX8_clearBy_101 ?_
            refine lv_i2l hx hb dX8_clearBy_102 rfl ?_
            refine lv_lload_n hx hb dX8_clearBy_103 rfl (lv_at hl 3 rfl) ?_
            refine lv_aload_n hx hb dX8_clearBy_104 rfl (lv_at hl 0 rfl) ?_
            obtain ⟨v29, ev29, hf⟩ := ob_s hf
            refine px_getR hx hb hts nX8_clearBy_X8 hown hK w ev29 rfl (by decide) mX8_clearBy_47 rfl dX8_clearBy_105 ?_
            refine lv_iconst (v := (5 : Int32)) hx hb dX8_clearBy_108 (by decide) ?_
            refine lv_iload_n hx hb dX8_clearBy_109 rfl (lv_at hl 1 rfl) ?_
            refine lv_imul hx hb dX8_clearBy_110 ?_
            refine lv_iload hx hb dX8_clearBy_111 (lv_at hl 4 rfl) ?_
            refine lv_iadd hx hb dX8_clearBy_113 ?_
            obtain ⟨v30, ev30, hf⟩ := ob_s hf
            refine px_iald hx hb hK w ev30 dX8_clearBy_114 ?_
            refine lv_i2l hx hb dX8_clearBy_115 rfl ?_
            refine lv_lmul hx hb dX8_clearBy_116 ?_
            refine lv_lsub hx hb dX8_clearBy_117 ?_
            obtain ⟨⟨v31, h32⟩, eh32, hf⟩ := ob_s hf
            dsimp only at hf
            refine px_callSi (As := [.long ((v28.toInt64) - (x5 * (v30.toInt64)))]) (rest := [.int z23, .ref (ι v26)]) ⟨hx, hb, hml, hown, hts⟩ hC w (kX8_modulo l D dA b0 ι N ((v28.toInt64) - (x5 * (v30.toInt64))) h24 v31 h32 eh32) (va_cwS 1 hts gX8_clearBy_X8_modulo rfl rfl rfl (by decide +kernel) ⟨Nat.le_of_ble_eq_true rfl, Nat.le_of_ble_eq_true rfl⟩) rfl hl.1 rfl (Nat.le_of_ble_eq_true rfl) dX8_clearBy_118 ⟨Nat.le_of_ble_eq_true rfl, Nat.le_of_ble_eq_true rfl⟩ (fun H locs w => ?_)
            obtain ⟨h33, eh33, hf⟩ := ob_s hf
            refine px_iast hx hb hK w eh33 dX8_clearBy_121 (fun H locs w => ?_)
            obtain ⟨x34, ex34, hf⟩ := nm_s hf
            refine lv_iinc (v := x34) (lv' := [(5, .int x34), (0, .ref (ι a0)), (1, .int a1), (2, .int y1), (3, .long x5)]) hx hb dX8_clearBy_122 hl (k := 4) rfl (by rw [ex34]; rfl) (by decide) rfl (fun ls hl => ?_)
            refine lv_goto (tgt := 83) hx hb dX8_clearBy_125 (by decide) ?_
            exact ih83 x34 h33 H locs ls hf (lv_sub hl [1, 2, 3, 4, 0] rfl) w
      exact hlp83 N (0 : Int32) h7 H locs ls (by rw [eκ83]; exact hf) (lv_sub hl [1, 2, 3, 4, 0] rfl) w
    obtain ⟨κ33, eκ33⟩ : ∃ k : Int32 → Hp → Option Hp, k = (fun y6 h7 => lX8_clearBy_83 N a0 a1 y1 x5 N (0 : Int32) h7 (fun y8 h9 => some h9)) := ⟨_, rfl⟩
    have hlp33 : ∀ (n : Nat) (z48 : Int32) (h49 : Hp) (H : Heap) (locs : List Loc) (ls : Array Slot), lX8_clearBy_33 N a0 a1 y1 x5 n z48 h49 κ33 = some h' → lv_has ls 6 [(0, .ref (ι a0)), (1, .int a1), (2, .int y1), (3, .long x5), (5, .int z48)] → WD D dA b0 ι h49 s.heap H locs → W p l e (headSpec wsX8_clearBy rmX8_clearBy).room s m ([.ref (ι a0), .int a1] : List Value).toArray below meth c H locs 0 0 (MQ below (QV D dA b0 ι h') ([.ref (ι a0), .int a1] : List Value).toArray s 0 0 (qA b0)) (F0 m 33 ls []) := by
      intro n33
      induction n33 with
      | zero => intro z48 h49 H locs ls hf; exact absurd hf (by rw [lX8_clearBy_33]; exact fun q => nomatch q)
      | succ n33 ih33 =>
        intro z48 h49 H locs ls hf hl w
        rw [lX8_clearBy_33] at hf
        refine lv_iload hx hb dX8_clearBy_33 (lv_at hl 4 rfl) ?_
        refine lv_bipush (v := (16 : Int32)) hx hb dX8_clearBy_35 (by decide) ?_
        refine lv_icmp_ge (tgt := 80) hx hb dX8_clearBy_37 (by decide) (fun c50 => ?_) (fun c50 => ?_)
        · have hf := if_t hf c50
          exact hx33 z48 h49 H locs ls (by rw [eκ33] at hf; exact hf) (lv_sub hl [0, 1, 2, 3, 4] rfl) w
        · have hf := if_f hf c50
          refine lv_aload_n hx hb dX8_clearBy_40 rfl (lv_at hl 0 rfl) ?_
          obtain ⟨v51, ev51, hf⟩ := ob_s hf
          refine px_getR hx hb hts nX8_clearBy_X8 hown hK w ev51 rfl (by decide) mX8_clearBy_50 rfl dX8_clearBy_41 ?_
          refine lv_iload hx hb dX8_clearBy_44 (lv_at hl 4 rfl) ?_
          refine lv_aload_n hx hb dX8_clearBy_46 rfl (lv_at hl 0 rfl) ?_
          obtain ⟨v52, ev52, hf⟩ := ob_s hf
          refine px_getR hx hb hts nX8_clearBy_X8 hown hK w ev52 rfl (by decide) mX8_clearBy_50 rfl dX8_clearBy_47 ?_
          refine lv_iload hx hb dX8_clearBy_50 (lv_at hl 4 rfl) ?_
          obtain ⟨v53, ev53, hf⟩ := ob_s hf
          refine px_iald hx hb hK w ev53 dX8_clearBy_52 ?_
          refine lv_i2l hx hb dX8_clearBy_53 rfl ?_
          refine lv_lload_n hx hb dX8_clearBy_54 rfl (lv_at hl 3 rfl) ?_
          refine lv_aload_n hx hb dX8_clearBy_55 rfl (lv_at hl 0 rfl) ?_
          obtain ⟨v54, ev54, hf⟩ := ob_s hf
          refine px_getR hx hb hts nX8_clearBy_X8 hown hK w ev54 rfl (by decide) mX8_clearBy_56 rfl dX8_clearBy_56 ?_
          refine lv_bipush (v := (16 : Int32)) hx hb dX8_clearBy_59 (by decide) ?_
          refine lv_iload_n hx hb dX8_clearBy_61 rfl (lv_at hl 1 rfl) ?_
          refine lv_imul hx hb dX8_clearBy_62 ?_
          refine lv_iload hx hb dX8_clearBy_63 (lv_at hl 4 rfl) ?_
          refine lv_iadd hx hb dX8_clearBy_65 ?_
          obtain ⟨v55, ev55, hf⟩ := ob_s hf
          refine px_iald hx hb hK w ev55 dX8_clearBy_66 ?_
          refine lv_i2l hx hb dX8_clearBy_67 rfl ?_
          refine lv_lmul hx hb dX8_clearBy_68 ?_
          refine lv_lsub hx hb dX8_clearBy_69 ?_
          obtain ⟨⟨v56, h57⟩, eh57, hf⟩ := ob_s hf
          dsimp only at hf
          refine px_callSi (As := [.long ((v53.toInt64) - (x5 * (v55.toInt64)))]) (rest := [.int z48, .ref (ι v51)]) ⟨hx, hb, hml, hown, hts⟩ hC w (kX8_modulo l D dA b0 ι N ((v53.toInt64) - (x5 * (v55.toInt64))) h49 v56 h57 eh57) (va_cwS 1 hts gX8_clearBy_X8_modulo rfl rfl rfl (by decide +kernel) ⟨Nat.le_of_ble_eq_true rfl, Nat.le_of_ble_eq_true rfl⟩) rfl hl.1 rfl (Nat.le_of_ble_eq_true rfl) dX8_clearBy_70 ⟨Nat.le_of_ble_eq_true rfl, Nat.le_of_ble_eq_true rfl⟩ (fun H locs w => ?_)
          obtain ⟨h58, eh58, hf⟩ := ob_s hf
          refine px_iast hx hb hK w eh58 dX8_clearBy_73 (fun H locs w => ?_)
          obtain ⟨x59, ex59, hf⟩ := nm_s hf
          refine lv_iinc (v := x59) (lv' := [(5, .int x59), (0, .ref (ι a0)), (1, .int a1), (2, .int y1), (3, .long x5)]) hx hb dX8_clearBy_74 hl (k := 4) rfl (by rw [ex59]; rfl) (by decide) rfl (fun ls hl => ?_)
          refine lv_goto (tgt := 33) hx hb dX8_clearBy_77 (by decide) ?_
          exact ih33 x59 h58 H locs ls hf (lv_sub hl [1, 2, 3, 4, 0] rfl) w
    exact hlp33 N (0 : Int32) h2 H locs ls (by rw [eκ33]; exact hf) (lv_sub hl [2, 3, 4, 1, 0] rfl) w
  obtain ⟨κ2, eκ2⟩ : ∃ k : Int32 → Hp → Option Hp, k = (fun y1 h2 => (gR h2 a0 10 16).bind fun v3 => (aI h2 v3 y1).bind fun v4 => nm (v4.toInt64) fun x5 => lX8_clearBy_33 N a0 a1 y1 x5 N (0 : Int32) h2 (fun y6 h7 => lX8_clearBy_83 N a0 a1 y1 x5 N (0 : Int32) h7 (fun y8 h9 => some h9))) := ⟨_, rfl⟩
  have hlp2 : ∀ (n : Nat) (z67 : Int32) (h68 : Hp) (H : Heap) (locs : List Loc) (ls : Array Slot), lX8_clearBy_2 N a0 a1 n z67 h68 κ2 = some h' → lv_has ls 6 [(0, .ref (ι a0)), (1, .int a1), (2, .int z67)] → WD D dA b0 ι h68 s.heap H locs → W p l e (headSpec wsX8_clearBy rmX8_clearBy).room s m ([.ref (ι a0), .int a1] : List Value).toArray below meth c H locs 0 0 (MQ below (QV D dA b0 ι h') ([.ref (ι a0), .int a1] : List Value).toArray s 0 0 (qA b0)) (F0 m 2 ls []) := by
    intro n2
    induction n2 with
    | zero => intro z67 h68 H locs ls hf; exact absurd hf (by rw [lX8_clearBy_2]; exact fun q => nomatch q)
    | succ n2 ih2 =>
      intro z67 h68 H locs ls hf hl w
      rw [lX8_clearBy_2] at hf
      refine lv_aload_n hx hb dX8_clearBy_2 rfl (lv_at hl 0 rfl) ?_
      obtain ⟨v69, ev69, hf⟩ := ob_s hf
      refine px_getR hx hb hts nX8_clearBy_X8 hown hK w ev69 rfl (by decide) mX8_clearBy_56 rfl dX8_clearBy_3 ?_
      refine lv_bipush (v := (16 : Int32)) hx hb dX8_clearBy_6 (by decide) ?_
      refine lv_iload_n hx hb dX8_clearBy_8 rfl (lv_at hl 1 rfl) ?_
      refine lv_imul hx hb dX8_clearBy_9 ?_
      refine lv_iload_n hx hb dX8_clearBy_10 rfl (lv_at hl 2 rfl) ?_
      refine lv_iadd hx hb dX8_clearBy_11 ?_
      obtain ⟨v70, ev70, hf⟩ := ob_s hf
      refine px_iald hx hb hK w ev70 dX8_clearBy_12 ?_
      refine lv_if_ne (tgt := 22) hx hb dX8_clearBy_13 (by decide) (fun c71 => ?_) (fun c71 => ?_)
      · have hf := if_f hf c71
        exact hx2 z67 h68 H locs ls (by rw [eκ2] at hf; exact hf) (lv_sub hl [0, 1, 2] rfl) w
      · have hf := if_t hf c71
        obtain ⟨x72, ex72, hf⟩ := nm_s hf
        refine lv_iinc (v := x72) (lv' := [(2, .int x72), (0, .ref (ι a0)), (1, .int a1)]) hx hb dX8_clearBy_16 hl (k := 2) rfl (by rw [ex72]; rfl) (by decide) rfl (fun ls hl => ?_)
        refine lv_goto (tgt := 2) hx hb dX8_clearBy_19 (by decide) ?_
        exact ih2 x72 h68 H locs ls hf (lv_sub hl [1, 2, 0] rfl) w
  exact hlp2 N (0 : Int32) h H locs ls (by rw [eκ2]; exact hf) (lv_sub hl [1, 2, 0] rfl) w
theorem nX8_timesNumbers_X8 : ∀ w ∈ wsX80, w ∈ wsX8_timesNumbers := by decide +kernel
theorem mX8_timesNumbers_71 : Cond.fieldLink RX8 71 "NormalFormsModel" "rows" "I" ∈ wsX8_timesNumbers := by decide +kernel
theorem mX8_timesNumbers_44 : Cond.fieldLink RX8 44 "NormalFormsModel" "powers" "[I" ∈ wsX8_timesNumbers := by decide +kernel
theorem mX8_timesNumbers_69 : Cond.constantLong RX8 69 (32003) ∈ wsX8_timesNumbers := by decide +kernel
abbrev rmX8_timesNumbers : Room := { frames := 2, cells := 0, slots := 0, locals := 34 }
set_option maxHeartbeats 4000000 in
set_option maxRecDepth 100000 in
theorem kX8_timesNumbers (l : Launch) (D : va_G) (dA : Nat → ClassId) (b0 : Nat) (ι : Nat → Nat) (N : Nat) (a0 : Nat) (a1 : Int32) (a2 : Int32) (a3 : Int32) (h : Hp) (r : Int32) (h' : Hp) (hf : fX8_timesNumbers N a0 a1 a2 a3 h = some (r, h')) : Met l yX8_timesNumbers wsX8_timesNumbers rmX8_timesNumbers (PC D dA b0 ι [.ref (ι a0), .int a1, .int a2, .int a3] h) (QI D dA b0 ι r h') 0 0 (qA b0) := by
  unfold fX8_timesNumbers at hf
  refine Met.ofW (cc := cX8_timesNumbers) (maxL := 7) (ret := (some .int)) (by decide +kernel) rfl ?_
  intro p e s m args below meth c s₁ B hml hv
  obtain ⟨rfl, w0⟩ := hv
  have hx := B.exec
  have hb := B.bytes
  have hr := B.returns
  have hts := atoms_spec (ws := wsX8_timesNumbers) B.pre
  have hown : s.vm.findClass RX8 = some m.cls := findClass_of_methodNamed B.named
  have hlocks := B.notSynchronized
  have hC := w0.c
  have hK := hC.1
  have w := WD.start w0
  clear w0
  have hl := lv_entry ([.ref (ι a0), .int a1, .int a2, .int a3]) (n := 7) (Nat.le_of_ble_eq_true rfl)
  rw [lg_entry_eq]
  generalize (lg_sl ([.ref (ι a0), .int a1, .int a2, .int a3]) ++ List.replicate (7 - (lg_sl ([.ref (ι a0), .int a1, .int a2, .int a3])).length) Slot.unset).toArray = ls at hl ⊢
  have hl : lv_has ls 7 [(0, .ref (ι a0)), (1, .int a1), (2, .int a2), (3, .int a3)] := hl
  obtain ⟨H, hH⟩ : ∃ H : Heap, H = s.heap := ⟨_, rfl⟩
  obtain ⟨locs, hlo⟩ : ∃ locs : List Loc, locs = [] := ⟨_, rfl⟩
  rw [← hlo]
  have w : WD D dA b0 ι h s.heap H locs := by rw [hH, hlo]; exact w
  refine px_start hH ?_
  refine lv_lconst (v := 0) hx hb dX8_timesNumbers_0 (by decide) ?_
  refine lv_lstore (lv' := [(4, .long (0 : Int64)), (0, .ref (ι a0)), (1, .int a1), (2, .int a2), (3, .int a3)]) hx hb dX8_timesNumbers_1 hl (by decide) rfl (fun ls hl => ?_)
  refine lv_iconst (v := (0 : Int32)) hx hb dX8_timesNumbers_3 (by decide) ?_
  refine lv_istore (lv' := [(6, .int (0 : Int32)), (4, .long (0 : Int64)), (0, .ref (ι a0)), (1, .int a1), (2, .int a2), (3, .int a3)]) hx hb dX8_timesNumbers_4 hl (by decide) rfl (fun ls hl => ?_)
  have hx6 : ∀ (y1 : Int64) (y2 : Int32) (h3 : Hp) (H : Heap) (locs : List Loc) (ls : Array Slot), (some (y1.toInt32, h3)) = some (r, h') → lv_has ls 7 [(0, .ref (ι a0)), (1, .int a1), (2, .int a2), (3, .int a3), (4, .long y1), (6, .int y2)] → WD D dA b0 ι h3 s.heap H locs → W p l e (headSpec wsX8_timesNumbers rmX8_timesNumbers).room s m ([.ref (ι a0), .int a1, .int a2, .int a3] : List Value).toArray below meth c H locs 0 0 (MQ below (QI D dA b0 ι r h') ([.ref (ι a0), .int a1, .int a2, .int a3] : List Value).toArray s 0 0 (qA b0)) (F0 m 72 ls []) := by
    intro y1 y2 h3 H locs ls hf hl w
    refine lv_lload hx hb dX8_timesNumbers_72 (lv_at hl 4 rfl) ?_
    refine lv_l2i hx hb dX8_timesNumbers_74 rfl ?_
    exact W.iret hx hb hr (qi_end hf w hC) w.locs_ok dX8_timesNumbers_75
  obtain ⟨κ6, eκ6⟩ : ∃ k : Int64 → Int32 → Hp → Option (Int32 × Hp), k = (fun y1 y2 h3 => some (y1.toInt32, h3)) := ⟨_, rfl⟩
  have hlp6 : ∀ (n : Nat) (z21 : Int64) (z22 : Int32) (h23 : Hp) (H : Heap) (locs : List Loc) (ls : Array Slot), lX8_timesNumbers_6 N a0 a1 a2 a3 n z21 z22 h23 κ6 = some (r, h') → lv_has ls 7 [(0, .ref (ι a0)), (1, .int a1), (2, .int a2), (3, .int a3), (4, .long z21), (6, .int z22)] → WD D dA b0 ι h23 s.heap H locs → W p l e (headSpec wsX8_timesNumbers rmX8_timesNumbers).room s m ([.ref (ι a0), .int a1, .int a2, .int a3] : List Value).toArray below meth c H locs 0 0 (MQ below (QI D dA b0 ι r h') ([.ref (ι a0), .int a1, .int a2, .int a3] : List Value).toArray s 0 0 (qA b0)) (F0 m 6 ls []) := by
    intro n6
    induction n6 with
    | zero => intro z21 z22 h23 H locs ls hf; exact absurd hf (by rw [lX8_timesNumbers_6]; exact fun q => nomatch q)
    | succ n6 ih6 =>
      intro z21 z22 h23 H locs ls hf hl w
      rw [lX8_timesNumbers_6] at hf
      refine lv_iload hx hb dX8_timesNumbers_6 (lv_at hl 5 rfl) ?_
      refine lv_aload_n hx hb dX8_timesNumbers_8 rfl (lv_at hl 0 rfl) ?_
      obtain ⟨v24, ev24, hf⟩ := ob_s hf
      refine px_getI hx hb hts nX8_timesNumbers_X8 hown hK w ev24 rfl (by decide) mX8_timesNumbers_71 rfl dX8_timesNumbers_9 ?_
      refine lv_icmp_ge (tgt := 72) hx hb dX8_timesNumbers_12 (by decide) (fun c25 => ?_) (fun c25 => ?_)
      · have hf := if_t hf c25
        exact hx6 z21 z22 h23 H locs ls (by rw [eκ6] at hf; exact hf) (lv_sub hl [0, 1, 2, 3, 4, 5] rfl) w
      · have hf := if_f hf c25
        refine lv_iload_n hx hb dX8_timesNumbers_15 rfl (lv_at hl 2 rfl) ?_
        refine lv_aload_n hx hb dX8_timesNumbers_16 rfl (lv_at hl 0 rfl) ?_
        obtain ⟨v26, ev26, hf⟩ := ob_s hf
        refine px_getI hx hb hts nX8_timesNumbers_X8 hown hK w ev26 rfl (by decide) mX8_timesNumbers_71 rfl dX8_timesNumbers_17 ?_
        refine lv_icmp_ge (tgt := 72) hx hb dX8_timesNumbers_20 (by decide) (fun c27 => ?_) (fun c27 => ?_)
        · have hf := if_t hf c27
          exact hx6 z21 z22 h23 H locs ls (by rw [eκ6] at hf; exact hf) (lv_sub hl [0, 1, 2, 3, 4, 5] rfl) w
        · have hf := if_f hf c27
          refine lv_iload_n hx hb dX8_timesNumbers_23 rfl (lv_at hl 3 rfl) ?_
          refine lv_aload_n hx hb dX8_timesNumbers_24 rfl (lv_at hl 0 rfl) ?_
          obtain ⟨v28, ev28, hf⟩ := ob_s hf
          refine px_getI hx hb hts nX8_timesNumbers_X8 hown hK w ev28 rfl (by decide) mX8_timesNumbers_71 rfl dX8_timesNumbers_25 ?_
          refine lv_icmp_ge (tgt := 72) hx hb dX8_timesNumbers_28 (by decide) (fun c29 => ?_) (fun c29 => ?_)
          · have hf := if_t hf c29
            exact hx6 z21 z22 h23 H locs ls (by rw [eκ6] at hf; exact hf) (lv_sub hl [0, 1, 2, 3, 4, 5] rfl) w
          · have hf := if_f hf c29
            refine lv_lload hx hb dX8_timesNumbers_31 (lv_at hl 4 rfl) ?_
            refine lv_aload_n hx hb dX8_timesNumbers_33 rfl (lv_at hl 0 rfl) ?_
            obtain ⟨v30, ev30, hf⟩ := ob_s hf
            refine px_getR hx hb hts nX8_timesNumbers_X8 hown hK w ev30 rfl (by decide) mX8_timesNumbers_44 rfl dX8_timesNumbers_34 ?_
            refine lv_bipush (v := (16 : Int32)) hx hb dX8_timesNumbers_37 (by decide) ?_
            refine lv_iload_n hx hb dX8_timesNumbers_39 rfl (lv_at hl 1 rfl) ?_
            refine lv_imul hx hb dX8_timesNumbers_40 ?_
            refine lv_iconst (v := (4 : Int32)) hx hb dX8_timesNumbers_41 (by decide) ?_
            refine lv_iload_n hx hb dX8_timesNumbers_42 rfl (lv_at hl 2 rfl) ?_
            refine lv_imul hx hb dX8_timesNumbers_43 ?_
            refine lv_iadd hx hb dX8_timesNumbers_44 ?_
            refine lv_iload hx hb dX8_timesNumbers_45 (lv_at hl 5 rfl) ?_
            refine lv_iadd hx hb dX8_timesNumbers_47 ?_
            obtain ⟨v31, ev31, hf⟩ := ob_s hf
            refine px_iald hx hb hK w ev31 dX8_timesNumbers_48 ?_
            refine lv_i2l hx hb dX8_timesNumbers_49 rfl ?_
            refine lv_aload_n hx hb dX8_timesNumbers_50 rfl (lv_at hl 0 rfl) ?_
            refine lv_iload hx hb dX8_timesNumbers_51 (lv_at hl 5 rfl) ?_
            refine lv_iload_n hx hb dX8_timesNumbers_53 rfl (lv_at hl 3 rfl) ?_
            obtain ⟨u34, eu34, hf⟩ := ob_s hf
            obtain ⟨⟨v32, h33⟩, eh33, hf⟩ := ob_s hf
            dsimp only at hf
            refine px_callVi (As := [.int z22, .int a3]) (rest := [.long (v31.toInt64), .long z21]) ⟨hx, hb, hml, hown, hts⟩ hC w (kX8_numberAt l D dA b0 ι N a0 z22 a3 h23 v32 h33 eh33) (cwV 2 hts gX8_timesNumbers_X8_numberAt rfl rfl rfl (by decide +kernel) ⟨Nat.le_of_ble_eq_true rfl, Nat.le_of_ble_eq_true rfl⟩) eu34 rfl rfl hl.1 rfl (Nat.le_of_ble_eq_true rfl) dX8_timesNumbers_54 ⟨Nat.le_of_ble_eq_true rfl, Nat.le_of_ble_eq_true rfl⟩ (fun H locs w => ?_)
            refine lv_i2l hx hb dX8_timesNumbers_57 rfl ?_
            refine lv_lmul hx hb dX8_timesNumbers_58 ?_
            refine lv_ladd hx hb dX8_timesNumbers_59 ?_
            refine lv_ldc2 (v := 32003) hx hb hown (hts _ mX8_timesNumbers_69) dX8_timesNumbers_60 ?_
            refine px_lrem hx hb dX8_timesNumbers_63 (by decide) ?_
            obtain ⟨x35, ex35, hf⟩ := nm_s hf
            refine px_nmJ ex35 ?_
            refine lv_lstore (lv' := [(4, .long x35), (0, .ref (ι a0)), (1, .int a1), (2, .int a2), (3, .int a3), (6, .int z22)]) hx hb dX8_timesNumbers_64 hl (by decide) rfl (fun ls hl => ?_)
            obtain ⟨x36, ex36, hf⟩ := nm_s hf
            refine lv_iinc (v := x36) (lv' := [(6, .int x36), (4, .long x35), (0, .ref (ι a0)), (1, .int a1), (2, .int a2), (3, .int a3)]) hx hb dX8_timesNumbers_66 hl (k := 5) rfl (by rw [ex36]; rfl) (by decide) rfl (fun ls hl => ?_)
            refine lv_goto (tgt := 6) hx hb dX8_timesNumbers_69 (by decide) ?_
            exact ih6 x35 x36 h33 H locs ls hf (lv_sub hl [2, 3, 4, 5, 1, 0] rfl) w
  exact hlp6 N (0 : Int64) (0 : Int32) h H locs ls (by rw [eκ6]; exact hf) (lv_sub hl [2, 3, 4, 5, 1, 0] rfl) w
theorem nX8_findLeast_X8 : ∀ w ∈ wsX80, w ∈ wsX8_findLeast := by decide +kernel
theorem mX8_findLeast_50 : Cond.fieldLink RX8 50 "NormalFormsModel" "row" "[I" ∈ wsX8_findLeast := by decide +kernel
theorem mX8_findLeast_47 : Cond.fieldLink RX8 47 "NormalFormsModel" "relation" "[I" ∈ wsX8_findLeast := by decide +kernel
theorem mX8_findLeast_53 : Cond.fieldLink RX8 53 "NormalFormsModel" "mine" "[I" ∈ wsX8_findLeast := by decide +kernel
theorem mX8_findLeast_69 : Cond.constantLong RX8 69 (32003) ∈ wsX8_findLeast := by decide +kernel
theorem mX8_findLeast_56 : Cond.fieldLink RX8 56 "NormalFormsModel" "cleared" "[I" ∈ wsX8_findLeast := by decide +kernel
theorem mX8_findLeast_44 : Cond.fieldLink RX8 44 "NormalFormsModel" "powers" "[I" ∈ wsX8_findLeast := by decide +kernel
theorem mX8_findLeast_71 : Cond.fieldLink RX8 71 "NormalFormsModel" "rows" "I" ∈ wsX8_findLeast := by decide +kernel
abbrev rmX8_findLeast : Room := { frames := 3, cells := 0, slots := 0, locals := 60 }
set_option maxHeartbeats 4000000 in
set_option maxRecDepth 100000 in
theorem kX8_findLeast (l : Launch) (D : va_G) (dA : Nat → ClassId) (b0 : Nat) (ι : Nat → Nat) (N : Nat) (a0 : Nat) (h : Hp) (r : Int32) (h' : Hp) (hf : fX8_findLeast N a0 h = some (r, h')) : Met l yX8_findLeast wsX8_findLeast rmX8_findLeast (PC D dA b0 ι [.ref (ι a0)] h) (QI D dA b0 ι r h') 0 0 (qA b0) := by
  unfold fX8_findLeast at hf
  refine Met.ofW (cc := cX8_findLeast) (maxL := 6) (ret := (some .int)) (by decide +kernel) rfl ?_
  intro p e s m args below meth c s₁ B hml hv
  obtain ⟨rfl, w0⟩ := hv
  have hx := B.exec
  have hb := B.bytes
  have hr := B.returns
  have hts := atoms_spec (ws := wsX8_findLeast) B.pre
  have hown : s.vm.findClass RX8 = some m.cls := findClass_of_methodNamed B.named
  have hlocks := B.notSynchronized
  have hC := w0.c
  have hK := hC.1
  have w := WD.start w0
  clear w0
  have hl := lv_entry ([.ref (ι a0)]) (n := 6) (Nat.le_of_ble_eq_true rfl)
  rw [lg_entry_eq]
  generalize (lg_sl ([.ref (ι a0)]) ++ List.replicate (6 - (lg_sl ([.ref (ι a0)])).length) Slot.unset).toArray = ls at hl ⊢
  have hl : lv_has ls 6 [(0, .ref (ι a0))] := hl
  obtain ⟨H, hH⟩ : ∃ H : Heap, H = s.heap := ⟨_, rfl⟩
  obtain ⟨locs, hlo⟩ : ∃ locs : List Loc, locs = [] := ⟨_, rfl⟩
  rw [← hlo]
  have w : WD D dA b0 ι h s.heap H locs := by rw [hH, hlo]; exact w
  refine px_start hH ?_
  refine lv_iconst (v := (0 : Int32)) hx hb dX8_findLeast_0 (by decide) ?_
  refine lv_istore_n (lv' := [(1, .int (0 : Int32)), (0, .ref (ι a0))]) hx hb dX8_findLeast_1 rfl hl (by decide) rfl (fun ls hl => ?_)
  obtain ⟨κ2, eκ2⟩ : ∃ k : Int32 → Hp → Option (Int32 × Hp), k = (fun y1 h2 => none) := ⟨_, rfl⟩
  have hlp2 : ∀ (n : Nat) (z166 : Int32) (h167 : Hp) (H : Heap) (locs : List Loc) (ls : Array Slot), lX8_findLeast_2 N a0 n z166 h167 κ2 = some (r, h') → lv_has ls 6 [(0, .ref (ι a0)), (1, .int z166)] → WD D dA b0 ι h167 s.heap H locs → W p l e (headSpec wsX8_findLeast rmX8_findLeast).room s m ([.ref (ι a0)] : List Value).toArray below meth c H locs 0 0 (MQ below (QI D dA b0 ι r h') ([.ref (ι a0)] : List Value).toArray s 0 0 (qA b0)) (F0 m 2 ls []) := by
    intro n2
    induction n2 with
    | zero => intro z166 h167 H locs ls hf; exact absurd hf (by rw [lX8_findLeast_2]; exact fun q => nomatch q)
    | succ n2 ih2 =>
      intro z166 h167 H locs ls hf hl w
      rw [lX8_findLeast_2] at hf
      refine lv_iconst (v := (0 : Int32)) hx hb dX8_findLeast_2 (by decide) ?_
      refine lv_istore_n (lv' := [(2, .int (0 : Int32)), (0, .ref (ι a0)), (1, .int z166)]) hx hb dX8_findLeast_3 rfl hl (by decide) rfl (fun ls hl => ?_)
      have hx4 : ∀ (y168 : Int32) (h169 : Hp) (H : Heap) (locs : List Loc) (ls : Array Slot), (lX8_findLeast_68 N a0 z166 N (0 : Int32) h169 (fun y170 h171 => lX8_findLeast_99 N a0 z166 N (0 : Int32) h171 (fun y172 h173 => lX8_findLeast_128 N a0 z166 N (0 : Int32) h173 (fun y174 h175 => lX8_findLeast_146 N a0 z166 N (0 : Int32) h175 (fun y176 h177 => if y176 = (16 : Int32) then some (z166, h177) else (gR h177 a0 10 16).bind fun v179 => (aI h177 v179 y176).bind fun v180 => (fX8_inverse N v180 h177).bind fun (v181, h182) => nm (v181.toInt64) fun x183 => lX8_findLeast_189 N a0 z166 y176 x183 N (0 : Int32) h182 (fun y184 h185 => lX8_findLeast_232 N a0 z166 y176 x183 N (0 : Int32) h185 (fun y186 h187 => nm (z166 + (1 : Int32)) fun x188 => lX8_findLeast_2 N a0 n2 x188 h187 κ2))))))) = some (r, h') → lv_has ls 6 [(0, .ref (ι a0)), (1, .int z166), (2, .int y168)] → WD D dA b0 ι h169 s.heap H locs → W p l e (headSpec wsX8_findLeast rmX8_findLeast).room s m ([.ref (ι a0)] : List Value).toArray below meth c H locs 0 0 (MQ below (QI D dA b0 ι r h') ([.ref (ι a0)] : List Value).toArray s 0 0 (qA b0)) (F0 m 66 ls []) := by
        intro y168 h169 H locs ls hf hl w
        refine lv_iconst (v := (0 : Int32)) hx hb dX8_findLeast_66 (by decide) ?_
        refine lv_istore_n (lv' := [(2, .int (0 : Int32)), (0, .ref (ι a0)), (1, .int z166)]) hx hb dX8_findLeast_67 rfl hl (by decide) rfl (fun ls hl => ?_)
        have hx68 : ∀ (y170 : Int32) (h171 : Hp) (H : Heap) (locs : List Loc) (ls : Array Slot), (lX8_findLeast_99 N a0 z166 N (0 : Int32) h171 (fun y172 h173 => lX8_findLeast_128 N a0 z166 N (0 : Int32) h173 (fun y174 h175 => lX8_findLeast_146 N a0 z166 N (0 : Int32) h175 (fun y176 h177 => if y176 = (16 : Int32) then some (z166, h177) else (gR h177 a0 10 16).bind fun v179 => (aI h177 v179 y176).bind fun v180 => (fX8_inverse N v180 h177).bind fun (v181, h182) => nm (v181.toInt64) fun x183 => lX8_findLeast_189 N a0 z166 y176 x183 N (0 : Int32) h182 (fun y184 h185 => lX8_findLeast_232 N a0 z166 y176 x183 N (0 : Int32) h185 (fun y186 h187 => nm (z166 + (1 : Int32)) fun x188 => lX8_findLeast_2 N a0 n2 x188 h187 κ2)))))) = some (r, h') → lv_has ls 6 [(0, .ref (ι a0)), (1, .int z166), (2, .int y170)] → WD D dA b0 ι h171 s.heap H locs → W p l e (headSpec wsX8_findLeast rmX8_findLeast).room s m ([.ref (ι a0)] : List Value).toArray below meth c H locs 0 0 (MQ below (QI D dA b0 ι r h') ([.ref (ι a0)] : List Value).toArray s 0 0 (qA b0)) (F0 m 97 ls []) := by
          intro y170 h171 H locs ls hf hl w
          refine lv_iconst (v := (0 : Int32)) hx hb dX8_findLeast_97 (by decide) ?_
          refine lv_istore_n (lv' := [(2, .int (0 : Int32)), (0, .ref (ι a0)), (1, .int z166)]) hx hb dX8_findLeast_98 rfl hl (by decide) rfl (fun ls hl => ?_)
          have hx99 : ∀ (y172 : Int32) (h173 : Hp) (H : Heap) (locs : List Loc) (ls : Array Slot), (lX8_findLeast_128 N a0 z166 N (0 : Int32) h173 (fun y174 h175 => lX8_findLeast_146 N a0 z166 N (0 : Int32) h175 (fun y176 h177 => if y176 = (16 : Int32) then some (z166, h177) else (gR h177 a0 10 16).bind fun v179 => (aI h177 v179 y176).bind fun v180 => (fX8_inverse N v180 h177).bind fun (v181, h182) => nm (v181.toInt64) fun x183 => lX8_findLeast_189 N a0 z166 y176 x183 N (0 : Int32) h182 (fun y184 h185 => lX8_findLeast_232 N a0 z166 y176 x183 N (0 : Int32) h185 (fun y186 h187 => nm (z166 + (1 : Int32)) fun x188 => lX8_findLeast_2 N a0 n2 x188 h187 κ2))))) = some (r, h') → lv_has ls 6 [(0, .ref (ι a0)), (1, .int z166), (2, .int y172)] → WD D dA b0 ι h173 s.heap H locs → W p l e (headSpec wsX8_findLeast rmX8_findLeast).room s m ([.ref (ι a0)] : List Value).toArray below meth c H locs 0 0 (MQ below (QI D dA b0 ι r h') ([.ref (ι a0)] : List Value).toArray s 0 0 (qA b0)) (F0 m 126 ls []) := by
            intro y172 h173 H locs ls hf hl w
            refine lv_iconst (v := (0 : Int32)) hx hb dX8_findLeast_126 (by decide) ?_
            refine lv_istore_n (lv' := [(2, .int (0 : Int32)), (0, .ref (ι a0)), (1, .int z166)]) hx hb dX8_findLeast_127 rfl hl (by decide) rfl (fun ls hl => ?_)
            have hx128 : ∀ (y174 : Int32) (h175 : Hp) (H : Heap) (locs : List Loc) (ls : Array Slot), (lX8_findLeast_146 N a0 z166 N (0 : Int32) h175 (fun y176 h177 => if y176 = (16 : Int32) then some (z166, h177) else (gR h177 a0 10 16).bind fun v179 => (aI h177 v179 y176).bind fun v180 => (fX8_inverse N v180 h177).bind fun (v181, h182) => nm (v181.toInt64) fun x183 => lX8_findLeast_189 N a0 z166 y176 x183 N (0 : Int32) h182 (fun y184 h185 => lX8_findLeast_232 N a0 z166 y176 x183 N (0 : Int32) h185 (fun y186 h187 => nm (z166 + (1 : Int32)) fun x188 => lX8_findLeast_2 N a0 n2 x188 h187 κ2)))) = some (r, h') → lv_has ls 6 [(0, .ref (ι a0)), (1, .int z166), (2, .int y174)] → WD D dA b0 ι h175 s.heap H locs → W p l e (headSpec wsX8_findLeast rmX8_findLeast).room s m ([.ref (ι a0)] : List Value).toArray below meth c H locs 0 0 (MQ below (QI D dA b0 ι r h') ([.ref (ι a0)] : List Value).toArray s 0 0 (qA b0)) (F0 m 144 ls []) := by
              intro y174 h175 H locs ls hf hl w
              refine lv_iconst (v := (0 : Int32)) hx hb dX8_findLeast_144 (by decide) ?_
              refine lv_istore_n (lv' := [(2, .int (0 : Int32)), (0, .ref (ι a0)), (1, .int z166)]) hx hb dX8_findLeast_145 rfl hl (by decide) rfl (fun ls hl => ?_)
              have hx146 : ∀ (y176 : Int32) (h177 : Hp) (H : Heap) (locs : List Loc) (ls : Array Slot), (if y176 = (16 : Int32) then some (z166, h177) else (gR h177 a0 10 16).bind fun v179 => (aI h177 v179 y176).bind fun v180 => (fX8_inverse N v180 h177).bind fun (v181, h182) => nm (v181.toInt64) fun x183 => lX8_findLeast_189 N a0 z166 y176 x183 N (0 : Int32) h182 (fun y184 h185 => lX8_findLeast_232 N a0 z166 y176 x183 N (0 : Int32) h185 (fun y186 h187 => nm (z166 + (1 : Int32)) fun x188 => lX8_findLeast_2 N a0 n2 x188 h187 κ2))) = some (r, h') → lv_has ls 6 [(0, .ref (ι a0)), (1, .int z166), (2, .int y176)] → WD D dA b0 ι h177 s.heap H locs → W p l e (headSpec wsX8_findLeast rmX8_findLeast).room s m ([.ref (ι a0)] : List Value).toArray below meth c H locs 0 0 (MQ below (QI D dA b0 ι r h') ([.ref (ι a0)] : List Value).toArray s 0 0 (qA b0)) (F0 m 167 ls []) := by
                intro y176 h177 H locs ls hf hl w
                refine lv_iload_n hx hb dX8_findLeast_167 rfl (lv_at hl 2 rfl) ?_
                refine lv_bipush (v := (16 : Int32)) hx hb dX8_findLeast_168 (by decide) ?_
                refine lv_icmp_ne (tgt := 175) hx hb dX8_findLeast_170 (by decide) (fun c178 => ?_) (fun c178 => ?_)
                · have hf := if_f hf c178
                  refine lv_aload_n hx hb dX8_findLeast_175 rfl (lv_at hl 0 rfl) ?_
                  obtain ⟨v179, ev179, hf⟩ := ob_s hf
                  refine px_getR hx hb hts nX8_findLeast_X8 hown hK w ev179 rfl (by decide) mX8_findLeast_50 rfl dX8_findLeast_176 ?_
                  refine lv_iload_n hx hb dX8_findLeast_179 rfl (lv_at hl 2 rfl) ?_
                  obtain ⟨v180, ev180, hf⟩ := ob_s hf
                  refine px_iald hx hb hK w ev180 dX8_findLeast_180 ?_
                  obtain ⟨⟨v181, h182⟩, eh182, hf⟩ := ob_s hf
                  dsimp only at hf
                  refine px_callSi (As := [.int v180]) (rest := []) ⟨hx, hb, hml, hown, hts⟩ hC w (kX8_inverse l D dA b0 ι N v180 h177 v181 h182 eh182) (va_cwS 1 hts gX8_findLeast_X8_inverse rfl rfl rfl (by decide +kernel) ⟨Nat.le_of_ble_eq_true rfl, Nat.le_of_ble_eq_true rfl⟩) rfl hl.1 rfl (Nat.le_of_ble_eq_true rfl) dX8_findLeast_181 ⟨Nat.le_of_ble_eq_true rfl, Nat.le_of_ble_eq_true rfl⟩ (fun H locs w => ?_)
                  refine lv_i2l hx hb dX8_findLeast_184 rfl ?_
                  obtain ⟨x183, ex183, hf⟩ := nm_s hf
                  refine px_nmJ ex183 ?_
                  refine lv_lstore_n (lv' := [(3, .long x183), (0, .ref (ι a0)), (1, .int z166), (2, .int y176)]) hx hb dX8_findLeast_185 rfl hl (by decide) rfl (fun ls hl => ?_)
                  refine lv_iconst (v := (0 : Int32)) hx hb dX8_findLeast_186 (by decide) ?_
                  refine lv_istore (lv' := [(5, .int (0 : Int32)), (3, .long x183), (0, .ref (ι a0)), (1, .int z166), (2, .int y176)]) hx hb dX8_findLeast_187 hl (by decide) rfl (fun ls hl => ?_)
                  have hx189 : ∀ (y184 : Int32) (h185 : Hp) (H : Heap) (locs : List Loc) (ls : Array Slot), (lX8_findLeast_232 N a0 z166 y176 x183 N (0 : Int32) h185 (fun y186 h187 => nm (z166 + (1 : Int32)) fun x188 => lX8_findLeast_2 N a0 n2 x188 h187 κ2)) = some (r, h') → lv_has ls 6 [(0, .ref (ι a0)), (1, .int z166), (2, .int y176), (3, .long x183), (5, .int y184)] → WD D dA b0 ι h185 s.heap H locs → W p l e (headSpec wsX8_findLeast rmX8_findLeast).room s m ([.ref (ι a0)] : List Value).toArray below meth c H locs 0 0 (MQ below (QI D dA b0 ι r h') ([.ref (ι a0)] : List Value).toArray s 0 0 (qA b0)) (F0 m 229 ls []) := by
                    intro y184 h185 H locs ls hf hl w
                    refine lv_iconst (v := (0 : Int32)) hx hb dX8_findLeast_229 (by decide) ?_
                    refine lv_istore (lv' := [(5, .int (0 : Int32)), (0, .ref (ι a0)), (1, .int z166), (2, .int y176), (3, .long x183)]) hx hb dX8_findLeast_230 hl (by decide) rfl (fun ls hl => ?_)
                    have hx232 : ∀ (y186 : Int32) (h187 : Hp) (H : Heap) (locs : List Loc) (ls : Array Slot), (nm (z166 + (1 : Int32)) fun x188 => lX8_findLeast_2 N a0 n2 x188 h187 κ2) = some (r, h') → lv_has ls 6 [(0, .ref (ι a0)), (1, .int z166), (2, .int y176), (3, .long x183), (5, .int y186)] → WD D dA b0 ι h187 s.heap H locs → W p l e (headSpec wsX8_findLeast rmX8_findLeast).room s m ([.ref (ι a0)] : List Value).toArray below meth c H locs 0 0 (MQ below (QI D dA b0 ι r h') ([.ref (ι a0)] : List Value).toArray s 0 0 (qA b0)) (F0 m 270 ls []) := by
                      intro y186 h187 H locs ls hf hl w
                      obtain ⟨x188, ex188, hf⟩ := nm_s hf
                      refine lv_iinc (v := x188) (lv' := [(1, .int x188), (0, .ref (ι a0)), (2, .int y176), (3, .long x183), (5, .int y186)]) hx hb dX8_findLeast_270 hl (k := 1) rfl (by rw [ex188]; rfl) (by decide) rfl (fun ls hl => ?_)
                      refine lv_goto (tgt := 2) hx hb dX8_findLeast_273 (by decide) ?_
                      exact ih2 x188 h187 H locs ls hf (lv_sub hl [1, 0] rfl) w
                    obtain ⟨κ232, eκ232⟩ : ∃ k : Int32 → Hp → Option (Int32 × Hp), k = (fun y186 h187 => nm (z166 + (1 : Int32)) fun x188 => lX8_findLeast_2 N a0 n2 x188 h187 κ2) := ⟨_, rfl⟩
                    have hlp232 : ∀ (n : Nat) (z198 : Int32) (h199 : Hp) (H : Heap) (locs : List Loc) (ls : Array Slot), lX8_findLeast_232 N a0 z166 y176 x183 n z198 h199 κ232 = some (r, h') → lv_has ls 6 [(0, .ref (ι a0)), (1, .int z166), (2, .int y176), (3, .long x183), (5, .int z198)] → WD D dA b0 ι h199 s.heap H locs → W p l e (headSpec wsX8_findLeast rmX8_findLeast).room s m ([.ref (ι a0)] : List Value).toArray below meth c H locs 0 0 (MQ below (QI D dA b0 ι r h') ([.ref (ι a0)] : List Value).toArray s 0 0 (qA b0)) (F0 m 232 ls []) := by
                      intro n232
                      induction n232 with
                      | zero => intro z198 h199 H locs ls hf; exact absurd hf (by rw [lX8_findLeast_232]; exact fun q => nomatch q)
                      | succ n232 ih232 =>
                        intro z198 h199 H locs ls hf hl w
                        rw [lX8_findLeast_232] at hf
                        refine lv_iload hx hb dX8_findLeast_232 (lv_at hl 4 rfl) ?_
                        refine lv_iconst (v := (5 : Int32)) hx hb dX8_findLeast_234 (by decide) ?_
                        refine lv_icmp_ge (tgt := 270) hx hb dX8_findLeast_235 (by decide) (fun c200 => ?_) (fun c200 => ?_)
                        · have hf := if_t hf c200
                          exact hx232 z198 h199 H locs ls (by rw [eκ232] at hf; exact hf) (lv_sub hl [0, 1, 2, 3, 4] rfl) w
                        · have hf := if_f hf c200
                          refine lv_aload_n hx hb dX8_findLeast_238 rfl (lv_at hl 0 rfl) ?_
                          obtain ⟨v201, ev201, hf⟩ := ob_s hf
                          refine px_getR hx hb hts nX8_findLeast_X8 hown hK w ev201 rfl (by decide) mX8_findLeast_47 rfl dX8_findLeast_239 ?_
                          refine lv_iconst (v := (5 : Int32)) hx hb dX8_findLeast_242 (by decide) ?_
                          refine lv_iload_n hx hb dX8_findLeast_243 rfl (lv_at hl 1 rfl) ?_
                          refine lv_imul hx hb dX8_findLeast_244 ?_
                          refine lv_iload hx hb dX8_findLeast_245 (lv_at hl 4 rfl) ?_
                          refine lv_iadd hx hb dX8_findLeast_247 ?_
                          refine lv_aload_n hx hb dX8_findLeast_248 rfl (lv_at hl 0 rfl) ?_
                          obtain ⟨v202, ev202, hf⟩ := ob_s hf
                          refine px_getR hx hb hts nX8_findLeast_X8 hown hK w ev202 rfl (by decide) mX8_findLeast_53 rfl dX8_findLeast_249 ?_
                          refine lv_iload hx hb dX8_findLeast_252 (lv_at hl 4 rfl) ?_
                          obtain ⟨v203, ev203, hf⟩ := ob_s hf
                          refine px_iald hx hb hK w ev203 dX8_findLeast_254 ?_
                          refine lv_i2l hx hb dX8_findLeast_255 rfl ?_
                          refine lv_lload_n hx hb dX8_findLeast_256 rfl (lv_at hl 3 rfl) ?_
                          refine lv_lmul hx hb dX8_findLeast_257 ?_
                          refine lv_ldc2 (v := 32003) hx hb hown (hts _ mX8_findLeast_69) dX8_findLeast_258 ?_
                          refine px_lrem hx hb dX8_findLeast_261 (by decide) ?_
                          refine lv_l2i hx hb dX8_findLeast_262 rfl ?_
                          obtain ⟨h204, eh204, hf⟩ := ob_s hf
                          refine px_iast hx hb hK w eh204 dX8_findLeast_263 (fun H locs w => ?_)
                          obtain ⟨x205, ex205, hf⟩ := nm_s hf
                          refine lv_iinc (v := x205) (lv' := [(5, .int x205), (0, .ref (ι a0)), (1, .int z166), (2, .int y176), (3, .long x183)]) hx hb dX8_findLeast_264 hl (k := 4) rfl (by rw [ex205]; rfl) (by decide) rfl (fun ls hl => ?_)
                          refine lv_goto (tgt := 232) hx hb dX8_findLeast_267 (by decide) ?_
                          exact ih232 x205 h204 H locs ls hf (lv_sub hl [1, 2, 3, 4, 0] rfl) w
                    exact hlp232 N (0 : Int32) h185 H locs ls (by rw [eκ232]; exact hf) (lv_sub hl [1, 2, 3, 4, 0] rfl) w
                  obtain ⟨κ189, eκ189⟩ : ∃ k : Int32 → Hp → Option (Int32 × Hp), k = (fun y184 h185 => lX8_findLeast_232 N a0 z166 y176 x183 N (0 : Int32) h185 (fun y186 h187 => nm (z166 + (1 : Int32)) fun x188 => lX8_findLeast_2 N a0 n2 x188 h187 κ2)) := ⟨_, rfl⟩
                  have hlp189 : ∀ (n : Nat) (z215 : Int32) (h216 : Hp) (H : Heap) (locs : List Loc) (ls : Array Slot), lX8_findLeast_189 N a0 z166 y176 x183 n z215 h216 κ189 = some (r, h') → lv_has ls 6 [(0, .ref (ι a0)), (1, .int z166), (2, .int y176), (3, .long x183), (5, .int z215)] → WD D dA b0 ι h216 s.heap H locs → W p l e (headSpec wsX8_findLeast rmX8_findLeast).room s m ([.ref (ι a0)] : List Value).toArray below meth c H locs 0 0 (MQ below (QI D dA b0 ι r h') ([.ref (ι a0)] : List Value).toArray s 0 0 (qA b0)) (F0 m 189 ls []) := by
                    intro n189
                    induction n189 with
                    | zero => intro z215 h216 H locs ls hf; exact absurd hf (by rw [lX8_findLeast_189]; exact fun q => nomatch q)
                    | succ n189 ih189 =>
                      intro z215 h216 H locs ls hf hl w
                      rw [lX8_findLeast_189] at hf
                      refine lv_iload hx hb dX8_findLeast_189 (lv_at hl 4 rfl) ?_
                      refine lv_bipush (v := (16 : Int32)) hx hb dX8_findLeast_191 (by decide) ?_
                      refine lv_icmp_ge (tgt := 229) hx hb dX8_findLeast_193 (by decide) (fun c217 => ?_) (fun c217 => ?_)
                      · have hf := if_t hf c217
                        exact hx189 z215 h216 H locs ls (by rw [eκ189] at hf; exact hf) (lv_sub hl [0, 1, 2, 3, 4] rfl) w
                      · have hf := if_f hf c217
                        refine lv_aload_n hx hb dX8_findLeast_196 rfl (lv_at hl 0 rfl) ?_
                        obtain ⟨v218, ev218, hf⟩ := ob_s hf
                        refine px_getR hx hb hts nX8_findLeast_X8 hown hK w ev218 rfl (by decide) mX8_findLeast_56 rfl dX8_findLeast_197 ?_
                        refine lv_bipush (v := (16 : Int32)) hx hb dX8_findLeast_200 (by decide) ?_
                        refine lv_iload_n hx hb dX8_findLeast_202 rfl (lv_at hl 1 rfl) ?_
                        refine lv_imul hx hb dX8_findLeast_203 ?_
                        refine lv_iload hx hb dX8_findLeast_204 (lv_at hl 4 rfl) ?_
                        refine lv_iadd hx hb dX8_findLeast_206 ?_
                        refine lv_aload_n hx hb dX8_findLeast_207 rfl (lv_at hl 0 rfl) ?_
                        obtain ⟨v219, ev219, hf⟩ := ob_s hf
                        refine px_getR hx hb hts nX8_findLeast_X8 hown hK w ev219 rfl (by decide) mX8_findLeast_50 rfl dX8_findLeast_208 ?_
                        refine lv_iload hx hb dX8_findLeast_211 (lv_at hl 4 rfl) ?_
                        obtain ⟨v220, ev220, hf⟩ := ob_s hf
                        refine px_iald hx hb hK w ev220 dX8_findLeast_213 ?_
                        refine lv_i2l hx hb dX8_findLeast_214 rfl ?_
                        refine lv_lload_n hx hb dX8_findLeast_215 rfl (lv_at hl 3 rfl) ?_
                        refine lv_lmul hx hb dX8_findLeast_216 ?_
                        refine lv_ldc2 (v := 32003) hx hb hown (hts _ mX8_findLeast_69) dX8_findLeast_217 ?_
                        refine px_lrem hx hb dX8_findLeast_220 (by decide) ?_
                        refine lv_l2i hx hb dX8_findLeast_221 rfl ?_
                        obtain ⟨h221, eh221, hf⟩ := ob_s hf
                        refine px_iast hx hb hK w eh221 dX8_findLeast_222 (fun H locs w => ?_)
                        obtain ⟨x222, ex222, hf⟩ := nm_s hf
                        refine lv_iinc (v := x222) (lv' := [(5, .int x222), (0, .ref (ι a0)), (1, .int z166), (2, .int y176), (3, .long x183)]) hx hb dX8_findLeast_223 hl (k := 4) rfl (by rw [ex222]; rfl) (by decide) rfl (fun ls hl => ?_)
                        refine lv_goto (tgt := 189) hx hb dX8_findLeast_226 (by decide) ?_
                        exact ih189 x222 h221 H locs ls hf (lv_sub hl [1, 2, 3, 4, 0] rfl) w
                  exact hlp189 N (0 : Int32) h182 H locs ls (by rw [eκ189]; exact hf) (lv_sub hl [2, 3, 4, 1, 0] rfl) w
                · have hf := if_t hf c178
                  refine lv_iload_n hx hb dX8_findLeast_173 rfl (lv_at hl 1 rfl) ?_
                  exact W.iret hx hb hr (qi_end hf w hC) w.locs_ok dX8_findLeast_174
              obtain ⟨κ146, eκ146⟩ : ∃ k : Int32 → Hp → Option (Int32 × Hp), k = (fun y176 h177 => if y176 = (16 : Int32) then some (z166, h177) else (gR h177 a0 10 16).bind fun v179 => (aI h177 v179 y176).bind fun v180 => (fX8_inverse N v180 h177).bind fun (v181, h182) => nm (v181.toInt64) fun x183 => lX8_findLeast_189 N a0 z166 y176 x183 N (0 : Int32) h182 (fun y184 h185 => lX8_findLeast_232 N a0 z166 y176 x183 N (0 : Int32) h185 (fun y186 h187 => nm (z166 + (1 : Int32)) fun x188 => lX8_findLeast_2 N a0 n2 x188 h187 κ2))) := ⟨_, rfl⟩
              have hlp146 : ∀ (n : Nat) (z231 : Int32) (h232 : Hp) (H : Heap) (locs : List Loc) (ls : Array Slot), lX8_findLeast_146 N a0 z166 n z231 h232 κ146 = some (r, h') → lv_has ls 6 [(0, .ref (ι a0)), (1, .int z166), (2, .int z231)] → WD D dA b0 ι h232 s.heap H locs → W p l e (headSpec wsX8_findLeast rmX8_findLeast).room s m ([.ref (ι a0)] : List Value).toArray below meth c H locs 0 0 (MQ below (QI D dA b0 ι r h') ([.ref (ι a0)] : List Value).toArray s 0 0 (qA b0)) (F0 m 146 ls []) := by
                intro n146
                induction n146 with
                | zero => intro z231 h232 H locs ls hf; exact absurd hf (by rw [lX8_findLeast_146]; exact fun q => nomatch q)
                | succ n146 ih146 =>
                  intro z231 h232 H locs ls hf hl w
                  rw [lX8_findLeast_146] at hf
                  refine lv_iload_n hx hb dX8_findLeast_146 rfl (lv_at hl 2 rfl) ?_
                  refine lv_bipush (v := (16 : Int32)) hx hb dX8_findLeast_147 (by decide) ?_
                  refine lv_icmp_ge (tgt := 167) hx hb dX8_findLeast_149 (by decide) (fun c233 => ?_) (fun c233 => ?_)
                  · have hf := if_t hf c233
                    exact hx146 z231 h232 H locs ls (by rw [eκ146] at hf; exact hf) (lv_sub hl [0, 1, 2] rfl) w
                  · have hf := if_f hf c233
                    refine lv_aload_n hx hb dX8_findLeast_152 rfl (lv_at hl 0 rfl) ?_
                    obtain ⟨v234, ev234, hf⟩ := ob_s hf
                    refine px_getR hx hb hts nX8_findLeast_X8 hown hK w ev234 rfl (by decide) mX8_findLeast_50 rfl dX8_findLeast_153 ?_
                    refine lv_iload_n hx hb dX8_findLeast_156 rfl (lv_at hl 2 rfl) ?_
                    obtain ⟨v235, ev235, hf⟩ := ob_s hf
                    refine px_iald hx hb hK w ev235 dX8_findLeast_157 ?_
                    refine lv_if_ne (tgt := 167) hx hb dX8_findLeast_158 (by decide) (fun c236 => ?_) (fun c236 => ?_)
                    · have hf := if_f hf c236
                      exact hx146 z231 h232 H locs ls (by rw [eκ146] at hf; exact hf) (lv_sub hl [0, 1, 2] rfl) w
                    · have hf := if_t hf c236
                      obtain ⟨x237, ex237, hf⟩ := nm_s hf
                      refine lv_iinc (v := x237) (lv' := [(2, .int x237), (0, .ref (ι a0)), (1, .int z166)]) hx hb dX8_findLeast_161 hl (k := 2) rfl (by rw [ex237]; rfl) (by decide) rfl (fun ls hl => ?_)
                      refine lv_goto (tgt := 146) hx hb dX8_findLeast_164 (by decide) ?_
                      exact ih146 x237 h232 H locs ls hf (lv_sub hl [1, 2, 0] rfl) w
              exact hlp146 N (0 : Int32) h175 H locs ls (by rw [eκ146]; exact hf) (lv_sub hl [1, 2, 0] rfl) w
            obtain ⟨κ128, eκ128⟩ : ∃ k : Int32 → Hp → Option (Int32 × Hp), k = (fun y174 h175 => lX8_findLeast_146 N a0 z166 N (0 : Int32) h175 (fun y176 h177 => if y176 = (16 : Int32) then some (z166, h177) else (gR h177 a0 10 16).bind fun v179 => (aI h177 v179 y176).bind fun v180 => (fX8_inverse N v180 h177).bind fun (v181, h182) => nm (v181.toInt64) fun x183 => lX8_findLeast_189 N a0 z166 y176 x183 N (0 : Int32) h182 (fun y184 h185 => lX8_findLeast_232 N a0 z166 y176 x183 N (0 : Int32) h185 (fun y186 h187 => nm (z166 + (1 : Int32)) fun x188 => lX8_findLeast_2 N a0 n2 x188 h187 κ2)))) := ⟨_, rfl⟩
            have hlp128 : ∀ (n : Nat) (z246 : Int32) (h247 : Hp) (H : Heap) (locs : List Loc) (ls : Array Slot), lX8_findLeast_128 N a0 z166 n z246 h247 κ128 = some (r, h') → lv_has ls 6 [(0, .ref (ι a0)), (1, .int z166), (2, .int z246)] → WD D dA b0 ι h247 s.heap H locs → W p l e (headSpec wsX8_findLeast rmX8_findLeast).room s m ([.ref (ι a0)] : List Value).toArray below meth c H locs 0 0 (MQ below (QI D dA b0 ι r h') ([.ref (ι a0)] : List Value).toArray s 0 0 (qA b0)) (F0 m 128 ls []) := by
              intro n128
              induction n128 with
              | zero => intro z246 h247 H locs ls hf; exact absurd hf (by rw [lX8_findLeast_128]; exact fun q => nomatch q)
              | succ n128 ih128 =>
                intro z246 h247 H locs ls hf hl w
                rw [lX8_findLeast_128] at hf
                refine lv_iload_n hx hb dX8_findLeast_128 rfl (lv_at hl 2 rfl) ?_
                refine lv_iload_n hx hb dX8_findLeast_129 rfl (lv_at hl 1 rfl) ?_
                refine lv_icmp_ge (tgt := 144) hx hb dX8_findLeast_130 (by decide) (fun c248 => ?_) (fun c248 => ?_)
                · have hf := if_t hf c248
                  exact hx128 z246 h247 H locs ls (by rw [eκ128] at hf; exact hf) (lv_sub hl [0, 1, 2] rfl) w
                · have hf := if_f hf c248
                  refine lv_aload_n hx hb dX8_findLeast_133 rfl (lv_at hl 0 rfl) ?_
                  refine lv_iload_n hx hb dX8_findLeast_134 rfl (lv_at hl 2 rfl) ?_
                  obtain ⟨u251, eu251, hf⟩ := ob_s hf
                  obtain ⟨h250, eh250, hf⟩ := ob_s hf
                  refine px_callVv (As := [.int z246]) (rest := []) ⟨hx, hb, hml, hown, hts⟩ hC w (kX8_clearBy l D dA b0 ι N a0 z246 h247 h250 eh250) (cwV 1 hts gX8_findLeast_X8_clearBy rfl rfl rfl (by decide +kernel) ⟨Nat.le_of_ble_eq_true rfl, Nat.le_of_ble_eq_true rfl⟩) eu251 rfl rfl hl.1 rfl (Nat.le_of_ble_eq_true rfl) dX8_findLeast_135 ⟨Nat.le_of_ble_eq_true rfl, Nat.le_of_ble_eq_true rfl⟩ (fun H locs w => ?_)
                  obtain ⟨x252, ex252, hf⟩ := nm_s hf
                  refine lv_iinc (v := x252) (lv' := [(2, .int x252), (0, .ref (ι a0)), (1, .int z166)]) hx hb dX8_findLeast_138 hl (k := 2) rfl (by rw [ex252]; rfl) (by decide) rfl (fun ls hl => ?_)
                  refine lv_goto (tgt := 128) hx hb dX8_findLeast_141 (by decide) ?_
                  exact ih128 x252 h250 H locs ls hf (lv_sub hl [1, 2, 0] rfl) w
            exact hlp128 N (0 : Int32) h173 H locs ls (by rw [eκ128]; exact hf) (lv_sub hl [1, 2, 0] rfl) w
          obtain ⟨κ99, eκ99⟩ : ∃ k : Int32 → Hp → Option (Int32 × Hp), k = (fun y172 h173 => lX8_findLeast_128 N a0 z166 N (0 : Int32) h173 (fun y174 h175 => lX8_findLeast_146 N a0 z166 N (0 : Int32) h175 (fun y176 h177 => if y176 = (16 : Int32) then some (z166, h177) else (gR h177 a0 10 16).bind fun v179 => (aI h177 v179 y176).bind fun v180 => (fX8_inverse N v180 h177).bind fun (v181, h182) => nm (v181.toInt64) fun x183 => lX8_findLeast_189 N a0 z166 y176 x183 N (0 : Int32) h182 (fun y184 h185 => lX8_findLeast_232 N a0 z166 y176 x183 N (0 : Int32) h185 (fun y186 h187 => nm (z166 + (1 : Int32)) fun x188 => lX8_findLeast_2 N a0 n2 x188 h187 κ2))))) := ⟨_, rfl⟩
          have hlp99 : ∀ (n : Nat) (z264 : Int32) (h265 : Hp) (H : Heap) (locs : List Loc) (ls : Array Slot), lX8_findLeast_99 N a0 z166 n z264 h265 κ99 = some (r, h') → lv_has ls 6 [(0, .ref (ι a0)), (1, .int z166), (2, .int z264)] → WD D dA b0 ι h265 s.heap H locs → W p l e (headSpec wsX8_findLeast rmX8_findLeast).room s m ([.ref (ι a0)] : List Value).toArray below meth c H locs 0 0 (MQ below (QI D dA b0 ι r h') ([.ref (ι a0)] : List Value).toArray s 0 0 (qA b0)) (F0 m 99 ls []) := by
            intro n99
            induction n99 with
            | zero => intro z264 h265 H locs ls hf; exact absurd hf (by rw [lX8_findLeast_99]; exact fun q => nomatch q)
            | succ n99 ih99 =>
              intro z264 h265 H locs ls hf hl w
              rw [lX8_findLeast_99] at hf
              refine lv_iload_n hx hb dX8_findLeast_99 rfl (lv_at hl 2 rfl) ?_
              refine lv_iconst (v := (5 : Int32)) hx hb dX8_findLeast_100 (by decide) ?_
              refine lv_icmp_ge (tgt := 126) hx hb dX8_findLeast_101 (by decide) (fun c266 => ?_) (fun c266 => ?_)
              · have hf := if_t hf c266
                exact hx99 z264 h265 H locs ls (by rw [eκ99] at hf; exact hf) (lv_sub hl [0, 1, 2] rfl) w
              · have hf := if_f hf c266
                refine lv_aload_n hx hb dX8_findLeast_104 rfl (lv_at hl 0 rfl) ?_
                obtain ⟨v267, ev267, hf⟩ := ob_s hf
                refine px_getR hx hb hts nX8_findLeast_X8 hown hK w ev267 rfl (by decide) mX8_findLeast_53 rfl dX8_findLeast_105 ?_
                refine lv_iload_n hx hb dX8_findLeast_108 rfl (lv_at hl 2 rfl) ?_
                refine lv_iload_n hx hb dX8_findLeast_109 rfl (lv_at hl 2 rfl) ?_
                refine lv_iload_n hx hb dX8_findLeast_110 rfl (lv_at hl 1 rfl) ?_
                have hj119 : ∀ (t270 : Int32) (h269 : Hp) (H : Heap) (locs : List Loc) (ls : Array Slot), ((aIs h269 v267 z264 t270).bind fun h271 => nm (z264 + (1 : Int32)) fun x272 => lX8_findLeast_99 N a0 z166 n99 x272 h271 κ99) = some (r, h') → lv_has ls 6 [(0, .ref (ι a0)), (1, .int z166), (2, .int z264)] → WD D dA b0 ι h269 s.heap H locs → W p l e (headSpec wsX8_findLeast rmX8_findLeast).room s m ([.ref (ι a0)] : List Value).toArray below meth c H locs 0 0 (MQ below (QI D dA b0 ι r h') ([.ref (ι a0)] : List Value).toArray s 0 0 (qA b0)) (F0 m 119 ls [.int t270, .int z264, .ref (ι v267)]) := by
                  intro t270 h269 H locs ls hf hl w
                  obtain ⟨h271, eh271, hf⟩ := ob_s hf
                  refine px_iast hx hb hK w eh271 dX8_findLeast_119 (fun H locs w => ?_)
                  obtain ⟨x272, ex272, hf⟩ := nm_s hf
                  refine lv_iinc (v := x272) (lv' := [(2, .int x272), (0, .ref (ι a0)), (1, .int z166)]) hx hb dX8_findLeast_120 hl (k := 2) rfl (by rw [ex272]; rfl) (by decide) rfl (fun ls hl => ?_)
                  refine lv_goto (tgt := 99) hx hb dX8_findLeast_123 (by decide) ?_
                  exact ih99 x272 h271 H locs ls hf (lv_sub hl [1, 2, 0] rfl) w
                obtain ⟨j268, ej268, hf⟩ := jn_s hf
                refine lv_icmp_ne (tgt := 118) hx hb dX8_findLeast_111 (by decide) (fun c273 => ?_) (fun c273 => ?_)
                · have hf := if_f hf c273
                  refine lv_iconst (v := (0 : Int32)) hx hb dX8_findLeast_118 (by decide) ?_
                  exact hj119 (0 : Int32) h265 H locs ls (by rw [ej268] at hf; exact hf) (lv_sub hl [0, 1, 2] rfl) w
                · have hf := if_t hf c273
                  refine lv_iconst (v := (1 : Int32)) hx hb dX8_findLeast_114 (by decide) ?_
                  refine lv_goto (tgt := 119) hx hb dX8_findLeast_115 (by decide) ?_
                  exact hj119 (1 : Int32) h265 H locs ls (by rw [ej268] at hf; exact hf) (lv_sub hl [0, 1, 2] rfl) w
          exact hlp99 N (0 : Int32) h171 H locs ls (by rw [eκ99]; exact hf) (lv_sub hl [1, 2, 0] rfl) w
        obtain ⟨κ68, eκ68⟩ : ∃ k : Int32 → Hp → Option (Int32 × Hp), k = (fun y170 h171 => lX8_findLeast_99 N a0 z166 N (0 : Int32) h171 (fun y172 h173 => lX8_findLeast_128 N a0 z166 N (0 : Int32) h173 (fun y174 h175 => lX8_findLeast_146 N a0 z166 N (0 : Int32) h175 (fun y176 h177 => if y176 = (16 : Int32) then some (z166, h177) else (gR h177 a0 10 16).bind fun v179 => (aI h177 v179 y176).bind fun v180 => (fX8_inverse N v180 h177).bind fun (v181, h182) => nm (v181.toInt64) fun x183 => lX8_findLeast_189 N a0 z166 y176 x183 N (0 : Int32) h182 (fun y184 h185 => lX8_findLeast_232 N a0 z166 y176 x183 N (0 : Int32) h185 (fun y186 h187 => nm (z166 + (1 : Int32)) fun x188 => lX8_findLeast_2 N a0 n2 x188 h187 κ2)))))) := ⟨_, rfl⟩
        have hlp68 : ∀ (n : Nat) (z283 : Int32) (h284 : Hp) (H : Heap) (locs : List Loc) (ls : Array Slot), lX8_findLeast_68 N a0 z166 n z283 h284 κ68 = some (r, h') → lv_has ls 6 [(0, .ref (ι a0)), (1, .int z166), (2, .int z283)] → WD D dA b0 ι h284 s.heap H locs → W p l e (headSpec wsX8_findLeast rmX8_findLeast).room s m ([.ref (ι a0)] : List Value).toArray below meth c H locs 0 0 (MQ below (QI D dA b0 ι r h') ([.ref (ι a0)] : List Value).toArray s 0 0 (qA b0)) (F0 m 68 ls []) := by
          intro n68
          induction n68 with
          | zero => intro z283 h284 H locs ls hf; exact absurd hf (by rw [lX8_findLeast_68]; exact fun q => nomatch q)
          | succ n68 ih68 =>
            intro z283 h284 H locs ls hf hl w
            rw [lX8_findLeast_68] at hf
            refine lv_iload_n hx hb dX8_findLeast_68 rfl (lv_at hl 2 rfl) ?_
            refine lv_bipush (v := (16 : Int32)) hx hb dX8_findLeast_69 (by decide) ?_
            refine lv_icmp_ge (tgt := 97) hx hb dX8_findLeast_71 (by decide) (fun c285 => ?_) (fun c285 => ?_)
            · have hf := if_t hf c285
              exact hx68 z283 h284 H locs ls (by rw [eκ68] at hf; exact hf) (lv_sub hl [0, 1, 2] rfl) w
            · have hf := if_f hf c285
              refine lv_aload_n hx hb dX8_findLeast_74 rfl (lv_at hl 0 rfl) ?_
              obtain ⟨v286, ev286, hf⟩ := ob_s hf
              refine px_getR hx hb hts nX8_findLeast_X8 hown hK w ev286 rfl (by decide) mX8_findLeast_44 rfl dX8_findLeast_75 ?_
              refine lv_bipush (v := (16 : Int32)) hx hb dX8_findLeast_78 (by decide) ?_
              refine lv_iload_n hx hb dX8_findLeast_80 rfl (lv_at hl 1 rfl) ?_
              refine lv_imul hx hb dX8_findLeast_81 ?_
              refine lv_iload_n hx hb dX8_findLeast_82 rfl (lv_at hl 2 rfl) ?_
              refine lv_iadd hx hb dX8_findLeast_83 ?_
              refine lv_aload_n hx hb dX8_findLeast_84 rfl (lv_at hl 0 rfl) ?_
              obtain ⟨v287, ev287, hf⟩ := ob_s hf
              refine px_getR hx hb hts nX8_findLeast_X8 hown hK w ev287 rfl (by decide) mX8_findLeast_50 rfl dX8_findLeast_85 ?_
              refine lv_iload_n hx hb dX8_findLeast_88 rfl (lv_at hl 2 rfl) ?_
              obtain ⟨v288, ev288, hf⟩ := ob_s hf
              refine px_iald hx hb hK w ev288 dX8_findLeast_89 ?_
              obtain ⟨h289, eh289, hf⟩ := ob_s hf
              refine px_iast hx hb hK w eh289 dX8_findLeast_90 (fun H locs w => ?_)
              obtain ⟨x290, ex290, hf⟩ := nm_s hf
              refine lv_iinc (v := x290) (lv' := [(2, .int x290), (0, .ref (ι a0)), (1, .int z166)]) hx hb dX8_findLeast_91 hl (k := 2) rfl (by rw [ex290]; rfl) (by decide) rfl (fun ls hl => ?_)
              refine lv_goto (tgt := 68) hx hb dX8_findLeast_94 (by decide) ?_
              exact ih68 x290 h289 H locs ls hf (lv_sub hl [1, 2, 0] rfl) w
        exact hlp68 N (0 : Int32) h169 H locs ls (by rw [eκ68]; exact hf) (lv_sub hl [1, 2, 0] rfl) w
      obtain ⟨κ4, eκ4⟩ : ∃ k : Int32 → Hp → Option (Int32 × Hp), k = (fun y168 h169 => lX8_findLeast_68 N a0 z166 N (0 : Int32) h169 (fun y170 h171 => lX8_findLeast_99 N a0 z166 N (0 : Int32) h171 (fun y172 h173 => lX8_findLeast_128 N a0 z166 N (0 : Int32) h173 (fun y174 h175 => lX8_findLeast_146 N a0 z166 N (0 : Int32) h175 (fun y176 h177 => if y176 = (16 : Int32) then some (z166, h177) else (gR h177 a0 10 16).bind fun v179 => (aI h177 v179 y176).bind fun v180 => (fX8_inverse N v180 h177).bind fun (v181, h182) => nm (v181.toInt64) fun x183 => lX8_findLeast_189 N a0 z166 y176 x183 N (0 : Int32) h182 (fun y184 h185 => lX8_findLeast_232 N a0 z166 y176 x183 N (0 : Int32) h185 (fun y186 h187 => nm (z166 + (1 : Int32)) fun x188 => lX8_findLeast_2 N a0 n2 x188 h187 κ2))))))) := ⟨_, rfl⟩
      have hlp4 : ∀ (n : Nat) (z310 : Int32) (h311 : Hp) (H : Heap) (locs : List Loc) (ls : Array Slot), lX8_findLeast_4 N a0 z166 n z310 h311 κ4 = some (r, h') → lv_has ls 6 [(0, .ref (ι a0)), (1, .int z166), (2, .int z310)] → WD D dA b0 ι h311 s.heap H locs → W p l e (headSpec wsX8_findLeast rmX8_findLeast).room s m ([.ref (ι a0)] : List Value).toArray below meth c H locs 0 0 (MQ below (QI D dA b0 ι r h') ([.ref (ι a0)] : List Value).toArray s 0 0 (qA b0)) (F0 m 4 ls []) := by
        intro n4
        induction n4 with
        | zero => intro z310 h311 H locs ls hf; exact absurd hf (by rw [lX8_findLeast_4]; exact fun q => nomatch q)
        | succ n4 ih4 =>
          intro z310 h311 H locs ls hf hl w
          rw [lX8_findLeast_4] at hf
          refine lv_iload_n hx hb dX8_findLeast_4 rfl (lv_at hl 2 rfl) ?_
          refine lv_bipush (v := (16 : Int32)) hx hb dX8_findLeast_5 (by decide) ?_
          refine lv_icmp_ge (tgt := 66) hx hb dX8_findLeast_7 (by decide) (fun c312 => ?_) (fun c312 => ?_)
          · have hf := if_t hf c312
            exact hx4 z310 h311 H locs ls (by rw [eκ4] at hf; exact hf) (lv_sub hl [0, 1, 2] rfl) w
          · have hf := if_f hf c312
            refine lv_aload_n hx hb dX8_findLeast_10 rfl (lv_at hl 0 rfl) ?_
            obtain ⟨v313, ev313, hf⟩ := ob_s hf
            refine px_getR hx hb hts nX8_findLeast_X8 hown hK w ev313 rfl (by decide) mX8_findLeast_50 rfl dX8_findLeast_11 ?_
            refine lv_iload_n hx hb dX8_findLeast_14 rfl (lv_at hl 2 rfl) ?_
            refine lv_iload_n hx hb dX8_findLeast_15 rfl (lv_at hl 1 rfl) ?_
            have hj59 : ∀ (t316 : Int32) (h315 : Hp) (H : Heap) (locs : List Loc) (ls : Array Slot), ((aIs h315 v313 z310 t316).bind fun h317 => nm (z310 + (1 : Int32)) fun x318 => lX8_findLeast_4 N a0 z166 n4 x318 h317 κ4) = some (r, h') → lv_has ls 6 [(0, .ref (ι a0)), (1, .int z166), (2, .int z310)] → WD D dA b0 ι h315 s.heap H locs → W p l e (headSpec wsX8_findLeast rmX8_findLeast).room s m ([.ref (ι a0)] : List Value).toArray below meth c H locs 0 0 (MQ below (QI D dA b0 ι r h') ([.ref (ι a0)] : List Value).toArray s 0 0 (qA b0)) (F0 m 59 ls [.int t316, .int z310, .ref (ι v313)]) := by
              intro t316 h315 H locs ls hf hl w
              obtain ⟨h317, eh317, hf⟩ := ob_s hf
              refine px_iast hx hb hK w eh317 dX8_findLeast_59 (fun H locs w => ?_)
              obtain ⟨x318, ex318, hf⟩ := nm_s hf
              refine lv_iinc (v := x318) (lv' := [(2, .int x318), (0, .ref (ι a0)), (1, .int z166)]) hx hb dX8_findLeast_60 hl (k := 2) rfl (by rw [ex318]; rfl) (by decide) rfl (fun ls hl => ?_)
              refine lv_goto (tgt := 4) hx hb dX8_findLeast_63 (by decide) ?_
              exact ih4 x318 h317 H locs ls hf (lv_sub hl [1, 2, 0] rfl) w
            obtain ⟨j314, ej314, hf⟩ := jn_s hf
            refine lv_if_ne (tgt := 46) hx hb dX8_findLeast_16 (by decide) (fun c319 => ?_) (fun c319 => ?_)
            · have hf := if_f hf c319
              refine lv_aload_n hx hb dX8_findLeast_46 rfl (lv_at hl 0 rfl) ?_
              refine lv_iload_n hx hb dX8_findLeast_47 rfl (lv_at hl 1 rfl) ?_
              refine lv_iconst (v := (1 : Int32)) hx hb dX8_findLeast_48 (by decide) ?_
              refine lv_isub hx hb dX8_findLeast_49 ?_
              refine lv_iload_n hx hb dX8_findLeast_50 rfl (lv_at hl 2 rfl) ?_
              refine lv_iconst (v := (4 : Int32)) hx hb dX8_findLeast_51 (by decide) ?_
              refine px_idiv hx hb dX8_findLeast_52 (by decide) ?_
              refine lv_iload_n hx hb dX8_findLeast_53 rfl (lv_at hl 2 rfl) ?_
              refine lv_iconst (v := (4 : Int32)) hx hb dX8_findLeast_54 (by decide) ?_
              refine px_irem hx hb dX8_findLeast_55 (by decide) ?_
              obtain ⟨u322, eu322, hf⟩ := ob_s hf
              obtain ⟨⟨v320, h321⟩, eh321, hf⟩ := ob_s hf
              dsimp only at hf
              refine px_callVi (As := [.int (z166 - (1 : Int32)), .int (z310 / (4 : Int32)), .int (irm z310 (4 : Int32))]) (rest := [.int z310, .ref (ι v313)]) ⟨hx, hb, hml, hown, hts⟩ hC w (kX8_timesNumbers l D dA b0 ι N a0 (z166 - (1 : Int32)) (z310 / (4 : Int32)) (irm z310 (4 : Int32)) h311 v320 h321 eh321) (cwV 3 hts gX8_findLeast_X8_timesNumbers rfl rfl rfl (by decide +kernel) ⟨Nat.le_of_ble_eq_true rfl, Nat.le_of_ble_eq_true rfl⟩) eu322 rfl rfl hl.1 rfl (Nat.le_of_ble_eq_true rfl) dX8_findLeast_56 ⟨Nat.le_of_ble_eq_true rfl, Nat.le_of_ble_eq_true rfl⟩ (fun H locs w => ?_)
              exact hj59 v320 h321 H locs ls (by rw [ej314] at hf; exact hf) (lv_sub hl [0, 1, 2] rfl) w
            · have hf := if_t hf c319
              refine lv_iload_n hx hb dX8_findLeast_19 rfl (lv_at hl 2 rfl) ?_
              refine lv_iconst (v := (4 : Int32)) hx hb dX8_findLeast_20 (by decide) ?_
              refine px_idiv hx hb dX8_findLeast_21 (by decide) ?_
              refine lv_iload_n hx hb dX8_findLeast_22 rfl (lv_at hl 2 rfl) ?_
              refine lv_iconst (v := (4 : Int32)) hx hb dX8_findLeast_23 (by decide) ?_
              refine px_irem hx hb dX8_findLeast_24 (by decide) ?_
              have hj42 : ∀ (h324 : Hp) (H : Heap) (locs : List Loc) (ls : Array Slot), (j314 (0 : Int32) h324) = some (r, h') → lv_has ls 6 [(0, .ref (ι a0)), (1, .int z166), (2, .int z310)] → WD D dA b0 ι h324 s.heap H locs → W p l e (headSpec wsX8_findLeast rmX8_findLeast).room s m ([.ref (ι a0)] : List Value).toArray below meth c H locs 0 0 (MQ below (QI D dA b0 ι r h') ([.ref (ι a0)] : List Value).toArray s 0 0 (qA b0)) (F0 m 42 ls [.int z310, .ref (ι v313)]) := by
                intro h324 H locs ls hf hl w
                refine lv_iconst (v := (0 : Int32)) hx hb dX8_findLeast_42 (by decide) ?_
                refine lv_goto (tgt := 59) hx hb dX8_findLeast_43 (by decide) ?_
                exact hj59 (0 : Int32) h324 H locs ls (by rw [ej314] at hf; exact hf) (lv_sub hl [0, 1, 2] rfl) w
              obtain ⟨j323, ej323, hf⟩ := jn_s hf
              refine lv_icmp_ne (tgt := 42) hx hb dX8_findLeast_25 (by decide) (fun c325 => ?_) (fun c325 => ?_)
              · have hf := if_f hf c325
                exact hj42 h311 H locs ls (by rw [ej323] at hf; exact hf) (lv_sub hl [0, 1, 2] rfl) w
              · have hf := if_t hf c325
                refine lv_iload_n hx hb dX8_findLeast_28 rfl (lv_at hl 2 rfl) ?_
                refine lv_iconst (v := (4 : Int32)) hx hb dX8_findLeast_29 (by decide) ?_
                refine px_idiv hx hb dX8_findLeast_30 (by decide) ?_
                refine lv_aload_n hx hb dX8_findLeast_31 rfl (lv_at hl 0 rfl) ?_
                obtain ⟨v326, ev326, hf⟩ := ob_s hf
                refine px_getI hx hb hts nX8_findLeast_X8 hown hK w ev326 rfl (by decide) mX8_findLeast_71 rfl dX8_findLeast_32 ?_
                refine lv_icmp_ge (tgt := 42) hx hb dX8_findLeast_35 (by decide) (fun c327 => ?_) (fun c327 => ?_)
                · have hf := if_t hf c327
                  exact hj42 h311 H locs ls (by rw [ej323] at hf; exact hf) (lv_sub hl [0, 1, 2] rfl) w
                · have hf := if_f hf c327
                  refine lv_iconst (v := (1 : Int32)) hx hb dX8_findLeast_38 (by decide) ?_
                  refine lv_goto (tgt := 59) hx hb dX8_findLeast_39 (by decide) ?_
                  exact hj59 (1 : Int32) h311 H locs ls (by rw [ej314] at hf; exact hf) (lv_sub hl [0, 1, 2] rfl) w
      exact hlp4 N (0 : Int32) h167 H locs ls (by rw [eκ4]; exact hf) (lv_sub hl [1, 2, 0] rfl) w
  exact hlp2 N (0 : Int32) h H locs ls (by rw [eκ2]; exact hf) (lv_sub hl [1, 0] rfl) w
theorem nX8_minimal_X8 : ∀ w ∈ wsX80, w ∈ wsX8_minimal := by decide +kernel
theorem mX8_minimal_53 : Cond.fieldLink RX8 53 "NormalFormsModel" "mine" "[I" ∈ wsX8_minimal := by decide +kernel
abbrev rmX8_minimal : Room := { frames := 4, cells := 0, slots := 0, locals := 85 }
set_option maxHeartbeats 4000000 in
set_option maxRecDepth 100000 in
theorem kX8_minimal (l : Launch) (D : va_G) (dA : Nat → ClassId) (b0 : Nat) (ι : Nat → Nat) (N : Nat) (a0 : Nat) (a1 : Int32) (h : Hp) (r : Int32) (h' : Hp) (hf : fX8_minimal N a0 a1 h = some (r, h')) : Met l yX8_minimal wsX8_minimal rmX8_minimal (PC D dA b0 ι [.ref (ι a0), .int a1] h) (QI D dA b0 ι r h') 0 0 (qA b0) := by
  unfold fX8_minimal at hf
  refine Met.ofW (cc := cX8_minimal) (maxL := 3) (ret := (some .int)) (by decide +kernel) rfl ?_
  intro p e s m args below meth c s₁ B hml hv
  obtain ⟨rfl, w0⟩ := hv
  have hx := B.exec
  have hb := B.bytes
  have hr := B.returns
  have hts := atoms_spec (ws := wsX8_minimal) B.pre
  have hown : s.vm.findClass RX8 = some m.cls := findClass_of_methodNamed B.named
  have hlocks := B.notSynchronized
  have hC := w0.c
  have hK := hC.1
  have w := WD.start w0
  clear w0
  have hl := lv_entry ([.ref (ι a0), .int a1]) (n := 3) (Nat.le_of_ble_eq_true rfl)
  rw [lg_entry_eq]
  generalize (lg_sl ([.ref (ι a0), .int a1]) ++ List.replicate (3 - (lg_sl ([.ref (ι a0), .int a1])).length) Slot.unset).toArray = ls at hl ⊢
  have hl : lv_has ls 3 [(0, .ref (ι a0)), (1, .int a1)] := hl
  obtain ⟨H, hH⟩ : ∃ H : Heap, H = s.heap := ⟨_, rfl⟩
  obtain ⟨locs, hlo⟩ : ∃ locs : List Loc, locs = [] := ⟨_, rfl⟩
  rw [← hlo]
  have w : WD D dA b0 ι h s.heap H locs := by rw [hH, hlo]; exact w
  refine px_start hH ?_
  refine lv_aload_n hx hb dX8_minimal_0 rfl (lv_at hl 0 rfl) ?_
  obtain ⟨u3, eu3, hf⟩ := ob_s hf
  obtain ⟨⟨v1, h2⟩, eh2, hf⟩ := ob_s hf
  dsimp only at hf
  refine px_callVi (As := []) (rest := []) ⟨hx, hb, hml, hown, hts⟩ hC w (kX8_isSquare l D dA b0 ι N a0 h v1 h2 eh2) (cwV 0 hts gX8_minimal_X8_isSquare rfl rfl rfl (by decide +kernel) ⟨Nat.le_of_ble_eq_true rfl, Nat.le_of_ble_eq_true rfl⟩) eu3 rfl rfl hl.1 rfl (Nat.le_of_ble_eq_true rfl) dX8_minimal_1 ⟨Nat.le_of_ble_eq_true rfl, Nat.le_of_ble_eq_true rfl⟩ (fun H locs w => ?_)
  refine lv_if_ne (tgt := 9) hx hb dX8_minimal_4 (by decide) (fun c4 => ?_) (fun c4 => ?_)
  · have hf := if_f hf c4
    refine lv_aload_n hx hb dX8_minimal_9 rfl (lv_at hl 0 rfl) ?_
    obtain ⟨u7, eu7, hf⟩ := ob_s hf
    obtain ⟨⟨v5, h6⟩, eh6, hf⟩ := ob_s hf
    dsimp only at hf
    refine px_callVi (As := []) (rest := []) ⟨hx, hb, hml, hown, hts⟩ hC w (kX8_findLeast l D dA b0 ι N a0 h2 v5 h6 eh6) (cwV 0 hts gX8_minimal_X8_findLeast rfl rfl rfl (by decide +kernel) ⟨Nat.le_of_ble_eq_true rfl, Nat.le_of_ble_eq_true rfl⟩) eu7 rfl rfl hl.1 rfl (Nat.le_of_ble_eq_true rfl) dX8_minimal_10 ⟨Nat.le_of_ble_eq_true rfl, Nat.le_of_ble_eq_true rfl⟩ (fun H locs w => ?_)
    refine lv_istore_n (lv' := [(2, .int v5), (0, .ref (ι a0)), (1, .int a1)]) hx hb dX8_minimal_13 rfl hl (by decide) rfl (fun ls hl => ?_)
    refine lv_iload_n hx hb dX8_minimal_14 rfl (lv_at hl 2 rfl) ?_
    refine lv_i2l hx hb dX8_minimal_15 rfl ?_
    refine lv_lconst (v := 0) hx hb dX8_minimal_16 (by decide) ?_
    refine lv_iload_n hx hb dX8_minimal_17 rfl (lv_at hl 0 rfl) ?_
    refine lv_i2l hx hb dX8_minimal_18 rfl ?_
    obtain ⟨⟨v8, h9⟩, eh9, hf⟩ := ob_s hf
    dsimp only at hf
    refine px_callSi (As := [.long (a1.toInt64), .long (0 : Int64), .long (v5.toInt64)]) (rest := []) ⟨hx, hb, hml, hown, hts⟩ hC w (kX8_in l D dA b0 ι N (a1.toInt64) (0 : Int64) (v5.toInt64) h6 v8 h9 eh9) (va_cwS 3 hts gX8_minimal_X8_in rfl rfl rfl (by decide +kernel) ⟨Nat.le_of_ble_eq_true rfl, Nat.le_of_ble_eq_true rfl⟩) rfl hl.1 rfl (Nat.le_of_ble_eq_true rfl) dX8_minimal_19 ⟨Nat.le_of_ble_eq_true rfl, Nat.le_of_ble_eq_true rfl⟩ (fun H locs w => ?_)
    have hj35 : ∀ (t12 : Int32) (h11 : Hp) (H : Heap) (locs : List Loc) (ls : Array Slot), (some (t12, h11)) = some (r, h') → lv_has ls 3 [(0, .ref (ι a0)), (1, .int a1), (2, .int v5)] → WD D dA b0 ι h11 s.heap H locs → W p l e (headSpec wsX8_minimal rmX8_minimal).room s m ([.ref (ι a0), .int a1] : List Value).toArray below meth c H locs 0 0 (MQ below (QI D dA b0 ι r h') ([.ref (ι a0), .int a1] : List Value).toArray s 0 0 (qA b0)) (F0 m 35 ls [.int t12]) := by
      intro t12 h11 H locs ls hf hl w
      exact W.iret hx hb hr (qi_end hf w hC) w.locs_ok dX8_minimal_35
    obtain ⟨j10, ej10, hf⟩ := jn_s hf
    refine lv_if_eq (tgt := 34) hx hb dX8_minimal_22 (by decide) (fun c13 => ?_) (fun c13 => ?_)
    · have hf := if_t hf c13
      refine lv_iconst (v := (0 : Int32)) hx hb dX8_minimal_34 (by decide) ?_
      exact hj35 (0 : Int32) h9 H locs ls (by rw [ej10] at hf; exact hf) (lv_sub hl [1, 2, 0] rfl) w
    · have hf := if_f hf c13
      refine lv_aload_n hx hb dX8_minimal_25 rfl (lv_at hl 1 rfl) ?_
      obtain ⟨v14, ev14, hf⟩ := ob_s hf
      refine px_getR hx hb hts nX8_minimal_X8 hown hK w ev14 rfl (by decide) mX8_minimal_53 rfl dX8_minimal_26 ?_
      refine lv_iload_n hx hb dX8_minimal_29 rfl (lv_at hl 2 rfl) ?_
      obtain ⟨v15, ev15, hf⟩ := ob_s hf
      refine px_iald hx hb hK w ev15 dX8_minimal_30 ?_
      refine lv_goto (tgt := 35) hx hb dX8_minimal_31 (by decide) ?_
      exact hj35 v15 h9 H locs ls (by rw [ej10] at hf; exact hf) (lv_sub hl [1, 2, 0] rfl) w
  · have hf := if_t hf c4
    refine lv_iconst (v := (0 : Int32)) hx hb dX8_minimal_7 (by decide) ?_
    exact W.iret hx hb hr (qi_end hf w hC) w.locs_ok dX8_minimal_8
theorem nX8_findRoot_X8 : ∀ w ∈ wsX80, w ∈ wsX8_findRoot := by decide +kernel
theorem mX8_findRoot_20 : Cond.fieldLink RX8 20 "NormalFormsModel" "minors" "[I" ∈ wsX8_findRoot := by decide +kernel
theorem mX8_findRoot_69 : Cond.constantLong RX8 69 (32003) ∈ wsX8_findRoot := by decide +kernel
abbrev rmX8_findRoot : Room := { frames := 5, cells := 0, slots := 0, locals := 111 }
set_option maxHeartbeats 4000000 in
set_option maxRecDepth 100000 in
theorem kX8_findRoot (l : Launch) (D : va_G) (dA : Nat → ClassId) (b0 : Nat) (ι : Nat → Nat) (N : Nat) (a0 : Nat) (a1 : Int32) (h : Hp) (r : Int32) (h' : Hp) (hf : fX8_findRoot N a0 a1 h = some (r, h')) : Met l yX8_findRoot wsX8_findRoot rmX8_findRoot (PC D dA b0 ι [.ref (ι a0), .int a1] h) (QI D dA b0 ι r h') 0 0 (qA b0) := by
  unfold fX8_findRoot at hf
  refine Met.ofW (cc := cX8_findRoot) (maxL := 8) (ret := (some .int)) (by decide +kernel) rfl ?_
  intro p e s m args below meth c s₁ B hml hv
  obtain ⟨rfl, w0⟩ := hv
  have hx := B.exec
  have hb := B.bytes
  have hr := B.returns
  have hts := atoms_spec (ws := wsX8_findRoot) B.pre
  have hown : s.vm.findClass RX8 = some m.cls := findClass_of_methodNamed B.named
  have hlocks := B.notSynchronized
  have hC := w0.c
  have hK := hC.1
  have w := WD.start w0
  clear w0
  have hl := lv_entry ([.ref (ι a0), .int a1]) (n := 8) (Nat.le_of_ble_eq_true rfl)
  rw [lg_entry_eq]
  generalize (lg_sl ([.ref (ι a0), .int a1]) ++ List.replicate (8 - (lg_sl ([.ref (ι a0), .int a1])).length) Slot.unset).toArray = ls at hl ⊢
  have hl : lv_has ls 8 [(0, .ref (ι a0)), (1, .int a1)] := hl
  obtain ⟨H, hH⟩ : ∃ H : Heap, H = s.heap := ⟨_, rfl⟩
  obtain ⟨locs, hlo⟩ : ∃ locs : List Loc, locs = [] := ⟨_, rfl⟩
  rw [← hlo]
  have w : WD D dA b0 ι h s.heap H locs := by rw [hH, hlo]; exact w
  refine px_start hH ?_
  refine lv_aload_n hx hb dX8_findRoot_0 rfl (lv_at hl 0 rfl) ?_
  obtain ⟨u3, eu3, hf⟩ := ob_s hf
  obtain ⟨h2, eh2, hf⟩ := ob_s hf
  refine px_callVv (As := []) (rest := []) ⟨hx, hb, hml, hown, hts⟩ hC w (kX8_loadNumbers l D dA b0 ι N a0 h h2 eh2) (cwV 0 hts gX8_findRoot_X8_loadNumbers rfl rfl rfl (by decide +kernel) ⟨Nat.le_of_ble_eq_true rfl, Nat.le_of_ble_eq_true rfl⟩) eu3 rfl rfl hl.1 rfl (Nat.le_of_ble_eq_true rfl) dX8_findRoot_1 ⟨Nat.le_of_ble_eq_true rfl, Nat.le_of_ble_eq_true rfl⟩ (fun H locs w => ?_)
  refine lv_aload_n hx hb dX8_findRoot_4 rfl (lv_at hl 0 rfl) ?_
  obtain ⟨u6, eu6, hf⟩ := ob_s hf
  obtain ⟨⟨v4, h5⟩, eh5, hf⟩ := ob_s hf
  dsimp only at hf
  refine px_callVi (As := []) (rest := []) ⟨hx, hb, hml, hown, hts⟩ hC w (kX8_whole l D dA b0 ι N a0 h2 v4 h5 eh5) (cwV 0 hts gX8_findRoot_X8_whole rfl rfl rfl (by decide +kernel) ⟨Nat.le_of_ble_eq_true rfl, Nat.le_of_ble_eq_true rfl⟩) eu6 rfl rfl hl.1 rfl (Nat.le_of_ble_eq_true rfl) dX8_findRoot_5 ⟨Nat.le_of_ble_eq_true rfl, Nat.le_of_ble_eq_true rfl⟩ (fun H locs w => ?_)
  refine lv_istore_n (lv' := [(2, .int v4), (0, .ref (ι a0)), (1, .int a1)]) hx hb dX8_findRoot_8 rfl hl (by decide) rfl (fun ls hl => ?_)
  refine lv_iconst (v := (0 : Int32)) hx hb dX8_findRoot_9 (by decide) ?_
  refine lv_istore_n (lv' := [(3, .int (0 : Int32)), (2, .int v4), (0, .ref (ι a0)), (1, .int a1)]) hx hb dX8_findRoot_10 rfl hl (by decide) rfl (fun ls hl => ?_)
  refine lv_iconst (v := (0 : Int32)) hx hb dX8_findRoot_11 (by decide) ?_
  refine lv_istore (lv' := [(4, .int (0 : Int32)), (3, .int (0 : Int32)), (2, .int v4), (0, .ref (ι a0)), (1, .int a1)]) hx hb dX8_findRoot_12 hl (by decide) rfl (fun ls hl => ?_)
  have hx14 : ∀ (y7 : Int32) (y8 : Int32) (h9 : Hp) (H : Heap) (locs : List Loc) (ls : Array Slot), (some ((-1 : Int32), h9)) = some (r, h') → lv_has ls 8 [(0, .ref (ι a0)), (1, .int a1), (2, .int v4), (3, .int y7), (4, .int y8)] → WD D dA b0 ι h9 s.heap H locs → W p l e (headSpec wsX8_findRoot rmX8_findRoot).room s m ([.ref (ι a0), .int a1] : List Value).toArray below meth c H locs 0 0 (MQ below (QI D dA b0 ι r h') ([.ref (ι a0), .int a1] : List Value).toArray s 0 0 (qA b0)) (F0 m 93 ls []) := by
    intro y7 y8 h9 H locs ls hf hl w
    refine lv_iconst (v := (-1 : Int32)) hx hb dX8_findRoot_93 (by decide) ?_
    exact W.iret hx hb hr (qi_end hf w hC) w.locs_ok dX8_findRoot_94
  obtain ⟨κ14, eκ14⟩ : ∃ k : Int32 → Int32 → Hp → Option (Int32 × Hp), k = (fun y7 y8 h9 => some ((-1 : Int32), h9)) := ⟨_, rfl⟩
  have hlp14 : ∀ (n : Nat) (z43 : Int32) (z44 : Int32) (h45 : Hp) (H : Heap) (locs : List Loc) (ls : Array Slot), lX8_findRoot_14 N a0 a1 v4 n z43 z44 h45 κ14 = some (r, h') → lv_has ls 8 [(0, .ref (ι a0)), (1, .int a1), (2, .int v4), (3, .int z43), (4, .int z44)] → WD D dA b0 ι h45 s.heap H locs → W p l e (headSpec wsX8_findRoot rmX8_findRoot).room s m ([.ref (ι a0), .int a1] : List Value).toArray below meth c H locs 0 0 (MQ below (QI D dA b0 ι r h') ([.ref (ι a0), .int a1] : List Value).toArray s 0 0 (qA b0)) (F0 m 14 ls []) := by
    intro n14
    induction n14 with
    | zero => intro z43 z44 h45 H locs ls hf; exact absurd hf (by rw [lX8_findRoot_14]; exact fun q => nomatch q)
    | succ n14 ih14 =>
      intro z43 z44 h45 H locs ls hf hl w
      rw [lX8_findRoot_14] at hf
      refine lv_iload hx hb dX8_findRoot_14 (lv_at hl 4 rfl) ?_
      refine lv_sipush (v := (32003 : Int32)) hx hb dX8_findRoot_16 (by decide) ?_
      refine lv_icmp_ge (tgt := 93) hx hb dX8_findRoot_19 (by decide) (fun c46 => ?_) (fun c46 => ?_)
      · have hf := if_t hf c46
        exact hx14 z43 z44 h45 H locs ls (by rw [eκ14] at hf; exact hf) (lv_sub hl [0, 1, 2, 3, 4] rfl) w
      · have hf := if_f hf c46
        refine lv_iload_n hx hb dX8_findRoot_22 rfl (lv_at hl 1 rfl) ?_
        refine lv_if_lt (tgt := 93) hx hb dX8_findRoot_23 (by decide) (fun c47 => ?_) (fun c47 => ?_)
        · have hf := if_t hf c47
          exact hx14 z43 z44 h45 H locs ls (by rw [eκ14] at hf; exact hf) (lv_sub hl [0, 1, 2, 3, 4] rfl) w
        · have hf := if_f hf c47
          refine lv_lconst (v := 0) hx hb dX8_findRoot_26 (by decide) ?_
          refine lv_lstore (lv' := [(5, .long (0 : Int64)), (0, .ref (ι a0)), (1, .int a1), (2, .int v4), (3, .int z43), (4, .int z44)]) hx hb dX8_findRoot_27 hl (by decide) rfl (fun ls hl => ?_)
          refine lv_iconst (v := (4 : Int32)) hx hb dX8_findRoot_29 (by decide) ?_
          refine lv_istore (lv' := [(7, .int (4 : Int32)), (5, .long (0 : Int64)), (0, .ref (ι a0)), (1, .int a1), (2, .int v4), (3, .int z43), (4, .int z44)]) hx hb dX8_findRoot_30 hl (by decide) rfl (fun ls hl => ?_)
          have hx32 : ∀ (y48 : Int64) (y49 : Int32) (h50 : Hp) (H : Heap) (locs : List Loc) (ls : Array Slot), (jn (fun y52 h53 => nm (z44 + (1 : Int32)) fun x54 => lX8_findRoot_14 N a0 a1 v4 n14 y52 x54 h53 κ14) fun (j51 : Int32 → Hp → Option (Int32 × Hp)) => if (lg_cmp y48 (0 : Int64)) = 0 then if z43 = a1 then some (z44, h50) else nm (z43 + (1 : Int32)) fun x57 => j51 x57 h50 else j51 z43 h50) = some (r, h') → lv_has ls 8 [(0, .ref (ι a0)), (1, .int a1), (2, .int v4), (3, .int z43), (4, .int z44), (5, .long y48), (7, .int y49)] → WD D dA b0 ι h50 s.heap H locs → W p l e (headSpec wsX8_findRoot rmX8_findRoot).room s m ([.ref (ι a0), .int a1] : List Value).toArray below meth c H locs 0 0 (MQ below (QI D dA b0 ι r h') ([.ref (ι a0), .int a1] : List Value).toArray s 0 0 (qA b0)) (F0 m 66 ls []) := by
            intro y48 y49 h50 H locs ls hf hl w
            refine lv_lload hx hb dX8_findRoot_66 (lv_at hl 5 rfl) ?_
            refine lv_lconst (v := 0) hx hb dX8_findRoot_68 (by decide) ?_
            refine W.lcmp hx hb dX8_findRoot_69 ?_
            have hj87 : ∀ (y52 : Int32) (h53 : Hp) (H : Heap) (locs : List Loc) (ls : Array Slot), (nm (z44 + (1 : Int32)) fun x54 => lX8_findRoot_14 N a0 a1 v4 n14 y52 x54 h53 κ14) = some (r, h') → lv_has ls 8 [(0, .ref (ι a0)), (1, .int a1), (2, .int v4), (3, .int y52), (4, .int z44), (5, .long y48), (7, .int y49)] → WD D dA b0 ι h53 s.heap H locs → W p l e (headSpec wsX8_findRoot rmX8_findRoot).room s m ([.ref (ι a0), .int a1] : List Value).toArray below meth c H locs 0 0 (MQ below (QI D dA b0 ι r h') ([.ref (ι a0), .int a1] : List Value).toArray s 0 0 (qA b0)) (F0 m 87 ls []) := by
              intro y52 h53 H locs ls hf hl w
              obtain ⟨x54, ex54, hf⟩ := nm_s hf
              refine lv_iinc (v := x54) (lv' := [(4, .int x54), (0, .ref (ι a0)), (1, .int a1), (2, .int v4), (3, .int y52), (5, .long y48), (7, .int y49)]) hx hb dX8_findRoot_87 hl (k := 4) rfl (by rw [ex54]; rfl) (by decide) rfl (fun ls hl => ?_)
              refine lv_goto (tgt := 14) hx hb dX8_findRoot_90 (by decide) ?_
              exact ih14 y52 x54 h53 H locs ls hf (lv_sub hl [1, 2, 3, 4, 0] rfl) w
            obtain ⟨j51, ej51, hf⟩ := jn_s hf
            refine lv_if_eq (tgt := 76) hx hb dX8_findRoot_70 (by decide) (fun c55 => ?_) (fun c55 => ?_)
            · have hf := if_t hf c55
              refine lv_iload_n hx hb dX8_findRoot_76 rfl (lv_at hl 3 rfl) ?_
              refine lv_iload_n hx hb dX8_findRoot_77 rfl (lv_at hl 1 rfl) ?_
              refine lv_icmp_ne (tgt := 84) hx hb dX8_findRoot_78 (by decide) (fun c56 => ?_) (fun c56 => ?_)
              · have hf := if_f hf c56
                obtain ⟨x57, ex57, hf⟩ := nm_s hf
                refine lv_iinc (v := x57) (lv' := [(3, .int x57), (0, .ref (ι a0)), (1, .int a1), (2, .int v4), (4, .int z44), (5, .long y48), (7, .int y49)]) hx hb dX8_findRoot_84 hl (k := 3) rfl (by rw [ex57]; rfl) (by decide) rfl (fun ls hl => ?_)
                exact hj87 x57 h50 H locs ls (by rw [ej51] at hf; exact hf) (lv_sub hl [1, 2, 3, 0, 4, 5, 6] rfl) w
              · have hf := if_t hf c56
                refine lv_iload hx hb dX8_findRoot_81 (lv_at hl 4 rfl) ?_
                exact W.iret hx hb hr (qi_end hf w hC) w.locs_ok dX8_findRoot_83
            · have hf := if_f hf c55
              refine lv_goto (tgt := 87) hx hb dX8_findRoot_73 (by decide) ?_
              exact hj87 z43 h50 H locs ls (by rw [ej51] at hf; exact hf) (lv_sub hl [0, 1, 2, 3, 4, 5, 6] rfl) w
          obtain ⟨κ32, eκ32⟩ : ∃ k : Int64 → Int32 → Hp → Option (Int32 × Hp), k = (fun y48 y49 h50 => jn (fun y52 h53 => nm (z44 + (1 : Int32)) fun x54 => lX8_findRoot_14 N a0 a1 v4 n14 y52 x54 h53 κ14) fun (j51 : Int32 → Hp → Option (Int32 × Hp)) => if (lg_cmp y48 (0 : Int64)) = 0 then if z43 = a1 then some (z44, h50) else nm (z43 + (1 : Int32)) fun x57 => j51 x57 h50 else j51 z43 h50) := ⟨_, rfl⟩
          have hlp32 : ∀ (n : Nat) (z67 : Int64) (z68 : Int32) (h69 : Hp) (H : Heap) (locs : List Loc) (ls : Array Slot), lX8_findRoot_32 N a0 a1 v4 z43 z44 n z67 z68 h69 κ32 = some (r, h') → lv_has ls 8 [(0, .ref (ι a0)), (1, .int a1), (2, .int v4), (3, .int z43), (4, .int z44), (5, .long z67), (7, .int z68)] → WD D dA b0 ι h69 s.heap H locs → W p l e (headSpec wsX8_findRoot rmX8_findRoot).room s m ([.ref (ι a0), .int a1] : List Value).toArray below meth c H locs 0 0 (MQ below (QI D dA b0 ι r h') ([.ref (ι a0), .int a1] : List Value).toArray s 0 0 (qA b0)) (F0 m 32 ls []) := by
            intro n32
            induction n32 with
            | zero => intro z67 z68 h69 H locs ls hf; exact absurd hf (by rw [lX8_findRoot_32]; exact fun q => nomatch q)
            | succ n32 ih32 =>
              intro z67 z68 h69 H locs ls hf hl w
              rw [lX8_findRoot_32] at hf
              refine lv_iload hx hb dX8_findRoot_32 (lv_at hl 6 rfl) ?_
              refine lv_if_lt (tgt := 66) hx hb dX8_findRoot_34 (by decide) (fun c70 => ?_) (fun c70 => ?_)
              · have hf := if_t hf c70
                exact hx32 z67 z68 h69 H locs ls (by rw [eκ32] at hf; exact hf) (lv_sub hl [0, 1, 2, 3, 4, 5, 6] rfl) w
              · have hf := if_f hf c70
                refine lv_lload hx hb dX8_findRoot_37 (lv_at hl 5 rfl) ?_
                refine lv_iload hx hb dX8_findRoot_39 (lv_at hl 4 rfl) ?_
                refine lv_i2l hx hb dX8_findRoot_41 rfl ?_
                refine lv_lmul hx hb dX8_findRoot_42 ?_
                refine lv_aload_n hx hb dX8_findRoot_43 rfl (lv_at hl 0 rfl) ?_
                obtain ⟨v71, ev71, hf⟩ := ob_s hf
                refine px_getR hx hb hts nX8_findRoot_X8 hown hK w ev71 rfl (by decide) mX8_findRoot_20 rfl dX8_findRoot_44 ?_
                refine lv_iload_n hx hb dX8_findRoot_47 rfl (lv_at hl 2 rfl) ?_
                refine lv_iload hx hb dX8_findRoot_48 (lv_at hl 6 rfl) ?_
                refine lv_iadd hx hb dX8_findRoot_50 ?_
                obtain ⟨v72, ev72, hf⟩ := ob_s hf
                refine px_iald hx hb hK w ev72 dX8_findRoot_51 ?_
                refine lv_i2l hx hb dX8_findRoot_52 rfl ?_
                refine lv_ladd hx hb dX8_findRoot_53 ?_
                refine lv_ldc2 (v := 32003) hx hb hown (hts _ mX8_findRoot_69) dX8_findRoot_54 ?_
                refine px_lrem hx hb dX8_findRoot_57 (by decide) ?_
                obtain ⟨x73, ex73, hf⟩ := nm_s hf
                refine px_nmJ ex73 ?_
                refine lv_lstore (lv' := [(5, .long x73), (0, .ref (ι a0)), (1, .int a1), (2, .int v4), (3, .int z43), (4, .int z44), (7, .int z68)]) hx hb dX8_findRoot_58 hl (by decide) rfl (fun ls hl => ?_)
                obtain ⟨x74, ex74, hf⟩ := nm_s hf
                refine lv_iinc (v := x74) (lv' := [(7, .int x74), (5, .long x73), (0, .ref (ι a0)), (1, .int a1), (2, .int v4), (3, .int z43), (4, .int z44)]) hx hb dX8_findRoot_60 hl (k := 6) rfl (by rw [ex74]; rfl) (by decide) rfl (fun ls hl => ?_)
                refine lv_goto (tgt := 32) hx hb dX8_findRoot_63 (by decide) ?_
                exact ih32 x73 x74 h69 H locs ls hf (lv_sub hl [2, 3, 4, 5, 6, 1, 0] rfl) w
          exact hlp32 N (0 : Int64) (4 : Int32) h45 H locs ls (by rw [eκ32]; exact hf) (lv_sub hl [2, 3, 4, 5, 6, 1, 0] rfl) w
  exact hlp14 N (0 : Int32) (0 : Int32) h5 H locs ls (by rw [eκ14]; exact hf) (lv_sub hl [3, 4, 2, 1, 0] rfl) w
abbrev rmX8_root : Room := { frames := 6, cells := 0, slots := 0, locals := 138 }
set_option maxHeartbeats 4000000 in
set_option maxRecDepth 100000 in
theorem kX8_root (l : Launch) (D : va_G) (dA : Nat → ClassId) (b0 : Nat) (ι : Nat → Nat) (N : Nat) (a0 : Nat) (a1 : Int32) (h : Hp) (r : Int32) (h' : Hp) (hf : fX8_root N a0 a1 h = some (r, h')) : Met l yX8_root wsX8_root rmX8_root (PC D dA b0 ι [.ref (ι a0), .int a1] h) (QI D dA b0 ι r h') 0 0 (qA b0) := by
  unfold fX8_root at hf
  refine Met.ofW (cc := cX8_root) (maxL := 2) (ret := (some .int)) (by decide +kernel) rfl ?_
  intro p e s m args below meth c s₁ B hml hv
  obtain ⟨rfl, w0⟩ := hv
  have hx := B.exec
  have hb := B.bytes
  have hr := B.returns
  have hts := atoms_spec (ws := wsX8_root) B.pre
  have hown : s.vm.findClass RX8 = some m.cls := findClass_of_methodNamed B.named
  have hlocks := B.notSynchronized
  have hC := w0.c
  have hK := hC.1
  have w := WD.start w0
  clear w0
  have hl := lv_entry ([.ref (ι a0), .int a1]) (n := 2) (Nat.le_of_ble_eq_true rfl)
  rw [lg_entry_eq]
  generalize (lg_sl ([.ref (ι a0), .int a1]) ++ List.replicate (2 - (lg_sl ([.ref (ι a0), .int a1])).length) Slot.unset).toArray = ls at hl ⊢
  have hl : lv_has ls 2 [(0, .ref (ι a0)), (1, .int a1)] := hl
  obtain ⟨H, hH⟩ : ∃ H : Heap, H = s.heap := ⟨_, rfl⟩
  obtain ⟨locs, hlo⟩ : ∃ locs : List Loc, locs = [] := ⟨_, rfl⟩
  rw [← hlo]
  have w : WD D dA b0 ι h s.heap H locs := by rw [hH, hlo]; exact w
  refine px_start hH ?_
  refine lv_aload_n hx hb dX8_root_0 rfl (lv_at hl 0 rfl) ?_
  obtain ⟨u3, eu3, hf⟩ := ob_s hf
  obtain ⟨⟨v1, h2⟩, eh2, hf⟩ := ob_s hf
  dsimp only at hf
  refine px_callVi (As := []) (rest := []) ⟨hx, hb, hml, hown, hts⟩ hC w (kX8_isSquare l D dA b0 ι N a0 h v1 h2 eh2) (cwV 0 hts gX8_root_X8_isSquare rfl rfl rfl (by decide +kernel) ⟨Nat.le_of_ble_eq_true rfl, Nat.le_of_ble_eq_true rfl⟩) eu3 rfl rfl hl.1 rfl (Nat.le_of_ble_eq_true rfl) dX8_root_1 ⟨Nat.le_of_ble_eq_true rfl, Nat.le_of_ble_eq_true rfl⟩ (fun H locs w => ?_)
  have hj16 : ∀ (t6 : Int32) (h5 : Hp) (H : Heap) (locs : List Loc) (ls : Array Slot), (some (t6, h5)) = some (r, h') → lv_has ls 2 [(0, .ref (ι a0)), (1, .int a1)] → WD D dA b0 ι h5 s.heap H locs → W p l e (headSpec wsX8_root rmX8_root).room s m ([.ref (ι a0), .int a1] : List Value).toArray below meth c H locs 0 0 (MQ below (QI D dA b0 ι r h') ([.ref (ι a0), .int a1] : List Value).toArray s 0 0 (qA b0)) (F0 m 16 ls [.int t6]) := by
    intro t6 h5 H locs ls hf hl w
    exact W.iret hx hb hr (qi_end hf w hC) w.locs_ok dX8_root_16
  obtain ⟨j4, ej4, hf⟩ := jn_s hf
  refine lv_if_eq (tgt := 15) hx hb dX8_root_4 (by decide) (fun c7 => ?_) (fun c7 => ?_)
  · have hf := if_t hf c7
    refine lv_iconst (v := (0 : Int32)) hx hb dX8_root_15 (by decide) ?_
    exact hj16 (0 : Int32) h2 H locs ls (by rw [ej4] at hf; exact hf) (lv_sub hl [0, 1] rfl) w
  · have hf := if_f hf c7
    refine lv_aload_n hx hb dX8_root_7 rfl (lv_at hl 0 rfl) ?_
    refine lv_iload_n hx hb dX8_root_8 rfl (lv_at hl 1 rfl) ?_
    obtain ⟨u10, eu10, hf⟩ := ob_s hf
    obtain ⟨⟨v8, h9⟩, eh9, hf⟩ := ob_s hf
    dsimp only at hf
    refine px_callVi (As := [.int a1]) (rest := []) ⟨hx, hb, hml, hown, hts⟩ hC w (kX8_findRoot l D dA b0 ι N a0 a1 h2 v8 h9 eh9) (cwV 1 hts gX8_root_X8_findRoot rfl rfl rfl (by decide +kernel) ⟨Nat.le_of_ble_eq_true rfl, Nat.le_of_ble_eq_true rfl⟩) eu10 rfl rfl hl.1 rfl (Nat.le_of_ble_eq_true rfl) dX8_root_9 ⟨Nat.le_of_ble_eq_true rfl, Nat.le_of_ble_eq_true rfl⟩ (fun H locs w => ?_)
    refine lv_goto (tgt := 16) hx hb dX8_root_12 (by decide) ?_
    exact hj16 v8 h9 H locs ls (by rw [ej4] at hf; exact hf) (lv_sub hl [0, 1] rfl) w
theorem nX8_rankOf_X8 : ∀ w ∈ wsX80, w ∈ wsX8_rankOf := by decide +kernel
theorem mX8_rankOf_23 : Cond.fieldLink RX8 23 "NormalFormsModel" "work" "[I" ∈ wsX8_rankOf := by decide +kernel
theorem mX8_rankOf_59 : Cond.fieldLink RX8 59 "NormalFormsModel" "raised" "[I" ∈ wsX8_rankOf := by decide +kernel
theorem mX8_rankOf_62 : Cond.fieldLink RX8 62 "NormalFormsModel" "next" "[I" ∈ wsX8_rankOf := by decide +kernel
theorem mX8_rankOf_71 : Cond.fieldLink RX8 71 "NormalFormsModel" "rows" "I" ∈ wsX8_rankOf := by decide +kernel
theorem mX8_rankOf_69 : Cond.constantLong RX8 69 (32003) ∈ wsX8_rankOf := by decide +kernel
abbrev rmX8_rankOf : Room := { frames := 4, cells := 0, slots := 0, locals := 89 }
set_option maxHeartbeats 4000000 in
set_option maxRecDepth 100000 in
theorem kX8_rankOf (l : Launch) (D : va_G) (dA : Nat → ClassId) (b0 : Nat) (ι : Nat → Nat) (N : Nat) (a0 : Nat) (a1 : Int32) (a2 : Int32) (h : Hp) (r : Int32) (h' : Hp) (hf : fX8_rankOf N a0 a1 a2 h = some (r, h')) : Met l yX8_rankOf wsX8_rankOf rmX8_rankOf (PC D dA b0 ι [.ref (ι a0), .int a1, .int a2] h) (QI D dA b0 ι r h') 0 0 (qA b0) := by
  unfold fX8_rankOf at hf
  refine Met.ofW (cc := cX8_rankOf) (maxL := 8) (ret := (some .int)) (by decide +kernel) rfl ?_
  intro p e s m args below meth c s₁ B hml hv
  obtain ⟨rfl, w0⟩ := hv
  have hx := B.exec
  have hb := B.bytes
  have hr := B.returns
  have hts := atoms_spec (ws := wsX8_rankOf) B.pre
  have hown : s.vm.findClass RX8 = some m.cls := findClass_of_methodNamed B.named
  have hlocks := B.notSynchronized
  have hC := w0.c
  have hK := hC.1
  have w := WD.start w0
  clear w0
  have hl := lv_entry ([.ref (ι a0), .int a1, .int a2]) (n := 8) (Nat.le_of_ble_eq_true rfl)
  rw [lg_entry_eq]
  generalize (lg_sl ([.ref (ι a0), .int a1, .int a2]) ++ List.replicate (8 - (lg_sl ([.ref (ι a0), .int a1, .int a2])).length) Slot.unset).toArray = ls at hl ⊢
  have hl : lv_has ls 8 [(0, .ref (ι a0)), (1, .int a1), (2, .int a2)] := hl
  obtain ⟨H, hH⟩ : ∃ H : Heap, H = s.heap := ⟨_, rfl⟩
  obtain ⟨locs, hlo⟩ : ∃ locs : List Loc, locs = [] := ⟨_, rfl⟩
  rw [← hlo]
  have w : WD D dA b0 ι h s.heap H locs := by rw [hH, hlo]; exact w
  refine px_start hH ?_
  refine lv_iconst (v := (0 : Int32)) hx hb dX8_rankOf_0 (by decide) ?_
  refine lv_istore_n (lv' := [(3, .int (0 : Int32)), (0, .ref (ι a0)), (1, .int a1), (2, .int a2)]) hx hb dX8_rankOf_1 rfl hl (by decide) rfl (fun ls hl => ?_)
  have hx2 : ∀ (y1 : Int32) (h2 : Hp) (H : Heap) (locs : List Loc) (ls : Array Slot), (lX8_rankOf_46 N a0 a1 a2 N (0 : Int32) h2 (fun y3 h4 => lX8_rankOf_222 N a0 a1 a2 N (0 : Int32) h4 (fun y5 h6 => lX8_rankOf_243 N a0 a1 a2 N (0 : Int32) h6 (fun y7 h8 => (cK h8 a0 10).bind fun u11 => (fX8_findMinors N a0 h8).bind fun h10 => (cK h10 a0 10).bind fun u14 => (fX8_rankNow N a0 h10).bind fun (v12, h13) => some (v12, h13))))) = some (r, h') → lv_has ls 8 [(0, .ref (ι a0)), (1, .int a1), (2, .int a2), (3, .int y1)] → WD D dA b0 ι h2 s.heap H locs → W p l e (headSpec wsX8_rankOf rmX8_rankOf).room s m ([.ref (ι a0), .int a1, .int a2] : List Value).toArray below meth c H locs 0 0 (MQ below (QI D dA b0 ι r h') ([.ref (ι a0), .int a1, .int a2] : List Value).toArray s 0 0 (qA b0)) (F0 m 44 ls []) := by
    intro y1 h2 H locs ls hf hl w
    refine lv_iconst (v := (0 : Int32)) hx hb dX8_rankOf_44 (by decide) ?_
    refine lv_istore_n (lv' := [(3, .int (0 : Int32)), (0, .ref (ι a0)), (1, .int a1), (2, .int a2)]) hx hb dX8_rankOf_45 rfl hl (by decide) rfl (fun ls hl => ?_)
    have hx46 : ∀ (y3 : Int32) (h4 : Hp) (H : Heap) (locs : List Loc) (ls : Array Slot), (lX8_rankOf_222 N a0 a1 a2 N (0 : Int32) h4 (fun y5 h6 => lX8_rankOf_243 N a0 a1 a2 N (0 : Int32) h6 (fun y7 h8 => (cK h8 a0 10).bind fun u11 => (fX8_findMinors N a0 h8).bind fun h10 => (cK h10 a0 10).bind fun u14 => (fX8_rankNow N a0 h10).bind fun (v12, h13) => some (v12, h13)))) = some (r, h') → lv_has ls 8 [(0, .ref (ι a0)), (1, .int a1), (2, .int a2), (3, .int y3)] → WD D dA b0 ι h4 s.heap H locs → W p l e (headSpec wsX8_rankOf rmX8_rankOf).room s m ([.ref (ι a0), .int a1, .int a2] : List Value).toArray below meth c H locs 0 0 (MQ below (QI D dA b0 ι r h') ([.ref (ι a0), .int a1, .int a2] : List Value).toArray s 0 0 (qA b0)) (F0 m 220 ls []) := by
      intro y3 h4 H locs ls hf hl w
      refine lv_iconst (v := (0 : Int32)) hx hb dX8_rankOf_220 (by decide) ?_
      refine lv_istore_n (lv' := [(3, .int (0 : Int32)), (0, .ref (ι a0)), (1, .int a1), (2, .int a2)]) hx hb dX8_rankOf_221 rfl hl (by decide) rfl (fun ls hl => ?_)
      have hx222 : ∀ (y5 : Int32) (h6 : Hp) (H : Heap) (locs : List Loc) (ls : Array Slot), (lX8_rankOf_243 N a0 a1 a2 N (0 : Int32) h6 (fun y7 h8 => (cK h8 a0 10).bind fun u11 => (fX8_findMinors N a0 h8).bind fun h10 => (cK h10 a0 10).bind fun u14 => (fX8_rankNow N a0 h10).bind fun (v12, h13) => some (v12, h13))) = some (r, h') → lv_has ls 8 [(0, .ref (ι a0)), (1, .int a1), (2, .int a2), (3, .int y5)] → WD D dA b0 ι h6 s.heap H locs → W p l e (headSpec wsX8_rankOf rmX8_rankOf).room s m ([.ref (ι a0), .int a1, .int a2] : List Value).toArray below meth c H locs 0 0 (MQ below (QI D dA b0 ι r h') ([.ref (ι a0), .int a1, .int a2] : List Value).toArray s 0 0 (qA b0)) (F0 m 241 ls []) := by
        intro y5 h6 H locs ls hf hl w
        refine lv_iconst (v := (0 : Int32)) hx hb dX8_rankOf_241 (by decide) ?_
        refine lv_istore_n (lv' := [(3, .int (0 : Int32)), (0, .ref (ι a0)), (1, .int a1), (2, .int a2)]) hx hb dX8_rankOf_242 rfl hl (by decide) rfl (fun ls hl => ?_)
        have hx243 : ∀ (y7 : Int32) (h8 : Hp) (H : Heap) (locs : List Loc) (ls : Array Slot), ((cK h8 a0 10).bind fun u11 => (fX8_findMinors N a0 h8).bind fun h10 => (cK h10 a0 10).bind fun u14 => (fX8_rankNow N a0 h10).bind fun (v12, h13) => some (v12, h13)) = some (r, h') → lv_has ls 8 [(0, .ref (ι a0)), (1, .int a1), (2, .int a2), (3, .int y7)] → WD D dA b0 ι h8 s.heap H locs → W p l e (headSpec wsX8_rankOf rmX8_rankOf).room s m ([.ref (ι a0), .int a1, .int a2] : List Value).toArray below meth c H locs 0 0 (MQ below (QI D dA b0 ι r h') ([.ref (ι a0), .int a1, .int a2] : List Value).toArray s 0 0 (qA b0)) (F0 m 269 ls []) := by
          intro y7 h8 H locs ls hf hl w
          refine lv_aload_n hx hb dX8_rankOf_269 rfl (lv_at hl 0 rfl) ?_
          obtain ⟨u11, eu11, hf⟩ := ob_s hf
          obtain ⟨h10, eh10, hf⟩ := ob_s hf
          refine px_callVv (As := []) (rest := []) ⟨hx, hb, hml, hown, hts⟩ hC w (kX8_findMinors l D dA b0 ι N a0 h8 h10 eh10) (cwV 0 hts gX8_rankOf_X8_findMinors rfl rfl rfl (by decide +kernel) ⟨Nat.le_of_ble_eq_true rfl, Nat.le_of_ble_eq_true rfl⟩) eu11 rfl rfl hl.1 rfl (Nat.le_of_ble_eq_true rfl) dX8_rankOf_270 ⟨Nat.le_of_ble_eq_true rfl, Nat.le_of_ble_eq_true rfl⟩ (fun H locs w => ?_)
          refine lv_aload_n hx hb dX8_rankOf_273 rfl (lv_at hl 0 rfl) ?_
          obtain ⟨u14, eu14, hf⟩ := ob_s hf
          obtain ⟨⟨v12, h13⟩, eh13, hf⟩ := ob_s hf
          dsimp only at hf
          refine px_callVi (As := []) (rest := []) ⟨hx, hb, hml, hown, hts⟩ hC w (kX8_rankNow l D dA b0 ι N a0 h10 v12 h13 eh13) (cwV 0 hts gX8_rankOf_X8_rankNow rfl rfl rfl (by decide +kernel) ⟨Nat.le_of_ble_eq_true rfl, Nat.le_of_ble_eq_true rfl⟩) eu14 rfl rfl hl.1 rfl (Nat.le_of_ble_eq_true rfl) dX8_rankOf_274 ⟨Nat.le_of_ble_eq_true rfl, Nat.le_of_ble_eq_true rfl⟩ (fun H locs w => ?_)
          exact W.iret hx hb hr (qi_end hf w hC) w.locs_ok dX8_rankOf_277
        obtain ⟨κ243, eκ243⟩ : ∃ k : Int32 → Hp → Option (Int32 × Hp), k = (fun y7 h8 => (cK h8 a0 10).bind fun u11 => (fX8_findMinors N a0 h8).bind fun h10 => (cK h10 a0 10).bind fun u14 => (fX8_rankNow N a0 h10).bind fun (v12, h13) => some (v12, h13)) := ⟨_, rfl⟩
        have hlp243 : ∀ (n : Nat) (z24 : Int32) (h25 : Hp) (H : Heap) (locs : List Loc) (ls : Array Slot), lX8_rankOf_243 N a0 a1 a2 n z24 h25 κ243 = some (r, h') → lv_has ls 8 [(0, .ref (ι a0)), (1, .int a1), (2, .int a2), (3, .int z24)] → WD D dA b0 ι h25 s.heap H locs → W p l e (headSpec wsX8_rankOf rmX8_rankOf).room s m ([.ref (ι a0), .int a1, .int a2] : List Value).toArray below meth c H locs 0 0 (MQ below (QI D dA b0 ι r h') ([.ref (ι a0), .int a1, .int a2] : List Value).toArray s 0 0 (qA b0)) (F0 m 243 ls []) := by
          intro n243
          induction n243 with
          | zero => intro z24 h25 H locs ls hf; exact absurd hf (by rw [lX8_rankOf_243]; exact fun q => nomatch q)
          | succ n243 ih243 =>
            intro z24 h25 H locs ls hf hl w
            rw [lX8_rankOf_243] at hf
            refine lv_iload_n hx hb dX8_rankOf_243 rfl (lv_at hl 3 rfl) ?_
            refine lv_bipush (v := (16 : Int32)) hx hb dX8_rankOf_244 (by decide) ?_
            refine lv_icmp_ge (tgt := 269) hx hb dX8_rankOf_246 (by decide) (fun c26 => ?_) (fun c26 => ?_)
            · have hf := if_t hf c26
              exact hx243 z24 h25 H locs ls (by rw [eκ243] at hf; exact hf) (lv_sub hl [0, 1, 2, 3] rfl) w
            · have hf := if_f hf c26
              refine lv_aload_n hx hb dX8_rankOf_249 rfl (lv_at hl 0 rfl) ?_
              obtain ⟨v27, ev27, hf⟩ := ob_s hf
              refine px_getR hx hb hts nX8_rankOf_X8 hown hK w ev27 rfl (by decide) mX8_rankOf_23 rfl dX8_rankOf_250 ?_
              refine lv_iconst (v := (4 : Int32)) hx hb dX8_rankOf_253 (by decide) ?_
              refine lv_iload_n hx hb dX8_rankOf_254 rfl (lv_at hl 3 rfl) ?_
              refine lv_imul hx hb dX8_rankOf_255 ?_
              refine lv_aload_n hx hb dX8_rankOf_256 rfl (lv_at hl 0 rfl) ?_
              obtain ⟨v28, ev28, hf⟩ := ob_s hf
              refine px_getR hx hb hts nX8_rankOf_X8 hown hK w ev28 rfl (by decide) mX8_rankOf_59 rfl dX8_rankOf_257 ?_
              refine lv_iload_n hx hb dX8_rankOf_260 rfl (lv_at hl 3 rfl) ?_
              obtain ⟨v29, ev29, hf⟩ := ob_s hf
              refine px_iald hx hb hK w ev29 dX8_rankOf_261 ?_
              obtain ⟨h30, eh30, hf⟩ := ob_s hf
              refine px_iast hx hb hK w eh30 dX8_rankOf_262 (fun H locs w => ?_)
              obtain ⟨x31, ex31, hf⟩ := nm_s hf
              refine lv_iinc (v := x31) (lv' := [(3, .int x31), (0, .ref (ι a0)), (1, .int a1), (2, .int a2)]) hx hb dX8_rankOf_263 hl (k := 3) rfl (by rw [ex31]; rfl) (by decide) rfl (fun ls hl => ?_)
              refine lv_goto (tgt := 243) hx hb dX8_rankOf_266 (by decide) ?_
              exact ih243 x31 h30 H locs ls hf (lv_sub hl [1, 2, 3, 0] rfl) w
        exact hlp243 N (0 : Int32) h6 H locs ls (by rw [eκ243]; exact hf) (lv_sub hl [1, 2, 3, 0] rfl) w
      obtain ⟨κ222, eκ222⟩ : ∃ k : Int32 → Hp → Option (Int32 × Hp), k = (fun y5 h6 => lX8_rankOf_243 N a0 a1 a2 N (0 : Int32) h6 (fun y7 h8 => (cK h8 a0 10).bind fun u11 => (fX8_findMinors N a0 h8).bind fun h10 => (cK h10 a0 10).bind fun u14 => (fX8_rankNow N a0 h10).bind fun (v12, h13) => some (v12, h13))) := ⟨_, rfl⟩
      have hlp222 : ∀ (n : Nat) (z39 : Int32) (h40 : Hp) (H : Heap) (locs : List Loc) (ls : Array Slot), lX8_rankOf_222 N a0 a1 a2 n z39 h40 κ222 = some (r, h') → lv_has ls 8 [(0, .ref (ι a0)), (1, .int a1), (2, .int a2), (3, .int z39)] → WD D dA b0 ι h40 s.heap H locs → W p l e (headSpec wsX8_rankOf rmX8_rankOf).room s m ([.ref (ι a0), .int a1, .int a2] : List Value).toArray below meth c H locs 0 0 (MQ below (QI D dA b0 ι r h') ([.ref (ι a0), .int a1, .int a2] : List Value).toArray s 0 0 (qA b0)) (F0 m 222 ls []) := by
        intro n222
        induction n222 with
        | zero => intro z39 h40 H locs ls hf; exact absurd hf (by rw [lX8_rankOf_222]; exact fun q => nomatch q)
        | succ n222 ih222 =>
          intro z39 h40 H locs ls hf hl w
          rw [lX8_rankOf_222] at hf
          refine lv_iload_n hx hb dX8_rankOf_222 rfl (lv_at hl 3 rfl) ?_
          refine lv_bipush (v := (64 : Int32)) hx hb dX8_rankOf_223 (by decide) ?_
          refine lv_icmp_ge (tgt := 241) hx hb dX8_rankOf_225 (by decide) (fun c41 => ?_) (fun c41 => ?_)
          · have hf := if_t hf c41
            exact hx222 z39 h40 H locs ls (by rw [eκ222] at hf; exact hf) (lv_sub hl [0, 1, 2, 3] rfl) w
          · have hf := if_f hf c41
            refine lv_aload_n hx hb dX8_rankOf_228 rfl (lv_at hl 0 rfl) ?_
            obtain ⟨v42, ev42, hf⟩ := ob_s hf
            refine px_getR hx hb hts nX8_rankOf_X8 hown hK w ev42 rfl (by decide) mX8_rankOf_23 rfl dX8_rankOf_229 ?_
            refine lv_iload_n hx hb dX8_rankOf_232 rfl (lv_at hl 3 rfl) ?_
            refine lv_iconst (v := (0 : Int32)) hx hb dX8_rankOf_233 (by decide) ?_
            obtain ⟨h43, eh43, hf⟩ := ob_s hf
            refine px_iast hx hb hK w eh43 dX8_rankOf_234 (fun H locs w => ?_)
            obtain ⟨x44, ex44, hf⟩ := nm_s hf
            refine lv_iinc (v := x44) (lv' := [(3, .int x44), (0, .ref (ι a0)), (1, .int a1), (2, .int a2)]) hx hb dX8_rankOf_235 hl (k := 3) rfl (by rw [ex44]; rfl) (by decide) rfl (fun ls hl => ?_)
            refine lv_goto (tgt := 222) hx hb dX8_rankOf_238 (by decide) ?_
            exact ih222 x44 h43 H locs ls hf (lv_sub hl [1, 2, 3, 0] rfl) w
      exact hlp222 N (0 : Int32) h4 H locs ls (by rw [eκ222]; exact hf) (lv_sub hl [1, 2, 3, 0] rfl) w
    obtain ⟨κ46, eκ46⟩ : ∃ k : Int32 → Hp → Option (Int32 × Hp), k = (fun y3 h4 => lX8_rankOf_222 N a0 a1 a2 N (0 : Int32) h4 (fun y5 h6 => lX8_rankOf_243 N a0 a1 a2 N (0 : Int32) h6 (fun y7 h8 => (cK h8 a0 10).bind fun u11 => (fX8_findMinors N a0 h8).bind fun h10 => (cK h10 a0 10).bind fun u14 => (fX8_rankNow N a0 h10).bind fun (v12, h13) => some (v12, h13)))) := ⟨_, rfl⟩
    have hlp46 : ∀ (n : Nat) (z201 : Int32) (h202 : Hp) (H : Heap) (locs : List Loc) (ls : Array Slot), lX8_rankOf_46 N a0 a1 a2 n z201 h202 κ46 = some (r, h') → lv_has ls 8 [(0, .ref (ι a0)), (1, .int a1), (2, .int a2), (3, .int z201)] → WD D dA b0 ι h202 s.heap H locs → W p l e (headSpec wsX8_rankOf rmX8_rankOf).room s m ([.ref (ι a0), .int a1, .int a2] : List Value).toArray below meth c H locs 0 0 (MQ below (QI D dA b0 ι r h') ([.ref (ι a0), .int a1, .int a2] : List Value).toArray s 0 0 (qA b0)) (F0 m 46 ls []) := by
      intro n46
      induction n46 with
      | zero => intro z201 h202 H locs ls hf; exact absurd hf (by rw [lX8_rankOf_46]; exact fun q => nomatch q)
      | succ n46 ih46 =>
        intro z201 h202 H locs ls hf hl w
        rw [lX8_rankOf_46] at hf
        refine lv_iload_n hx hb dX8_rankOf_46 rfl (lv_at hl 3 rfl) ?_
        refine lv_iload_n hx hb dX8_rankOf_47 rfl (lv_at hl 2 rfl) ?_
        refine lv_icmp_ge (tgt := 220) hx hb dX8_rankOf_48 (by decide) (fun c203 => ?_) (fun c203 => ?_)
        · have hf := if_t hf c203
          exact hx46 z201 h202 H locs ls (by rw [eκ46] at hf; exact hf) (lv_sub hl [0, 1, 2, 3] rfl) w
        · have hf := if_f hf c203
          refine lv_iload_n hx hb dX8_rankOf_51 rfl (lv_at hl 3 rfl) ?_
          refine lv_bipush (v := (6 : Int32)) hx hb dX8_rankOf_52 (by decide) ?_
          refine lv_icmp_ge (tgt := 220) hx hb dX8_rankOf_54 (by decide) (fun c204 => ?_) (fun c204 => ?_)
          · have hf := if_t hf c204
            exact hx46 z201 h202 H locs ls (by rw [eκ46] at hf; exact hf) (lv_sub hl [0, 1, 2, 3] rfl) w
          · have hf := if_f hf c204
            refine lv_iconst (v := (0 : Int32)) hx hb dX8_rankOf_57 (by decide) ?_
            refine lv_istore (lv' := [(4, .int (0 : Int32)), (0, .ref (ι a0)), (1, .int a1), (2, .int a2), (3, .int z201)]) hx hb dX8_rankOf_58 hl (by decide) rfl (fun ls hl => ?_)
            have hx60 : ∀ (y205 : Int32) (h206 : Hp) (H : Heap) (locs : List Loc) (ls : Array Slot), (lX8_rankOf_187 N a0 a1 a2 z201 N (0 : Int32) h206 (fun y207 h208 => nm (z201 + (1 : Int32)) fun x209 => lX8_rankOf_46 N a0 a1 a2 n46 x209 h208 κ46)) = some (r, h') → lv_has ls 8 [(0, .ref (ι a0)), (1, .int a1), (2, .int a2), (3, .int z201), (4, .int y205)] → WD D dA b0 ι h206 s.heap H locs → W p l e (headSpec wsX8_rankOf rmX8_rankOf).room s m ([.ref (ι a0), .int a1, .int a2] : List Value).toArray below meth c H locs 0 0 (MQ below (QI D dA b0 ι r h') ([.ref (ι a0), .int a1, .int a2] : List Value).toArray s 0 0 (qA b0)) (F0 m 184 ls []) := by
              intro y205 h206 H locs ls hf hl w
              refine lv_iconst (v := (0 : Int32)) hx hb dX8_rankOf_184 (by decide) ?_
              refine lv_istore (lv' := [(4, .int (0 : Int32)), (0, .ref (ι a0)), (1, .int a1), (2, .int a2), (3, .int z201)]) hx hb dX8_rankOf_185 hl (by decide) rfl (fun ls hl => ?_)
              have hx187 : ∀ (y207 : Int32) (h208 : Hp) (H : Heap) (locs : List Loc) (ls : Array Slot), (nm (z201 + (1 : Int32)) fun x209 => lX8_rankOf_46 N a0 a1 a2 n46 x209 h208 κ46) = some (r, h') → lv_has ls 8 [(0, .ref (ι a0)), (1, .int a1), (2, .int a2), (3, .int z201), (4, .int y207)] → WD D dA b0 ι h208 s.heap H locs → W p l e (headSpec wsX8_rankOf rmX8_rankOf).room s m ([.ref (ι a0), .int a1, .int a2] : List Value).toArray below meth c H locs 0 0 (MQ below (QI D dA b0 ι r h') ([.ref (ι a0), .int a1, .int a2] : List Value).toArray s 0 0 (qA b0)) (F0 m 214 ls []) := by
                intro y207 h208 H locs ls hf hl w
                obtain ⟨x209, ex209, hf⟩ := nm_s hf
                refine lv_iinc (v := x209) (lv' := [(3, .int x209), (0, .ref (ι a0)), (1, .int a1), (2, .int a2), (4, .int y207)]) hx hb dX8_rankOf_214 hl (k := 3) rfl (by rw [ex209]; rfl) (by decide) rfl (fun ls hl => ?_)
                refine lv_goto (tgt := 46) hx hb dX8_rankOf_217 (by decide) ?_
                exact ih46 x209 h208 H locs ls hf (lv_sub hl [1, 2, 3, 0] rfl) w
              obtain ⟨κ187, eκ187⟩ : ∃ k : Int32 → Hp → Option (Int32 × Hp), k = (fun y207 h208 => nm (z201 + (1 : Int32)) fun x209 => lX8_rankOf_46 N a0 a1 a2 n46 x209 h208 κ46) := ⟨_, rfl⟩
              have hlp187 : ∀ (n : Nat) (z219 : Int32) (h220 : Hp) (H : Heap) (locs : List Loc) (ls : Array Slot), lX8_rankOf_187 N a0 a1 a2 z201 n z219 h220 κ187 = some (r, h') → lv_has ls 8 [(0, .ref (ι a0)), (1, .int a1), (2, .int a2), (3, .int z201), (4, .int z219)] → WD D dA b0 ι h220 s.heap H locs → W p l e (headSpec wsX8_rankOf rmX8_rankOf).room s m ([.ref (ι a0), .int a1, .int a2] : List Value).toArray below meth c H locs 0 0 (MQ below (QI D dA b0 ι r h') ([.ref (ι a0), .int a1, .int a2] : List Value).toArray s 0 0 (qA b0)) (F0 m 187 ls []) := by
                intro n187
                induction n187 with
                | zero => intro z219 h220 H locs ls hf; exact absurd hf (by rw [lX8_rankOf_187]; exact fun q => nomatch q)
                | succ n187 ih187 =>
                  intro z219 h220 H locs ls hf hl w
                  rw [lX8_rankOf_187] at hf
                  refine lv_iload hx hb dX8_rankOf_187 (lv_at hl 4 rfl) ?_
                  refine lv_bipush (v := (16 : Int32)) hx hb dX8_rankOf_189 (by decide) ?_
                  refine lv_icmp_ge (tgt := 214) hx hb dX8_rankOf_191 (by decide) (fun c221 => ?_) (fun c221 => ?_)
                  · have hf := if_t hf c221
                    exact hx187 z219 h220 H locs ls (by rw [eκ187] at hf; exact hf) (lv_sub hl [0, 1, 2, 3, 4] rfl) w
                  · have hf := if_f hf c221
                    refine lv_aload_n hx hb dX8_rankOf_194 rfl (lv_at hl 0 rfl) ?_
                    obtain ⟨v222, ev222, hf⟩ := ob_s hf
                    refine px_getR hx hb hts nX8_rankOf_X8 hown hK w ev222 rfl (by decide) mX8_rankOf_59 rfl dX8_rankOf_195 ?_
                    refine lv_iload hx hb dX8_rankOf_198 (lv_at hl 4 rfl) ?_
                    refine lv_aload_n hx hb dX8_rankOf_200 rfl (lv_at hl 0 rfl) ?_
                    obtain ⟨v223, ev223, hf⟩ := ob_s hf
                    refine px_getR hx hb hts nX8_rankOf_X8 hown hK w ev223 rfl (by decide) mX8_rankOf_62 rfl dX8_rankOf_201 ?_
                    refine lv_iload hx hb dX8_rankOf_204 (lv_at hl 4 rfl) ?_
                    obtain ⟨v224, ev224, hf⟩ := ob_s hf
                    refine px_iald hx hb hK w ev224 dX8_rankOf_206 ?_
                    obtain ⟨h225, eh225, hf⟩ := ob_s hf
                    refine px_iast hx hb hK w eh225 dX8_rankOf_207 (fun H locs w => ?_)
                    obtain ⟨x226, ex226, hf⟩ := nm_s hf
                    refine lv_iinc (v := x226) (lv' := [(4, .int x226), (0, .ref (ι a0)), (1, .int a1), (2, .int a2), (3, .int z201)]) hx hb dX8_rankOf_208 hl (k := 4) rfl (by rw [ex226]; rfl) (by decide) rfl (fun ls hl => ?_)
                    refine lv_goto (tgt := 187) hx hb dX8_rankOf_211 (by decide) ?_
                    exact ih187 x226 h225 H locs ls hf (lv_sub hl [1, 2, 3, 4, 0] rfl) w
              exact hlp187 N (0 : Int32) h206 H locs ls (by rw [eκ187]; exact hf) (lv_sub hl [1, 2, 3, 4, 0] rfl) w
            obtain ⟨κ60, eκ60⟩ : ∃ k : Int32 → Hp → Option (Int32 × Hp), k = (fun y205 h206 => lX8_rankOf_187 N a0 a1 a2 z201 N (0 : Int32) h206 (fun y207 h208 => nm (z201 + (1 : Int32)) fun x209 => lX8_rankOf_46 N a0 a1 a2 n46 x209 h208 κ46)) := ⟨_, rfl⟩
            have hlp60 : ∀ (n : Nat) (z292 : Int32) (h293 : Hp) (H : Heap) (locs : List Loc) (ls : Array Slot), lX8_rankOf_60 N a0 a1 a2 z201 n z292 h293 κ60 = some (r, h') → lv_has ls 8 [(0, .ref (ι a0)), (1, .int a1), (2, .int a2), (3, .int z201), (4, .int z292)] → WD D dA b0 ι h293 s.heap H locs → W p l e (headSpec wsX8_rankOf rmX8_rankOf).room s m ([.ref (ι a0), .int a1, .int a2] : List Value).toArray below meth c H locs 0 0 (MQ below (QI D dA b0 ι r h') ([.ref (ι a0), .int a1, .int a2] : List Value).toArray s 0 0 (qA b0)) (F0 m 60 ls []) := by
              intro n60
              induction n60 with
              | zero => intro z292 h293 H locs ls hf; exact absurd hf (by rw [lX8_rankOf_60]; exact fun q => nomatch q)
              | succ n60 ih60 =>
                intro z292 h293 H locs ls hf hl w
                rw [lX8_rankOf_60] at hf
                refine lv_iload hx hb dX8_rankOf_60 (lv_at hl 4 rfl) ?_
                refine lv_bipush (v := (16 : Int32)) hx hb dX8_rankOf_62 (by decide) ?_
                refine lv_icmp_ge (tgt := 184) hx hb dX8_rankOf_64 (by decide) (fun c294 => ?_) (fun c294 => ?_)
                · have hf := if_t hf c294
                  exact hx60 z292 h293 H locs ls (by rw [eκ60] at hf; exact hf) (lv_sub hl [0, 1, 2, 3, 4] rfl) w
                · have hf := if_f hf c294
                  refine lv_lconst (v := 0) hx hb dX8_rankOf_67 (by decide) ?_
                  refine lv_lstore (lv' := [(5, .long (0 : Int64)), (0, .ref (ι a0)), (1, .int a1), (2, .int a2), (3, .int z201), (4, .int z292)]) hx hb dX8_rankOf_68 hl (by decide) rfl (fun ls hl => ?_)
                  refine lv_iconst (v := (0 : Int32)) hx hb dX8_rankOf_70 (by decide) ?_
                  refine lv_istore (lv' := [(7, .int (0 : Int32)), (5, .long (0 : Int64)), (0, .ref (ι a0)), (1, .int a1), (2, .int a2), (3, .int z201), (4, .int z292)]) hx hb dX8_rankOf_71 hl (by decide) rfl (fun ls hl => ?_)
                  have hx73 : ∀ (y295 : Int64) (y296 : Int32) (h297 : Hp) (H : Heap) (locs : List Loc) (ls : Array Slot), ((gR h297 a0 10 20).bind fun v298 => (aIs h297 v298 z292 (y295.toInt32)).bind fun h299 => nm (z292 + (1 : Int32)) fun x300 => lX8_rankOf_60 N a0 a1 a2 z201 n60 x300 h299 κ60) = some (r, h') → lv_has ls 8 [(0, .ref (ι a0)), (1, .int a1), (2, .int a2), (3, .int z201), (4, .int z292), (5, .long y295), (7, .int y296)] → WD D dA b0 ι h297 s.heap H locs → W p l e (headSpec wsX8_rankOf rmX8_rankOf).room s m ([.ref (ι a0), .int a1, .int a2] : List Value).toArray below meth c H locs 0 0 (MQ below (QI D dA b0 ι r h') ([.ref (ι a0), .int a1, .int a2] : List Value).toArray s 0 0 (qA b0)) (F0 m 168 ls []) := by
                    intro y295 y296 h297 H locs ls hf hl w
                    refine lv_aload_n hx hb dX8_rankOf_168 rfl (lv_at hl 0 rfl) ?_
                    obtain ⟨v298, ev298, hf⟩ := ob_s hf
                    refine px_getR hx hb hts nX8_rankOf_X8 hown hK w ev298 rfl (by decide) mX8_rankOf_62 rfl dX8_rankOf_169 ?_
                    refine lv_iload hx hb dX8_rankOf_172 (lv_at hl 4 rfl) ?_
                    refine lv_lload hx hb dX8_rankOf_174 (lv_at hl 5 rfl) ?_
                    refine lv_l2i hx hb dX8_rankOf_176 rfl ?_
                    obtain ⟨h299, eh299, hf⟩ := ob_s hf
                    refine px_iast hx hb hK w eh299 dX8_rankOf_177 (fun H locs w => ?_)
                    obtain ⟨x300, ex300, hf⟩ := nm_s hf
                    refine lv_iinc (v := x300) (lv' := [(4, .int x300), (0, .ref (ι a0)), (1, .int a1), (2, .int a2), (3, .int z201), (5, .long y295), (7, .int y296)]) hx hb dX8_rankOf_178 hl (k := 4) rfl (by rw [ex300]; rfl) (by decide) rfl (fun ls hl => ?_)
                    refine lv_goto (tgt := 60) hx hb dX8_rankOf_181 (by decide) ?_
                    exact ih60 x300 h299 H locs ls hf (lv_sub hl [1, 2, 3, 4, 0] rfl) w
                  obtain ⟨κ73, eκ73⟩ : ∃ k : Int64 → Int32 → Hp → Option (Int32 × Hp), k = (fun y295 y296 h297 => (gR h297 a0 10 20).bind fun v298 => (aIs h297 v298 z292 (y295.toInt32)).bind fun h299 => nm (z292 + (1 : Int32)) fun x300 => lX8_rankOf_60 N a0 a1 a2 z201 n60 x300 h299 κ60) := ⟨_, rfl⟩
                  have hlp73 : ∀ (n : Nat) (z329 : Int64) (z330 : Int32) (h331 : Hp) (H : Heap) (locs : List Loc) (ls : Array Slot), lX8_rankOf_73 N a0 a1 a2 z201 z292 n z329 z330 h331 κ73 = some (r, h') → lv_has ls 8 [(0, .ref (ι a0)), (1, .int a1), (2, .int a2), (3, .int z201), (4, .int z292), (5, .long z329), (7, .int z330)] → WD D dA b0 ι h331 s.heap H locs → W p l e (headSpec wsX8_rankOf rmX8_rankOf).room s m ([.ref (ι a0), .int a1, .int a2] : List Value).toArray below meth c H locs 0 0 (MQ below (QI D dA b0 ι r h') ([.ref (ι a0), .int a1, .int a2] : List Value).toArray s 0 0 (qA b0)) (F0 m 73 ls []) := by
                    intro n73
                    induction n73 with
                    | zero => intro z329 z330 h331 H locs ls hf; exact absurd hf (by rw [lX8_rankOf_73]; exact fun q => nomatch q)
                    | succ n73 ih73 =>
                      intro z329 z330 h331 H locs ls hf hl w
                      rw [lX8_rankOf_73] at hf
                      refine lv_iload hx hb dX8_rankOf_73 (lv_at hl 6 rfl) ?_
                      refine lv_aload_n hx hb dX8_rankOf_75 rfl (lv_at hl 0 rfl) ?_
                      obtain ⟨v332, ev332, hf⟩ := ob_s hf
                      refine px_getI hx hb hts nX8_rankOf_X8 hown hK w ev332 rfl (by decide) mX8_rankOf_71 rfl dX8_rankOf_76 ?_
                      refine lv_icmp_ge (tgt := 168) hx hb dX8_rankOf_79 (by decide) (fun c333 => ?_) (fun c333 => ?_)
                      · have hf := if_t hf c333
                        exact hx73 z329 z330 h331 H locs ls (by rw [eκ73] at hf; exact hf) (lv_sub hl [0, 1, 2, 3, 4, 5, 6] rfl) w
                      · have hf := if_f hf c333
                        refine lv_lload hx hb dX8_rankOf_82 (lv_at hl 5 rfl) ?_
                        refine lv_aload_n hx hb dX8_rankOf_84 rfl (lv_at hl 0 rfl) ?_
                        obtain ⟨v334, ev334, hf⟩ := ob_s hf
                        refine px_getR hx hb hts nX8_rankOf_X8 hown hK w ev334 rfl (by decide) mX8_rankOf_59 rfl dX8_rankOf_85 ?_
                        refine lv_iconst (v := (4 : Int32)) hx hb dX8_rankOf_88 (by decide) ?_
                        refine lv_iload hx hb dX8_rankOf_89 (lv_at hl 4 rfl) ?_
                        refine lv_iconst (v := (4 : Int32)) hx hb dX8_rankOf_91 (by decide) ?_
                        refine px_idiv hx hb dX8_rankOf_92 (by decide) ?_
                        refine lv_imul hx hb dX8_rankOf_93 ?_
                        refine lv_iload hx hb dX8_rankOf_94 (lv_at hl 6 rfl) ?_
                        refine lv_iadd hx hb dX8_rankOf_96 ?_
                        obtain ⟨v335, ev335, hf⟩ := ob_s hf
                        refine px_iald hx hb hK w ev335 dX8_rankOf_97 ?_
                        refine lv_i2l hx hb dX8_rankOf_98 rfl ?_
                        refine lv_iload hx hb dX8_rankOf_99 (lv_at hl 6 rfl) ?_
                        refine lv_aload_n hx hb dX8_rankOf_101 rfl (lv_at hl 0 rfl) ?_
                        obtain ⟨v336, ev336, hf⟩ := ob_s hf
                        refine px_getI hx hb hts nX8_rankOf_X8 hown hK w ev336 rfl (by decide) mX8_rankOf_71 rfl dX8_rankOf_102 ?_
                        have hj153 : ∀ (t339 : Int32) (h338 : Hp) (H : Heap) (locs : List Loc) (ls : Array Slot), (nm (lrm (z329 + ((v335.toInt64) * (t339.toInt64))) (32003 : Int64)) fun x340 => nm (z330 + (1 : Int32)) fun x341 => lX8_rankOf_73 N a0 a1 a2 z201 z292 n73 x340 x341 h338 κ73) = some (r, h') → lv_has ls 8 [(0, .ref (ι a0)), (1, .int a1), (2, .int a2), (3, .int z201), (4, .int z292), (5, .long z329), (7, .int z330)] → WD D dA b0 ι h338 s.heap H locs → W p l e (headSpec wsX8_rankOf rmX8_rankOf).room s m ([.ref (ι a0), .int a1, .int a2] : List Value).toArray below meth c H locs 0 0 (MQ below (QI D dA b0 ι r h') ([.ref (ι a0), .int a1, .int a2] : List Value).toArray s 0 0 (qA b0)) (F0 m 153 ls [.int t339, .long (v335.toInt64), .long z329]) := by
                          intro t339 h338 H locs ls hf hl w
                          refine lv_i2l hx hb dX8_rankOf_153 rfl ?_
                          refine lv_lmul hx hb dX8_rankOf_154 ?_
                          refine lv_ladd hx hb dX8_rankOf_155 ?_
                          refine lv_ldc2 (v := 32003) hx hb hown (hts _ mX8_rankOf_69) dX8_rankOf_156 ?_
                          refine px_lrem hx hb dX8_rankOf_159 (by decide) ?_
                          obtain ⟨x340, ex340, hf⟩ := nm_s hf
                          refine px_nmJ ex340 ?_
                          refine lv_lstore (lv' := [(5, .long x340), (0, .ref (ι a0)), (1, .int a1), (2, .int a2), (3, .int z201), (4, .int z292), (7, .int z330)]) hx hb dX8_rankOf_160 hl (by decide) rfl (fun ls hl => ?_)
                          obtain ⟨x341, ex341, hf⟩ := nm_s hf
                          refine lv_iinc (v := x341) (lv' := [(7, .int x341), (5, .long x340), (0, .ref (ι a0)), (1, .int a1), (2, .int a2), (3, .int z201), (4, .int z292)]) hx hb dX8_rankOf_162 hl (k := 6) rfl (by rw [ex341]; rfl) (by decide) rfl (fun ls hl => ?_)
                          refine lv_goto (tgt := 73) hx hb dX8_rankOf_165 (by decide) ?_
                          exact ih73 x340 x341 h338 H locs ls hf (lv_sub hl [2, 3, 4, 5, 6, 1, 0] rfl) w
                        obtain ⟨j337, ej337, hf⟩ := jn_s hf
                        have hj152 : ∀ (h343 : Hp) (H : Heap) (locs : List Loc) (ls : Array Slot), (j337 (0 : Int32) h343) = some (r, h') → lv_has ls 8 [(0, .ref (ι a0)), (1, .int a1), (2, .int a2), (3, .int z201), (4, .int z292), (5, .long z329), (7, .int z330)] → WD D dA b0 ι h343 s.heap H locs → W p l e (headSpec wsX8_rankOf rmX8_rankOf).room s m ([.ref (ι a0), .int a1, .int a2] : List Value).toArray below meth c H locs 0 0 (MQ below (QI D dA b0 ι r h') ([.ref (ι a0), .int a1, .int a2] : List Value).toArray s 0 0 (qA b0)) (F0 m 152 ls [.long (v335.toInt64), .long z329]) := by
                          intro h343 H locs ls hf hl w
                          refine lv_iconst (v := (0 : Int32)) hx hb dX8_rankOf_152 (by decide) ?_
                          exact hj153 (0 : Int32) h343 H locs ls (by rw [ej337] at hf; exact hf) (lv_sub hl [0, 1, 2, 3, 4, 5, 6] rfl) w
                        obtain ⟨j342, ej342, hf⟩ := jn_s hf
                        refine lv_icmp_ge (tgt := 152) hx hb dX8_rankOf_105 (by decide) (fun c344 => ?_) (fun c344 => ?_)
                        · have hf := if_t hf c344
                          exact hj152 h331 H locs ls (by rw [ej342] at hf; exact hf) (lv_sub hl [0, 1, 2, 3, 4, 5, 6] rfl) w
                        · have hf := if_f hf c344
                          refine lv_iload hx hb dX8_rankOf_108 (lv_at hl 4 rfl) ?_
                          refine lv_iconst (v := (4 : Int32)) hx hb dX8_rankOf_110 (by decide) ?_
                          refine px_irem hx hb dX8_rankOf_111 (by decide) ?_
                          refine lv_aload_n hx hb dX8_rankOf_112 rfl (lv_at hl 0 rfl) ?_
                          obtain ⟨v345, ev345, hf⟩ := ob_s hf
                          refine px_getI hx hb hts nX8_rankOf_X8 hown hK w ev345 rfl (by decide) mX8_rankOf_71 rfl dX8_rankOf_113 ?_
                          refine lv_icmp_ge (tgt := 152) hx hb dX8_rankOf_116 (by decide) (fun c346 => ?_) (fun c346 => ?_)
                          · have hf := if_t hf c346
                            exact hj152 h331 H locs ls (by rw [ej342] at hf; exact hf) (lv_sub hl [0, 1, 2, 3, 4, 5, 6] rfl) w
                          · have hf := if_f hf c346
                            refine lv_aload_n hx hb dX8_rankOf_119 rfl (lv_at hl 0 rfl) ?_
                            refine lv_iload hx hb dX8_rankOf_120 (lv_at hl 6 rfl) ?_
                            refine lv_iload hx hb dX8_rankOf_122 (lv_at hl 4 rfl) ?_
                            refine lv_iconst (v := (4 : Int32)) hx hb dX8_rankOf_124 (by decide) ?_
                            refine px_irem hx hb dX8_rankOf_125 (by decide) ?_
                            obtain ⟨u349, eu349, hf⟩ := ob_s hf
                            obtain ⟨⟨v347, h348⟩, eh348, hf⟩ := ob_s hf
                            dsimp only at hf
                            refine px_callVi (As := [.int z330, .int (irm z292 (4 : Int32))]) (rest := [.long (v335.toInt64), .long z329]) ⟨hx, hb, hml, hown, hts⟩ hC w (kX8_numberAt l D dA b0 ι N a0 z330 (irm z292 (4 : Int32)) h331 v347 h348 eh348) (cwV 2 hts gX8_rankOf_X8_numberAt rfl rfl rfl (by decide +kernel) ⟨Nat.le_of_ble_eq_true rfl, Nat.le_of_ble_eq_true rfl⟩) eu349 rfl rfl hl.1 rfl (Nat.le_of_ble_eq_true rfl) dX8_rankOf_126 ⟨Nat.le_of_ble_eq_true rfl, Nat.le_of_ble_eq_true rfl⟩ (fun H locs w => ?_)
                            refine lv_i2l hx hb dX8_rankOf_129 rfl ?_
                            refine lv_iload hx hb dX8_rankOf_130 (lv_at hl 6 rfl) ?_
                            refine lv_iload hx hb dX8_rankOf_132 (lv_at hl 4 rfl) ?_
                            refine lv_iconst (v := (4 : Int32)) hx hb dX8_rankOf_134 (by decide) ?_
                            refine px_irem hx hb dX8_rankOf_135 (by decide) ?_
                            have hj144 : ∀ (t352 : Int32) (h351 : Hp) (H : Heap) (locs : List Loc) (ls : Array Slot), ((fX8_modulo N ((v347.toInt64) - (t352.toInt64)) h351).bind fun (v353, h354) => j337 v353 h354) = some (r, h') → lv_has ls 8 [(0, .ref (ι a0)), (1, .int a1), (2, .int a2), (3, .int z201), (4, .int z292), (5, .long z329), (7, .int z330)] → WD D dA b0 ι h351 s.heap H locs → W p l e (headSpec wsX8_rankOf rmX8_rankOf).room s m ([.ref (ι a0), .int a1, .int a2] : List Value).toArray below meth c H locs 0 0 (MQ below (QI D dA b0 ι r h') ([.ref (ι a0), .int a1, .int a2] : List Value).toArray s 0 0 (qA b0)) (F0 m 144 ls [.int t352, .long (v347.toInt64), .long (v335.toInt64), .long z329]) := by
                              intro t352 h351 H locs ls hf hl w
                              refine lv_i2l hx hb dX8_rankOf_144 rfl ?_
                              refine lv_lsub hx hb dX8_rankOf_145 ?_
                              obtain ⟨⟨v353, h354⟩, eh354, hf⟩ := ob_s hf
                              dsimp only at hf
                              refine px_callSi (As := [.long ((v347.toInt64) - (t352.toInt64))]) (rest := [.long (v335.toInt64), .long z329]) ⟨hx, hb, hml, hown, hts⟩ hC w (kX8_modulo l D dA b0 ι N ((v347.toInt64) - (t352.toInt64)) h351 v353 h354 eh354) (va_cwS 1 hts gX8_rankOf_X8_modulo rfl rfl rfl (by decide +kernel) ⟨Nat.le_of_ble_eq_true rfl, Nat.le_of_ble_eq_true rfl⟩) rfl hl.1 rfl (Nat.le_of_ble_eq_true rfl) dX8_rankOf_146 ⟨Nat.le_of_ble_eq_true rfl, Nat.le_of_ble_eq_true rfl⟩ (fun H locs w => ?_)
                              refine lv_goto (tgt := 153) hx hb dX8_rankOf_149 (by decide) ?_
                              exact hj153 v353 h354 H locs ls (by rw [ej337] at hf; exact hf) (lv_sub hl [0, 1, 2, 3, 4, 5, 6] rfl) w
                            obtain ⟨j350, ej350, hf⟩ := jn_s hf
                            refine lv_icmp_ne (tgt := 143) hx hb dX8_rankOf_136 (by decide) (fun c355 => ?_) (fun c355 => ?_)
                            · have hf := if_f hf c355
                              refine lv_iconst (v := (0 : Int32)) hx hb dX8_rankOf_143 (by decide) ?_
                              exact hj144 (0 : Int32) h348 H locs ls (by rw [ej350] at hf; exact hf) (lv_sub hl [0, 1, 2, 3, 4, 5, 6] rfl) w
                            · have hf := if_t hf c355
                              refine lv_iload_n hx hb dX8_rankOf_139 rfl (lv_at hl 1 rfl) ?_
                              refine lv_goto (tgt := 144) hx hb dX8_rankOf_140 (by decide) ?_
                              exact hj144 a1 h348 H locs ls (by rw [ej350] at hf; exact hf) (lv_sub hl [0, 1, 2, 3, 4, 5, 6] rfl) w
                  exact hlp73 N (0 : Int64) (0 : Int32) h293 H locs ls (by rw [eκ73]; exact hf) (lv_sub hl [2, 3, 4, 5, 6, 1, 0] rfl) w
            exact hlp60 N (0 : Int32) h202 H locs ls (by rw [eκ60]; exact hf) (lv_sub hl [1, 2, 3, 4, 0] rfl) w
    exact hlp46 N (0 : Int32) h2 H locs ls (by rw [eκ46]; exact hf) (lv_sub hl [1, 2, 3, 0] rfl) w
  obtain ⟨κ2, eκ2⟩ : ∃ k : Int32 → Hp → Option (Int32 × Hp), k = (fun y1 h2 => lX8_rankOf_46 N a0 a1 a2 N (0 : Int32) h2 (fun y3 h4 => lX8_rankOf_222 N a0 a1 a2 N (0 : Int32) h4 (fun y5 h6 => lX8_rankOf_243 N a0 a1 a2 N (0 : Int32) h6 (fun y7 h8 => (cK h8 a0 10).bind fun u11 => (fX8_findMinors N a0 h8).bind fun h10 => (cK h10 a0 10).bind fun u14 => (fX8_rankNow N a0 h10).bind fun (v12, h13) => some (v12, h13))))) := ⟨_, rfl⟩
  have hlp2 : ∀ (n : Nat) (z371 : Int32) (h372 : Hp) (H : Heap) (locs : List Loc) (ls : Array Slot), lX8_rankOf_2 N a0 a1 a2 n z371 h372 κ2 = some (r, h') → lv_has ls 8 [(0, .ref (ι a0)), (1, .int a1), (2, .int a2), (3, .int z371)] → WD D dA b0 ι h372 s.heap H locs → W p l e (headSpec wsX8_rankOf rmX8_rankOf).room s m ([.ref (ι a0), .int a1, .int a2] : List Value).toArray below meth c H locs 0 0 (MQ below (QI D dA b0 ι r h') ([.ref (ι a0), .int a1, .int a2] : List Value).toArray s 0 0 (qA b0)) (F0 m 2 ls []) := by
    intro n2
    induction n2 with
    | zero => intro z371 h372 H locs ls hf; exact absurd hf (by rw [lX8_rankOf_2]; exact fun q => nomatch q)
    | succ n2 ih2 =>
      intro z371 h372 H locs ls hf hl w
      rw [lX8_rankOf_2] at hf
      refine lv_iload_n hx hb dX8_rankOf_2 rfl (lv_at hl 3 rfl) ?_
      refine lv_bipush (v := (16 : Int32)) hx hb dX8_rankOf_3 (by decide) ?_
      refine lv_icmp_ge (tgt := 44) hx hb dX8_rankOf_5 (by decide) (fun c373 => ?_) (fun c373 => ?_)
      · have hf := if_t hf c373
        exact hx2 z371 h372 H locs ls (by rw [eκ2] at hf; exact hf) (lv_sub hl [0, 1, 2, 3] rfl) w
      · have hf := if_f hf c373
        refine lv_aload_n hx hb dX8_rankOf_8 rfl (lv_at hl 0 rfl) ?_
        obtain ⟨v374, ev374, hf⟩ := ob_s hf
        refine px_getR hx hb hts nX8_rankOf_X8 hown hK w ev374 rfl (by decide) mX8_rankOf_59 rfl dX8_rankOf_9 ?_
        refine lv_iload_n hx hb dX8_rankOf_12 rfl (lv_at hl 3 rfl) ?_
        refine lv_iload_n hx hb dX8_rankOf_13 rfl (lv_at hl 3 rfl) ?_
        refine lv_iconst (v := (4 : Int32)) hx hb dX8_rankOf_14 (by decide) ?_
        refine px_idiv hx hb dX8_rankOf_15 (by decide) ?_
        refine lv_iload_n hx hb dX8_rankOf_16 rfl (lv_at hl 3 rfl) ?_
        refine lv_iconst (v := (4 : Int32)) hx hb dX8_rankOf_17 (by decide) ?_
        refine px_irem hx hb dX8_rankOf_18 (by decide) ?_
        have hj37 : ∀ (t377 : Int32) (h376 : Hp) (H : Heap) (locs : List Loc) (ls : Array Slot), ((aIs h376 v374 z371 t377).bind fun h378 => nm (z371 + (1 : Int32)) fun x379 => lX8_rankOf_2 N a0 a1 a2 n2 x379 h378 κ2) = some (r, h') → lv_has ls 8 [(0, .ref (ι a0)), (1, .int a1), (2, .int a2), (3, .int z371)] → WD D dA b0 ι h376 s.heap H locs → W p l e (headSpec wsX8_rankOf rmX8_rankOf).room s m ([.ref (ι a0), .int a1, .int a2] : List Value).toArray below meth c H locs 0 0 (MQ below (QI D dA b0 ι r h') ([.ref (ι a0), .int a1, .int a2] : List Value).toArray s 0 0 (qA b0)) (F0 m 37 ls [.int t377, .int z371, .ref (ι v374)]) := by
          intro t377 h376 H locs ls hf hl w
          obtain ⟨h378, eh378, hf⟩ := ob_s hf
          refine px_iast hx hb hK w eh378 dX8_rankOf_37 (fun H locs w => ?_)
          obtain ⟨x379, ex379, hf⟩ := nm_s hf
          refine lv_iinc (v := x379) (lv' := [(3, .int x379), (0, .ref (ι a0)), (1, .int a1), (2, .int a2)]) hx hb dX8_rankOf_38 hl (k := 3) rfl (by rw [ex379]; rfl) (by decide) rfl (fun ls hl => ?_)
          refine lv_goto (tgt := 2) hx hb dX8_rankOf_41 (by decide) ?_
          exact ih2 x379 h378 H locs ls hf (lv_sub hl [1, 2, 3, 0] rfl) w
        obtain ⟨j375, ej375, hf⟩ := jn_s hf
        have hj36 : ∀ (h381 : Hp) (H : Heap) (locs : List Loc) (ls : Array Slot), (j375 (0 : Int32) h381) = some (r, h') → lv_has ls 8 [(0, .ref (ι a0)), (1, .int a1), (2, .int a2), (3, .int z371)] → WD D dA b0 ι h381 s.heap H locs → W p l e (headSpec wsX8_rankOf rmX8_rankOf).room s m ([.ref (ι a0), .int a1, .int a2] : List Value).toArray below meth c H locs 0 0 (MQ below (QI D dA b0 ι r h') ([.ref (ι a0), .int a1, .int a2] : List Value).toArray s 0 0 (qA b0)) (F0 m 36 ls [.int z371, .ref (ι v374)]) := by
          intro h381 H locs ls hf hl w
          refine lv_iconst (v := (0 : Int32)) hx hb dX8_rankOf_36 (by decide) ?_
          exact hj37 (0 : Int32) h381 H locs ls (by rw [ej375] at hf; exact hf) (lv_sub hl [0, 1, 2, 3] rfl) w
        obtain ⟨j380, ej380, hf⟩ := jn_s hf
        refine lv_icmp_ne (tgt := 36) hx hb dX8_rankOf_19 (by decide) (fun c382 => ?_) (fun c382 => ?_)
        · have hf := if_f hf c382
          exact hj36 h372 H locs ls (by rw [ej380] at hf; exact hf) (lv_sub hl [0, 1, 2, 3] rfl) w
        · have hf := if_t hf c382
          refine lv_iload_n hx hb dX8_rankOf_22 rfl (lv_at hl 3 rfl) ?_
          refine lv_iconst (v := (4 : Int32)) hx hb dX8_rankOf_23 (by decide) ?_
          refine px_idiv hx hb dX8_rankOf_24 (by decide) ?_
          refine lv_aload_n hx hb dX8_rankOf_25 rfl (lv_at hl 0 rfl) ?_
          obtain ⟨v383, ev383, hf⟩ := ob_s hf
          refine px_getI hx hb hts nX8_rankOf_X8 hown hK w ev383 rfl (by decide) mX8_rankOf_71 rfl dX8_rankOf_26 ?_
          refine lv_icmp_ge (tgt := 36) hx hb dX8_rankOf_29 (by decide) (fun c384 => ?_) (fun c384 => ?_)
          · have hf := if_t hf c384
            exact hj36 h372 H locs ls (by rw [ej380] at hf; exact hf) (lv_sub hl [0, 1, 2, 3] rfl) w
          · have hf := if_f hf c384
            refine lv_iconst (v := (1 : Int32)) hx hb dX8_rankOf_32 (by decide) ?_
            refine lv_goto (tgt := 37) hx hb dX8_rankOf_33 (by decide) ?_
            exact hj37 (1 : Int32) h372 H locs ls (by rw [ej375] at hf; exact hf) (lv_sub hl [0, 1, 2, 3] rfl) w
  exact hlp2 N (0 : Int32) h H locs ls (by rw [eκ2]; exact hf) (lv_sub hl [1, 2, 3, 0] rfl) w
abbrev rmX8_blocks : Room := { frames := 6, cells := 0, slots := 0, locals := 138 }
set_option maxHeartbeats 4000000 in
set_option maxRecDepth 100000 in
theorem kX8_blocks (l : Launch) (D : va_G) (dA : Nat → ClassId) (b0 : Nat) (ι : Nat → Nat) (N : Nat) (a0 : Nat) (a1 : Int32) (a2 : Int32) (h : Hp) (r : Int32) (h' : Hp) (hf : fX8_blocks N a0 a1 a2 h = some (r, h')) : Met l yX8_blocks wsX8_blocks rmX8_blocks (PC D dA b0 ι [.ref (ι a0), .int a1, .int a2] h) (QI D dA b0 ι r h') 0 0 (qA b0) := by
  unfold fX8_blocks at hf
  refine Met.ofW (cc := cX8_blocks) (maxL := 4) (ret := (some .int)) (by decide +kernel) rfl ?_
  intro p e s m args below meth c s₁ B hml hv
  obtain ⟨rfl, w0⟩ := hv
  have hx := B.exec
  have hb := B.bytes
  have hr := B.returns
  have hts := atoms_spec (ws := wsX8_blocks) B.pre
  have hown : s.vm.findClass RX8 = some m.cls := findClass_of_methodNamed B.named
  have hlocks := B.notSynchronized
  have hC := w0.c
  have hK := hC.1
  have w := WD.start w0
  clear w0
  have hl := lv_entry ([.ref (ι a0), .int a1, .int a2]) (n := 4) (Nat.le_of_ble_eq_true rfl)
  rw [lg_entry_eq]
  generalize (lg_sl ([.ref (ι a0), .int a1, .int a2]) ++ List.replicate (4 - (lg_sl ([.ref (ι a0), .int a1, .int a2])).length) Slot.unset).toArray = ls at hl ⊢
  have hl : lv_has ls 4 [(0, .ref (ι a0)), (1, .int a1), (2, .int a2)] := hl
  obtain ⟨H, hH⟩ : ∃ H : Heap, H = s.heap := ⟨_, rfl⟩
  obtain ⟨locs, hlo⟩ : ∃ locs : List Loc, locs = [] := ⟨_, rfl⟩
  rw [← hlo]
  have w : WD D dA b0 ι h s.heap H locs := by rw [hH, hlo]; exact w
  refine px_start hH ?_
  refine lv_aload_n hx hb dX8_blocks_0 rfl (lv_at hl 0 rfl) ?_
  obtain ⟨u3, eu3, hf⟩ := ob_s hf
  obtain ⟨⟨v1, h2⟩, eh2, hf⟩ := ob_s hf
  dsimp only at hf
  refine px_callVi (As := []) (rest := []) ⟨hx, hb, hml, hown, hts⟩ hC w (kX8_isSquare l D dA b0 ι N a0 h v1 h2 eh2) (cwV 0 hts gX8_blocks_X8_isSquare rfl rfl rfl (by decide +kernel) ⟨Nat.le_of_ble_eq_true rfl, Nat.le_of_ble_eq_true rfl⟩) eu3 rfl rfl hl.1 rfl (Nat.le_of_ble_eq_true rfl) dX8_blocks_1 ⟨Nat.le_of_ble_eq_true rfl, Nat.le_of_ble_eq_true rfl⟩ (fun H locs w => ?_)
  refine lv_if_ne (tgt := 9) hx hb dX8_blocks_4 (by decide) (fun c4 => ?_) (fun c4 => ?_)
  · have hf := if_f hf c4
    refine lv_aload_n hx hb dX8_blocks_9 rfl (lv_at hl 0 rfl) ?_
    refine lv_iload_n hx hb dX8_blocks_10 rfl (lv_at hl 1 rfl) ?_
    obtain ⟨u7, eu7, hf⟩ := ob_s hf
    obtain ⟨⟨v5, h6⟩, eh6, hf⟩ := ob_s hf
    dsimp only at hf
    refine px_callVi (As := [.int a1]) (rest := []) ⟨hx, hb, hml, hown, hts⟩ hC w (kX8_findRoot l D dA b0 ι N a0 a1 h2 v5 h6 eh6) (cwV 1 hts gX8_blocks_X8_findRoot rfl rfl rfl (by decide +kernel) ⟨Nat.le_of_ble_eq_true rfl, Nat.le_of_ble_eq_true rfl⟩) eu7 rfl rfl hl.1 rfl (Nat.le_of_ble_eq_true rfl) dX8_blocks_11 ⟨Nat.le_of_ble_eq_true rfl, Nat.le_of_ble_eq_true rfl⟩ (fun H locs w => ?_)
    refine lv_istore_n (lv' := [(3, .int v5), (0, .ref (ι a0)), (1, .int a1), (2, .int a2)]) hx hb dX8_blocks_14 rfl hl (by decide) rfl (fun ls hl => ?_)
    refine lv_iload_n hx hb dX8_blocks_15 rfl (lv_at hl 0 rfl) ?_
    refine lv_iconst (v := (-1 : Int32)) hx hb dX8_blocks_16 (by decide) ?_
    have hj25 : ∀ (h9 : Hp) (H : Heap) (locs : List Loc) (ls : Array Slot), ((cK h9 a0 10).bind fun u12 => (fX8_raise N a0 (2 : Int32) h9).bind fun (v10, h11) => some (v10, h11)) = some (r, h') → lv_has ls 4 [(0, .ref (ι a0)), (1, .int a1), (2, .int a2), (3, .int v5)] → WD D dA b0 ι h9 s.heap H locs → W p l e (headSpec wsX8_blocks rmX8_blocks).room s m ([.ref (ι a0), .int a1, .int a2] : List Value).toArray below meth c H locs 0 0 (MQ below (QI D dA b0 ι r h') ([.ref (ι a0), .int a1, .int a2] : List Value).toArray s 0 0 (qA b0)) (F0 m 25 ls []) := by
      intro h9 H locs ls hf hl w
      refine lv_aload_n hx hb dX8_blocks_25 rfl (lv_at hl 0 rfl) ?_
      refine lv_iconst (v := (2 : Int32)) hx hb dX8_blocks_26 (by decide) ?_
      obtain ⟨u12, eu12, hf⟩ := ob_s hf
      obtain ⟨⟨v10, h11⟩, eh11, hf⟩ := ob_s hf
      dsimp only at hf
      refine px_callVi (As := [.int (2 : Int32)]) (rest := []) ⟨hx, hb, hml, hown, hts⟩ hC w (kX8_raise l D dA b0 ι N a0 (2 : Int32) h9 v10 h11 eh11) (cwV 1 hts gX8_blocks_X8_raise rfl rfl rfl (by decide +kernel) ⟨Nat.le_of_ble_eq_true rfl, Nat.le_of_ble_eq_true rfl⟩) eu12 rfl rfl hl.1 rfl (Nat.le_of_ble_eq_true rfl) dX8_blocks_27 ⟨Nat.le_of_ble_eq_true rfl, Nat.le_of_ble_eq_true rfl⟩ (fun H locs w => ?_)
      exact W.iret hx hb hr (qi_end hf w hC) w.locs_ok dX8_blocks_30
    obtain ⟨j8, ej8, hf⟩ := jn_s hf
    refine lv_icmp_eq (tgt := 25) hx hb dX8_blocks_17 (by decide) (fun c13 => ?_) (fun c13 => ?_)
    · have hf := if_t hf c13
      exact hj25 h6 H locs ls (by rw [ej8] at hf; exact hf) (lv_sub hl [1, 2, 3, 0] rfl) w
    · have hf := if_f hf c13
      refine lv_iload_n hx hb dX8_blocks_20 rfl (lv_at hl 3 rfl) ?_
      refine lv_iconst (v := (1 : Int32)) hx hb dX8_blocks_21 (by decide) ?_
      refine lv_icmp_ge (tgt := 31) hx hb dX8_blocks_22 (by decide) (fun c14 => ?_) (fun c14 => ?_)
      · have hf := if_t hf c14
        refine lv_iload_n hx hb dX8_blocks_31 rfl (lv_at hl 3 rfl) ?_
        refine lv_iconst (v := (5 : Int32)) hx hb dX8_blocks_32 (by decide) ?_
        refine lv_icmp_le (tgt := 38) hx hb dX8_blocks_33 (by decide) (fun c15 => ?_) (fun c15 => ?_)
        · have hf := if_t hf c15
          refine lv_aload_n hx hb dX8_blocks_38 rfl (lv_at hl 1 rfl) ?_
          refine lv_iload_n hx hb dX8_blocks_39 rfl (lv_at hl 0 rfl) ?_
          refine lv_iload_n hx hb dX8_blocks_40 rfl (lv_at hl 3 rfl) ?_
          refine lv_iconst (v := (1 : Int32)) hx hb dX8_blocks_41 (by decide) ?_
          refine lv_isub hx hb dX8_blocks_42 ?_
          obtain ⟨u18, eu18, hf⟩ := ob_s hf
          obtain ⟨⟨v16, h17⟩, eh17, hf⟩ := ob_s hf
          dsimp only at hf
          refine px_callVi (As := [.int v5, .int (a2 - (1 : Int32))]) (rest := []) ⟨hx, hb, hml, hown, hts⟩ hC w (kX8_rankOf l D dA b0 ι N a0 v5 (a2 - (1 : Int32)) h6 v16 h17 eh17) (cwV 2 hts gX8_blocks_X8_rankOf rfl rfl rfl (by decide +kernel) ⟨Nat.le_of_ble_eq_true rfl, Nat.le_of_ble_eq_true rfl⟩) eu18 rfl rfl hl.1 rfl (Nat.le_of_ble_eq_true rfl) dX8_blocks_43 ⟨Nat.le_of_ble_eq_true rfl, Nat.le_of_ble_eq_true rfl⟩ (fun H locs w => ?_)
          refine lv_iconst (v := (2 : Int32)) hx hb dX8_blocks_46 (by decide) ?_
          refine lv_aload_n hx hb dX8_blocks_47 rfl (lv_at hl 1 rfl) ?_
          refine lv_iload_n hx hb dX8_blocks_48 rfl (lv_at hl 0 rfl) ?_
          refine lv_iload_n hx hb dX8_blocks_49 rfl (lv_at hl 3 rfl) ?_
          obtain ⟨u21, eu21, hf⟩ := ob_s hf
          obtain ⟨⟨v19, h20⟩, eh20, hf⟩ := ob_s hf
          dsimp only at hf
          refine px_callVi (As := [.int v5, .int a2]) (rest := [.int (2 : Int32), .int v16]) ⟨hx, hb, hml, hown, hts⟩ hC w (kX8_rankOf l D dA b0 ι N a0 v5 a2 h17 v19 h20 eh20) (cwV 2 hts gX8_blocks_X8_rankOf rfl rfl rfl (by decide +kernel) ⟨Nat.le_of_ble_eq_true rfl, Nat.le_of_ble_eq_true rfl⟩) eu21 rfl rfl hl.1 rfl (Nat.le_of_ble_eq_true rfl) dX8_blocks_50 ⟨Nat.le_of_ble_eq_true rfl, Nat.le_of_ble_eq_true rfl⟩ (fun H locs w => ?_)
          refine lv_imul hx hb dX8_blocks_53 ?_
          refine lv_isub hx hb dX8_blocks_54 ?_
          refine lv_aload_n hx hb dX8_blocks_55 rfl (lv_at hl 1 rfl) ?_
          refine lv_iload_n hx hb dX8_blocks_56 rfl (lv_at hl 0 rfl) ?_
          refine lv_iload_n hx hb dX8_blocks_57 rfl (lv_at hl 3 rfl) ?_
          refine lv_iconst (v := (1 : Int32)) hx hb dX8_blocks_58 (by decide) ?_
          refine lv_iadd hx hb dX8_blocks_59 ?_
          obtain ⟨u24, eu24, hf⟩ := ob_s hf
          obtain ⟨⟨v22, h23⟩, eh23, hf⟩ := ob_s hf
          dsimp only at hf
          refine px_callVi (As := [.int v5, .int (a2 + (1 : Int32))]) (rest := [.int (v16 - ((2 : Int32) * v19))]) ⟨hx, hb, hml, hown, hts⟩ hC w (kX8_rankOf l D dA b0 ι N a0 v5 (a2 + (1 : Int32)) h20 v22 h23 eh23) (cwV 2 hts gX8_blocks_X8_rankOf rfl rfl rfl (by decide +kernel) ⟨Nat.le_of_ble_eq_true rfl, Nat.le_of_ble_eq_true rfl⟩) eu24 rfl rfl hl.1 rfl (Nat.le_of_ble_eq_true rfl) dX8_blocks_60 ⟨Nat.le_of_ble_eq_true rfl, Nat.le_of_ble_eq_true rfl⟩ (fun H locs w => ?_)
          refine lv_iadd hx hb dX8_blocks_63 ?_
          exact W.iret hx hb hr (qi_end hf w hC) w.locs_ok dX8_blocks_64
        · have hf := if_f hf c15
          refine lv_iconst (v := (0 : Int32)) hx hb dX8_blocks_36 (by decide) ?_
          exact W.iret hx hb hr (qi_end hf w hC) w.locs_ok dX8_blocks_37
      · have hf := if_f hf c14
        exact hj25 h6 H locs ls (by rw [ej8] at hf; exact hf) (lv_sub hl [1, 2, 3, 0] rfl) w
  · have hf := if_t hf c4
    refine lv_iconst (v := (0 : Int32)) hx hb dX8_blocks_7 (by decide) ?_
    exact W.iret hx hb hr (qi_end hf w hC) w.locs_ok dX8_blocks_8
theorem nX8_count_X8 : ∀ w ∈ wsX80, w ∈ wsX8_count := by decide +kernel
theorem mX8_count_65 : Cond.fieldLink RX8 65 "NormalFormsModel" "code" "I" ∈ wsX8_count := by decide +kernel
theorem mX8_count_74 : Cond.fieldLink RX8 74 "NormalFormsModel" "columns" "I" ∈ wsX8_count := by decide +kernel
theorem mX8_count_71 : Cond.fieldLink RX8 71 "NormalFormsModel" "rows" "I" ∈ wsX8_count := by decide +kernel
theorem mX8_count_13 : Cond.fieldLink RX8 13 "NormalFormsModel" "there" "[Z" ∈ wsX8_count := by decide +kernel
abbrev rmX8_count : Room := { frames := 1, cells := 0, slots := 0, locals := 12 }
set_option maxHeartbeats 4000000 in
set_option maxRecDepth 100000 in
theorem kX8_count (l : Launch) (D : va_G) (dA : Nat → ClassId) (b0 : Nat) (ι : Nat → Nat) (N : Nat) (a0 : Nat) (a1 : Int32) (h : Hp) (r : Int32) (h' : Hp) (hf : fX8_count N a0 a1 h = some (r, h')) : Met l yX8_count wsX8_count rmX8_count (PC D dA b0 ι [.ref (ι a0), .int a1] h) (QI D dA b0 ι r h') 0 0 (qA b0) := by
  unfold fX8_count at hf
  refine Met.ofW (cc := cX8_count) (maxL := 4) (ret := (some .int)) (by decide +kernel) rfl ?_
  intro p e s m args below meth c s₁ B hml hv
  obtain ⟨rfl, w0⟩ := hv
  have hx := B.exec
  have hb := B.bytes
  have hr := B.returns
  have hts := atoms_spec (ws := wsX8_count) B.pre
  have hown : s.vm.findClass RX8 = some m.cls := findClass_of_methodNamed B.named
  have hlocks := B.notSynchronized
  have hC := w0.c
  have hK := hC.1
  have w := WD.start w0
  clear w0
  have hl := lv_entry ([.ref (ι a0), .int a1]) (n := 4) (Nat.le_of_ble_eq_true rfl)
  rw [lg_entry_eq]
  generalize (lg_sl ([.ref (ι a0), .int a1]) ++ List.replicate (4 - (lg_sl ([.ref (ι a0), .int a1])).length) Slot.unset).toArray = ls at hl ⊢
  have hl : lv_has ls 4 [(0, .ref (ι a0)), (1, .int a1)] := hl
  obtain ⟨H, hH⟩ : ∃ H : Heap, H = s.heap := ⟨_, rfl⟩
  obtain ⟨locs, hlo⟩ : ∃ locs : List Loc, locs = [] := ⟨_, rfl⟩
  rw [← hlo]
  have w : WD D dA b0 ι h s.heap H locs := by rw [hH, hlo]; exact w
  refine px_start hH ?_
  refine lv_aload_n hx hb dX8_count_0 rfl (lv_at hl 0 rfl) ?_
  refine lv_iconst (v := (0 : Int32)) hx hb dX8_count_1 (by decide) ?_
  obtain ⟨h1, eh1, hf⟩ := ob_s hf
  refine px_put hx hb hts nX8_count_X8 tyX8 tyX8_ok nmX8 hown hK w eh1 rfl (by decide) mX8_count_65 rfl rfl rfl rfl dX8_count_2 rfl (fun H locs w => ?_)
  refine lv_iconst (v := (0 : Int32)) hx hb dX8_count_5 (by decide) ?_
  refine lv_istore_n (lv' := [(2, .int (0 : Int32)), (0, .ref (ι a0)), (1, .int a1)]) hx hb dX8_count_6 rfl hl (by decide) rfl (fun ls hl => ?_)
  refine lv_iconst (v := (0 : Int32)) hx hb dX8_count_7 (by decide) ?_
  refine lv_istore_n (lv' := [(3, .int (0 : Int32)), (2, .int (0 : Int32)), (0, .ref (ι a0)), (1, .int a1)]) hx hb dX8_count_8 rfl hl (by decide) rfl (fun ls hl => ?_)
  have hx9 : ∀ (y2 : Int32) (y3 : Int32) (h4 : Hp) (H : Heap) (locs : List Loc) (ls : Array Slot), (jn (fun t7 h6 => some (t7, h6)) fun (j5 : Int32 → Hp → Option (Int32 × Hp)) => if a1 = 0 then (gI h4 a0 10 1).bind fun v12 => j5 v12 h4 else if a1 = (1 : Int32) then (gI h4 a0 10 2).bind fun v11 => j5 v11 h4 else if a1 = (2 : Int32) then j5 y2 h4 else j5 (-1 : Int32) h4) = some (r, h') → lv_has ls 4 [(0, .ref (ι a0)), (1, .int a1), (2, .int y2), (3, .int y3)] → WD D dA b0 ι h4 s.heap H locs → W p l e (headSpec wsX8_count rmX8_count).room s m ([.ref (ι a0), .int a1] : List Value).toArray below meth c H locs 0 0 (MQ below (QI D dA b0 ι r h') ([.ref (ι a0), .int a1] : List Value).toArray s 0 0 (qA b0)) (F0 m 37 ls []) := by
    intro y2 y3 h4 H locs ls hf hl w
    refine lv_iload_n hx hb dX8_count_37 rfl (lv_at hl 1 rfl) ?_
    have hj70 : ∀ (t7 : Int32) (h6 : Hp) (H : Heap) (locs : List Loc) (ls : Array Slot), (some (t7, h6)) = some (r, h') → lv_has ls 4 [(0, .ref (ι a0)), (1, .int a1), (2, .int y2), (3, .int y3)] → WD D dA b0 ι h6 s.heap H locs → W p l e (headSpec wsX8_count rmX8_count).room s m ([.ref (ι a0), .int a1] : List Value).toArray below meth c H locs 0 0 (MQ below (QI D dA b0 ι r h') ([.ref (ι a0), .int a1] : List Value).toArray s 0 0 (qA b0)) (F0 m 70 ls [.int t7]) := by
      intro t7 h6 H locs ls hf hl w
      exact W.iret hx hb hr (qi_end hf w hC) w.locs_ok dX8_count_70
    obtain ⟨j5, ej5, hf⟩ := jn_s hf
    refine lv_if_ne (tgt := 48) hx hb dX8_count_38 (by decide) (fun c8 => ?_) (fun c8 => ?_)
    · have hf := if_f hf c8
      refine lv_iload_n hx hb dX8_count_48 rfl (lv_at hl 1 rfl) ?_
      refine lv_iconst (v := (1 : Int32)) hx hb dX8_count_49 (by decide) ?_
      refine lv_icmp_ne (tgt := 60) hx hb dX8_count_50 (by decide) (fun c9 => ?_) (fun c9 => ?_)
      · have hf := if_f hf c9
        refine lv_iload_n hx hb dX8_count_60 rfl (lv_at hl 1 rfl) ?_
        refine lv_iconst (v := (2 : Int32)) hx hb dX8_count_61 (by decide) ?_
        refine lv_icmp_ne (tgt := 69) hx hb dX8_count_62 (by decide) (fun c10 => ?_) (fun c10 => ?_)
        · have hf := if_f hf c10
          refine lv_iconst (v := (-1 : Int32)) hx hb dX8_count_69 (by decide) ?_
          exact hj70 (-1 : Int32) h4 H locs ls (by rw [ej5] at hf; exact hf) (lv_sub hl [0, 1, 2, 3] rfl) w
        · have hf := if_t hf c10
          refine lv_iload_n hx hb dX8_count_65 rfl (lv_at hl 2 rfl) ?_
          refine lv_goto (tgt := 70) hx hb dX8_count_66 (by decide) ?_
          exact hj70 y2 h4 H locs ls (by rw [ej5] at hf; exact hf) (lv_sub hl [0, 1, 2, 3] rfl) w
      · have hf := if_t hf c9
        refine lv_aload_n hx hb dX8_count_53 rfl (lv_at hl 0 rfl) ?_
        obtain ⟨v11, ev11, hf⟩ := ob_s hf
        refine px_getI hx hb hts nX8_count_X8 hown hK w ev11 rfl (by decide) mX8_count_74 rfl dX8_count_54 ?_
        refine lv_goto (tgt := 70) hx hb dX8_count_57 (by decide) ?_
        exact hj70 v11 h4 H locs ls (by rw [ej5] at hf; exact hf) (lv_sub hl [0, 1, 2, 3] rfl) w
    · have hf := if_t hf c8
      refine lv_aload_n hx hb dX8_count_41 rfl (lv_at hl 0 rfl) ?_
      obtain ⟨v12, ev12, hf⟩ := ob_s hf
      refine px_getI hx hb hts nX8_count_X8 hown hK w ev12 rfl (by decide) mX8_count_71 rfl dX8_count_42 ?_
      refine lv_goto (tgt := 70) hx hb dX8_count_45 (by decide) ?_
      exact hj70 v12 h4 H locs ls (by rw [ej5] at hf; exact hf) (lv_sub hl [0, 1, 2, 3] rfl) w
  obtain ⟨κ9, eκ9⟩ : ∃ k : Int32 → Int32 → Hp → Option (Int32 × Hp), k = (fun y2 y3 h4 => jn (fun t7 h6 => some (t7, h6)) fun (j5 : Int32 → Hp → Option (Int32 × Hp)) => if a1 = 0 then (gI h4 a0 10 1).bind fun v12 => j5 v12 h4 else if a1 = (1 : Int32) then (gI h4 a0 10 2).bind fun v11 => j5 v11 h4 else if a1 = (2 : Int32) then j5 y2 h4 else j5 (-1 : Int32) h4) := ⟨_, rfl⟩
  have hlp9 : ∀ (n : Nat) (z26 : Int32) (z27 : Int32) (h28 : Hp) (H : Heap) (locs : List Loc) (ls : Array Slot), lX8_count_9 N a0 a1 n z26 z27 h28 κ9 = some (r, h') → lv_has ls 4 [(0, .ref (ι a0)), (1, .int a1), (2, .int z26), (3, .int z27)] → WD D dA b0 ι h28 s.heap H locs → W p l e (headSpec wsX8_count rmX8_count).room s m ([.ref (ι a0), .int a1] : List Value).toArray below meth c H locs 0 0 (MQ below (QI D dA b0 ι r h') ([.ref (ι a0), .int a1] : List Value).toArray s 0 0 (qA b0)) (F0 m 9 ls []) := by
    intro n9
    induction n9 with
    | zero => intro z26 z27 h28 H locs ls hf; exact absurd hf (by rw [lX8_count_9]; exact fun q => nomatch q)
    | succ n9 ih9 =>
      intro z26 z27 h28 H locs ls hf hl w
      rw [lX8_count_9] at hf
      refine lv_iload_n hx hb dX8_count_9 rfl (lv_at hl 3 rfl) ?_
      refine lv_iconst (v := (3 : Int32)) hx hb dX8_count_10 (by decide) ?_
      refine lv_icmp_ge (tgt := 37) hx hb dX8_count_11 (by decide) (fun c29 => ?_) (fun c29 => ?_)
      · have hf := if_t hf c29
        exact hx9 z26 z27 h28 H locs ls (by rw [eκ9] at hf; exact hf) (lv_sub hl [0, 1, 2, 3] rfl) w
      · have hf := if_f hf c29
        refine lv_iload_n hx hb dX8_count_14 rfl (lv_at hl 2 rfl) ?_
        refine lv_aload_n hx hb dX8_count_15 rfl (lv_at hl 0 rfl) ?_
        obtain ⟨v30, ev30, hf⟩ := ob_s hf
        refine px_getR hx hb hts nX8_count_X8 hown hK w ev30 rfl (by decide) mX8_count_13 rfl dX8_count_16 ?_
        refine lv_iload_n hx hb dX8_count_19 rfl (lv_at hl 3 rfl) ?_
        obtain ⟨v31, ev31, hf⟩ := ob_s hf
        refine px_zald hx hb hK w ev31 dX8_count_20 ?_
        have hj29 : ∀ (t34 : Int32) (h33 : Hp) (H : Heap) (locs : List Loc) (ls : Array Slot), (nm (z26 + t34) fun x35 => nm (z27 + (1 : Int32)) fun x36 => lX8_count_9 N a0 a1 n9 x35 x36 h33 κ9) = some (r, h') → lv_has ls 4 [(0, .ref (ι a0)), (1, .int a1), (2, .int z26), (3, .int z27)] → WD D dA b0 ι h33 s.heap H locs → W p l e (headSpec wsX8_count rmX8_count).room s m ([.ref (ι a0), .int a1] : List Value).toArray below meth c H locs 0 0 (MQ below (QI D dA b0 ι r h') ([.ref (ι a0), .int a1] : List Value).toArray s 0 0 (qA b0)) (F0 m 29 ls [.int t34, .int z26]) := by
          intro t34 h33 H locs ls hf hl w
          refine lv_iadd hx hb dX8_count_29 ?_
          obtain ⟨x35, ex35, hf⟩ := nm_s hf
          refine px_nmI ex35 ?_
          refine lv_istore_n (lv' := [(2, .int x35), (0, .ref (ι a0)), (1, .int a1), (3, .int z27)]) hx hb dX8_count_30 rfl hl (by decide) rfl (fun ls hl => ?_)
          obtain ⟨x36, ex36, hf⟩ := nm_s hf
          refine lv_iinc (v := x36) (lv' := [(3, .int x36), (2, .int x35), (0, .ref (ι a0)), (1, .int a1)]) hx hb dX8_count_31 hl (k := 3) rfl (by rw [ex36]; rfl) (by decide) rfl (fun ls hl => ?_)
          refine lv_goto (tgt := 9) hx hb dX8_count_34 (by decide) ?_
          exact ih9 x35 x36 h33 H locs ls hf (lv_sub hl [2, 3, 1, 0] rfl) w
        obtain ⟨j32, ej32, hf⟩ := jn_s hf
        refine lv_if_eq (tgt := 28) hx hb dX8_count_21 (by decide) (fun c37 => ?_) (fun c37 => ?_)
        · have hf := if_t hf c37
          refine lv_iconst (v := (0 : Int32)) hx hb dX8_count_28 (by decide) ?_
          exact hj29 (0 : Int32) h28 H locs ls (by rw [ej32] at hf; exact hf) (lv_sub hl [0, 1, 2, 3] rfl) w
        · have hf := if_f hf c37
          refine lv_iconst (v := (1 : Int32)) hx hb dX8_count_24 (by decide) ?_
          refine lv_goto (tgt := 29) hx hb dX8_count_25 (by decide) ?_
          exact hj29 (1 : Int32) h28 H locs ls (by rw [ej32] at hf; exact hf) (lv_sub hl [0, 1, 2, 3] rfl) w
  exact hlp9 N (0 : Int32) (0 : Int32) h1 H locs ls (by rw [eκ9]; exact hf) (lv_sub hl [2, 3, 1, 0] rfl) w
