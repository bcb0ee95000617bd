theorem nX1_exchange_X1 : ∀ w ∈ wsX10, w ∈ wsX1_exchange := by decide +kernel
theorem mX1_exchange_11 : Cond.fieldLink RX1 11 "NormalForms$Echelon" "slots" "[LNormalForms$Row;" ∈ wsX1_exchange := by decide +kernel
theorem mX1_exchange_31 : Cond.fieldLink RX1 31 "NormalForms$Echelon" "incoming" "LNormalForms$Row;" ∈ wsX1_exchange := by decide +kernel
abbrev rmX1_exchange : Room := { frames := 1, cells := 0, slots := 0, locals := 12 }
set_option maxHeartbeats 4000000 in
set_option maxRecDepth 100000 in
theorem kX1_exchange (l : Launch) (D : va_G) (dA : Nat → ClassId) (b0 : Nat) (ι : Nat → Nat) (N : Nat) (a0 : Nat) (a1 : Int32) (h : Hp) (h' : Hp) (hf : fX1_exchange N a0 a1 h = some h') : Met l yX1_exchange wsX1_exchange rmX1_exchange (PC D dA b0 ι [.ref (ι a0), .int a1] h) (QV D dA b0 ι h') 0 0 (qA b0) := by
  unfold fX1_exchange at hf
  refine Met.ofW (cc := cX1_exchange) (maxL := 3) (ret := none) (by decide +kernel) rfl ?_
  intro p e s m args below meth c s₁ B hml hv
  obtain ⟨rfl, w0⟩ := hv
  have hx := B.exec
  have hb := B.bytes
  have hr := B.returns
  have hts := atoms_spec (ws := wsX1_exchange) B.pre
  have hown : s.vm.findClass RX1 = some m.cls := findClass_of_methodNamed B.named
  have hlocks := B.notSynchronized
  have hC := w0.c
  have hK := hC.1
  have w := WD.start w0
  clear w0
  have hl := lv_entry ([.ref (ι a0), .int a1]) (n := 3) (Nat.le_of_ble_eq_true rfl)
  rw [lg_entry_eq]
  generalize (lg_sl ([.ref (ι a0), .int a1]) ++ List.replicate (3 - (lg_sl ([.ref (ι a0), .int a1])).length) Slot.unset).toArray = ls at hl ⊢
  have hl : lv_has ls 3 [(0, .ref (ι a0)), (1, .int a1)] := hl
  obtain ⟨H, hH⟩ : ∃ H : Heap, H = s.heap := ⟨_, rfl⟩
  obtain ⟨locs, hlo⟩ : ∃ locs : List Loc, locs = [] := ⟨_, rfl⟩
  rw [← hlo]
  have w : WD D dA b0 ι h s.heap H locs := by rw [hH, hlo]; exact w
  refine px_start hH ?_
  refine lv_aload_n hx hb dX1_exchange_0 rfl (lv_at hl 0 rfl) ?_
  obtain ⟨v1, ev1, hf⟩ := ob_s hf
  refine px_getR hx hb hts nX1_exchange_X1 hown hK w ev1 rfl (by decide) mX1_exchange_11 rfl dX1_exchange_1 ?_
  refine lv_iload_n hx hb dX1_exchange_4 rfl (lv_at hl 1 rfl) ?_
  obtain ⟨v2, ev2, hf⟩ := ob_s hf
  refine px_rald hx hb hK w ev2 rfl dX1_exchange_5 ?_
  refine lv_astore_n (lv' := [(2, .ref (ι v2)), (0, .ref (ι a0)), (1, .int a1)]) hx hb dX1_exchange_6 rfl hl (by decide) rfl (fun ls hl => ?_)
  refine lv_aload_n hx hb dX1_exchange_7 rfl (lv_at hl 1 rfl) ?_
  obtain ⟨v3, ev3, hf⟩ := ob_s hf
  refine px_getR hx hb hts nX1_exchange_X1 hown hK w ev3 rfl (by decide) mX1_exchange_11 rfl dX1_exchange_8 ?_
  refine lv_iload_n hx hb dX1_exchange_11 rfl (lv_at hl 2 rfl) ?_
  refine lv_aload_n hx hb dX1_exchange_12 rfl (lv_at hl 1 rfl) ?_
  obtain ⟨v4, ev4, hf⟩ := ob_s hf
  refine px_getR hx hb hts nX1_exchange_X1 hown hK w ev4 rfl (by decide) mX1_exchange_31 rfl dX1_exchange_13 ?_
  obtain ⟨h5, eh5, hf⟩ := ob_s hf
  refine px_rast hx hb hK w eh5 rfl rfl dX1_exchange_16 (fun H locs w => ?_)
  refine lv_aload_n hx hb dX1_exchange_17 rfl (lv_at hl 1 rfl) ?_
  refine lv_aload_n hx hb dX1_exchange_18 rfl (lv_at hl 0 rfl) ?_
  obtain ⟨h6, eh6, hf⟩ := ob_s hf
  refine px_put hx hb hts nX1_exchange_X1 tyX1 tyX1_ok nmX1 hown hK w eh6 rfl (by decide) mX1_exchange_31 rfl rfl rfl rfl dX1_exchange_19 rfl (fun H locs w => ?_)
  exact W.vret hx hb hr (qv_end hf w hC) w.locs_ok dX1_exchange_22
theorem nX1_insert_X1 : ∀ w ∈ wsX10, w ∈ wsX1_insert := by decide +kernel
theorem mX1_insert_20 : Cond.fieldLink RX1 20 "NormalForms$Echelon" "slotFull" "[Z" ∈ wsX1_insert := by decide +kernel
theorem mX1_insert_31 : Cond.fieldLink RX1 31 "NormalForms$Echelon" "incoming" "LNormalForms$Row;" ∈ wsX1_insert := by decide +kernel
theorem nX1_insert_X6 : ∀ w ∈ wsX60, w ∈ wsX1_insert := by decide +kernel
theorem nX1_insert_X4 : ∀ w ∈ wsX40, w ∈ wsX1_insert := by decide +kernel
theorem mX1_insert_11 : Cond.fieldLink RX1 11 "NormalForms$Echelon" "slots" "[LNormalForms$Row;" ∈ wsX1_insert := by decide +kernel
theorem mX1_insert_27 : Cond.fieldLink RX1 27 "NormalForms$Echelon" "quotient" "LNormalForms$Polynomial;" ∈ wsX1_insert := by decide +kernel
abbrev rmX1_insert : Room := { frames := 4, cells := 0, slots := 0, locals := 87 }
set_option maxHeartbeats 4000000 in
set_option maxRecDepth 100000 in
theorem kX1_insert (l : Launch) (D : va_G) (dA : Nat → ClassId) (b0 : Nat) (ι : Nat → Nat) (N : Nat) (a0 : Nat) (h : Hp) (h' : Hp) (hf : fX1_insert N a0 h = some h') : Met l yX1_insert wsX1_insert rmX1_insert (PC D dA b0 ι [.ref (ι a0)] h) (QV D dA b0 ι h') 0 0 (qA b0) := by
  unfold fX1_insert at hf
  refine Met.ofW (cc := cX1_insert) (maxL := 3) (ret := none) (by decide +kernel) rfl ?_
  intro p e s m args below meth c s₁ B hml hv
  obtain ⟨rfl, w0⟩ := hv
  have hx := B.exec
  have hb := B.bytes
  have hr := B.returns
  have hts := atoms_spec (ws := wsX1_insert) B.pre
  have hown : s.vm.findClass RX1 = some m.cls := findClass_of_methodNamed B.named
  have hlocks := B.notSynchronized
  have hC := w0.c
  have hK := hC.1
  have w := WD.start w0
  clear w0
  have hl := lv_entry ([.ref (ι a0)]) (n := 3) (Nat.le_of_ble_eq_true rfl)
  rw [lg_entry_eq]
  generalize (lg_sl ([.ref (ι a0)]) ++ List.replicate (3 - (lg_sl ([.ref (ι a0)])).length) Slot.unset).toArray = ls at hl ⊢
  have hl : lv_has ls 3 [(0, .ref (ι a0))] := hl
  obtain ⟨H, hH⟩ : ∃ H : Heap, H = s.heap := ⟨_, rfl⟩
  obtain ⟨locs, hlo⟩ : ∃ locs : List Loc, locs = [] := ⟨_, rfl⟩
  rw [← hlo]
  have w : WD D dA b0 ι h s.heap H locs := by rw [hH, hlo]; exact w
  refine px_start hH ?_
  refine lv_iconst (v := (0 : Int32)) hx hb dX1_insert_0 (by decide) ?_
  refine lv_istore_n (lv' := [(1, .int (0 : Int32)), (0, .ref (ι a0))]) hx hb dX1_insert_1 rfl hl (by decide) rfl (fun ls hl => ?_)
  have hx2 : ∀ (y1 : Int32) (h2 : Hp) (H : Heap) (locs : List Loc) (ls : Array Slot), (some h2) = some h' → lv_has ls 3 [(0, .ref (ι a0)), (1, .int y1)] → WD D dA b0 ι h2 s.heap H locs → W p l e (headSpec wsX1_insert rmX1_insert).room s m ([.ref (ι a0)] : List Value).toArray below meth c H locs 0 0 (MQ below (QV D dA b0 ι h') ([.ref (ι a0)] : List Value).toArray s 0 0 (qA b0)) (F0 m 102 ls []) := by
    intro y1 h2 H locs ls hf hl w
    exact W.vret hx hb hr (qv_end hf w hC) w.locs_ok dX1_insert_102
  obtain ⟨κ2, eκ2⟩ : ∃ k : Int32 → Hp → Option Hp, k = (fun y1 h2 => some h2) := ⟨_, rfl⟩
  have hlp2 : ∀ (n : Nat) (z64 : Int32) (h65 : Hp) (H : Heap) (locs : List Loc) (ls : Array Slot), lX1_insert_2 N a0 n z64 h65 κ2 = some h' → lv_has ls 3 [(0, .ref (ι a0)), (1, .int z64)] → WD D dA b0 ι h65 s.heap H locs → W p l e (headSpec wsX1_insert rmX1_insert).room s m ([.ref (ι a0)] : List Value).toArray below meth c H locs 0 0 (MQ below (QV D dA b0 ι h') ([.ref (ι a0)] : List Value).toArray s 0 0 (qA b0)) (F0 m 2 ls []) := by
    intro n2
    induction n2 with
    | zero => intro z64 h65 H locs ls hf; exact absurd hf (by rw [lX1_insert_2]; exact fun q => nomatch q)
    | succ n2 ih2 =>
      intro z64 h65 H locs ls hf hl w
      rw [lX1_insert_2] at hf
      refine lv_iload_n hx hb dX1_insert_2 rfl (lv_at hl 1 rfl) ?_
      refine lv_iconst (v := (4 : Int32)) hx hb dX1_insert_3 (by decide) ?_
      refine lv_icmp_ge (tgt := 102) hx hb dX1_insert_4 (by decide) (fun c66 => ?_) (fun c66 => ?_)
      · have hf := if_t hf c66
        exact hx2 z64 h65 H locs ls (by rw [eκ2] at hf; exact hf) (lv_sub hl [0, 1] rfl) w
      · have hf := if_f hf c66
        refine lv_aload_n hx hb dX1_insert_7 rfl (lv_at hl 0 rfl) ?_
        obtain ⟨v67, ev67, hf⟩ := ob_s hf
        refine px_getR hx hb hts nX1_insert_X1 hown hK w ev67 rfl (by decide) mX1_insert_20 rfl dX1_insert_8 ?_
        refine lv_iload_n hx hb dX1_insert_11 rfl (lv_at hl 1 rfl) ?_
        obtain ⟨v68, ev68, hf⟩ := ob_s hf
        refine px_zald hx hb hK w ev68 dX1_insert_12 ?_
        have hj44 : ∀ (h70 : Hp) (H : Heap) (locs : List Loc) (ls : Array Slot), (lX1_insert_46 N a0 z64 N (0 : Int32) h70 (fun y71 h72 => nm (z64 + (1 : Int32)) fun x73 => lX1_insert_2 N a0 n2 x73 h72 κ2)) = some h' → lv_has ls 3 [(0, .ref (ι a0)), (1, .int z64)] → WD D dA b0 ι h70 s.heap H locs → W p l e (headSpec wsX1_insert rmX1_insert).room s m ([.ref (ι a0)] : List Value).toArray below meth c H locs 0 0 (MQ below (QV D dA b0 ι h') ([.ref (ι a0)] : List Value).toArray s 0 0 (qA b0)) (F0 m 44 ls []) := by
          intro h70 H locs ls hf hl w
          refine lv_iconst (v := (0 : Int32)) hx hb dX1_insert_44 (by decide) ?_
          refine lv_istore_n (lv' := [(2, .int (0 : Int32)), (0, .ref (ι a0)), (1, .int z64)]) hx hb dX1_insert_45 rfl hl (by decide) rfl (fun ls hl => ?_)
          have hx46 : ∀ (y71 : Int32) (h72 : Hp) (H : Heap) (locs : List Loc) (ls : Array Slot), (nm (z64 + (1 : Int32)) fun x73 => lX1_insert_2 N a0 n2 x73 h72 κ2) = some h' → lv_has ls 3 [(0, .ref (ι a0)), (1, .int z64), (2, .int y71)] → WD D dA b0 ι h72 s.heap H locs → W p l e (headSpec wsX1_insert rmX1_insert).room s m ([.ref (ι a0)] : List Value).toArray below meth c H locs 0 0 (MQ below (QV D dA b0 ι h') ([.ref (ι a0)] : List Value).toArray s 0 0 (qA b0)) (F0 m 96 ls []) := by
            intro y71 h72 H locs ls hf hl w
            obtain ⟨x73, ex73, hf⟩ := nm_s hf
            refine lv_iinc (v := x73) (lv' := [(1, .int x73), (0, .ref (ι a0)), (2, .int y71)]) hx hb dX1_insert_96 hl (k := 1) rfl (by rw [ex73]; rfl) (by decide) rfl (fun ls hl => ?_)
            refine lv_goto (tgt := 2) hx hb dX1_insert_99 (by decide) ?_
            exact ih2 x73 h72 H locs ls hf (lv_sub hl [1, 0] rfl) w
          obtain ⟨κ46, eκ46⟩ : ∃ k : Int32 → Hp → Option Hp, k = (fun y71 h72 => nm (z64 + (1 : Int32)) fun x73 => lX1_insert_2 N a0 n2 x73 h72 κ2) := ⟨_, rfl⟩
          have hlp46 : ∀ (n : Nat) (z94 : Int32) (h95 : Hp) (H : Heap) (locs : List Loc) (ls : Array Slot), lX1_insert_46 N a0 z64 n z94 h95 κ46 = some h' → lv_has ls 3 [(0, .ref (ι a0)), (1, .int z64), (2, .int z94)] → WD D dA b0 ι h95 s.heap H locs → W p l e (headSpec wsX1_insert rmX1_insert).room s m ([.ref (ι a0)] : List Value).toArray below meth c H locs 0 0 (MQ below (QV D dA b0 ι h') ([.ref (ι a0)] : List Value).toArray s 0 0 (qA b0)) (F0 m 46 ls []) := by
            intro n46
            induction n46 with
            | zero => intro z94 h95 H locs ls hf; exact absurd hf (by rw [lX1_insert_46]; exact fun q => nomatch q)
            | succ n46 ih46 =>
              intro z94 h95 H locs ls hf hl w
              rw [lX1_insert_46] at hf
              refine lv_iload_n hx hb dX1_insert_46 rfl (lv_at hl 2 rfl) ?_
              refine lv_bipush (v := (67 : Int32)) hx hb dX1_insert_47 (by decide) ?_
              refine lv_icmp_ge (tgt := 96) hx hb dX1_insert_49 (by decide) (fun c96 => ?_) (fun c96 => ?_)
              · have hf := if_t hf c96
                exact hx46 z94 h95 H locs ls (by rw [eκ46] at hf; exact hf) (lv_sub hl [0, 1, 2] rfl) w
              · have hf := if_f hf c96
                refine lv_aload_n hx hb dX1_insert_52 rfl (lv_at hl 0 rfl) ?_
                obtain ⟨v97, ev97, hf⟩ := ob_s hf
                refine px_getR hx hb hts nX1_insert_X1 hown hK w ev97 rfl (by decide) mX1_insert_31 rfl dX1_insert_53 ?_
                obtain ⟨v98, ev98, hf⟩ := ob_s hf
                refine px_getRN hx hb hts nX1_insert_X6 hown hK w ev98 rfl (by decide) (hC.2.1 _ nest_6) rfl dX1_insert_56 ?_
                refine lv_iload_n hx hb dX1_insert_59 rfl (lv_at hl 1 rfl) ?_
                obtain ⟨v99, ev99, hf⟩ := ob_s hf
                refine px_rald hx hb hK w ev99 rfl dX1_insert_60 ?_
                obtain ⟨v100, ev100, hf⟩ := ob_s hf
                refine px_getIN hx hb hts nX1_insert_X4 hown hK w ev100 rfl (by decide) (hC.2.1 _ nest_7) rfl dX1_insert_61 ?_
                refine lv_if_lt (tgt := 96) hx hb dX1_insert_64 (by decide) (fun c101 => ?_) (fun c101 => ?_)
                · have hf := if_t hf c101
                  exact hx46 z94 h95 H locs ls (by rw [eκ46] at hf; exact hf) (lv_sub hl [0, 1, 2] rfl) w
                · have hf := if_f hf c101
                  refine lv_aload_n hx hb dX1_insert_67 rfl (lv_at hl 0 rfl) ?_
                  obtain ⟨v102, ev102, hf⟩ := ob_s hf
                  refine px_getR hx hb hts nX1_insert_X1 hown hK w ev102 rfl (by decide) mX1_insert_11 rfl dX1_insert_68 ?_
                  refine lv_iload_n hx hb dX1_insert_71 rfl (lv_at hl 1 rfl) ?_
                  obtain ⟨v103, ev103, hf⟩ := ob_s hf
                  refine px_rald hx hb hK w ev103 rfl dX1_insert_72 ?_
                  refine lv_aload_n hx hb dX1_insert_73 rfl (lv_at hl 0 rfl) ?_
                  obtain ⟨v104, ev104, hf⟩ := ob_s hf
                  refine px_getR hx hb hts nX1_insert_X1 hown hK w ev104 rfl (by decide) mX1_insert_31 rfl dX1_insert_74 ?_
                  refine lv_iload_n hx hb dX1_insert_77 rfl (lv_at hl 1 rfl) ?_
                  refine lv_aload_n hx hb dX1_insert_78 rfl (lv_at hl 0 rfl) ?_
                  obtain ⟨v105, ev105, hf⟩ := ob_s hf
                  refine px_getR hx hb hts nX1_insert_X1 hown hK w ev105 rfl (by decide) mX1_insert_27 rfl dX1_insert_79 ?_
                  obtain ⟨u108, eu108, hf⟩ := ob_s hf
                  obtain ⟨h107, eh107, hf⟩ := ob_s hf
                  refine px_callVv (As := [.ref (ι v104), .int z64, .ref (ι v105)]) (rest := []) ⟨hx, hb, hml, hown, hts⟩ hC w (kX6_lowerBy l D dA b0 ι N v103 v104 z64 v105 h95 h107 eh107) (cwV 3 hts gX1_insert_X6_lowerBy rfl rfl rfl (by decide +kernel) ⟨Nat.le_of_ble_eq_true rfl, Nat.le_of_ble_eq_true rfl⟩) eu108 rfl rfl hl.1 rfl (Nat.le_of_ble_eq_true rfl) dX1_insert_82 ⟨Nat.le_of_ble_eq_true rfl, Nat.le_of_ble_eq_true rfl⟩ (fun H locs w => ?_)
                  refine lv_aload_n hx hb dX1_insert_85 rfl (lv_at hl 0 rfl) ?_
                  refine lv_iload_n hx hb dX1_insert_86 rfl (lv_at hl 1 rfl) ?_
                  obtain ⟨u111, eu111, hf⟩ := ob_s hf
                  obtain ⟨h110, eh110, hf⟩ := ob_s hf
                  refine px_callVv (As := [.int z64]) (rest := []) ⟨hx, hb, hml, hown, hts⟩ hC w (kX1_exchange l D dA b0 ι N a0 z64 h107 h110 eh110) (cwV 1 hts gX1_insert_X1_exchange rfl rfl rfl (by decide +kernel) ⟨Nat.le_of_ble_eq_true rfl, Nat.le_of_ble_eq_true rfl⟩) eu111 rfl rfl hl.1 rfl (Nat.le_of_ble_eq_true rfl) dX1_insert_87 ⟨Nat.le_of_ble_eq_true rfl, Nat.le_of_ble_eq_true rfl⟩ (fun H locs w => ?_)
                  obtain ⟨x112, ex112, hf⟩ := nm_s hf
                  refine lv_iinc (v := x112) (lv' := [(2, .int x112), (0, .ref (ι a0)), (1, .int z64)]) hx hb dX1_insert_90 hl (k := 2) rfl (by rw [ex112]; rfl) (by decide) rfl (fun ls hl => ?_)
                  refine lv_goto (tgt := 46) hx hb dX1_insert_93 (by decide) ?_
                  exact ih46 x112 h110 H locs ls hf (lv_sub hl [1, 2, 0] rfl) w
          exact hlp46 N (0 : Int32) h70 H locs ls (by rw [eκ46]; exact hf) (lv_sub hl [1, 2, 0] rfl) w
        obtain ⟨j69, ej69, hf⟩ := jn_s hf
        refine lv_if_ne (tgt := 44) hx hb dX1_insert_13 (by decide) (fun c113 => ?_) (fun c113 => ?_)
        · have hf := if_f hf c113
          exact hj44 h65 H locs ls (by rw [ej69] at hf; exact hf) (lv_sub hl [0, 1] rfl) w
        · have hf := if_t hf c113
          refine lv_aload_n hx hb dX1_insert_16 rfl (lv_at hl 0 rfl) ?_
          obtain ⟨v114, ev114, hf⟩ := ob_s hf
          refine px_getR hx hb hts nX1_insert_X1 hown hK w ev114 rfl (by decide) mX1_insert_31 rfl dX1_insert_17 ?_
          obtain ⟨v115, ev115, hf⟩ := ob_s hf
          refine px_getRN hx hb hts nX1_insert_X6 hown hK w ev115 rfl (by decide) (hC.2.1 _ nest_6) rfl dX1_insert_20 ?_
          refine lv_iload_n hx hb dX1_insert_23 rfl (lv_at hl 1 rfl) ?_
          obtain ⟨v116, ev116, hf⟩ := ob_s hf
          refine px_rald hx hb hK w ev116 rfl dX1_insert_24 ?_
          obtain ⟨v117, ev117, hf⟩ := ob_s hf
          refine px_getIN hx hb hts nX1_insert_X4 hown hK w ev117 rfl (by decide) (hC.2.1 _ nest_7) rfl dX1_insert_25 ?_
          refine lv_if_lt (tgt := 44) hx hb dX1_insert_28 (by decide) (fun c118 => ?_) (fun c118 => ?_)
          · have hf := if_t hf c118
            exact hj44 h65 H locs ls (by rw [ej69] at hf; exact hf) (lv_sub hl [0, 1] rfl) w
          · have hf := if_f hf c118
            refine lv_aload_n hx hb dX1_insert_31 rfl (lv_at hl 0 rfl) ?_
            refine lv_iload_n hx hb dX1_insert_32 rfl (lv_at hl 1 rfl) ?_
            obtain ⟨u121, eu121, hf⟩ := ob_s hf
            obtain ⟨h120, eh120, hf⟩ := ob_s hf
            refine px_callVv (As := [.int z64]) (rest := []) ⟨hx, hb, hml, hown, hts⟩ hC w (kX1_exchange l D dA b0 ι N a0 z64 h65 h120 eh120) (cwV 1 hts gX1_insert_X1_exchange rfl rfl rfl (by decide +kernel) ⟨Nat.le_of_ble_eq_true rfl, Nat.le_of_ble_eq_true rfl⟩) eu121 rfl rfl hl.1 rfl (Nat.le_of_ble_eq_true rfl) dX1_insert_33 ⟨Nat.le_of_ble_eq_true rfl, Nat.le_of_ble_eq_true rfl⟩ (fun H locs w => ?_)
            refine lv_aload_n hx hb dX1_insert_36 rfl (lv_at hl 0 rfl) ?_
            obtain ⟨v122, ev122, hf⟩ := ob_s hf
            refine px_getR hx hb hts nX1_insert_X1 hown hK w ev122 rfl (by decide) mX1_insert_20 rfl dX1_insert_37 ?_
            refine lv_iload_n hx hb dX1_insert_40 rfl (lv_at hl 1 rfl) ?_
            refine lv_iconst (v := (1 : Int32)) hx hb dX1_insert_41 (by decide) ?_
            obtain ⟨h123, eh123, hf⟩ := ob_s hf
            refine px_zast hx hb hK w eh123 dX1_insert_42 (fun H locs w => ?_)
            exact W.vret hx hb hr (qv_end hf w hC) w.locs_ok dX1_insert_43
  exact hlp2 N (0 : Int32) h H locs ls (by rw [eκ2]; exact hf) (lv_sub hl [1, 0] rfl) w
theorem nX1_reduce_X1 : ∀ w ∈ wsX10, w ∈ wsX1_reduce := by decide +kernel
theorem mX1_reduce_20 : Cond.fieldLink RX1 20 "NormalForms$Echelon" "slotFull" "[Z" ∈ wsX1_reduce := by decide +kernel
theorem mX1_reduce_11 : Cond.fieldLink RX1 11 "NormalForms$Echelon" "slots" "[LNormalForms$Row;" ∈ wsX1_reduce := by decide +kernel
theorem mX1_reduce_27 : Cond.fieldLink RX1 27 "NormalForms$Echelon" "quotient" "LNormalForms$Polynomial;" ∈ wsX1_reduce := by decide +kernel
abbrev rmX1_reduce : Room := { frames := 4, cells := 0, slots := 0, locals := 87 }
set_option maxHeartbeats 4000000 in
set_option maxRecDepth 100000 in
theorem kX1_reduce (l : Launch) (D : va_G) (dA : Nat → ClassId) (b0 : Nat) (ι : Nat → Nat) (N : Nat) (a0 : Nat) (h : Hp) (h' : Hp) (hf : fX1_reduce N a0 h = some h') : Met l yX1_reduce wsX1_reduce rmX1_reduce (PC D dA b0 ι [.ref (ι a0)] h) (QV D dA b0 ι h') 0 0 (qA b0) := by
  unfold fX1_reduce at hf
  refine Met.ofW (cc := cX1_reduce) (maxL := 3) (ret := none) (by decide +kernel) rfl ?_
  intro p e s m args below meth c s₁ B hml hv
  obtain ⟨rfl, w0⟩ := hv
  have hx := B.exec
  have hb := B.bytes
  have hr := B.returns
  have hts := atoms_spec (ws := wsX1_reduce) B.pre
  have hown : s.vm.findClass RX1 = some m.cls := findClass_of_methodNamed B.named
  have hlocks := B.notSynchronized
  have hC := w0.c
  have hK := hC.1
  have w := WD.start w0
  clear w0
  have hl := lv_entry ([.ref (ι a0)]) (n := 3) (Nat.le_of_ble_eq_true rfl)
  rw [lg_entry_eq]
  generalize (lg_sl ([.ref (ι a0)]) ++ List.replicate (3 - (lg_sl ([.ref (ι a0)])).length) Slot.unset).toArray = ls at hl ⊢
  have hl : lv_has ls 3 [(0, .ref (ι a0))] := hl
  obtain ⟨H, hH⟩ : ∃ H : Heap, H = s.heap := ⟨_, rfl⟩
  obtain ⟨locs, hlo⟩ : ∃ locs : List Loc, locs = [] := ⟨_, rfl⟩
  rw [← hlo]
  have w : WD D dA b0 ι h s.heap H locs := by rw [hH, hlo]; exact w
  refine px_start hH ?_
  refine lv_iconst (v := (3 : Int32)) hx hb dX1_reduce_0 (by decide) ?_
  refine lv_istore_n (lv' := [(1, .int (3 : Int32)), (0, .ref (ι a0))]) hx hb dX1_reduce_1 rfl hl (by decide) rfl (fun ls hl => ?_)
  have hx2 : ∀ (y1 : Int32) (h2 : Hp) (H : Heap) (locs : List Loc) (ls : Array Slot), (some h2) = some h' → lv_has ls 3 [(0, .ref (ι a0)), (1, .int y1)] → WD D dA b0 ι h2 s.heap H locs → W p l e (headSpec wsX1_reduce rmX1_reduce).room s m ([.ref (ι a0)] : List Value).toArray below meth c H locs 0 0 (MQ below (QV D dA b0 ι h') ([.ref (ι a0)] : List Value).toArray s 0 0 (qA b0)) (F0 m 75 ls []) := by
    intro y1 h2 H locs ls hf hl w
    exact W.vret hx hb hr (qv_end hf w hC) w.locs_ok dX1_reduce_75
  obtain ⟨κ2, eκ2⟩ : ∃ k : Int32 → Hp → Option Hp, k = (fun y1 h2 => some h2) := ⟨_, rfl⟩
  have hlp2 : ∀ (n : Nat) (z56 : Int32) (h57 : Hp) (H : Heap) (locs : List Loc) (ls : Array Slot), lX1_reduce_2 N a0 n z56 h57 κ2 = some h' → lv_has ls 3 [(0, .ref (ι a0)), (1, .int z56)] → WD D dA b0 ι h57 s.heap H locs → W p l e (headSpec wsX1_reduce rmX1_reduce).room s m ([.ref (ι a0)] : List Value).toArray below meth c H locs 0 0 (MQ below (QV D dA b0 ι h') ([.ref (ι a0)] : List Value).toArray s 0 0 (qA b0)) (F0 m 2 ls []) := by
    intro n2
    induction n2 with
    | zero => intro z56 h57 H locs ls hf; exact absurd hf (by rw [lX1_reduce_2]; exact fun q => nomatch q)
    | succ n2 ih2 =>
      intro z56 h57 H locs ls hf hl w
      rw [lX1_reduce_2] at hf
      refine lv_iload_n hx hb dX1_reduce_2 rfl (lv_at hl 1 rfl) ?_
      refine lv_if_lt (tgt := 75) hx hb dX1_reduce_3 (by decide) (fun c58 => ?_) (fun c58 => ?_)
      · have hf := if_t hf c58
        exact hx2 z56 h57 H locs ls (by rw [eκ2] at hf; exact hf) (lv_sub hl [0, 1] rfl) w
      · have hf := if_f hf c58
        refine lv_aload_n hx hb dX1_reduce_6 rfl (lv_at hl 0 rfl) ?_
        obtain ⟨v59, ev59, hf⟩ := ob_s hf
        refine px_getR hx hb hts nX1_reduce_X1 hown hK w ev59 rfl (by decide) mX1_reduce_20 rfl dX1_reduce_7 ?_
        refine lv_iload_n hx hb dX1_reduce_10 rfl (lv_at hl 1 rfl) ?_
        obtain ⟨v60, ev60, hf⟩ := ob_s hf
        refine px_zald hx hb hK w ev60 dX1_reduce_11 ?_
        have hj69 : ∀ (h62 : Hp) (H : Heap) (locs : List Loc) (ls : Array Slot), (nm (z56 + (-1 : Int32)) fun x63 => lX1_reduce_2 N a0 n2 x63 h62 κ2) = some h' → lv_has ls 3 [(0, .ref (ι a0)), (1, .int z56)] → WD D dA b0 ι h62 s.heap H locs → W p l e (headSpec wsX1_reduce rmX1_reduce).room s m ([.ref (ι a0)] : List Value).toArray below meth c H locs 0 0 (MQ below (QV D dA b0 ι h') ([.ref (ι a0)] : List Value).toArray s 0 0 (qA b0)) (F0 m 69 ls []) := by
          intro h62 H locs ls hf hl w
          obtain ⟨x63, ex63, hf⟩ := nm_s hf
          refine lv_iinc (v := x63) (lv' := [(1, .int x63), (0, .ref (ι a0))]) hx hb dX1_reduce_69 hl (k := 1) rfl (by rw [ex63]; rfl) (by decide) rfl (fun ls hl => ?_)
          refine lv_goto (tgt := 2) hx hb dX1_reduce_72 (by decide) ?_
          exact ih2 x63 h62 H locs ls hf (lv_sub hl [1, 0] rfl) w
        obtain ⟨j61, ej61, hf⟩ := jn_s hf
        refine lv_if_eq (tgt := 69) hx hb dX1_reduce_12 (by decide) (fun c64 => ?_) (fun c64 => ?_)
        · have hf := if_t hf c64
          exact hj69 h57 H locs ls (by rw [ej61] at hf; exact hf) (lv_sub hl [0, 1] rfl) w
        · have hf := if_f hf c64
          refine lv_aload_n hx hb dX1_reduce_15 rfl (lv_at hl 0 rfl) ?_
          obtain ⟨v65, ev65, hf⟩ := ob_s hf
          refine px_getR hx hb hts nX1_reduce_X1 hown hK w ev65 rfl (by decide) mX1_reduce_11 rfl dX1_reduce_16 ?_
          refine lv_iload_n hx hb dX1_reduce_19 rfl (lv_at hl 1 rfl) ?_
          obtain ⟨v66, ev66, hf⟩ := ob_s hf
          refine px_rald hx hb hK w ev66 rfl dX1_reduce_20 ?_
          refine lv_iload_n hx hb dX1_reduce_21 rfl (lv_at hl 1 rfl) ?_
          obtain ⟨u69, eu69, hf⟩ := ob_s hf
          obtain ⟨h68, eh68, hf⟩ := ob_s hf
          refine px_callVv (As := [.int z56]) (rest := []) ⟨hx, hb, hml, hown, hts⟩ hC w (kX6_makeMonicAt l D dA b0 ι N v66 z56 h57 h68 eh68) (cwV 1 hts gX1_reduce_X6_makeMonicAt rfl rfl rfl (by decide +kernel) ⟨Nat.le_of_ble_eq_true rfl, Nat.le_of_ble_eq_true rfl⟩) eu69 rfl rfl hl.1 rfl (Nat.le_of_ble_eq_true rfl) dX1_reduce_22 ⟨Nat.le_of_ble_eq_true rfl, Nat.le_of_ble_eq_true rfl⟩ (fun H locs w => ?_)
          refine lv_iload_n hx hb dX1_reduce_25 rfl (lv_at hl 1 rfl) ?_
          refine lv_iconst (v := (1 : Int32)) hx hb dX1_reduce_26 (by decide) ?_
          refine lv_iadd hx hb dX1_reduce_27 ?_
          obtain ⟨x70, ex70, hf⟩ := nm_s hf
          refine px_nmI ex70 ?_
          refine lv_istore_n (lv' := [(2, .int x70), (0, .ref (ι a0)), (1, .int z56)]) hx hb dX1_reduce_28 rfl hl (by decide) rfl (fun ls hl => ?_)
          have hx29 : ∀ (y71 : Int32) (h72 : Hp) (H : Heap) (locs : List Loc) (ls : Array Slot), (j61 h72) = some h' → lv_has ls 3 [(0, .ref (ι a0)), (1, .int z56), (2, .int y71)] → WD D dA b0 ι h72 s.heap H locs → W p l e (headSpec wsX1_reduce rmX1_reduce).room s m ([.ref (ι a0)] : List Value).toArray below meth c H locs 0 0 (MQ below (QV D dA b0 ι h') ([.ref (ι a0)] : List Value).toArray s 0 0 (qA b0)) (F0 m 69 ls []) := by
            intro y71 h72 H locs ls hf hl w
            exact hj69 h72 H locs ls (by rw [ej61] at hf; exact hf) (lv_sub hl [0, 1] rfl) w
          obtain ⟨κ29, eκ29⟩ : ∃ k : Int32 → Hp → Option Hp, k = (fun y71 h72 => j61 h72) := ⟨_, rfl⟩
          have hlp29 : ∀ (n : Nat) (z91 : Int32) (h92 : Hp) (H : Heap) (locs : List Loc) (ls : Array Slot), lX1_reduce_29 N a0 z56 n z91 h92 κ29 = some h' → lv_has ls 3 [(0, .ref (ι a0)), (1, .int z56), (2, .int z91)] → WD D dA b0 ι h92 s.heap H locs → W p l e (headSpec wsX1_reduce rmX1_reduce).room s m ([.ref (ι a0)] : List Value).toArray below meth c H locs 0 0 (MQ below (QV D dA b0 ι h') ([.ref (ι a0)] : List Value).toArray s 0 0 (qA b0)) (F0 m 29 ls []) := by
            intro n29
            induction n29 with
            | zero => intro z91 h92 H locs ls hf; exact absurd hf (by rw [lX1_reduce_29]; exact fun q => nomatch q)
            | succ n29 ih29 =>
              intro z91 h92 H locs ls hf hl w
              rw [lX1_reduce_29] at hf
              refine lv_iload_n hx hb dX1_reduce_29 rfl (lv_at hl 2 rfl) ?_
              refine lv_iconst (v := (4 : Int32)) hx hb dX1_reduce_30 (by decide) ?_
              refine lv_icmp_ge (tgt := 69) hx hb dX1_reduce_31 (by decide) (fun c93 => ?_) (fun c93 => ?_)
              · have hf := if_t hf c93
                exact hx29 z91 h92 H locs ls (by rw [eκ29] at hf; exact hf) (lv_sub hl [0, 1, 2] rfl) w
              · have hf := if_f hf c93
                refine lv_aload_n hx hb dX1_reduce_34 rfl (lv_at hl 0 rfl) ?_
                obtain ⟨v94, ev94, hf⟩ := ob_s hf
                refine px_getR hx hb hts nX1_reduce_X1 hown hK w ev94 rfl (by decide) mX1_reduce_20 rfl dX1_reduce_35 ?_
                refine lv_iload_n hx hb dX1_reduce_38 rfl (lv_at hl 2 rfl) ?_
                obtain ⟨v95, ev95, hf⟩ := ob_s hf
                refine px_zald hx hb hK w ev95 dX1_reduce_39 ?_
                have hj63 : ∀ (h97 : Hp) (H : Heap) (locs : List Loc) (ls : Array Slot), (nm (z91 + (1 : Int32)) fun x98 => lX1_reduce_29 N a0 z56 n29 x98 h97 κ29) = some h' → lv_has ls 3 [(0, .ref (ι a0)), (1, .int z56), (2, .int z91)] → WD D dA b0 ι h97 s.heap H locs → W p l e (headSpec wsX1_reduce rmX1_reduce).room s m ([.ref (ι a0)] : List Value).toArray below meth c H locs 0 0 (MQ below (QV D dA b0 ι h') ([.ref (ι a0)] : List Value).toArray s 0 0 (qA b0)) (F0 m 63 ls []) := by
                  intro h97 H locs ls hf hl w
                  obtain ⟨x98, ex98, hf⟩ := nm_s hf
                  refine lv_iinc (v := x98) (lv' := [(2, .int x98), (0, .ref (ι a0)), (1, .int z56)]) hx hb dX1_reduce_63 hl (k := 2) rfl (by rw [ex98]; rfl) (by decide) rfl (fun ls hl => ?_)
                  refine lv_goto (tgt := 29) hx hb dX1_reduce_66 (by decide) ?_
                  exact ih29 x98 h97 H locs ls hf (lv_sub hl [1, 2, 0] rfl) w
                obtain ⟨j96, ej96, hf⟩ := jn_s hf
                refine lv_if_eq (tgt := 63) hx hb dX1_reduce_40 (by decide) (fun c99 => ?_) (fun c99 => ?_)
                · have hf := if_t hf c99
                  exact hj63 h92 H locs ls (by rw [ej96] at hf; exact hf) (lv_sub hl [0, 1, 2] rfl) w
                · have hf := if_f hf c99
                  refine lv_aload_n hx hb dX1_reduce_43 rfl (lv_at hl 0 rfl) ?_
                  obtain ⟨v100, ev100, hf⟩ := ob_s hf
                  refine px_getR hx hb hts nX1_reduce_X1 hown hK w ev100 rfl (by decide) mX1_reduce_11 rfl dX1_reduce_44 ?_
                  refine lv_iload_n hx hb dX1_reduce_47 rfl (lv_at hl 1 rfl) ?_
                  obtain ⟨v101, ev101, hf⟩ := ob_s hf
                  refine px_rald hx hb hK w ev101 rfl dX1_reduce_48 ?_
                  refine lv_aload_n hx hb dX1_reduce_49 rfl (lv_at hl 0 rfl) ?_
                  obtain ⟨v102, ev102, hf⟩ := ob_s hf
                  refine px_getR hx hb hts nX1_reduce_X1 hown hK w ev102 rfl (by decide) mX1_reduce_11 rfl dX1_reduce_50 ?_
                  refine lv_iload_n hx hb dX1_reduce_53 rfl (lv_at hl 2 rfl) ?_
                  obtain ⟨v103, ev103, hf⟩ := ob_s hf
                  refine px_rald hx hb hK w ev103 rfl dX1_reduce_54 ?_
                  refine lv_iload_n hx hb dX1_reduce_55 rfl (lv_at hl 2 rfl) ?_
                  refine lv_aload_n hx hb dX1_reduce_56 rfl (lv_at hl 0 rfl) ?_
                  obtain ⟨v104, ev104, hf⟩ := ob_s hf
                  refine px_getR hx hb hts nX1_reduce_X1 hown hK w ev104 rfl (by decide) mX1_reduce_27 rfl dX1_reduce_57 ?_
                  obtain ⟨u107, eu107, hf⟩ := ob_s hf
                  obtain ⟨h106, eh106, hf⟩ := ob_s hf
                  refine px_callVv (As := [.ref (ι v103), .int z91, .ref (ι v104)]) (rest := []) ⟨hx, hb, hml, hown, hts⟩ hC w (kX6_lowerBy l D dA b0 ι N v101 v103 z91 v104 h92 h106 eh106) (cwV 3 hts gX1_reduce_X6_lowerBy rfl rfl rfl (by decide +kernel) ⟨Nat.le_of_ble_eq_true rfl, Nat.le_of_ble_eq_true rfl⟩) eu107 rfl rfl hl.1 rfl (Nat.le_of_ble_eq_true rfl) dX1_reduce_60 ⟨Nat.le_of_ble_eq_true rfl, Nat.le_of_ble_eq_true rfl⟩ (fun H locs w => ?_)
                  exact hj63 h106 H locs ls (by rw [ej96] at hf; exact hf) (lv_sub hl [0, 1, 2] rfl) w
          exact hlp29 N x70 h68 H locs ls (by rw [eκ29]; exact hf) (lv_sub hl [1, 2, 0] rfl) w
  exact hlp2 N (3 : Int32) h H locs ls (by rw [eκ2]; exact hf) (lv_sub hl [1, 0] rfl) w
theorem nX1_reckon_X1 : ∀ w ∈ wsX10, w ∈ wsX1_reckon := by decide +kernel
theorem mX1_reckon_31 : Cond.fieldLink RX1 31 "NormalForms$Echelon" "incoming" "LNormalForms$Row;" ∈ wsX1_reckon := by decide +kernel
theorem nX1_reckon_X2 : ∀ w ∈ wsX20, w ∈ wsX1_reckon := by decide +kernel
theorem mX1_reckon_20 : Cond.fieldLink RX1 20 "NormalForms$Echelon" "slotFull" "[Z" ∈ wsX1_reckon := by decide +kernel
abbrev rmX1_reckon : Room := { frames := 5, cells := 0, slots := 0, locals := 109 }
set_option maxHeartbeats 4000000 in
set_option maxRecDepth 100000 in
theorem kX1_reckon (l : Launch) (D : va_G) (dA : Nat → ClassId) (b0 : Nat) (ι : Nat → Nat) (N : Nat) (a0 : Nat) (a1 : Nat) (h : Hp) (h' : Hp) (hf : fX1_reckon N a0 a1 h = some h') : Met l yX1_reckon wsX1_reckon rmX1_reckon (PC D dA b0 ι [.ref (ι a0), .ref (ι a1)] h) (QV D dA b0 ι h') 0 0 (qA b0) := by
  unfold fX1_reckon at hf
  refine Met.ofW (cc := cX1_reckon) (maxL := 3) (ret := none) (by decide +kernel) rfl ?_
  intro p e s m args below meth c s₁ B hml hv
  obtain ⟨rfl, w0⟩ := hv
  have hx := B.exec
  have hb := B.bytes
  have hr := B.returns
  have hts := atoms_spec (ws := wsX1_reckon) B.pre
  have hown : s.vm.findClass RX1 = some m.cls := findClass_of_methodNamed B.named
  have hlocks := B.notSynchronized
  have hC := w0.c
  have hK := hC.1
  have w := WD.start w0
  clear w0
  have hl := lv_entry ([.ref (ι a0), .ref (ι a1)]) (n := 3) (Nat.le_of_ble_eq_true rfl)
  rw [lg_entry_eq]
  generalize (lg_sl ([.ref (ι a0), .ref (ι a1)]) ++ List.replicate (3 - (lg_sl ([.ref (ι a0), .ref (ι a1)])).length) Slot.unset).toArray = ls at hl ⊢
  have hl : lv_has ls 3 [(0, .ref (ι a0)), (1, .ref (ι a1))] := hl
  obtain ⟨H, hH⟩ : ∃ H : Heap, H = s.heap := ⟨_, rfl⟩
  obtain ⟨locs, hlo⟩ : ∃ locs : List Loc, locs = [] := ⟨_, rfl⟩
  rw [← hlo]
  have w : WD D dA b0 ι h s.heap H locs := by rw [hH, hlo]; exact w
  refine px_start hH ?_
  refine lv_iconst (v := (0 : Int32)) hx hb dX1_reckon_0 (by decide) ?_
  refine lv_istore_n (lv' := [(2, .int (0 : Int32)), (0, .ref (ι a0)), (1, .ref (ι a1))]) hx hb dX1_reckon_1 rfl hl (by decide) rfl (fun ls hl => ?_)
  have hx2 : ∀ (y1 : Int32) (h2 : Hp) (H : Heap) (locs : List Loc) (ls : Array Slot), (lX1_reckon_22 N a0 a1 N (0 : Int32) h2 (fun y3 h4 => some h4)) = some h' → lv_has ls 3 [(0, .ref (ι a0)), (1, .ref (ι a1)), (2, .int y1)] → WD D dA b0 ι h2 s.heap H locs → W p l e (headSpec wsX1_reckon rmX1_reckon).room s m ([.ref (ι a0), .ref (ι a1)] : List Value).toArray below meth c H locs 0 0 (MQ below (QV D dA b0 ι h') ([.ref (ι a0), .ref (ι a1)] : List Value).toArray s 0 0 (qA b0)) (F0 m 20 ls []) := by
    intro y1 h2 H locs ls hf hl w
    refine lv_iconst (v := (0 : Int32)) hx hb dX1_reckon_20 (by decide) ?_
    refine lv_istore_n (lv' := [(2, .int (0 : Int32)), (0, .ref (ι a0)), (1, .ref (ι a1))]) hx hb dX1_reckon_21 rfl hl (by decide) rfl (fun ls hl => ?_)
    have hx22 : ∀ (y3 : Int32) (h4 : Hp) (H : Heap) (locs : List Loc) (ls : Array Slot), (some h4) = some h' → lv_has ls 3 [(0, .ref (ι a0)), (1, .ref (ι a1)), (2, .int y3)] → WD D dA b0 ι h4 s.heap H locs → W p l e (headSpec wsX1_reckon rmX1_reckon).room s m ([.ref (ι a0), .ref (ι a1)] : List Value).toArray below meth c H locs 0 0 (MQ below (QV D dA b0 ι h') ([.ref (ι a0), .ref (ι a1)] : List Value).toArray s 0 0 (qA b0)) (F0 m 54 ls []) := by
      intro y3 h4 H locs ls hf hl w
      exact W.vret hx hb hr (qv_end hf w hC) w.locs_ok dX1_reckon_54
    obtain ⟨κ22, eκ22⟩ : ∃ k : Int32 → Hp → Option Hp, k = (fun y3 h4 => some h4) := ⟨_, rfl⟩
    have hlp22 : ∀ (n : Nat) (z22 : Int32) (h23 : Hp) (H : Heap) (locs : List Loc) (ls : Array Slot), lX1_reckon_22 N a0 a1 n z22 h23 κ22 = some h' → lv_has ls 3 [(0, .ref (ι a0)), (1, .ref (ι a1)), (2, .int z22)] → WD D dA b0 ι h23 s.heap H locs → W p l e (headSpec wsX1_reckon rmX1_reckon).room s m ([.ref (ι a0), .ref (ι a1)] : List Value).toArray below meth c H locs 0 0 (MQ below (QV D dA b0 ι h') ([.ref (ι a0), .ref (ι a1)] : List Value).toArray s 0 0 (qA b0)) (F0 m 22 ls []) := by
      intro n22
      induction n22 with
      | zero => intro z22 h23 H locs ls hf; exact absurd hf (by rw [lX1_reckon_22]; exact fun q => nomatch q)
      | succ n22 ih22 =>
        intro z22 h23 H locs ls hf hl w
        rw [lX1_reckon_22] at hf
        refine lv_iload_n hx hb dX1_reckon_22 rfl (lv_at hl 2 rfl) ?_
        refine lv_iconst (v := (4 : Int32)) hx hb dX1_reckon_23 (by decide) ?_
        refine lv_icmp_ge (tgt := 54) hx hb dX1_reckon_24 (by decide) (fun c24 => ?_) (fun c24 => ?_)
        · have hf := if_t hf c24
          exact hx22 z22 h23 H locs ls (by rw [eκ22] at hf; exact hf) (lv_sub hl [0, 1, 2] rfl) w
        · have hf := if_f hf c24
          refine lv_aload_n hx hb dX1_reckon_27 rfl (lv_at hl 0 rfl) ?_
          obtain ⟨v25, ev25, hf⟩ := ob_s hf
          refine px_getR hx hb hts nX1_reckon_X1 hown hK w ev25 rfl (by decide) mX1_reckon_31 rfl dX1_reckon_28 ?_
          refine lv_aload_n hx hb dX1_reckon_31 rfl (lv_at hl 1 rfl) ?_
          obtain ⟨v26, ev26, hf⟩ := ob_s hf
          refine px_getRN hx hb hts nX1_reckon_X2 hown hK w ev26 rfl (by decide) (hC.2.1 _ nest_8) rfl dX1_reckon_32 ?_
          refine lv_iload_n hx hb dX1_reckon_35 rfl (lv_at hl 2 rfl) ?_
          obtain ⟨v27, ev27, hf⟩ := ob_s hf
          refine px_rald hx hb hK w ev27 rfl dX1_reckon_36 ?_
          obtain ⟨u30, eu30, hf⟩ := ob_s hf
          obtain ⟨h29, eh29, hf⟩ := ob_s hf
          refine px_callVv (As := [.ref (ι v27)]) (rest := []) ⟨hx, hb, hml, hown, hts⟩ hC w (kX6_copyFrom l D dA b0 ι N v25 v27 h23 h29 eh29) (cwV 1 hts gX1_reckon_X6_copyFrom rfl rfl rfl (by decide +kernel) ⟨Nat.le_of_ble_eq_true rfl, Nat.le_of_ble_eq_true rfl⟩) eu30 rfl rfl hl.1 rfl (Nat.le_of_ble_eq_true rfl) dX1_reckon_37 ⟨Nat.le_of_ble_eq_true rfl, Nat.le_of_ble_eq_true rfl⟩ (fun H locs w => ?_)
          refine lv_aload_n hx hb dX1_reckon_40 rfl (lv_at hl 0 rfl) ?_
          obtain ⟨u33, eu33, hf⟩ := ob_s hf
          obtain ⟨h32, eh32, hf⟩ := ob_s hf
          refine px_callVv (As := []) (rest := []) ⟨hx, hb, hml, hown, hts⟩ hC w (kX1_insert l D dA b0 ι N a0 h29 h32 eh32) (cwV 0 hts gX1_reckon_X1_insert rfl rfl rfl (by decide +kernel) ⟨Nat.le_of_ble_eq_true rfl, Nat.le_of_ble_eq_true rfl⟩) eu33 rfl rfl hl.1 rfl (Nat.le_of_ble_eq_true rfl) dX1_reckon_41 ⟨Nat.le_of_ble_eq_true rfl, Nat.le_of_ble_eq_true rfl⟩ (fun H locs w => ?_)
          refine lv_aload_n hx hb dX1_reckon_44 rfl (lv_at hl 0 rfl) ?_
          obtain ⟨u36, eu36, hf⟩ := ob_s hf
          obtain ⟨h35, eh35, hf⟩ := ob_s hf
          refine px_callVv (As := []) (rest := []) ⟨hx, hb, hml, hown, hts⟩ hC w (kX1_reduce l D dA b0 ι N a0 h32 h35 eh35) (cwV 0 hts gX1_reckon_X1_reduce rfl rfl rfl (by decide +kernel) ⟨Nat.le_of_ble_eq_true rfl, Nat.le_of_ble_eq_true rfl⟩) eu36 rfl rfl hl.1 rfl (Nat.le_of_ble_eq_true rfl) dX1_reckon_45 ⟨Nat.le_of_ble_eq_true rfl, Nat.le_of_ble_eq_true rfl⟩ (fun H locs w => ?_)
          obtain ⟨x37, ex37, hf⟩ := nm_s hf
          refine lv_iinc (v := x37) (lv' := [(2, .int x37), (0, .ref (ι a0)), (1, .ref (ι a1))]) hx hb dX1_reckon_48 hl (k := 2) rfl (by rw [ex37]; rfl) (by decide) rfl (fun ls hl => ?_)
          refine lv_goto (tgt := 22) hx hb dX1_reckon_51 (by decide) ?_
          exact ih22 x37 h35 H locs ls hf (lv_sub hl [1, 2, 0] rfl) w
    exact hlp22 N (0 : Int32) h2 H locs ls (by rw [eκ22]; exact hf) (lv_sub hl [1, 2, 0] rfl) w
  obtain ⟨κ2, eκ2⟩ : ∃ k : Int32 → Hp → Option Hp, k = (fun y1 h2 => lX1_reckon_22 N a0 a1 N (0 : Int32) h2 (fun y3 h4 => some h4)) := ⟨_, rfl⟩
  have hlp2 : ∀ (n : Nat) (z45 : Int32) (h46 : Hp) (H : Heap) (locs : List Loc) (ls : Array Slot), lX1_reckon_2 N a0 a1 n z45 h46 κ2 = some h' → lv_has ls 3 [(0, .ref (ι a0)), (1, .ref (ι a1)), (2, .int z45)] → WD D dA b0 ι h46 s.heap H locs → W p l e (headSpec wsX1_reckon rmX1_reckon).room s m ([.ref (ι a0), .ref (ι a1)] : List Value).toArray below meth c H locs 0 0 (MQ below (QV D dA b0 ι h') ([.ref (ι a0), .ref (ι a1)] : List Value).toArray s 0 0 (qA b0)) (F0 m 2 ls []) := by
    intro n2
    induction n2 with
    | zero => intro z45 h46 H locs ls hf; exact absurd hf (by rw [lX1_reckon_2]; exact fun q => nomatch q)
    | succ n2 ih2 =>
      intro z45 h46 H locs ls hf hl w
      rw [lX1_reckon_2] at hf
      refine lv_iload_n hx hb dX1_reckon_2 rfl (lv_at hl 2 rfl) ?_
      refine lv_iconst (v := (4 : Int32)) hx hb dX1_reckon_3 (by decide) ?_
      refine lv_icmp_ge (tgt := 20) hx hb dX1_reckon_4 (by decide) (fun c47 => ?_) (fun c47 => ?_)
      · have hf := if_t hf c47
        exact hx2 z45 h46 H locs ls (by rw [eκ2] at hf; exact hf) (lv_sub hl [0, 1, 2] rfl) w
      · have hf := if_f hf c47
        refine lv_aload_n hx hb dX1_reckon_7 rfl (lv_at hl 0 rfl) ?_
        obtain ⟨v48, ev48, hf⟩ := ob_s hf
        refine px_getR hx hb hts nX1_reckon_X1 hown hK w ev48 rfl (by decide) mX1_reckon_20 rfl dX1_reckon_8 ?_
        refine lv_iload_n hx hb dX1_reckon_11 rfl (lv_at hl 2 rfl) ?_
        refine lv_iconst (v := (0 : Int32)) hx hb dX1_reckon_12 (by decide) ?_
        obtain ⟨h49, eh49, hf⟩ := ob_s hf
        refine px_zast hx hb hK w eh49 dX1_reckon_13 (fun H locs w => ?_)
        obtain ⟨x50, ex50, hf⟩ := nm_s hf
        refine lv_iinc (v := x50) (lv' := [(2, .int x50), (0, .ref (ι a0)), (1, .ref (ι a1))]) hx hb dX1_reckon_14 hl (k := 2) rfl (by rw [ex50]; rfl) (by decide) rfl (fun ls hl => ?_)
        refine lv_goto (tgt := 2) hx hb dX1_reckon_17 (by decide) ?_
        exact ih2 x50 h49 H locs ls hf (lv_sub hl [1, 2, 0] rfl) w
  exact hlp2 N (0 : Int32) h H locs ls (by rw [eκ2]; exact hf) (lv_sub hl [1, 2, 0] rfl) w
theorem nX1_writeTo_X1 : ∀ w ∈ wsX10, w ∈ wsX1_writeTo := by decide +kernel
theorem mX1_writeTo_20 : Cond.fieldLink RX1 20 "NormalForms$Echelon" "slotFull" "[Z" ∈ wsX1_writeTo := by decide +kernel
theorem nX1_writeTo_X2 : ∀ w ∈ wsX20, w ∈ wsX1_writeTo := by decide +kernel
theorem mX1_writeTo_11 : Cond.fieldLink RX1 11 "NormalForms$Echelon" "slots" "[LNormalForms$Row;" ∈ wsX1_writeTo := by decide +kernel
abbrev rmX1_writeTo : Room := { frames := 4, cells := 0, slots := 0, locals := 78 }
set_option maxHeartbeats 4000000 in
set_option maxRecDepth 100000 in
theorem kX1_writeTo (l : Launch) (D : va_G) (dA : Nat → ClassId) (b0 : Nat) (ι : Nat → Nat) (N : Nat) (a0 : Nat) (a1 : Nat) (h : Hp) (h' : Hp) (hf : fX1_writeTo N a0 a1 h = some h') : Met l yX1_writeTo wsX1_writeTo rmX1_writeTo (PC D dA b0 ι [.ref (ι a0), .ref (ι a1)] h) (QV D dA b0 ι h') 0 0 (qA b0) := by
  unfold fX1_writeTo at hf
  refine Met.ofW (cc := cX1_writeTo) (maxL := 4) (ret := none) (by decide +kernel) rfl ?_
  intro p e s m args below meth c s₁ B hml hv
  obtain ⟨rfl, w0⟩ := hv
  have hx := B.exec
  have hb := B.bytes
  have hr := B.returns
  have hts := atoms_spec (ws := wsX1_writeTo) B.pre
  have hown : s.vm.findClass RX1 = some m.cls := findClass_of_methodNamed B.named
  have hlocks := B.notSynchronized
  have hC := w0.c
  have hK := hC.1
  have w := WD.start w0
  clear w0
  have hl := lv_entry ([.ref (ι a0), .ref (ι a1)]) (n := 4) (Nat.le_of_ble_eq_true rfl)
  rw [lg_entry_eq]
  generalize (lg_sl ([.ref (ι a0), .ref (ι a1)]) ++ List.replicate (4 - (lg_sl ([.ref (ι a0), .ref (ι a1)])).length) Slot.unset).toArray = ls at hl ⊢
  have hl : lv_has ls 4 [(0, .ref (ι a0)), (1, .ref (ι a1))] := hl
  obtain ⟨H, hH⟩ : ∃ H : Heap, H = s.heap := ⟨_, rfl⟩
  obtain ⟨locs, hlo⟩ : ∃ locs : List Loc, locs = [] := ⟨_, rfl⟩
  rw [← hlo]
  have w : WD D dA b0 ι h s.heap H locs := by rw [hH, hlo]; exact w
  refine px_start hH ?_
  refine lv_aload_n hx hb dX1_writeTo_0 rfl (lv_at hl 1 rfl) ?_
  obtain ⟨u3, eu3, hf⟩ := ob_s hf
  obtain ⟨h2, eh2, hf⟩ := ob_s hf
  refine px_callVv (As := []) (rest := []) ⟨hx, hb, hml, hown, hts⟩ hC w (kX2_clear l D dA b0 ι N a1 h h2 eh2) (cwV 0 hts gX1_writeTo_X2_clear rfl rfl rfl (by decide +kernel) ⟨Nat.le_of_ble_eq_true rfl, Nat.le_of_ble_eq_true rfl⟩) eu3 rfl rfl hl.1 rfl (Nat.le_of_ble_eq_true rfl) dX1_writeTo_1 ⟨Nat.le_of_ble_eq_true rfl, Nat.le_of_ble_eq_true rfl⟩ (fun H locs w => ?_)
  refine lv_iconst (v := (0 : Int32)) hx hb dX1_writeTo_4 (by decide) ?_
  refine lv_istore_n (lv' := [(2, .int (0 : Int32)), (0, .ref (ι a0)), (1, .ref (ι a1))]) hx hb dX1_writeTo_5 rfl hl (by decide) rfl (fun ls hl => ?_)
  refine lv_iconst (v := (0 : Int32)) hx hb dX1_writeTo_6 (by decide) ?_
  refine lv_istore_n (lv' := [(3, .int (0 : Int32)), (2, .int (0 : Int32)), (0, .ref (ι a0)), (1, .ref (ι a1))]) hx hb dX1_writeTo_7 rfl hl (by decide) rfl (fun ls hl => ?_)
  have hx8 : ∀ (y4 : Int32) (y5 : Int32) (h6 : Hp) (H : Heap) (locs : List Loc) (ls : Array Slot), (some h6) = some h' → lv_has ls 4 [(0, .ref (ι a0)), (1, .ref (ι a1)), (2, .int y4), (3, .int y5)] → WD D dA b0 ι h6 s.heap H locs → W p l e (headSpec wsX1_writeTo rmX1_writeTo).room s m ([.ref (ι a0), .ref (ι a1)] : List Value).toArray below meth c H locs 0 0 (MQ below (QV D dA b0 ι h') ([.ref (ι a0), .ref (ι a1)] : List Value).toArray s 0 0 (qA b0)) (F0 m 46 ls []) := by
    intro y4 y5 h6 H locs ls hf hl w
    exact W.vret hx hb hr (qv_end hf w hC) w.locs_ok dX1_writeTo_46
  obtain ⟨κ8, eκ8⟩ : ∃ k : Int32 → Int32 → Hp → Option Hp, k = (fun y4 y5 h6 => some h6) := ⟨_, rfl⟩
  have hlp8 : ∀ (n : Nat) (z27 : Int32) (z28 : Int32) (h29 : Hp) (H : Heap) (locs : List Loc) (ls : Array Slot), lX1_writeTo_8 N a0 a1 n z27 z28 h29 κ8 = some h' → lv_has ls 4 [(0, .ref (ι a0)), (1, .ref (ι a1)), (2, .int z27), (3, .int z28)] → WD D dA b0 ι h29 s.heap H locs → W p l e (headSpec wsX1_writeTo rmX1_writeTo).room s m ([.ref (ι a0), .ref (ι a1)] : List Value).toArray below meth c H locs 0 0 (MQ below (QV D dA b0 ι h') ([.ref (ι a0), .ref (ι a1)] : List Value).toArray s 0 0 (qA b0)) (F0 m 8 ls []) := by
    intro n8
    induction n8 with
    | zero => intro z27 z28 h29 H locs ls hf; exact absurd hf (by rw [lX1_writeTo_8]; exact fun q => nomatch q)
    | succ n8 ih8 =>
      intro z27 z28 h29 H locs ls hf hl w
      rw [lX1_writeTo_8] at hf
      refine lv_iload_n hx hb dX1_writeTo_8 rfl (lv_at hl 3 rfl) ?_
      refine lv_iconst (v := (4 : Int32)) hx hb dX1_writeTo_9 (by decide) ?_
      refine lv_icmp_ge (tgt := 46) hx hb dX1_writeTo_10 (by decide) (fun c30 => ?_) (fun c30 => ?_)
      · have hf := if_t hf c30
        exact hx8 z27 z28 h29 H locs ls (by rw [eκ8] at hf; exact hf) (lv_sub hl [0, 1, 2, 3] rfl) w
      · have hf := if_f hf c30
        refine lv_aload_n hx hb dX1_writeTo_13 rfl (lv_at hl 0 rfl) ?_
        obtain ⟨v31, ev31, hf⟩ := ob_s hf
        refine px_getR hx hb hts nX1_writeTo_X1 hown hK w ev31 rfl (by decide) mX1_writeTo_20 rfl dX1_writeTo_14 ?_
        refine lv_iload_n hx hb dX1_writeTo_17 rfl (lv_at hl 3 rfl) ?_
        obtain ⟨v32, ev32, hf⟩ := ob_s hf
        refine px_zald hx hb hK w ev32 dX1_writeTo_18 ?_
        have hj40 : ∀ (y34 : Int32) (h35 : Hp) (H : Heap) (locs : List Loc) (ls : Array Slot), (nm (z28 + (1 : Int32)) fun x36 => lX1_writeTo_8 N a0 a1 n8 y34 x36 h35 κ8) = some h' → lv_has ls 4 [(0, .ref (ι a0)), (1, .ref (ι a1)), (2, .int y34), (3, .int z28)] → WD D dA b0 ι h35 s.heap H locs → W p l e (headSpec wsX1_writeTo rmX1_writeTo).room s m ([.ref (ι a0), .ref (ι a1)] : List Value).toArray below meth c H locs 0 0 (MQ below (QV D dA b0 ι h') ([.ref (ι a0), .ref (ι a1)] : List Value).toArray s 0 0 (qA b0)) (F0 m 40 ls []) := by
          intro y34 h35 H locs ls hf hl w
          obtain ⟨x36, ex36, hf⟩ := nm_s hf
          refine lv_iinc (v := x36) (lv' := [(3, .int x36), (0, .ref (ι a0)), (1, .ref (ι a1)), (2, .int y34)]) hx hb dX1_writeTo_40 hl (k := 3) rfl (by rw [ex36]; rfl) (by decide) rfl (fun ls hl => ?_)
          refine lv_goto (tgt := 8) hx hb dX1_writeTo_43 (by decide) ?_
          exact ih8 y34 x36 h35 H locs ls hf (lv_sub hl [1, 2, 3, 0] rfl) w
        obtain ⟨j33, ej33, hf⟩ := jn_s hf
        refine lv_if_eq (tgt := 40) hx hb dX1_writeTo_19 (by decide) (fun c37 => ?_) (fun c37 => ?_)
        · have hf := if_t hf c37
          exact hj40 z27 h29 H locs ls (by rw [ej33] at hf; exact hf) (lv_sub hl [0, 1, 2, 3] rfl) w
        · have hf := if_f hf c37
          refine lv_aload_n hx hb dX1_writeTo_22 rfl (lv_at hl 1 rfl) ?_
          obtain ⟨v38, ev38, hf⟩ := ob_s hf
          refine px_getRN hx hb hts nX1_writeTo_X2 hown hK w ev38 rfl (by decide) (hC.2.1 _ nest_8) rfl dX1_writeTo_23 ?_
          refine lv_iload_n hx hb dX1_writeTo_26 rfl (lv_at hl 2 rfl) ?_
          obtain ⟨v39, ev39, hf⟩ := ob_s hf
          refine px_rald hx hb hK w ev39 rfl dX1_writeTo_27 ?_
          refine lv_aload_n hx hb dX1_writeTo_28 rfl (lv_at hl 0 rfl) ?_
          obtain ⟨v40, ev40, hf⟩ := ob_s hf
          refine px_getR hx hb hts nX1_writeTo_X1 hown hK w ev40 rfl (by decide) mX1_writeTo_11 rfl dX1_writeTo_29 ?_
          refine lv_iload_n hx hb dX1_writeTo_32 rfl (lv_at hl 3 rfl) ?_
          obtain ⟨v41, ev41, hf⟩ := ob_s hf
          refine px_rald hx hb hK w ev41 rfl dX1_writeTo_33 ?_
          obtain ⟨u44, eu44, hf⟩ := ob_s hf
          obtain ⟨h43, eh43, hf⟩ := ob_s hf
          refine px_callVv (As := [.ref (ι v41)]) (rest := []) ⟨hx, hb, hml, hown, hts⟩ hC w (kX6_copyFrom l D dA b0 ι N v39 v41 h29 h43 eh43) (cwV 1 hts gX1_writeTo_X6_copyFrom rfl rfl rfl (by decide +kernel) ⟨Nat.le_of_ble_eq_true rfl, Nat.le_of_ble_eq_true rfl⟩) eu44 rfl rfl hl.1 rfl (Nat.le_of_ble_eq_true rfl) dX1_writeTo_34 ⟨Nat.le_of_ble_eq_true rfl, Nat.le_of_ble_eq_true rfl⟩ (fun H locs w => ?_)
          obtain ⟨x45, ex45, hf⟩ := nm_s hf
          refine lv_iinc (v := x45) (lv' := [(2, .int x45), (0, .ref (ι a0)), (1, .ref (ι a1)), (3, .int z28)]) hx hb dX1_writeTo_37 hl (k := 2) rfl (by rw [ex45]; rfl) (by decide) rfl (fun ls hl => ?_)
          exact hj40 x45 h43 H locs ls (by rw [ej33] at hf; exact hf) (lv_sub hl [1, 2, 0, 3] rfl) w
  exact hlp8 N (0 : Int32) (0 : Int32) h2 H locs ls (by rw [eκ8]; exact hf) (lv_sub hl [2, 3, 1, 0] rfl) w
