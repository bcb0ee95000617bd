theorem nX0_shrinkToCommon_X0 : ∀ w ∈ wsX00, w ∈ wsX0_shrinkToCommon := by decide +kernel
theorem mX0_shrinkToCommon_14 : Cond.fieldLink RX0 14 "NormalForms$Divider" "left" "LNormalForms$Polynomial;" ∈ wsX0_shrinkToCommon := by decide +kernel
theorem mX0_shrinkToCommon_20 : Cond.fieldLink RX0 20 "NormalForms$Divider" "right" "LNormalForms$Polynomial;" ∈ wsX0_shrinkToCommon := by decide +kernel
theorem nX0_shrinkToCommon_X4 : ∀ w ∈ wsX40, w ∈ wsX0_shrinkToCommon := by decide +kernel
theorem mX0_shrinkToCommon_23 : Cond.fieldLink RX0 23 "NormalForms$Divider" "quotient" "LNormalForms$Polynomial;" ∈ wsX0_shrinkToCommon := by decide +kernel
abbrev rmX0_shrinkToCommon : Room := { frames := 3, cells := 0, slots := 0, locals := 63 }
set_option maxHeartbeats 4000000 in
set_option maxRecDepth 100000 in
theorem kX0_shrinkToCommon (l : Launch) (D : va_G) (dA : Nat → ClassId) (b0 : Nat) (ι : Nat → Nat) (N : Nat) (a0 : Nat) (a1 : Nat) (a2 : Nat) (h : Hp) (h' : Hp) (hf : fX0_shrinkToCommon N a0 a1 a2 h = some h') : Met l yX0_shrinkToCommon wsX0_shrinkToCommon rmX0_shrinkToCommon (PC D dA b0 ι [.ref (ι a0), .ref (ι a1), .ref (ι a2)] h) (QV D dA b0 ι h') 0 0 (qA b0) := by
  unfold fX0_shrinkToCommon at hf
  refine Met.ofW (cc := cX0_shrinkToCommon) (maxL := 7) (ret := none) (by decide +kernel) rfl ?_
  intro p e s m args below meth c s₁ B hml hv
  obtain ⟨rfl, w0⟩ := hv
  have hx := B.exec
  have hb := B.bytes
  have hr := B.returns
  have hts := atoms_spec (ws := wsX0_shrinkToCommon) B.pre
  have hown : s.vm.findClass RX0 = some m.cls := findClass_of_methodNamed B.named
  have hlocks := B.notSynchronized
  have hC := w0.c
  have hK := hC.1
  have w := WD.start w0
  clear w0
  have hl := lv_entry ([.ref (ι a0), .ref (ι a1), .ref (ι a2)]) (n := 7) (Nat.le_of_ble_eq_true rfl)
  rw [lg_entry_eq]
  generalize (lg_sl ([.ref (ι a0), .ref (ι a1), .ref (ι a2)]) ++ List.replicate (7 - (lg_sl ([.ref (ι a0), .ref (ι a1), .ref (ι a2)])).length) Slot.unset).toArray = ls at hl ⊢
  have hl : lv_has ls 7 [(0, .ref (ι a0)), (1, .ref (ι a1)), (2, .ref (ι a2))] := hl
  obtain ⟨H, hH⟩ : ∃ H : Heap, H = s.heap := ⟨_, rfl⟩
  obtain ⟨locs, hlo⟩ : ∃ locs : List Loc, locs = [] := ⟨_, rfl⟩
  rw [← hlo]
  have w : WD D dA b0 ι h s.heap H locs := by rw [hH, hlo]; exact w
  refine px_start hH ?_
  refine lv_aload_n hx hb dX0_shrinkToCommon_0 rfl (lv_at hl 0 rfl) ?_
  obtain ⟨v1, ev1, hf⟩ := ob_s hf
  refine px_getR hx hb hts nX0_shrinkToCommon_X0 hown hK w ev1 rfl (by decide) mX0_shrinkToCommon_14 rfl dX0_shrinkToCommon_1 ?_
  refine lv_aload_n hx hb dX0_shrinkToCommon_4 rfl (lv_at hl 1 rfl) ?_
  obtain ⟨u4, eu4, hf⟩ := ob_s hf
  obtain ⟨h3, eh3, hf⟩ := ob_s hf
  refine px_callVv (As := [.ref (ι a1)]) (rest := []) ⟨hx, hb, hml, hown, hts⟩ hC w (kX4_copyFrom l D dA b0 ι N v1 a1 h h3 eh3) (cwV 1 hts gX0_shrinkToCommon_X4_copyFrom rfl rfl rfl (by decide +kernel) ⟨Nat.le_of_ble_eq_true rfl, Nat.le_of_ble_eq_true rfl⟩) eu4 rfl rfl hl.1 rfl (Nat.le_of_ble_eq_true rfl) dX0_shrinkToCommon_5 ⟨Nat.le_of_ble_eq_true rfl, Nat.le_of_ble_eq_true rfl⟩ (fun H locs w => ?_)
  refine lv_aload_n hx hb dX0_shrinkToCommon_8 rfl (lv_at hl 0 rfl) ?_
  obtain ⟨v5, ev5, hf⟩ := ob_s hf
  refine px_getR hx hb hts nX0_shrinkToCommon_X0 hown hK w ev5 rfl (by decide) mX0_shrinkToCommon_20 rfl dX0_shrinkToCommon_9 ?_
  refine lv_aload_n hx hb dX0_shrinkToCommon_12 rfl (lv_at hl 2 rfl) ?_
  obtain ⟨u8, eu8, hf⟩ := ob_s hf
  obtain ⟨h7, eh7, hf⟩ := ob_s hf
  refine px_callVv (As := [.ref (ι a2)]) (rest := []) ⟨hx, hb, hml, hown, hts⟩ hC w (kX4_copyFrom l D dA b0 ι N v5 a2 h3 h7 eh7) (cwV 1 hts gX0_shrinkToCommon_X4_copyFrom rfl rfl rfl (by decide +kernel) ⟨Nat.le_of_ble_eq_true rfl, Nat.le_of_ble_eq_true rfl⟩) eu8 rfl rfl hl.1 rfl (Nat.le_of_ble_eq_true rfl) dX0_shrinkToCommon_13 ⟨Nat.le_of_ble_eq_true rfl, Nat.le_of_ble_eq_true rfl⟩ (fun H locs w => ?_)
  refine lv_aload_n hx hb dX0_shrinkToCommon_16 rfl (lv_at hl 0 rfl) ?_
  obtain ⟨v9, ev9, hf⟩ := ob_s hf
  refine px_getR hx hb hts nX0_shrinkToCommon_X0 hown hK w ev9 rfl (by decide) mX0_shrinkToCommon_14 rfl dX0_shrinkToCommon_17 ?_
  refine lv_astore_n (lv' := [(3, .ref (ι v9)), (0, .ref (ι a0)), (1, .ref (ι a1)), (2, .ref (ι a2))]) hx hb dX0_shrinkToCommon_20 rfl hl (by decide) rfl (fun ls hl => ?_)
  refine lv_aload_n hx hb dX0_shrinkToCommon_21 rfl (lv_at hl 1 rfl) ?_
  obtain ⟨v10, ev10, hf⟩ := ob_s hf
  refine px_getR hx hb hts nX0_shrinkToCommon_X0 hown hK w ev10 rfl (by decide) mX0_shrinkToCommon_20 rfl dX0_shrinkToCommon_22 ?_
  refine lv_astore (lv' := [(4, .ref (ι v10)), (3, .ref (ι v9)), (0, .ref (ι a0)), (1, .ref (ι a1)), (2, .ref (ι a2))]) hx hb dX0_shrinkToCommon_25 hl (by decide) rfl (fun ls hl => ?_)
  refine lv_iconst (v := (0 : Int32)) hx hb dX0_shrinkToCommon_27 (by decide) ?_
  refine lv_istore (lv' := [(5, .int (0 : Int32)), (4, .ref (ι v10)), (3, .ref (ι v9)), (0, .ref (ι a0)), (1, .ref (ι a1)), (2, .ref (ι a2))]) hx hb dX0_shrinkToCommon_28 hl (by decide) rfl (fun ls hl => ?_)
  have hx30 : ∀ (y11 : Nat) (y12 : Nat) (y13 : Int32) (h14 : Hp) (H : Heap) (locs : List Loc) (ls : Array Slot), ((cK h14 a1 6).bind fun u17 => (fX4_copyFrom N a1 y11 h14).bind fun h16 => (cK h16 a1 6).bind fun u20 => (fX4_makeMonic N a1 h16).bind fun h19 => some h19) = some h' → lv_has ls 7 [(0, .ref (ι a0)), (1, .ref (ι a1)), (2, .ref (ι a2)), (3, .ref (ι y11)), (4, .ref (ι y12)), (5, .int y13)] → WD D dA b0 ι h14 s.heap H locs → W p l e (headSpec wsX0_shrinkToCommon rmX0_shrinkToCommon).room s m ([.ref (ι a0), .ref (ι a1), .ref (ι a2)] : List Value).toArray below meth c H locs 0 0 (MQ below (QV D dA b0 ι h') ([.ref (ι a0), .ref (ι a1), .ref (ι a2)] : List Value).toArray s 0 0 (qA b0)) (F0 m 71 ls []) := by
    intro y11 y12 y13 h14 H locs ls hf hl w
    refine lv_aload_n hx hb dX0_shrinkToCommon_71 rfl (lv_at hl 1 rfl) ?_
    refine lv_aload_n hx hb dX0_shrinkToCommon_72 rfl (lv_at hl 3 rfl) ?_
    obtain ⟨u17, eu17, hf⟩ := ob_s hf
    obtain ⟨h16, eh16, hf⟩ := ob_s hf
    refine px_callVv (As := [.ref (ι y11)]) (rest := []) ⟨hx, hb, hml, hown, hts⟩ hC w (kX4_copyFrom l D dA b0 ι N a1 y11 h14 h16 eh16) (cwV 1 hts gX0_shrinkToCommon_X4_copyFrom rfl rfl rfl (by decide +kernel) ⟨Nat.le_of_ble_eq_true rfl, Nat.le_of_ble_eq_true rfl⟩) eu17 rfl rfl hl.1 rfl (Nat.le_of_ble_eq_true rfl) dX0_shrinkToCommon_73 ⟨Nat.le_of_ble_eq_true rfl, Nat.le_of_ble_eq_true rfl⟩ (fun H locs w => ?_)
    refine lv_aload_n hx hb dX0_shrinkToCommon_76 rfl (lv_at hl 1 rfl) ?_
    obtain ⟨u20, eu20, hf⟩ := ob_s hf
    obtain ⟨h19, eh19, hf⟩ := ob_s hf
    refine px_callVv (As := []) (rest := []) ⟨hx, hb, hml, hown, hts⟩ hC w (kX4_makeMonic l D dA b0 ι N a1 h16 h19 eh19) (cwV 0 hts gX0_shrinkToCommon_X4_makeMonic rfl rfl rfl (by decide +kernel) ⟨Nat.le_of_ble_eq_true rfl, Nat.le_of_ble_eq_true rfl⟩) eu20 rfl rfl hl.1 rfl (Nat.le_of_ble_eq_true rfl) dX0_shrinkToCommon_77 ⟨Nat.le_of_ble_eq_true rfl, Nat.le_of_ble_eq_true rfl⟩ (fun H locs w => ?_)
    exact W.vret hx hb hr (qv_end hf w hC) w.locs_ok dX0_shrinkToCommon_80
  obtain ⟨κ30, eκ30⟩ : ∃ k : Nat → Nat → Int32 → Hp → Option Hp, k = (fun y11 y12 y13 h14 => (cK h14 a1 6).bind fun u17 => (fX4_copyFrom N a1 y11 h14).bind fun h16 => (cK h16 a1 6).bind fun u20 => (fX4_makeMonic N a1 h16).bind fun h19 => some h19) := ⟨_, rfl⟩
  have hlp30 : ∀ (n : Nat) (z34 : Nat) (z35 : Nat) (z36 : Int32) (h37 : Hp) (H : Heap) (locs : List Loc) (ls : Array Slot), lX0_shrinkToCommon_30 N a0 a1 a2 n z34 z35 z36 h37 κ30 = some h' → lv_has ls 7 [(0, .ref (ι a0)), (1, .ref (ι a1)), (2, .ref (ι a2)), (3, .ref (ι z34)), (4, .ref (ι z35)), (5, .int z36)] → WD D dA b0 ι h37 s.heap H locs → W p l e (headSpec wsX0_shrinkToCommon rmX0_shrinkToCommon).room s m ([.ref (ι a0), .ref (ι a1), .ref (ι a2)] : List Value).toArray below meth c H locs 0 0 (MQ below (QV D dA b0 ι h') ([.ref (ι a0), .ref (ι a1), .ref (ι a2)] : List Value).toArray s 0 0 (qA b0)) (F0 m 30 ls []) := by
    intro n30
    induction n30 with
    | zero => intro z34 z35 z36 h37 H locs ls hf; exact absurd hf (by rw [lX0_shrinkToCommon_30]; exact fun q => nomatch q)
    | succ n30 ih30 =>
      intro z34 z35 z36 h37 H locs ls hf hl w
      rw [lX0_shrinkToCommon_30] at hf
      refine lv_iload hx hb dX0_shrinkToCommon_30 (lv_at hl 5 rfl) ?_
      refine lv_bipush (v := (13 : Int32)) hx hb dX0_shrinkToCommon_32 (by decide) ?_
      refine lv_icmp_gt (tgt := 71) hx hb dX0_shrinkToCommon_34 (by decide) (fun c38 => ?_) (fun c38 => ?_)
      · have hf := if_t hf c38
        exact hx30 z34 z35 z36 h37 H locs ls (by rw [eκ30] at hf; exact hf) (lv_sub hl [0, 1, 2, 3, 4, 5] rfl) w
      · have hf := if_f hf c38
        refine lv_aload hx hb dX0_shrinkToCommon_37 (lv_at hl 4 rfl) ?_
        obtain ⟨v39, ev39, hf⟩ := ob_s hf
        refine px_getIN hx hb hts nX0_shrinkToCommon_X4 hown hK w ev39 rfl (by decide) (hC.2.1 _ nest_1) rfl dX0_shrinkToCommon_39 ?_
        refine lv_if_lt (tgt := 71) hx hb dX0_shrinkToCommon_42 (by decide) (fun c40 => ?_) (fun c40 => ?_)
        · have hf := if_t hf c40
          exact hx30 z34 z35 z36 h37 H locs ls (by rw [eκ30] at hf; exact hf) (lv_sub hl [0, 1, 2, 3, 4, 5] rfl) w
        · have hf := if_f hf c40
          refine lv_aload_n hx hb dX0_shrinkToCommon_45 rfl (lv_at hl 3 rfl) ?_
          refine lv_aload hx hb dX0_shrinkToCommon_46 (lv_at hl 4 rfl) ?_
          refine lv_aload_n hx hb dX0_shrinkToCommon_48 rfl (lv_at hl 0 rfl) ?_
          obtain ⟨v41, ev41, hf⟩ := ob_s hf
          refine px_getR hx hb hts nX0_shrinkToCommon_X0 hown hK w ev41 rfl (by decide) mX0_shrinkToCommon_23 rfl dX0_shrinkToCommon_49 ?_
          obtain ⟨u44, eu44, hf⟩ := ob_s hf
          obtain ⟨h43, eh43, hf⟩ := ob_s hf
          refine px_callVv (As := [.ref (ι z35), .ref (ι v41)]) (rest := []) ⟨hx, hb, hml, hown, hts⟩ hC w (kX4_divideBy l D dA b0 ι N z34 z35 v41 h37 h43 eh43) (cwV 2 hts gX0_shrinkToCommon_X4_divideBy rfl rfl rfl (by decide +kernel) ⟨Nat.le_of_ble_eq_true rfl, Nat.le_of_ble_eq_true rfl⟩) eu44 rfl rfl hl.1 rfl (Nat.le_of_ble_eq_true rfl) dX0_shrinkToCommon_52 ⟨Nat.le_of_ble_eq_true rfl, Nat.le_of_ble_eq_true rfl⟩ (fun H locs w => ?_)
          refine lv_aload_n hx hb dX0_shrinkToCommon_55 rfl (lv_at hl 3 rfl) ?_
          refine lv_astore (lv' := [(6, .ref (ι z34)), (0, .ref (ι a0)), (1, .ref (ι a1)), (2, .ref (ι a2)), (3, .ref (ι z34)), (4, .ref (ι z35)), (5, .int z36)]) hx hb dX0_shrinkToCommon_56 hl (by decide) rfl (fun ls hl => ?_)
          refine lv_aload hx hb dX0_shrinkToCommon_58 (lv_at hl 5 rfl) ?_
          refine lv_astore_n (lv' := [(3, .ref (ι z35)), (6, .ref (ι z34)), (0, .ref (ι a0)), (1, .ref (ι a1)), (2, .ref (ι a2)), (4, .ref (ι z35)), (5, .int z36)]) hx hb dX0_shrinkToCommon_60 rfl hl (by decide) rfl (fun ls hl => ?_)
          refine lv_aload hx hb dX0_shrinkToCommon_61 (lv_at hl 1 rfl) ?_
          refine lv_astore (lv' := [(4, .ref (ι z34)), (3, .ref (ι z35)), (6, .ref (ι z34)), (0, .ref (ι a0)), (1, .ref (ι a1)), (2, .ref (ι a2)), (5, .int z36)]) hx hb dX0_shrinkToCommon_63 hl (by decide) rfl (fun ls hl => ?_)
          obtain ⟨x45, ex45, hf⟩ := nm_s hf
          refine lv_iinc (v := x45) (lv' := [(5, .int x45), (4, .ref (ι z34)), (3, .ref (ι z35)), (6, .ref (ι z34)), (0, .ref (ι a0)), (1, .ref (ι a1)), (2, .ref (ι a2))]) hx hb dX0_shrinkToCommon_65 hl (k := 6) rfl (by rw [ex45]; rfl) (by decide) rfl (fun ls hl => ?_)
          refine lv_goto (tgt := 30) hx hb dX0_shrinkToCommon_68 (by decide) ?_
          exact ih30 z35 z34 x45 h43 H locs ls hf (lv_sub hl [4, 5, 6, 2, 1, 0] rfl) w
  exact hlp30 N v9 v10 (0 : Int32) h7 H locs ls (by rw [eκ30]; exact hf) (lv_sub hl [3, 4, 5, 2, 1, 0] rfl) w
theorem nX0_writeQuotient_X0 : ∀ w ∈ wsX00, w ∈ wsX0_writeQuotient := by decide +kernel
theorem mX0_writeQuotient_14 : Cond.fieldLink RX0 14 "NormalForms$Divider" "left" "LNormalForms$Polynomial;" ∈ wsX0_writeQuotient := by decide +kernel
theorem mX0_writeQuotient_23 : Cond.fieldLink RX0 23 "NormalForms$Divider" "quotient" "LNormalForms$Polynomial;" ∈ wsX0_writeQuotient := by decide +kernel
abbrev rmX0_writeQuotient : Room := { frames := 3, cells := 0, slots := 0, locals := 63 }
set_option maxHeartbeats 4000000 in
set_option maxRecDepth 100000 in
theorem kX0_writeQuotient (l : Launch) (D : va_G) (dA : Nat → ClassId) (b0 : Nat) (ι : Nat → Nat) (N : Nat) (a0 : Nat) (a1 : Nat) (a2 : Nat) (a3 : Nat) (h : Hp) (h' : Hp) (hf : fX0_writeQuotient N a0 a1 a2 a3 h = some h') : Met l yX0_writeQuotient wsX0_writeQuotient rmX0_writeQuotient (PC D dA b0 ι [.ref (ι a0), .ref (ι a1), .ref (ι a2), .ref (ι a3)] h) (QV D dA b0 ι h') 0 0 (qA b0) := by
  unfold fX0_writeQuotient at hf
  refine Met.ofW (cc := cX0_writeQuotient) (maxL := 4) (ret := none) (by decide +kernel) rfl ?_
  intro p e s m args below meth c s₁ B hml hv
  obtain ⟨rfl, w0⟩ := hv
  have hx := B.exec
  have hb := B.bytes
  have hr := B.returns
  have hts := atoms_spec (ws := wsX0_writeQuotient) B.pre
  have hown : s.vm.findClass RX0 = some m.cls := findClass_of_methodNamed B.named
  have hlocks := B.notSynchronized
  have hC := w0.c
  have hK := hC.1
  have w := WD.start w0
  clear w0
  have hl := lv_entry ([.ref (ι a0), .ref (ι a1), .ref (ι a2), .ref (ι a3)]) (n := 4) (Nat.le_of_ble_eq_true rfl)
  rw [lg_entry_eq]
  generalize (lg_sl ([.ref (ι a0), .ref (ι a1), .ref (ι a2), .ref (ι a3)]) ++ List.replicate (4 - (lg_sl ([.ref (ι a0), .ref (ι a1), .ref (ι a2), .ref (ι a3)])).length) Slot.unset).toArray = ls at hl ⊢
  have hl : lv_has ls 4 [(0, .ref (ι a0)), (1, .ref (ι a1)), (2, .ref (ι a2)), (3, .ref (ι a3))] := hl
  obtain ⟨H, hH⟩ : ∃ H : Heap, H = s.heap := ⟨_, rfl⟩
  obtain ⟨locs, hlo⟩ : ∃ locs : List Loc, locs = [] := ⟨_, rfl⟩
  rw [← hlo]
  have w : WD D dA b0 ι h s.heap H locs := by rw [hH, hlo]; exact w
  refine px_start hH ?_
  refine lv_aload_n hx hb dX0_writeQuotient_0 rfl (lv_at hl 0 rfl) ?_
  obtain ⟨v1, ev1, hf⟩ := ob_s hf
  refine px_getR hx hb hts nX0_writeQuotient_X0 hown hK w ev1 rfl (by decide) mX0_writeQuotient_14 rfl dX0_writeQuotient_1 ?_
  refine lv_aload_n hx hb dX0_writeQuotient_4 rfl (lv_at hl 2 rfl) ?_
  obtain ⟨u4, eu4, hf⟩ := ob_s hf
  obtain ⟨h3, eh3, hf⟩ := ob_s hf
  refine px_callVv (As := [.ref (ι a2)]) (rest := []) ⟨hx, hb, hml, hown, hts⟩ hC w (kX4_copyFrom l D dA b0 ι N v1 a2 h h3 eh3) (cwV 1 hts gX0_writeQuotient_X4_copyFrom rfl rfl rfl (by decide +kernel) ⟨Nat.le_of_ble_eq_true rfl, Nat.le_of_ble_eq_true rfl⟩) eu4 rfl rfl hl.1 rfl (Nat.le_of_ble_eq_true rfl) dX0_writeQuotient_5 ⟨Nat.le_of_ble_eq_true rfl, Nat.le_of_ble_eq_true rfl⟩ (fun H locs w => ?_)
  refine lv_aload_n hx hb dX0_writeQuotient_8 rfl (lv_at hl 0 rfl) ?_
  obtain ⟨v5, ev5, hf⟩ := ob_s hf
  refine px_getR hx hb hts nX0_writeQuotient_X0 hown hK w ev5 rfl (by decide) mX0_writeQuotient_14 rfl dX0_writeQuotient_9 ?_
  refine lv_aload_n hx hb dX0_writeQuotient_12 rfl (lv_at hl 3 rfl) ?_
  refine lv_aload_n hx hb dX0_writeQuotient_13 rfl (lv_at hl 0 rfl) ?_
  obtain ⟨v6, ev6, hf⟩ := ob_s hf
  refine px_getR hx hb hts nX0_writeQuotient_X0 hown hK w ev6 rfl (by decide) mX0_writeQuotient_23 rfl dX0_writeQuotient_14 ?_
  obtain ⟨u9, eu9, hf⟩ := ob_s hf
  obtain ⟨h8, eh8, hf⟩ := ob_s hf
  refine px_callVv (As := [.ref (ι a3), .ref (ι v6)]) (rest := []) ⟨hx, hb, hml, hown, hts⟩ hC w (kX4_divideBy l D dA b0 ι N v5 a3 v6 h3 h8 eh8) (cwV 2 hts gX0_writeQuotient_X4_divideBy rfl rfl rfl (by decide +kernel) ⟨Nat.le_of_ble_eq_true rfl, Nat.le_of_ble_eq_true rfl⟩) eu9 rfl rfl hl.1 rfl (Nat.le_of_ble_eq_true rfl) dX0_writeQuotient_17 ⟨Nat.le_of_ble_eq_true rfl, Nat.le_of_ble_eq_true rfl⟩ (fun H locs w => ?_)
  refine lv_aload_n hx hb dX0_writeQuotient_20 rfl (lv_at hl 1 rfl) ?_
  refine lv_aload_n hx hb dX0_writeQuotient_21 rfl (lv_at hl 0 rfl) ?_
  obtain ⟨v10, ev10, hf⟩ := ob_s hf
  refine px_getR hx hb hts nX0_writeQuotient_X0 hown hK w ev10 rfl (by decide) mX0_writeQuotient_23 rfl dX0_writeQuotient_22 ?_
  obtain ⟨u13, eu13, hf⟩ := ob_s hf
  obtain ⟨h12, eh12, hf⟩ := ob_s hf
  refine px_callVv (As := [.ref (ι v10)]) (rest := []) ⟨hx, hb, hml, hown, hts⟩ hC w (kX4_copyFrom l D dA b0 ι N a1 v10 h8 h12 eh12) (cwV 1 hts gX0_writeQuotient_X4_copyFrom rfl rfl rfl (by decide +kernel) ⟨Nat.le_of_ble_eq_true rfl, Nat.le_of_ble_eq_true rfl⟩) eu13 rfl rfl hl.1 rfl (Nat.le_of_ble_eq_true rfl) dX0_writeQuotient_25 ⟨Nat.le_of_ble_eq_true rfl, Nat.le_of_ble_eq_true rfl⟩ (fun H locs w => ?_)
  exact W.vret hx hb hr (qv_end hf w hC) w.locs_ok dX0_writeQuotient_28
theorem nX0_howOften_X0 : ∀ w ∈ wsX00, w ∈ wsX0_howOften := by decide +kernel
theorem mX0_howOften_14 : Cond.fieldLink RX0 14 "NormalForms$Divider" "left" "LNormalForms$Polynomial;" ∈ wsX0_howOften := by decide +kernel
theorem mX0_howOften_23 : Cond.fieldLink RX0 23 "NormalForms$Divider" "quotient" "LNormalForms$Polynomial;" ∈ wsX0_howOften := by decide +kernel
theorem nX0_howOften_X4 : ∀ w ∈ wsX40, w ∈ wsX0_howOften := by decide +kernel
abbrev rmX0_howOften : Room := { frames := 3, cells := 0, slots := 0, locals := 63 }
set_option maxHeartbeats 4000000 in
set_option maxRecDepth 100000 in
theorem kX0_howOften (l : Launch) (D : va_G) (dA : Nat → ClassId) (b0 : Nat) (ι : Nat → Nat) (N : Nat) (a0 : Nat) (a1 : Nat) (a2 : Nat) (h : Hp) (r : Int32) (h' : Hp) (hf : fX0_howOften N a0 a1 a2 h = some (r, h')) : Met l yX0_howOften wsX0_howOften rmX0_howOften (PC D dA b0 ι [.ref (ι a0), .ref (ι a1), .ref (ι a2)] h) (QI D dA b0 ι r h') 0 0 (qA b0) := by
  unfold fX0_howOften at hf
  refine Met.ofW (cc := cX0_howOften) (maxL := 4) (ret := (some .int)) (by decide +kernel) rfl ?_
  intro p e s m args below meth c s₁ B hml hv
  obtain ⟨rfl, w0⟩ := hv
  have hx := B.exec
  have hb := B.bytes
  have hr := B.returns
  have hts := atoms_spec (ws := wsX0_howOften) B.pre
  have hown : s.vm.findClass RX0 = some m.cls := findClass_of_methodNamed B.named
  have hlocks := B.notSynchronized
  have hC := w0.c
  have hK := hC.1
  have w := WD.start w0
  clear w0
  have hl := lv_entry ([.ref (ι a0), .ref (ι a1), .ref (ι a2)]) (n := 4) (Nat.le_of_ble_eq_true rfl)
  rw [lg_entry_eq]
  generalize (lg_sl ([.ref (ι a0), .ref (ι a1), .ref (ι a2)]) ++ List.replicate (4 - (lg_sl ([.ref (ι a0), .ref (ι a1), .ref (ι a2)])).length) Slot.unset).toArray = ls at hl ⊢
  have hl : lv_has ls 4 [(0, .ref (ι a0)), (1, .ref (ι a1)), (2, .ref (ι a2))] := hl
  obtain ⟨H, hH⟩ : ∃ H : Heap, H = s.heap := ⟨_, rfl⟩
  obtain ⟨locs, hlo⟩ : ∃ locs : List Loc, locs = [] := ⟨_, rfl⟩
  rw [← hlo]
  have w : WD D dA b0 ι h s.heap H locs := by rw [hH, hlo]; exact w
  refine px_start hH ?_
  refine lv_aload_n hx hb dX0_howOften_0 rfl (lv_at hl 0 rfl) ?_
  obtain ⟨v1, ev1, hf⟩ := ob_s hf
  refine px_getR hx hb hts nX0_howOften_X0 hown hK w ev1 rfl (by decide) mX0_howOften_14 rfl dX0_howOften_1 ?_
  refine lv_aload_n hx hb dX0_howOften_4 rfl (lv_at hl 2 rfl) ?_
  obtain ⟨u4, eu4, hf⟩ := ob_s hf
  obtain ⟨h3, eh3, hf⟩ := ob_s hf
  refine px_callVv (As := [.ref (ι a2)]) (rest := []) ⟨hx, hb, hml, hown, hts⟩ hC w (kX4_copyFrom l D dA b0 ι N v1 a2 h h3 eh3) (cwV 1 hts gX0_howOften_X4_copyFrom rfl rfl rfl (by decide +kernel) ⟨Nat.le_of_ble_eq_true rfl, Nat.le_of_ble_eq_true rfl⟩) eu4 rfl rfl hl.1 rfl (Nat.le_of_ble_eq_true rfl) dX0_howOften_5 ⟨Nat.le_of_ble_eq_true rfl, Nat.le_of_ble_eq_true rfl⟩ (fun H locs w => ?_)
  refine lv_iconst (v := (0 : Int32)) hx hb dX0_howOften_8 (by decide) ?_
  refine lv_istore_n (lv' := [(3, .int (0 : Int32)), (0, .ref (ι a0)), (1, .ref (ι a1)), (2, .ref (ι a2))]) hx hb dX0_howOften_9 rfl hl (by decide) rfl (fun ls hl => ?_)
  have hx10 : ∀ (y5 : Int32) (h6 : Hp) (H : Heap) (locs : List Loc) (ls : Array Slot), (some ((13 : Int32), h6)) = some (r, h') → lv_has ls 4 [(0, .ref (ι a0)), (1, .ref (ι a1)), (2, .ref (ι a2)), (3, .int y5)] → WD D dA b0 ι h6 s.heap H locs → W p l e (headSpec wsX0_howOften rmX0_howOften).room s m ([.ref (ι a0), .ref (ι a1), .ref (ι a2)] : List Value).toArray below meth c H locs 0 0 (MQ below (QI D dA b0 ι r h') ([.ref (ι a0), .ref (ι a1), .ref (ι a2)] : List Value).toArray s 0 0 (qA b0)) (F0 m 57 ls []) := by
    intro y5 h6 H locs ls hf hl w
    refine lv_bipush (v := (13 : Int32)) hx hb dX0_howOften_57 (by decide) ?_
    exact W.iret hx hb hr (qi_end hf w hC) w.locs_ok dX0_howOften_59
  obtain ⟨κ10, eκ10⟩ : ∃ k : Int32 → Hp → Option (Int32 × Hp), k = (fun y5 h6 => some ((13 : Int32), h6)) := ⟨_, rfl⟩
  have hlp10 : ∀ (n : Nat) (z25 : Int32) (h26 : Hp) (H : Heap) (locs : List Loc) (ls : Array Slot), lX0_howOften_10 N a0 a1 a2 n z25 h26 κ10 = some (r, h') → lv_has ls 4 [(0, .ref (ι a0)), (1, .ref (ι a1)), (2, .ref (ι a2)), (3, .int z25)] → WD D dA b0 ι h26 s.heap H locs → W p l e (headSpec wsX0_howOften rmX0_howOften).room s m ([.ref (ι a0), .ref (ι a1), .ref (ι a2)] : List Value).toArray below meth c H locs 0 0 (MQ below (QI D dA b0 ι r h') ([.ref (ι a0), .ref (ι a1), .ref (ι a2)] : List Value).toArray s 0 0 (qA b0)) (F0 m 10 ls []) := by
    intro n10
    induction n10 with
    | zero => intro z25 h26 H locs ls hf; exact absurd hf (by rw [lX0_howOften_10]; exact fun q => nomatch q)
    | succ n10 ih10 =>
      intro z25 h26 H locs ls hf hl w
      rw [lX0_howOften_10] at hf
      refine lv_iload_n hx hb dX0_howOften_10 rfl (lv_at hl 3 rfl) ?_
      refine lv_bipush (v := (13 : Int32)) hx hb dX0_howOften_11 (by decide) ?_
      refine lv_icmp_ge (tgt := 57) hx hb dX0_howOften_13 (by decide) (fun c27 => ?_) (fun c27 => ?_)
      · have hf := if_t hf c27
        exact hx10 z25 h26 H locs ls (by rw [eκ10] at hf; exact hf) (lv_sub hl [0, 1, 2, 3] rfl) w
      · have hf := if_f hf c27
        refine lv_aload_n hx hb dX0_howOften_16 rfl (lv_at hl 0 rfl) ?_
        obtain ⟨v28, ev28, hf⟩ := ob_s hf
        refine px_getR hx hb hts nX0_howOften_X0 hown hK w ev28 rfl (by decide) mX0_howOften_14 rfl dX0_howOften_17 ?_
        refine lv_aload_n hx hb dX0_howOften_20 rfl (lv_at hl 1 rfl) ?_
        refine lv_aload_n hx hb dX0_howOften_21 rfl (lv_at hl 0 rfl) ?_
        obtain ⟨v29, ev29, hf⟩ := ob_s hf
        refine px_getR hx hb hts nX0_howOften_X0 hown hK w ev29 rfl (by decide) mX0_howOften_23 rfl dX0_howOften_22 ?_
        obtain ⟨u32, eu32, hf⟩ := ob_s hf
        obtain ⟨h31, eh31, hf⟩ := ob_s hf
        refine px_callVv (As := [.ref (ι a1), .ref (ι v29)]) (rest := []) ⟨hx, hb, hml, hown, hts⟩ hC w (kX4_divideBy l D dA b0 ι N v28 a1 v29 h26 h31 eh31) (cwV 2 hts gX0_howOften_X4_divideBy rfl rfl rfl (by decide +kernel) ⟨Nat.le_of_ble_eq_true rfl, Nat.le_of_ble_eq_true rfl⟩) eu32 rfl rfl hl.1 rfl (Nat.le_of_ble_eq_true rfl) dX0_howOften_25 ⟨Nat.le_of_ble_eq_true rfl, Nat.le_of_ble_eq_true rfl⟩ (fun H locs w => ?_)
        refine lv_aload_n hx hb dX0_howOften_28 rfl (lv_at hl 0 rfl) ?_
        obtain ⟨v33, ev33, hf⟩ := ob_s hf
        refine px_getR hx hb hts nX0_howOften_X0 hown hK w ev33 rfl (by decide) mX0_howOften_14 rfl dX0_howOften_29 ?_
        obtain ⟨v34, ev34, hf⟩ := ob_s hf
        refine px_getIN hx hb hts nX0_howOften_X4 hown hK w ev34 rfl (by decide) (hC.2.1 _ nest_1) rfl dX0_howOften_32 ?_
        refine lv_if_lt (tgt := 40) hx hb dX0_howOften_35 (by decide) (fun c35 => ?_) (fun c35 => ?_)
        · have hf := if_t hf c35
          refine lv_aload_n hx hb dX0_howOften_40 rfl (lv_at hl 0 rfl) ?_
          obtain ⟨v36, ev36, hf⟩ := ob_s hf
          refine px_getR hx hb hts nX0_howOften_X0 hown hK w ev36 rfl (by decide) mX0_howOften_14 rfl dX0_howOften_41 ?_
          refine lv_aload_n hx hb dX0_howOften_44 rfl (lv_at hl 0 rfl) ?_
          obtain ⟨v37, ev37, hf⟩ := ob_s hf
          refine px_getR hx hb hts nX0_howOften_X0 hown hK w ev37 rfl (by decide) mX0_howOften_23 rfl dX0_howOften_45 ?_
          obtain ⟨u40, eu40, hf⟩ := ob_s hf
          obtain ⟨h39, eh39, hf⟩ := ob_s hf
          refine px_callVv (As := [.ref (ι v37)]) (rest := []) ⟨hx, hb, hml, hown, hts⟩ hC w (kX4_copyFrom l D dA b0 ι N v36 v37 h31 h39 eh39) (cwV 1 hts gX0_howOften_X4_copyFrom rfl rfl rfl (by decide +kernel) ⟨Nat.le_of_ble_eq_true rfl, Nat.le_of_ble_eq_true rfl⟩) eu40 rfl rfl hl.1 rfl (Nat.le_of_ble_eq_true rfl) dX0_howOften_48 ⟨Nat.le_of_ble_eq_true rfl, Nat.le_of_ble_eq_true rfl⟩ (fun H locs w => ?_)
          obtain ⟨x41, ex41, hf⟩ := nm_s hf
          refine lv_iinc (v := x41) (lv' := [(3, .int x41), (0, .ref (ι a0)), (1, .ref (ι a1)), (2, .ref (ι a2))]) hx hb dX0_howOften_51 hl (k := 3) rfl (by rw [ex41]; rfl) (by decide) rfl (fun ls hl => ?_)
          refine lv_goto (tgt := 10) hx hb dX0_howOften_54 (by decide) ?_
          exact ih10 x41 h39 H locs ls hf (lv_sub hl [1, 2, 3, 0] rfl) w
        · have hf := if_f hf c35
          refine lv_iload_n hx hb dX0_howOften_38 rfl (lv_at hl 3 rfl) ?_
          exact W.iret hx hb hr (qi_end hf w hC) w.locs_ok dX0_howOften_39
  exact hlp10 N (0 : Int32) h3 H locs ls (by rw [eκ10]; exact hf) (lv_sub hl [1, 2, 3, 0] rfl) w
theorem nX6_clear_X6 : ∀ w ∈ wsX60, w ∈ wsX6_clear := by decide +kernel
theorem mX6_clear_11 : Cond.fieldLink RX6 11 "NormalForms$Row" "cells" "[LNormalForms$Polynomial;" ∈ wsX6_clear := by decide +kernel
abbrev rmX6_clear : Room := { frames := 2, cells := 0, slots := 0, locals := 33 }
set_option maxHeartbeats 4000000 in
set_option maxRecDepth 100000 in
theorem kX6_clear (l : Launch) (D : va_G) (dA : Nat → ClassId) (b0 : Nat) (ι : Nat → Nat) (N : Nat) (a0 : Nat) (h : Hp) (h' : Hp) (hf : fX6_clear N a0 h = some h') : Met l yX6_clear wsX6_clear rmX6_clear (PC D dA b0 ι [.ref (ι a0)] h) (QV D dA b0 ι h') 0 0 (qA b0) := by
  unfold fX6_clear at hf
  refine Met.ofW (cc := cX6_clear) (maxL := 2) (ret := none) (by decide +kernel) rfl ?_
  intro p e s m args below meth c s₁ B hml hv
  obtain ⟨rfl, w0⟩ := hv
  have hx := B.exec
  have hb := B.bytes
  have hr := B.returns
  have hts := atoms_spec (ws := wsX6_clear) B.pre
  have hown : s.vm.findClass RX6 = some m.cls := findClass_of_methodNamed B.named
  have hlocks := B.notSynchronized
  have hC := w0.c
  have hK := hC.1
  have w := WD.start w0
  clear w0
  have hl := lv_entry ([.ref (ι a0)]) (n := 2) (Nat.le_of_ble_eq_true rfl)
  rw [lg_entry_eq]
  generalize (lg_sl ([.ref (ι a0)]) ++ List.replicate (2 - (lg_sl ([.ref (ι a0)])).length) Slot.unset).toArray = ls at hl ⊢
  have hl : lv_has ls 2 [(0, .ref (ι a0))] := hl
  obtain ⟨H, hH⟩ : ∃ H : Heap, H = s.heap := ⟨_, rfl⟩
  obtain ⟨locs, hlo⟩ : ∃ locs : List Loc, locs = [] := ⟨_, rfl⟩
  rw [← hlo]
  have w : WD D dA b0 ι h s.heap H locs := by rw [hH, hlo]; exact w
  refine px_start hH ?_
  refine lv_iconst (v := (0 : Int32)) hx hb dX6_clear_0 (by decide) ?_
  refine lv_istore_n (lv' := [(1, .int (0 : Int32)), (0, .ref (ι a0))]) hx hb dX6_clear_1 rfl hl (by decide) rfl (fun ls hl => ?_)
  have hx2 : ∀ (y1 : Int32) (h2 : Hp) (H : Heap) (locs : List Loc) (ls : Array Slot), (some h2) = some h' → lv_has ls 2 [(0, .ref (ι a0)), (1, .int y1)] → WD D dA b0 ι h2 s.heap H locs → W p l e (headSpec wsX6_clear rmX6_clear).room s m ([.ref (ι a0)] : List Value).toArray below meth c H locs 0 0 (MQ below (QV D dA b0 ι h') ([.ref (ι a0)] : List Value).toArray s 0 0 (qA b0)) (F0 m 22 ls []) := by
    intro y1 h2 H locs ls hf hl w
    exact W.vret hx hb hr (qv_end hf w hC) w.locs_ok dX6_clear_22
  obtain ⟨κ2, eκ2⟩ : ∃ k : Int32 → Hp → Option Hp, k = (fun y1 h2 => some h2) := ⟨_, rfl⟩
  have hlp2 : ∀ (n : Nat) (z13 : Int32) (h14 : Hp) (H : Heap) (locs : List Loc) (ls : Array Slot), lX6_clear_2 N a0 n z13 h14 κ2 = some h' → lv_has ls 2 [(0, .ref (ι a0)), (1, .int z13)] → WD D dA b0 ι h14 s.heap H locs → W p l e (headSpec wsX6_clear rmX6_clear).room s m ([.ref (ι a0)] : List Value).toArray below meth c H locs 0 0 (MQ below (QV D dA b0 ι h') ([.ref (ι a0)] : List Value).toArray s 0 0 (qA b0)) (F0 m 2 ls []) := by
    intro n2
    induction n2 with
    | zero => intro z13 h14 H locs ls hf; exact absurd hf (by rw [lX6_clear_2]; exact fun q => nomatch q)
    | succ n2 ih2 =>
      intro z13 h14 H locs ls hf hl w
      rw [lX6_clear_2] at hf
      refine lv_iload_n hx hb dX6_clear_2 rfl (lv_at hl 1 rfl) ?_
      refine lv_iconst (v := (4 : Int32)) hx hb dX6_clear_3 (by decide) ?_
      refine lv_icmp_ge (tgt := 22) hx hb dX6_clear_4 (by decide) (fun c15 => ?_) (fun c15 => ?_)
      · have hf := if_t hf c15
        exact hx2 z13 h14 H locs ls (by rw [eκ2] at hf; exact hf) (lv_sub hl [0, 1] rfl) w
      · have hf := if_f hf c15
        refine lv_aload_n hx hb dX6_clear_7 rfl (lv_at hl 0 rfl) ?_
        obtain ⟨v16, ev16, hf⟩ := ob_s hf
        refine px_getR hx hb hts nX6_clear_X6 hown hK w ev16 rfl (by decide) mX6_clear_11 rfl dX6_clear_8 ?_
        refine lv_iload_n hx hb dX6_clear_11 rfl (lv_at hl 1 rfl) ?_
        obtain ⟨v17, ev17, hf⟩ := ob_s hf
        refine px_rald hx hb hK w ev17 rfl dX6_clear_12 ?_
        obtain ⟨u20, eu20, hf⟩ := ob_s hf
        obtain ⟨h19, eh19, hf⟩ := ob_s hf
        refine px_callVv (As := []) (rest := []) ⟨hx, hb, hml, hown, hts⟩ hC w (kX4_clear l D dA b0 ι N v17 h14 h19 eh19) (cwV 0 hts gX6_clear_X4_clear rfl rfl rfl (by decide +kernel) ⟨Nat.le_of_ble_eq_true rfl, Nat.le_of_ble_eq_true rfl⟩) eu20 rfl rfl hl.1 rfl (Nat.le_of_ble_eq_true rfl) dX6_clear_13 ⟨Nat.le_of_ble_eq_true rfl, Nat.le_of_ble_eq_true rfl⟩ (fun H locs w => ?_)
        obtain ⟨x21, ex21, hf⟩ := nm_s hf
        refine lv_iinc (v := x21) (lv' := [(1, .int x21), (0, .ref (ι a0))]) hx hb dX6_clear_16 hl (k := 1) rfl (by rw [ex21]; rfl) (by decide) rfl (fun ls hl => ?_)
        refine lv_goto (tgt := 2) hx hb dX6_clear_19 (by decide) ?_
        exact ih2 x21 h19 H locs ls hf (lv_sub hl [1, 0] rfl) w
  exact hlp2 N (0 : Int32) h H locs ls (by rw [eκ2]; exact hf) (lv_sub hl [1, 0] rfl) w
theorem nX6_copyFrom_X6 : ∀ w ∈ wsX60, w ∈ wsX6_copyFrom := by decide +kernel
theorem mX6_copyFrom_11 : Cond.fieldLink RX6 11 "NormalForms$Row" "cells" "[LNormalForms$Polynomial;" ∈ wsX6_copyFrom := by decide +kernel
abbrev rmX6_copyFrom : Room := { frames := 3, cells := 0, slots := 0, locals := 56 }
set_option maxHeartbeats 4000000 in
set_option maxRecDepth 100000 in
theorem kX6_copyFrom (l : Launch) (D : va_G) (dA : Nat → ClassId) (b0 : Nat) (ι : Nat → Nat) (N : Nat) (a0 : Nat) (a1 : Nat) (h : Hp) (h' : Hp) (hf : fX6_copyFrom N a0 a1 h = some h') : Met l yX6_copyFrom wsX6_copyFrom rmX6_copyFrom (PC D dA b0 ι [.ref (ι a0), .ref (ι a1)] h) (QV D dA b0 ι h') 0 0 (qA b0) := by
  unfold fX6_copyFrom at hf
  refine Met.ofW (cc := cX6_copyFrom) (maxL := 3) (ret := none) (by decide +kernel) rfl ?_
  intro p e s m args below meth c s₁ B hml hv
  obtain ⟨rfl, w0⟩ := hv
  have hx := B.exec
  have hb := B.bytes
  have hr := B.returns
  have hts := atoms_spec (ws := wsX6_copyFrom) B.pre
  have hown : s.vm.findClass RX6 = some m.cls := findClass_of_methodNamed B.named
  have hlocks := B.notSynchronized
  have hC := w0.c
  have hK := hC.1
  have w := WD.start w0
  clear w0
  have hl := lv_entry ([.ref (ι a0), .ref (ι a1)]) (n := 3) (Nat.le_of_ble_eq_true rfl)
  rw [lg_entry_eq]
  generalize (lg_sl ([.ref (ι a0), .ref (ι a1)]) ++ List.replicate (3 - (lg_sl ([.ref (ι a0), .ref (ι a1)])).length) Slot.unset).toArray = ls at hl ⊢
  have hl : lv_has ls 3 [(0, .ref (ι a0)), (1, .ref (ι a1))] := hl
  obtain ⟨H, hH⟩ : ∃ H : Heap, H = s.heap := ⟨_, rfl⟩
  obtain ⟨locs, hlo⟩ : ∃ locs : List Loc, locs = [] := ⟨_, rfl⟩
  rw [← hlo]
  have w : WD D dA b0 ι h s.heap H locs := by rw [hH, hlo]; exact w
  refine px_start hH ?_
  refine lv_iconst (v := (0 : Int32)) hx hb dX6_copyFrom_0 (by decide) ?_
  refine lv_istore_n (lv' := [(2, .int (0 : Int32)), (0, .ref (ι a0)), (1, .ref (ι a1))]) hx hb dX6_copyFrom_1 rfl hl (by decide) rfl (fun ls hl => ?_)
  have hx2 : ∀ (y1 : Int32) (h2 : Hp) (H : Heap) (locs : List Loc) (ls : Array Slot), (some h2) = some h' → lv_has ls 3 [(0, .ref (ι a0)), (1, .ref (ι a1)), (2, .int y1)] → WD D dA b0 ι h2 s.heap H locs → W p l e (headSpec wsX6_copyFrom rmX6_copyFrom).room s m ([.ref (ι a0), .ref (ι a1)] : List Value).toArray below meth c H locs 0 0 (MQ below (QV D dA b0 ι h') ([.ref (ι a0), .ref (ι a1)] : List Value).toArray s 0 0 (qA b0)) (F0 m 28 ls []) := by
    intro y1 h2 H locs ls hf hl w
    exact W.vret hx hb hr (qv_end hf w hC) w.locs_ok dX6_copyFrom_28
  obtain ⟨κ2, eκ2⟩ : ∃ k : Int32 → Hp → Option Hp, k = (fun y1 h2 => some h2) := ⟨_, rfl⟩
  have hlp2 : ∀ (n : Nat) (z15 : Int32) (h16 : Hp) (H : Heap) (locs : List Loc) (ls : Array Slot), lX6_copyFrom_2 N a0 a1 n z15 h16 κ2 = some h' → lv_has ls 3 [(0, .ref (ι a0)), (1, .ref (ι a1)), (2, .int z15)] → WD D dA b0 ι h16 s.heap H locs → W p l e (headSpec wsX6_copyFrom rmX6_copyFrom).room s m ([.ref (ι a0), .ref (ι a1)] : List Value).toArray below meth c H locs 0 0 (MQ below (QV D dA b0 ι h') ([.ref (ι a0), .ref (ι a1)] : List Value).toArray s 0 0 (qA b0)) (F0 m 2 ls []) := by
    intro n2
    induction n2 with
    | zero => intro z15 h16 H locs ls hf; exact absurd hf (by rw [lX6_copyFrom_2]; exact fun q => nomatch q)
    | succ n2 ih2 =>
      intro z15 h16 H locs ls hf hl w
      rw [lX6_copyFrom_2] at hf
      refine lv_iload_n hx hb dX6_copyFrom_2 rfl (lv_at hl 2 rfl) ?_
      refine lv_iconst (v := (4 : Int32)) hx hb dX6_copyFrom_3 (by decide) ?_
      refine lv_icmp_ge (tgt := 28) hx hb dX6_copyFrom_4 (by decide) (fun c17 => ?_) (fun c17 => ?_)
      · have hf := if_t hf c17
        exact hx2 z15 h16 H locs ls (by rw [eκ2] at hf; exact hf) (lv_sub hl [0, 1, 2] rfl) w
      · have hf := if_f hf c17
        refine lv_aload_n hx hb dX6_copyFrom_7 rfl (lv_at hl 0 rfl) ?_
        obtain ⟨v18, ev18, hf⟩ := ob_s hf
        refine px_getR hx hb hts nX6_copyFrom_X6 hown hK w ev18 rfl (by decide) mX6_copyFrom_11 rfl dX6_copyFrom_8 ?_
        refine lv_iload_n hx hb dX6_copyFrom_11 rfl (lv_at hl 2 rfl) ?_
        obtain ⟨v19, ev19, hf⟩ := ob_s hf
        refine px_rald hx hb hK w ev19 rfl dX6_copyFrom_12 ?_
        refine lv_aload_n hx hb dX6_copyFrom_13 rfl (lv_at hl 1 rfl) ?_
        obtain ⟨v20, ev20, hf⟩ := ob_s hf
        refine px_getR hx hb hts nX6_copyFrom_X6 hown hK w ev20 rfl (by decide) mX6_copyFrom_11 rfl dX6_copyFrom_14 ?_
        refine lv_iload_n hx hb dX6_copyFrom_17 rfl (lv_at hl 2 rfl) ?_
        obtain ⟨v21, ev21, hf⟩ := ob_s hf
        refine px_rald hx hb hK w ev21 rfl dX6_copyFrom_18 ?_
        obtain ⟨u24, eu24, hf⟩ := ob_s hf
        obtain ⟨h23, eh23, hf⟩ := ob_s hf
        refine px_callVv (As := [.ref (ι v21)]) (rest := []) ⟨hx, hb, hml, hown, hts⟩ hC w (kX4_copyFrom l D dA b0 ι N v19 v21 h16 h23 eh23) (cwV 1 hts gX6_copyFrom_X4_copyFrom rfl rfl rfl (by decide +kernel) ⟨Nat.le_of_ble_eq_true rfl, Nat.le_of_ble_eq_true rfl⟩) eu24 rfl rfl hl.1 rfl (Nat.le_of_ble_eq_true rfl) dX6_copyFrom_19 ⟨Nat.le_of_ble_eq_true rfl, Nat.le_of_ble_eq_true rfl⟩ (fun H locs w => ?_)
        obtain ⟨x25, ex25, hf⟩ := nm_s hf
        refine lv_iinc (v := x25) (lv' := [(2, .int x25), (0, .ref (ι a0)), (1, .ref (ι a1))]) hx hb dX6_copyFrom_22 hl (k := 2) rfl (by rw [ex25]; rfl) (by decide) rfl (fun ls hl => ?_)
        refine lv_goto (tgt := 2) hx hb dX6_copyFrom_25 (by decide) ?_
        exact ih2 x25 h23 H locs ls hf (lv_sub hl [1, 2, 0] rfl) w
  exact hlp2 N (0 : Int32) h H locs ls (by rw [eκ2]; exact hf) (lv_sub hl [1, 2, 0] rfl) w
theorem nX6_lowerBy_X6 : ∀ w ∈ wsX60, w ∈ wsX6_lowerBy := by decide +kernel
theorem mX6_lowerBy_11 : Cond.fieldLink RX6 11 "NormalForms$Row" "cells" "[LNormalForms$Polynomial;" ∈ wsX6_lowerBy := by decide +kernel
abbrev rmX6_lowerBy : Room := { frames := 3, cells := 0, slots := 0, locals := 63 }
set_option maxHeartbeats 4000000 in
set_option maxRecDepth 100000 in
theorem kX6_lowerBy (l : Launch) (D : va_G) (dA : Nat → ClassId) (b0 : Nat) (ι : Nat → Nat) (N : Nat) (a0 : Nat) (a1 : Nat) (a2 : Int32) (a3 : Nat) (h : Hp) (h' : Hp) (hf : fX6_lowerBy N a0 a1 a2 a3 h = some h') : Met l yX6_lowerBy wsX6_lowerBy rmX6_lowerBy (PC D dA b0 ι [.ref (ι a0), .ref (ι a1), .int a2, .ref (ι a3)] h) (QV D dA b0 ι h') 0 0 (qA b0) := by
  unfold fX6_lowerBy at hf
  refine Met.ofW (cc := cX6_lowerBy) (maxL := 5) (ret := none) (by decide +kernel) rfl ?_
  intro p e s m args below meth c s₁ B hml hv
  obtain ⟨rfl, w0⟩ := hv
  have hx := B.exec
  have hb := B.bytes
  have hr := B.returns
  have hts := atoms_spec (ws := wsX6_lowerBy) B.pre
  have hown : s.vm.findClass RX6 = some m.cls := findClass_of_methodNamed B.named
  have hlocks := B.notSynchronized
  have hC := w0.c
  have hK := hC.1
  have w := WD.start w0
  clear w0
  have hl := lv_entry ([.ref (ι a0), .ref (ι a1), .int a2, .ref (ι a3)]) (n := 5) (Nat.le_of_ble_eq_true rfl)
  rw [lg_entry_eq]
  generalize (lg_sl ([.ref (ι a0), .ref (ι a1), .int a2, .ref (ι a3)]) ++ List.replicate (5 - (lg_sl ([.ref (ι a0), .ref (ι a1), .int a2, .ref (ι a3)])).length) Slot.unset).toArray = ls at hl ⊢
  have hl : lv_has ls 5 [(0, .ref (ι a0)), (1, .ref (ι a1)), (2, .int a2), (3, .ref (ι a3))] := hl
  obtain ⟨H, hH⟩ : ∃ H : Heap, H = s.heap := ⟨_, rfl⟩
  obtain ⟨locs, hlo⟩ : ∃ locs : List Loc, locs = [] := ⟨_, rfl⟩
  rw [← hlo]
  have w : WD D dA b0 ι h s.heap H locs := by rw [hH, hlo]; exact w
  refine px_start hH ?_
  refine lv_aload_n hx hb dX6_lowerBy_0 rfl (lv_at hl 0 rfl) ?_
  obtain ⟨v1, ev1, hf⟩ := ob_s hf
  refine px_getR hx hb hts nX6_lowerBy_X6 hown hK w ev1 rfl (by decide) mX6_lowerBy_11 rfl dX6_lowerBy_1 ?_
  refine lv_iload_n hx hb dX6_lowerBy_4 rfl (lv_at hl 2 rfl) ?_
  obtain ⟨v2, ev2, hf⟩ := ob_s hf
  refine px_rald hx hb hK w ev2 rfl dX6_lowerBy_5 ?_
  refine lv_aload_n hx hb dX6_lowerBy_6 rfl (lv_at hl 1 rfl) ?_
  obtain ⟨v3, ev3, hf⟩ := ob_s hf
  refine px_getR hx hb hts nX6_lowerBy_X6 hown hK w ev3 rfl (by decide) mX6_lowerBy_11 rfl dX6_lowerBy_7 ?_
  refine lv_iload_n hx hb dX6_lowerBy_10 rfl (lv_at hl 2 rfl) ?_
  obtain ⟨v4, ev4, hf⟩ := ob_s hf
  refine px_rald hx hb hK w ev4 rfl dX6_lowerBy_11 ?_
  refine lv_aload_n hx hb dX6_lowerBy_12 rfl (lv_at hl 3 rfl) ?_
  obtain ⟨u7, eu7, hf⟩ := ob_s hf
  obtain ⟨h6, eh6, hf⟩ := ob_s hf
  refine px_callVv (As := [.ref (ι v4), .ref (ι a3)]) (rest := []) ⟨hx, hb, hml, hown, hts⟩ hC w (kX4_divideBy l D dA b0 ι N v2 v4 a3 h h6 eh6) (cwV 2 hts gX6_lowerBy_X4_divideBy rfl rfl rfl (by decide +kernel) ⟨Nat.le_of_ble_eq_true rfl, Nat.le_of_ble_eq_true rfl⟩) eu7 rfl rfl hl.1 rfl (Nat.le_of_ble_eq_true rfl) dX6_lowerBy_13 ⟨Nat.le_of_ble_eq_true rfl, Nat.le_of_ble_eq_true rfl⟩ (fun H locs w => ?_)
  refine lv_iload_n hx hb dX6_lowerBy_16 rfl (lv_at hl 2 rfl) ?_
  refine lv_iconst (v := (1 : Int32)) hx hb dX6_lowerBy_17 (by decide) ?_
  refine lv_iadd hx hb dX6_lowerBy_18 ?_
  obtain ⟨x8, ex8, hf⟩ := nm_s hf
  refine px_nmI ex8 ?_
  refine lv_istore (lv' := [(4, .int x8), (0, .ref (ι a0)), (1, .ref (ι a1)), (2, .int a2), (3, .ref (ι a3))]) hx hb dX6_lowerBy_19 hl (by decide) rfl (fun ls hl => ?_)
  have hx21 : ∀ (y9 : Int32) (h10 : Hp) (H : Heap) (locs : List Loc) (ls : Array Slot), (some h10) = some h' → lv_has ls 5 [(0, .ref (ι a0)), (1, .ref (ι a1)), (2, .int a2), (3, .ref (ι a3)), (4, .int y9)] → WD D dA b0 ι h10 s.heap H locs → W p l e (headSpec wsX6_lowerBy rmX6_lowerBy).room s m ([.ref (ι a0), .ref (ι a1), .int a2, .ref (ι a3)] : List Value).toArray below meth c H locs 0 0 (MQ below (QV D dA b0 ι h') ([.ref (ι a0), .ref (ι a1), .int a2, .ref (ι a3)] : List Value).toArray s 0 0 (qA b0)) (F0 m 54 ls []) := by
    intro y9 h10 H locs ls hf hl w
    exact W.vret hx hb hr (qv_end hf w hC) w.locs_ok dX6_lowerBy_54
  obtain ⟨κ21, eκ21⟩ : ∃ k : Int32 → Hp → Option Hp, k = (fun y9 h10 => some h10) := ⟨_, rfl⟩
  have hlp21 : ∀ (n : Nat) (z23 : Int32) (h24 : Hp) (H : Heap) (locs : List Loc) (ls : Array Slot), lX6_lowerBy_21 N a0 a1 a2 a3 n z23 h24 κ21 = some h' → lv_has ls 5 [(0, .ref (ι a0)), (1, .ref (ι a1)), (2, .int a2), (3, .ref (ι a3)), (4, .int z23)] → WD D dA b0 ι h24 s.heap H locs → W p l e (headSpec wsX6_lowerBy rmX6_lowerBy).room s m ([.ref (ι a0), .ref (ι a1), .int a2, .ref (ι a3)] : List Value).toArray below meth c H locs 0 0 (MQ below (QV D dA b0 ι h') ([.ref (ι a0), .ref (ι a1), .int a2, .ref (ι a3)] : List Value).toArray s 0 0 (qA b0)) (F0 m 21 ls []) := by
    intro n21
    induction n21 with
    | zero => intro z23 h24 H locs ls hf; exact absurd hf (by rw [lX6_lowerBy_21]; exact fun q => nomatch q)
    | succ n21 ih21 =>
      intro z23 h24 H locs ls hf hl w
      rw [lX6_lowerBy_21] at hf
      refine lv_iload hx hb dX6_lowerBy_21 (lv_at hl 4 rfl) ?_
      refine lv_iconst (v := (4 : Int32)) hx hb dX6_lowerBy_23 (by decide) ?_
      refine lv_icmp_ge (tgt := 54) hx hb dX6_lowerBy_24 (by decide) (fun c25 => ?_) (fun c25 => ?_)
      · have hf := if_t hf c25
        exact hx21 z23 h24 H locs ls (by rw [eκ21] at hf; exact hf) (lv_sub hl [0, 1, 2, 3, 4] rfl) w
      · have hf := if_f hf c25
        refine lv_aload_n hx hb dX6_lowerBy_27 rfl (lv_at hl 0 rfl) ?_
        obtain ⟨v26, ev26, hf⟩ := ob_s hf
        refine px_getR hx hb hts nX6_lowerBy_X6 hown hK w ev26 rfl (by decide) mX6_lowerBy_11 rfl dX6_lowerBy_28 ?_
        refine lv_iload hx hb dX6_lowerBy_31 (lv_at hl 4 rfl) ?_
        obtain ⟨v27, ev27, hf⟩ := ob_s hf
        refine px_rald hx hb hK w ev27 rfl dX6_lowerBy_33 ?_
        refine lv_sipush (v := (32002 : Int32)) hx hb dX6_lowerBy_34 (by decide) ?_
        refine lv_aload_n hx hb dX6_lowerBy_37 rfl (lv_at hl 3 rfl) ?_
        refine lv_aload_n hx hb dX6_lowerBy_38 rfl (lv_at hl 1 rfl) ?_
        obtain ⟨v28, ev28, hf⟩ := ob_s hf
        refine px_getR hx hb hts nX6_lowerBy_X6 hown hK w ev28 rfl (by decide) mX6_lowerBy_11 rfl dX6_lowerBy_39 ?_
        refine lv_iload hx hb dX6_lowerBy_42 (lv_at hl 4 rfl) ?_
        obtain ⟨v29, ev29, hf⟩ := ob_s hf
        refine px_rald hx hb hK w ev29 rfl dX6_lowerBy_44 ?_
        obtain ⟨u32, eu32, hf⟩ := ob_s hf
        obtain ⟨h31, eh31, hf⟩ := ob_s hf
        refine px_callVv (As := [.int (32002 : Int32), .ref (ι a3), .ref (ι v29)]) (rest := []) ⟨hx, hb, hml, hown, hts⟩ hC w (kX4_addProduct l D dA b0 ι N v27 (32002 : Int32) a3 v29 h24 h31 eh31) (cwV 3 hts gX6_lowerBy_X4_addProduct rfl rfl rfl (by decide +kernel) ⟨Nat.le_of_ble_eq_true rfl, Nat.le_of_ble_eq_true rfl⟩) eu32 rfl rfl hl.1 rfl (Nat.le_of_ble_eq_true rfl) dX6_lowerBy_45 ⟨Nat.le_of_ble_eq_true rfl, Nat.le_of_ble_eq_true rfl⟩ (fun H locs w => ?_)
        obtain ⟨x33, ex33, hf⟩ := nm_s hf
        refine lv_iinc (v := x33) (lv' := [(4, .int x33), (0, .ref (ι a0)), (1, .ref (ι a1)), (2, .int a2), (3, .ref (ι a3))]) hx hb dX6_lowerBy_48 hl (k := 4) rfl (by rw [ex33]; rfl) (by decide) rfl (fun ls hl => ?_)
        refine lv_goto (tgt := 21) hx hb dX6_lowerBy_51 (by decide) ?_
        exact ih21 x33 h31 H locs ls hf (lv_sub hl [1, 2, 3, 4, 0] rfl) w
  exact hlp21 N x8 h6 H locs ls (by rw [eκ21]; exact hf) (lv_sub hl [1, 2, 3, 4, 0] rfl) w
theorem nX6_makeMonicAt_X6 : ∀ w ∈ wsX60, w ∈ wsX6_makeMonicAt := by decide +kernel
theorem mX6_makeMonicAt_11 : Cond.fieldLink RX6 11 "NormalForms$Row" "cells" "[LNormalForms$Polynomial;" ∈ wsX6_makeMonicAt := by decide +kernel
theorem nX6_makeMonicAt_X4 : ∀ w ∈ wsX40, w ∈ wsX6_makeMonicAt := by decide +kernel
theorem mX6_makeMonicAt_ini : Cond.initialized RX7 ∈ wsX6_makeMonicAt := by decide +kernel
theorem mX6_makeMonicAt_st_X7_inverseOf : Cond.static yX7_inverseOf ∈ wsX6_makeMonicAt := by decide +kernel
abbrev rmX6_makeMonicAt : Room := { frames := 2, cells := 0, slots := 0, locals := 35 }
set_option maxHeartbeats 4000000 in
set_option maxRecDepth 100000 in
theorem kX6_makeMonicAt (l : Launch) (D : va_G) (dA : Nat → ClassId) (b0 : Nat) (ι : Nat → Nat) (N : Nat) (a0 : Nat) (a1 : Int32) (h : Hp) (h' : Hp) (hf : fX6_makeMonicAt N a0 a1 h = some h') : Met l yX6_makeMonicAt wsX6_makeMonicAt rmX6_makeMonicAt (PC D dA b0 ι [.ref (ι a0), .int a1] h) (QV D dA b0 ι h') 0 0 (qA b0) := by
  unfold fX6_makeMonicAt at hf
  refine Met.ofW (cc := cX6_makeMonicAt) (maxL := 5) (ret := none) (by decide +kernel) rfl ?_
  intro p e s m args below meth c s₁ B hml hv
  obtain ⟨rfl, w0⟩ := hv
  have hx := B.exec
  have hb := B.bytes
  have hr := B.returns
  have hts := atoms_spec (ws := wsX6_makeMonicAt) B.pre
  have hown : s.vm.findClass RX6 = some m.cls := findClass_of_methodNamed B.named
  have hlocks := B.notSynchronized
  have hC := w0.c
  have hK := hC.1
  have w := WD.start w0
  clear w0
  have hl := lv_entry ([.ref (ι a0), .int a1]) (n := 5) (Nat.le_of_ble_eq_true rfl)
  rw [lg_entry_eq]
  generalize (lg_sl ([.ref (ι a0), .int a1]) ++ List.replicate (5 - (lg_sl ([.ref (ι a0), .int a1])).length) Slot.unset).toArray = ls at hl ⊢
  have hl : lv_has ls 5 [(0, .ref (ι a0)), (1, .int a1)] := hl
  obtain ⟨H, hH⟩ : ∃ H : Heap, H = s.heap := ⟨_, rfl⟩
  obtain ⟨locs, hlo⟩ : ∃ locs : List Loc, locs = [] := ⟨_, rfl⟩
  rw [← hlo]
  have w : WD D dA b0 ι h s.heap H locs := by rw [hH, hlo]; exact w
  refine px_start hH ?_
  refine lv_aload_n hx hb dX6_makeMonicAt_0 rfl (lv_at hl 0 rfl) ?_
  obtain ⟨v1, ev1, hf⟩ := ob_s hf
  refine px_getR hx hb hts nX6_makeMonicAt_X6 hown hK w ev1 rfl (by decide) mX6_makeMonicAt_11 rfl dX6_makeMonicAt_1 ?_
  refine lv_iload_n hx hb dX6_makeMonicAt_4 rfl (lv_at hl 1 rfl) ?_
  obtain ⟨v2, ev2, hf⟩ := ob_s hf
  refine px_rald hx hb hK w ev2 rfl dX6_makeMonicAt_5 ?_
  refine lv_astore_n (lv' := [(2, .ref (ι v2)), (0, .ref (ι a0)), (1, .int a1)]) hx hb dX6_makeMonicAt_6 rfl hl (by decide) rfl (fun ls hl => ?_)
  refine lv_aload_n hx hb dX6_makeMonicAt_7 rfl (lv_at hl 0 rfl) ?_
  refine lv_aload_n hx hb dX6_makeMonicAt_8 rfl (lv_at hl 0 rfl) ?_
  obtain ⟨v3, ev3, hf⟩ := ob_s hf
  refine px_getIN hx hb hts nX6_makeMonicAt_X4 hown hK w ev3 rfl (by decide) (hC.2.1 _ nest_2) rfl dX6_makeMonicAt_9 ?_
  obtain ⟨u6, eu6, hf⟩ := ob_s hf
  obtain ⟨⟨v4, h5⟩, eh5, hf⟩ := ob_s hf
  dsimp only at hf
  refine px_callVi (As := [.int v3]) (rest := []) ⟨hx, hb, hml, hown, hts⟩ hC w (kX4_numberAt l D dA b0 ι N v2 v3 h v4 h5 eh5) (cwV 1 hts gX6_makeMonicAt_X4_numberAt rfl rfl rfl (by decide +kernel) ⟨Nat.le_of_ble_eq_true rfl, Nat.le_of_ble_eq_true rfl⟩) eu6 rfl rfl hl.1 rfl (Nat.le_of_ble_eq_true rfl) dX6_makeMonicAt_12 ⟨Nat.le_of_ble_eq_true rfl, Nat.le_of_ble_eq_true rfl⟩ (fun H locs w => ?_)
  obtain ⟨⟨v7, h8⟩, eh8, hf⟩ := ob_s hf
  dsimp only at hf
  refine px_callSNi (As := [.int v4]) (rest := []) ⟨hx, hb, hml, hown, hts⟩ hC w (kX7_inverseOf l D dA b0 ι N v4 h5 v7 h8 eh8) ⟨va_cnB 1 hts gX6_makeMonicAt_X7_inverseOf_n43 rfl rfl rfl (hC.2.1 _ nest_3) (hts _ mX6_makeMonicAt_ini) (by decide +kernel) ⟨Nat.le_of_ble_eq_true rfl, Nat.le_of_ble_eq_true rfl⟩, hts _ mX6_makeMonicAt_st_X7_inverseOf, trivial⟩ rfl hl.1 rfl (Nat.le_of_ble_eq_true rfl) dX6_makeMonicAt_15 ⟨Nat.le_of_ble_eq_true rfl, Nat.le_of_ble_eq_true rfl⟩ (fun H locs w => ?_)
  refine lv_istore_n (lv' := [(3, .int v7), (2, .ref (ι v2)), (0, .ref (ι a0)), (1, .int a1)]) hx hb dX6_makeMonicAt_18 rfl hl (by decide) rfl (fun ls hl => ?_)
  refine lv_iload_n hx hb dX6_makeMonicAt_19 rfl (lv_at hl 3 rfl) ?_
  refine lv_istore (lv' := [(4, .int a1), (3, .int v7), (2, .ref (ι v2)), (0, .ref (ι a0)), (1, .int a1)]) hx hb dX6_makeMonicAt_20 hl (by decide) rfl (fun ls hl => ?_)
  have hx22 : ∀ (y9 : Int32) (h10 : Hp) (H : Heap) (locs : List Loc) (ls : Array Slot), (some h10) = some h' → lv_has ls 5 [(0, .ref (ι a0)), (1, .int a1), (2, .ref (ι v2)), (3, .int v7), (4, .int y9)] → WD D dA b0 ι h10 s.heap H locs → W p l e (headSpec wsX6_makeMonicAt rmX6_makeMonicAt).room s m ([.ref (ι a0), .int a1] : List Value).toArray below meth c H locs 0 0 (MQ below (QV D dA b0 ι h') ([.ref (ι a0), .int a1] : List Value).toArray s 0 0 (qA b0)) (F0 m 45 ls []) := by
    intro y9 h10 H locs ls hf hl w
    exact W.vret hx hb hr (qv_end hf w hC) w.locs_ok dX6_makeMonicAt_45
  obtain ⟨κ22, eκ22⟩ : ∃ k : Int32 → Hp → Option Hp, k = (fun y9 h10 => some h10) := ⟨_, rfl⟩
  have hlp22 : ∀ (n : Nat) (z21 : Int32) (h22 : Hp) (H : Heap) (locs : List Loc) (ls : Array Slot), lX6_makeMonicAt_22 N a0 a1 v2 v7 n z21 h22 κ22 = some h' → lv_has ls 5 [(0, .ref (ι a0)), (1, .int a1), (2, .ref (ι v2)), (3, .int v7), (4, .int z21)] → WD D dA b0 ι h22 s.heap H locs → W p l e (headSpec wsX6_makeMonicAt rmX6_makeMonicAt).room s m ([.ref (ι a0), .int a1] : List Value).toArray below meth c H locs 0 0 (MQ below (QV D dA b0 ι h') ([.ref (ι a0), .int a1] : List Value).toArray s 0 0 (qA b0)) (F0 m 22 ls []) := by
    intro n22
    induction n22 with
    | zero => intro z21 h22 H locs ls hf; exact absurd hf (by rw [lX6_makeMonicAt_22]; exact fun q => nomatch q)
    | succ n22 ih22 =>
      intro z21 h22 H locs ls hf hl w
      rw [lX6_makeMonicAt_22] at hf
      refine lv_iload hx hb dX6_makeMonicAt_22 (lv_at hl 4 rfl) ?_
      refine lv_iconst (v := (4 : Int32)) hx hb dX6_makeMonicAt_24 (by decide) ?_
      refine lv_icmp_ge (tgt := 45) hx hb dX6_makeMonicAt_25 (by decide) (fun c23 => ?_) (fun c23 => ?_)
      · have hf := if_t hf c23
        exact hx22 z21 h22 H locs ls (by rw [eκ22] at hf; exact hf) (lv_sub hl [0, 1, 2, 3, 4] rfl) w
      · have hf := if_f hf c23
        refine lv_aload_n hx hb dX6_makeMonicAt_28 rfl (lv_at hl 0 rfl) ?_
        obtain ⟨v24, ev24, hf⟩ := ob_s hf
        refine px_getR hx hb hts nX6_makeMonicAt_X6 hown hK w ev24 rfl (by decide) mX6_makeMonicAt_11 rfl dX6_makeMonicAt_29 ?_
        refine lv_iload hx hb dX6_makeMonicAt_32 (lv_at hl 4 rfl) ?_
        obtain ⟨v25, ev25, hf⟩ := ob_s hf
        refine px_rald hx hb hK w ev25 rfl dX6_makeMonicAt_34 ?_
        refine lv_iload_n hx hb dX6_makeMonicAt_35 rfl (lv_at hl 3 rfl) ?_
        obtain ⟨u28, eu28, hf⟩ := ob_s hf
        obtain ⟨h27, eh27, hf⟩ := ob_s hf
        refine px_callVv (As := [.int v7]) (rest := []) ⟨hx, hb, hml, hown, hts⟩ hC w (kX4_multiply l D dA b0 ι N v25 v7 h22 h27 eh27) (cwV 1 hts gX6_makeMonicAt_X4_multiply rfl rfl rfl (by decide +kernel) ⟨Nat.le_of_ble_eq_true rfl, Nat.le_of_ble_eq_true rfl⟩) eu28 rfl rfl hl.1 rfl (Nat.le_of_ble_eq_true rfl) dX6_makeMonicAt_36 ⟨Nat.le_of_ble_eq_true rfl, Nat.le_of_ble_eq_true rfl⟩ (fun H locs w => ?_)
        obtain ⟨x29, ex29, hf⟩ := nm_s hf
        refine lv_iinc (v := x29) (lv' := [(4, .int x29), (0, .ref (ι a0)), (1, .int a1), (2, .ref (ι v2)), (3, .int v7)]) hx hb dX6_makeMonicAt_39 hl (k := 4) rfl (by rw [ex29]; rfl) (by decide) rfl (fun ls hl => ?_)
        refine lv_goto (tgt := 22) hx hb dX6_makeMonicAt_42 (by decide) ?_
        exact ih22 x29 h27 H locs ls hf (lv_sub hl [1, 2, 3, 4, 0] rfl) w
  exact hlp22 N a1 h8 H locs ls (by rw [eκ22]; exact hf) (lv_sub hl [3, 4, 2, 1, 0] rfl) w
theorem nX2_clear_X2 : ∀ w ∈ wsX20, w ∈ wsX2_clear := by decide +kernel
theorem mX2_clear_11 : Cond.fieldLink RX2 11 "NormalForms$Matrix" "rows" "[LNormalForms$Row;" ∈ wsX2_clear := by decide +kernel
abbrev rmX2_clear : Room := { frames := 3, cells := 0, slots := 0, locals := 54 }
set_option maxHeartbeats 4000000 in
set_option maxRecDepth 100000 in
theorem kX2_clear (l : Launch) (D : va_G) (dA : Nat → ClassId) (b0 : Nat) (ι : Nat → Nat) (N : Nat) (a0 : Nat) (h : Hp) (h' : Hp) (hf : fX2_clear N a0 h = some h') : Met l yX2_clear wsX2_clear rmX2_clear (PC D dA b0 ι [.ref (ι a0)] h) (QV D dA b0 ι h') 0 0 (qA b0) := by
  unfold fX2_clear at hf
  refine Met.ofW (cc := cX2_clear) (maxL := 2) (ret := none) (by decide +kernel) rfl ?_
  intro p e s m args below meth c s₁ B hml hv
  obtain ⟨rfl, w0⟩ := hv
  have hx := B.exec
  have hb := B.bytes
  have hr := B.returns
  have hts := atoms_spec (ws := wsX2_clear) B.pre
  have hown : s.vm.findClass RX2 = some m.cls := findClass_of_methodNamed B.named
  have hlocks := B.notSynchronized
  have hC := w0.c
  have hK := hC.1
  have w := WD.start w0
  clear w0
  have hl := lv_entry ([.ref (ι a0)]) (n := 2) (Nat.le_of_ble_eq_true rfl)
  rw [lg_entry_eq]
  generalize (lg_sl ([.ref (ι a0)]) ++ List.replicate (2 - (lg_sl ([.ref (ι a0)])).length) Slot.unset).toArray = ls at hl ⊢
  have hl : lv_has ls 2 [(0, .ref (ι a0))] := hl
  obtain ⟨H, hH⟩ : ∃ H : Heap, H = s.heap := ⟨_, rfl⟩
  obtain ⟨locs, hlo⟩ : ∃ locs : List Loc, locs = [] := ⟨_, rfl⟩
  rw [← hlo]
  have w : WD D dA b0 ι h s.heap H locs := by rw [hH, hlo]; exact w
  refine px_start hH ?_
  refine lv_iconst (v := (0 : Int32)) hx hb dX2_clear_0 (by decide) ?_
  refine lv_istore_n (lv' := [(1, .int (0 : Int32)), (0, .ref (ι a0))]) hx hb dX2_clear_1 rfl hl (by decide) rfl (fun ls hl => ?_)
  have hx2 : ∀ (y1 : Int32) (h2 : Hp) (H : Heap) (locs : List Loc) (ls : Array Slot), (some h2) = some h' → lv_has ls 2 [(0, .ref (ι a0)), (1, .int y1)] → WD D dA b0 ι h2 s.heap H locs → W p l e (headSpec wsX2_clear rmX2_clear).room s m ([.ref (ι a0)] : List Value).toArray below meth c H locs 0 0 (MQ below (QV D dA b0 ι h') ([.ref (ι a0)] : List Value).toArray s 0 0 (qA b0)) (F0 m 22 ls []) := by
    intro y1 h2 H locs ls hf hl w
    exact W.vret hx hb hr (qv_end hf w hC) w.locs_ok dX2_clear_22
  obtain ⟨κ2, eκ2⟩ : ∃ k : Int32 → Hp → Option Hp, k = (fun y1 h2 => some h2) := ⟨_, rfl⟩
  have hlp2 : ∀ (n : Nat) (z13 : Int32) (h14 : Hp) (H : Heap) (locs : List Loc) (ls : Array Slot), lX2_clear_2 N a0 n z13 h14 κ2 = some h' → lv_has ls 2 [(0, .ref (ι a0)), (1, .int z13)] → WD D dA b0 ι h14 s.heap H locs → W p l e (headSpec wsX2_clear rmX2_clear).room s m ([.ref (ι a0)] : List Value).toArray below meth c H locs 0 0 (MQ below (QV D dA b0 ι h') ([.ref (ι a0)] : List Value).toArray s 0 0 (qA b0)) (F0 m 2 ls []) := by
    intro n2
    induction n2 with
    | zero => intro z13 h14 H locs ls hf; exact absurd hf (by rw [lX2_clear_2]; exact fun q => nomatch q)
    | succ n2 ih2 =>
      intro z13 h14 H locs ls hf hl w
      rw [lX2_clear_2] at hf
      refine lv_iload_n hx hb dX2_clear_2 rfl (lv_at hl 1 rfl) ?_
      refine lv_iconst (v := (4 : Int32)) hx hb dX2_clear_3 (by decide) ?_
      refine lv_icmp_ge (tgt := 22) hx hb dX2_clear_4 (by decide) (fun c15 => ?_) (fun c15 => ?_)
      · have hf := if_t hf c15
        exact hx2 z13 h14 H locs ls (by rw [eκ2] at hf; exact hf) (lv_sub hl [0, 1] rfl) w
      · have hf := if_f hf c15
        refine lv_aload_n hx hb dX2_clear_7 rfl (lv_at hl 0 rfl) ?_
        obtain ⟨v16, ev16, hf⟩ := ob_s hf
        refine px_getR hx hb hts nX2_clear_X2 hown hK w ev16 rfl (by decide) mX2_clear_11 rfl dX2_clear_8 ?_
        refine lv_iload_n hx hb dX2_clear_11 rfl (lv_at hl 1 rfl) ?_
        obtain ⟨v17, ev17, hf⟩ := ob_s hf
        refine px_rald hx hb hK w ev17 rfl dX2_clear_12 ?_
        obtain ⟨u20, eu20, hf⟩ := ob_s hf
        obtain ⟨h19, eh19, hf⟩ := ob_s hf
        refine px_callVv (As := []) (rest := []) ⟨hx, hb, hml, hown, hts⟩ hC w (kX6_clear l D dA b0 ι N v17 h14 h19 eh19) (cwV 0 hts gX2_clear_X6_clear rfl rfl rfl (by decide +kernel) ⟨Nat.le_of_ble_eq_true rfl, Nat.le_of_ble_eq_true rfl⟩) eu20 rfl rfl hl.1 rfl (Nat.le_of_ble_eq_true rfl) dX2_clear_13 ⟨Nat.le_of_ble_eq_true rfl, Nat.le_of_ble_eq_true rfl⟩ (fun H locs w => ?_)
        obtain ⟨x21, ex21, hf⟩ := nm_s hf
        refine lv_iinc (v := x21) (lv' := [(1, .int x21), (0, .ref (ι a0))]) hx hb dX2_clear_16 hl (k := 1) rfl (by rw [ex21]; rfl) (by decide) rfl (fun ls hl => ?_)
        refine lv_goto (tgt := 2) hx hb dX2_clear_19 (by decide) ?_
        exact ih2 x21 h19 H locs ls hf (lv_sub hl [1, 0] rfl) w
  exact hlp2 N (0 : Int32) h H locs ls (by rw [eκ2]; exact hf) (lv_sub hl [1, 0] rfl) w
theorem nX2_cell_X2 : ∀ w ∈ wsX20, w ∈ wsX2_cell := by decide +kernel
theorem mX2_cell_11 : Cond.fieldLink RX2 11 "NormalForms$Matrix" "rows" "[LNormalForms$Row;" ∈ wsX2_cell := by decide +kernel
theorem nX2_cell_X6 : ∀ w ∈ wsX60, w ∈ wsX2_cell := by decide +kernel
abbrev rmX2_cell : Room := { frames := 1, cells := 0, slots := 0, locals := 12 }
set_option maxHeartbeats 4000000 in
set_option maxRecDepth 100000 in
theorem kX2_cell (l : Launch) (D : va_G) (dA : Nat → ClassId) (b0 : Nat) (ι : Nat → Nat) (N : Nat) (a0 : Nat) (a1 : Int32) (a2 : Int32) (h : Hp) (r : Nat) (h' : Hp) (hf : fX2_cell N a0 a1 a2 h = some (r, h')) : Met l yX2_cell wsX2_cell rmX2_cell (PC D dA b0 ι [.ref (ι a0), .int a1, .int a2] h) (QR D dA b0 ι r h') 0 0 (qA b0) := by
  unfold fX2_cell at hf
  refine Met.ofW (cc := cX2_cell) (maxL := 3) (ret := (some (.object "NormalForms$Polynomial"))) (by decide +kernel) rfl ?_
  intro p e s m args below meth c s₁ B hml hv
  obtain ⟨rfl, w0⟩ := hv
  have hx := B.exec
  have hb := B.bytes
  have hr := B.returns
  have hts := atoms_spec (ws := wsX2_cell) B.pre
  have hown : s.vm.findClass RX2 = some m.cls := findClass_of_methodNamed B.named
  have hlocks := B.notSynchronized
  have hC := w0.c
  have hK := hC.1
  have w := WD.start w0
  clear w0
  have hl := lv_entry ([.ref (ι a0), .int a1, .int a2]) (n := 3) (Nat.le_of_ble_eq_true rfl)
  rw [lg_entry_eq]
  generalize (lg_sl ([.ref (ι a0), .int a1, .int a2]) ++ List.replicate (3 - (lg_sl ([.ref (ι a0), .int a1, .int a2])).length) Slot.unset).toArray = ls at hl ⊢
  have hl : lv_has ls 3 [(0, .ref (ι a0)), (1, .int a1), (2, .int a2)] := hl
  obtain ⟨H, hH⟩ : ∃ H : Heap, H = s.heap := ⟨_, rfl⟩
  obtain ⟨locs, hlo⟩ : ∃ locs : List Loc, locs = [] := ⟨_, rfl⟩
  rw [← hlo]
  have w : WD D dA b0 ι h s.heap H locs := by rw [hH, hlo]; exact w
  refine px_start hH ?_
  refine lv_aload_n hx hb dX2_cell_0 rfl (lv_at hl 0 rfl) ?_
  obtain ⟨v1, ev1, hf⟩ := ob_s hf
  refine px_getR hx hb hts nX2_cell_X2 hown hK w ev1 rfl (by decide) mX2_cell_11 rfl dX2_cell_1 ?_
  refine lv_iload_n hx hb dX2_cell_4 rfl (lv_at hl 1 rfl) ?_
  obtain ⟨v2, ev2, hf⟩ := ob_s hf
  refine px_rald hx hb hK w ev2 rfl dX2_cell_5 ?_
  obtain ⟨v3, ev3, hf⟩ := ob_s hf
  refine px_getRN hx hb hts nX2_cell_X6 hown hK w ev3 rfl (by decide) (hC.2.1 _ nest_4) rfl dX2_cell_6 ?_
  refine lv_iload_n hx hb dX2_cell_9 rfl (lv_at hl 2 rfl) ?_
  obtain ⟨v4, ev4, hf⟩ := ob_s hf
  refine px_rald hx hb hK w ev4 rfl dX2_cell_10 ?_
  exact W.aret hx hb hr (Or.inl ⟨_, rfl⟩) (Or.inr ⟨_, rfl⟩) (qr_end hf w hC) w.locs_ok dX2_cell_11
