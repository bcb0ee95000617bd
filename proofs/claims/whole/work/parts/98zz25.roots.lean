theorem nX5_raise_X5 : ∀ w ∈ wsX50, w ∈ wsX5_raise := by decide +kernel
theorem mX5_raise_24 : Cond.fieldLink RX5 24 "NormalForms$Roots" "base" "LNormalForms$Polynomial;" ∈ wsX5_raise := by decide +kernel
theorem mX5_raise_28 : Cond.fieldLink RX5 28 "NormalForms$Roots" "power" "LNormalForms$Polynomial;" ∈ wsX5_raise := by decide +kernel
theorem mX5_raise_31 : Cond.fieldLink RX5 31 "NormalForms$Roots" "product" "LNormalForms$Polynomial;" ∈ wsX5_raise := by decide +kernel
theorem mX5_raise_34 : Cond.fieldLink RX5 34 "NormalForms$Roots" "quotient" "LNormalForms$Polynomial;" ∈ wsX5_raise := by decide +kernel
abbrev rmX5_raise : Room := { frames := 3, cells := 0, slots := 0, locals := 63 }
set_option maxHeartbeats 4000000 in
set_option maxRecDepth 100000 in
theorem kX5_raise (l : Launch) (D : va_G) (dA : Nat → ClassId) (b0 : Nat) (ι : Nat → Nat) (N : Nat) (a0 : Nat) (a1 : Int32) (a2 : Int32) (a3 : Nat) (h : Hp) (h' : Hp) (hf : fX5_raise N a0 a1 a2 a3 h = some h') : Met l yX5_raise wsX5_raise rmX5_raise (PC D dA b0 ι [.ref (ι a0), .int a1, .int a2, .ref (ι a3)] h) (QV D dA b0 ι h') 0 0 (qA b0) := by
  unfold fX5_raise at hf
  refine Met.ofW (cc := cX5_raise) (maxL := 5) (ret := none) (by decide +kernel) rfl ?_
  intro p e s m args below meth c s₁ B hml hv
  obtain ⟨rfl, w0⟩ := hv
  have hx := B.exec
  have hb := B.bytes
  have hr := B.returns
  have hts := atoms_spec (ws := wsX5_raise) B.pre
  have hown : s.vm.findClass RX5 = some m.cls := findClass_of_methodNamed B.named
  have hlocks := B.notSynchronized
  have hC := w0.c
  have hK := hC.1
  have w := WD.start w0
  clear w0
  have hl := lv_entry ([.ref (ι a0), .int a1, .int a2, .ref (ι a3)]) (n := 5) (Nat.le_of_ble_eq_true rfl)
  rw [lg_entry_eq]
  generalize (lg_sl ([.ref (ι a0), .int a1, .int a2, .ref (ι a3)]) ++ List.replicate (5 - (lg_sl ([.ref (ι a0), .int a1, .int a2, .ref (ι a3)])).length) Slot.unset).toArray = ls at hl ⊢
  have hl : lv_has ls 5 [(0, .ref (ι a0)), (1, .int a1), (2, .int a2), (3, .ref (ι a3))] := hl
  obtain ⟨H, hH⟩ : ∃ H : Heap, H = s.heap := ⟨_, rfl⟩
  obtain ⟨locs, hlo⟩ : ∃ locs : List Loc, locs = [] := ⟨_, rfl⟩
  rw [← hlo]
  have w : WD D dA b0 ι h s.heap H locs := by rw [hH, hlo]; exact w
  refine px_start hH ?_
  refine lv_aload_n hx hb dX5_raise_0 rfl (lv_at hl 0 rfl) ?_
  obtain ⟨v1, ev1, hf⟩ := ob_s hf
  refine px_getR hx hb hts nX5_raise_X5 hown hK w ev1 rfl (by decide) mX5_raise_24 rfl dX5_raise_1 ?_
  refine lv_iconst (v := (0 : Int32)) hx hb dX5_raise_4 (by decide) ?_
  refine lv_iload_n hx hb dX5_raise_5 rfl (lv_at hl 1 rfl) ?_
  obtain ⟨u4, eu4, hf⟩ := ob_s hf
  obtain ⟨h3, eh3, hf⟩ := ob_s hf
  refine px_callVv (As := [.int (0 : Int32), .int a1]) (rest := []) ⟨hx, hb, hml, hown, hts⟩ hC w (kX4_setNumber l D dA b0 ι N v1 (0 : Int32) a1 h h3 eh3) (cwV 2 hts gX5_raise_X4_setNumber rfl rfl rfl (by decide +kernel) ⟨Nat.le_of_ble_eq_true rfl, Nat.le_of_ble_eq_true rfl⟩) eu4 rfl rfl hl.1 rfl (Nat.le_of_ble_eq_true rfl) dX5_raise_6 ⟨Nat.le_of_ble_eq_true rfl, Nat.le_of_ble_eq_true rfl⟩ (fun H locs w => ?_)
  refine lv_aload_n hx hb dX5_raise_9 rfl (lv_at hl 0 rfl) ?_
  obtain ⟨v5, ev5, hf⟩ := ob_s hf
  refine px_getR hx hb hts nX5_raise_X5 hown hK w ev5 rfl (by decide) mX5_raise_24 rfl dX5_raise_10 ?_
  refine lv_iconst (v := (1 : Int32)) hx hb dX5_raise_13 (by decide) ?_
  refine lv_iconst (v := (1 : Int32)) hx hb dX5_raise_14 (by decide) ?_
  obtain ⟨u8, eu8, hf⟩ := ob_s hf
  obtain ⟨h7, eh7, hf⟩ := ob_s hf
  refine px_callVv (As := [.int (1 : Int32), .int (1 : Int32)]) (rest := []) ⟨hx, hb, hml, hown, hts⟩ hC w (kX4_setNumber l D dA b0 ι N v5 (1 : Int32) (1 : Int32) h3 h7 eh7) (cwV 2 hts gX5_raise_X4_setNumber rfl rfl rfl (by decide +kernel) ⟨Nat.le_of_ble_eq_true rfl, Nat.le_of_ble_eq_true rfl⟩) eu8 rfl rfl hl.1 rfl (Nat.le_of_ble_eq_true rfl) dX5_raise_15 ⟨Nat.le_of_ble_eq_true rfl, Nat.le_of_ble_eq_true rfl⟩ (fun H locs w => ?_)
  refine lv_aload_n hx hb dX5_raise_18 rfl (lv_at hl 0 rfl) ?_
  obtain ⟨v9, ev9, hf⟩ := ob_s hf
  refine px_getR hx hb hts nX5_raise_X5 hown hK w ev9 rfl (by decide) mX5_raise_28 rfl dX5_raise_19 ?_
  obtain ⟨u12, eu12, hf⟩ := ob_s hf
  obtain ⟨h11, eh11, hf⟩ := ob_s hf
  refine px_callVv (As := []) (rest := []) ⟨hx, hb, hml, hown, hts⟩ hC w (kX4_clear l D dA b0 ι N v9 h7 h11 eh11) (cwV 0 hts gX5_raise_X4_clear rfl rfl rfl (by decide +kernel) ⟨Nat.le_of_ble_eq_true rfl, Nat.le_of_ble_eq_true rfl⟩) eu12 rfl rfl hl.1 rfl (Nat.le_of_ble_eq_true rfl) dX5_raise_22 ⟨Nat.le_of_ble_eq_true rfl, Nat.le_of_ble_eq_true rfl⟩ (fun H locs w => ?_)
  refine lv_aload_n hx hb dX5_raise_25 rfl (lv_at hl 0 rfl) ?_
  obtain ⟨v13, ev13, hf⟩ := ob_s hf
  refine px_getR hx hb hts nX5_raise_X5 hown hK w ev13 rfl (by decide) mX5_raise_28 rfl dX5_raise_26 ?_
  refine lv_iconst (v := (0 : Int32)) hx hb dX5_raise_29 (by decide) ?_
  refine lv_iconst (v := (1 : Int32)) hx hb dX5_raise_30 (by decide) ?_
  obtain ⟨u16, eu16, hf⟩ := ob_s hf
  obtain ⟨h15, eh15, hf⟩ := ob_s hf
  refine px_callVv (As := [.int (0 : Int32), .int (1 : Int32)]) (rest := []) ⟨hx, hb, hml, hown, hts⟩ hC w (kX4_setNumber l D dA b0 ι N v13 (0 : Int32) (1 : Int32) h11 h15 eh15) (cwV 2 hts gX5_raise_X4_setNumber rfl rfl rfl (by decide +kernel) ⟨Nat.le_of_ble_eq_true rfl, Nat.le_of_ble_eq_true rfl⟩) eu16 rfl rfl hl.1 rfl (Nat.le_of_ble_eq_true rfl) dX5_raise_31 ⟨Nat.le_of_ble_eq_true rfl, Nat.le_of_ble_eq_true rfl⟩ (fun H locs w => ?_)
  refine lv_bipush (v := (14 : Int32)) hx hb dX5_raise_34 (by decide) ?_
  refine lv_istore (lv' := [(4, .int (14 : Int32)), (0, .ref (ι a0)), (1, .int a1), (2, .int a2), (3, .ref (ι a3))]) hx hb dX5_raise_36 hl (by decide) rfl (fun ls hl => ?_)
  have hx38 : ∀ (y17 : Int32) (h18 : Hp) (H : Heap) (locs : List Loc) (ls : Array Slot), (some h18) = some h' → lv_has ls 5 [(0, .ref (ι a0)), (1, .int a1), (2, .int a2), (3, .ref (ι a3)), (4, .int y17)] → WD D dA b0 ι h18 s.heap H locs → W p l e (headSpec wsX5_raise rmX5_raise).room s m ([.ref (ι a0), .int a1, .int a2, .ref (ι a3)] : List Value).toArray below meth c H locs 0 0 (MQ below (QV D dA b0 ι h') ([.ref (ι a0), .int a1, .int a2, .ref (ι a3)] : List Value).toArray s 0 0 (qA b0)) (F0 m 143 ls []) := by
    intro y17 h18 H locs ls hf hl w
    exact W.vret hx hb hr (qv_end hf w hC) w.locs_ok dX5_raise_143
  obtain ⟨κ38, eκ38⟩ : ∃ k : Int32 → Hp → Option Hp, k = (fun y17 h18 => some h18) := ⟨_, rfl⟩
  have hlp38 : ∀ (n : Nat) (z62 : Int32) (h63 : Hp) (H : Heap) (locs : List Loc) (ls : Array Slot), lX5_raise_38 N a0 a1 a2 a3 n z62 h63 κ38 = some h' → lv_has ls 5 [(0, .ref (ι a0)), (1, .int a1), (2, .int a2), (3, .ref (ι a3)), (4, .int z62)] → WD D dA b0 ι h63 s.heap H locs → W p l e (headSpec wsX5_raise rmX5_raise).room s m ([.ref (ι a0), .int a1, .int a2, .ref (ι a3)] : List Value).toArray below meth c H locs 0 0 (MQ below (QV D dA b0 ι h') ([.ref (ι a0), .int a1, .int a2, .ref (ι a3)] : List Value).toArray s 0 0 (qA b0)) (F0 m 38 ls []) := by
    intro n38
    induction n38 with
    | zero => intro z62 h63 H locs ls hf; exact absurd hf (by rw [lX5_raise_38]; exact fun q => nomatch q)
    | succ n38 ih38 =>
      intro z62 h63 H locs ls hf hl w
      rw [lX5_raise_38] at hf
      refine lv_iload hx hb dX5_raise_38 (lv_at hl 4 rfl) ?_
      refine lv_if_lt (tgt := 143) hx hb dX5_raise_40 (by decide) (fun c64 => ?_) (fun c64 => ?_)
      · have hf := if_t hf c64
        exact hx38 z62 h63 H locs ls (by rw [eκ38] at hf; exact hf) (lv_sub hl [0, 1, 2, 3, 4] rfl) w
      · have hf := if_f hf c64
        refine lv_aload_n hx hb dX5_raise_43 rfl (lv_at hl 0 rfl) ?_
        obtain ⟨v65, ev65, hf⟩ := ob_s hf
        refine px_getR hx hb hts nX5_raise_X5 hown hK w ev65 rfl (by decide) mX5_raise_31 rfl dX5_raise_44 ?_
        obtain ⟨u68, eu68, hf⟩ := ob_s hf
        obtain ⟨h67, eh67, hf⟩ := ob_s hf
        refine px_callVv (As := []) (rest := []) ⟨hx, hb, hml, hown, hts⟩ hC w (kX4_clear l D dA b0 ι N v65 h63 h67 eh67) (cwV 0 hts gX5_raise_X4_clear rfl rfl rfl (by decide +kernel) ⟨Nat.le_of_ble_eq_true rfl, Nat.le_of_ble_eq_true rfl⟩) eu68 rfl rfl hl.1 rfl (Nat.le_of_ble_eq_true rfl) dX5_raise_47 ⟨Nat.le_of_ble_eq_true rfl, Nat.le_of_ble_eq_true rfl⟩ (fun H locs w => ?_)
        refine lv_aload_n hx hb dX5_raise_50 rfl (lv_at hl 0 rfl) ?_
        obtain ⟨v69, ev69, hf⟩ := ob_s hf
        refine px_getR hx hb hts nX5_raise_X5 hown hK w ev69 rfl (by decide) mX5_raise_31 rfl dX5_raise_51 ?_
        refine lv_iconst (v := (1 : Int32)) hx hb dX5_raise_54 (by decide) ?_
        refine lv_aload_n hx hb dX5_raise_55 rfl (lv_at hl 0 rfl) ?_
        obtain ⟨v70, ev70, hf⟩ := ob_s hf
        refine px_getR hx hb hts nX5_raise_X5 hown hK w ev70 rfl (by decide) mX5_raise_28 rfl dX5_raise_56 ?_
        refine lv_aload_n hx hb dX5_raise_59 rfl (lv_at hl 0 rfl) ?_
        obtain ⟨v71, ev71, hf⟩ := ob_s hf
        refine px_getR hx hb hts nX5_raise_X5 hown hK w ev71 rfl (by decide) mX5_raise_28 rfl dX5_raise_60 ?_
        obtain ⟨u74, eu74, hf⟩ := ob_s hf
        obtain ⟨h73, eh73, hf⟩ := ob_s hf
        refine px_callVv (As := [.int (1 : Int32), .ref (ι v70), .ref (ι v71)]) (rest := []) ⟨hx, hb, hml, hown, hts⟩ hC w (kX4_addProduct l D dA b0 ι N v69 (1 : Int32) v70 v71 h67 h73 eh73) (cwV 3 hts gX5_raise_X4_addProduct rfl rfl rfl (by decide +kernel) ⟨Nat.le_of_ble_eq_true rfl, Nat.le_of_ble_eq_true rfl⟩) eu74 rfl rfl hl.1 rfl (Nat.le_of_ble_eq_true rfl) dX5_raise_63 ⟨Nat.le_of_ble_eq_true rfl, Nat.le_of_ble_eq_true rfl⟩ (fun H locs w => ?_)
        refine lv_aload_n hx hb dX5_raise_66 rfl (lv_at hl 0 rfl) ?_
        obtain ⟨v75, ev75, hf⟩ := ob_s hf
        refine px_getR hx hb hts nX5_raise_X5 hown hK w ev75 rfl (by decide) mX5_raise_31 rfl dX5_raise_67 ?_
        refine lv_aload_n hx hb dX5_raise_70 rfl (lv_at hl 3 rfl) ?_
        refine lv_aload_n hx hb dX5_raise_71 rfl (lv_at hl 0 rfl) ?_
        obtain ⟨v76, ev76, hf⟩ := ob_s hf
        refine px_getR hx hb hts nX5_raise_X5 hown hK w ev76 rfl (by decide) mX5_raise_34 rfl dX5_raise_72 ?_
        obtain ⟨u79, eu79, hf⟩ := ob_s hf
        obtain ⟨h78, eh78, hf⟩ := ob_s hf
        refine px_callVv (As := [.ref (ι a3), .ref (ι v76)]) (rest := []) ⟨hx, hb, hml, hown, hts⟩ hC w (kX4_divideBy l D dA b0 ι N v75 a3 v76 h73 h78 eh78) (cwV 2 hts gX5_raise_X4_divideBy rfl rfl rfl (by decide +kernel) ⟨Nat.le_of_ble_eq_true rfl, Nat.le_of_ble_eq_true rfl⟩) eu79 rfl rfl hl.1 rfl (Nat.le_of_ble_eq_true rfl) dX5_raise_75 ⟨Nat.le_of_ble_eq_true rfl, Nat.le_of_ble_eq_true rfl⟩ (fun H locs w => ?_)
        refine lv_aload_n hx hb dX5_raise_78 rfl (lv_at hl 0 rfl) ?_
        obtain ⟨v80, ev80, hf⟩ := ob_s hf
        refine px_getR hx hb hts nX5_raise_X5 hown hK w ev80 rfl (by decide) mX5_raise_28 rfl dX5_raise_79 ?_
        obtain ⟨u83, eu83, hf⟩ := ob_s hf
        obtain ⟨h82, eh82, hf⟩ := ob_s hf
        refine px_callVv (As := []) (rest := []) ⟨hx, hb, hml, hown, hts⟩ hC w (kX4_clear l D dA b0 ι N v80 h78 h82 eh82) (cwV 0 hts gX5_raise_X4_clear rfl rfl rfl (by decide +kernel) ⟨Nat.le_of_ble_eq_true rfl, Nat.le_of_ble_eq_true rfl⟩) eu83 rfl rfl hl.1 rfl (Nat.le_of_ble_eq_true rfl) dX5_raise_82 ⟨Nat.le_of_ble_eq_true rfl, Nat.le_of_ble_eq_true rfl⟩ (fun H locs w => ?_)
        refine lv_iload_n hx hb dX5_raise_85 rfl (lv_at hl 2 rfl) ?_
        refine lv_iload hx hb dX5_raise_86 (lv_at hl 4 rfl) ?_
        refine lv_ishr hx hb dX5_raise_88 ?_
        refine lv_iconst (v := (1 : Int32)) hx hb dX5_raise_89 (by decide) ?_
        refine lv_iand hx hb dX5_raise_90 ?_
        refine lv_iconst (v := (1 : Int32)) hx hb dX5_raise_91 (by decide) ?_
        have hj137 : ∀ (h85 : Hp) (H : Heap) (locs : List Loc) (ls : Array Slot), (nm (z62 + (-1 : Int32)) fun x86 => lX5_raise_38 N a0 a1 a2 a3 n38 x86 h85 κ38) = some h' → lv_has ls 5 [(0, .ref (ι a0)), (1, .int a1), (2, .int a2), (3, .ref (ι a3)), (4, .int z62)] → WD D dA b0 ι h85 s.heap H locs → W p l e (headSpec wsX5_raise rmX5_raise).room s m ([.ref (ι a0), .int a1, .int a2, .ref (ι a3)] : List Value).toArray below meth c H locs 0 0 (MQ below (QV D dA b0 ι h') ([.ref (ι a0), .int a1, .int a2, .ref (ι a3)] : List Value).toArray s 0 0 (qA b0)) (F0 m 137 ls []) := by
          intro h85 H locs ls hf hl w
          obtain ⟨x86, ex86, hf⟩ := nm_s hf
          refine lv_iinc (v := x86) (lv' := [(4, .int x86), (0, .ref (ι a0)), (1, .int a1), (2, .int a2), (3, .ref (ι a3))]) hx hb dX5_raise_137 hl (k := 4) rfl (by rw [ex86]; rfl) (by decide) rfl (fun ls hl => ?_)
          refine lv_goto (tgt := 38) hx hb dX5_raise_140 (by decide) ?_
          exact ih38 x86 h85 H locs ls hf (lv_sub hl [1, 2, 3, 4, 0] rfl) w
        obtain ⟨j84, ej84, hf⟩ := jn_s hf
        refine lv_icmp_ne (tgt := 126) hx hb dX5_raise_92 (by decide) (fun c87 => ?_) (fun c87 => ?_)
        · have hf := if_f hf c87
          refine lv_aload_n hx hb dX5_raise_126 rfl (lv_at hl 0 rfl) ?_
          obtain ⟨v88, ev88, hf⟩ := ob_s hf
          refine px_getR hx hb hts nX5_raise_X5 hown hK w ev88 rfl (by decide) mX5_raise_28 rfl dX5_raise_127 ?_
          refine lv_aload_n hx hb dX5_raise_130 rfl (lv_at hl 0 rfl) ?_
          obtain ⟨v89, ev89, hf⟩ := ob_s hf
          refine px_getR hx hb hts nX5_raise_X5 hown hK w ev89 rfl (by decide) mX5_raise_31 rfl dX5_raise_131 ?_
          obtain ⟨u92, eu92, hf⟩ := ob_s hf
          obtain ⟨h91, eh91, hf⟩ := ob_s hf
          refine px_callVv (As := [.ref (ι v89)]) (rest := []) ⟨hx, hb, hml, hown, hts⟩ hC w (kX4_copyFrom l D dA b0 ι N v88 v89 h82 h91 eh91) (cwV 1 hts gX5_raise_X4_copyFrom rfl rfl rfl (by decide +kernel) ⟨Nat.le_of_ble_eq_true rfl, Nat.le_of_ble_eq_true rfl⟩) eu92 rfl rfl hl.1 rfl (Nat.le_of_ble_eq_true rfl) dX5_raise_134 ⟨Nat.le_of_ble_eq_true rfl, Nat.le_of_ble_eq_true rfl⟩ (fun H locs w => ?_)
          exact hj137 h91 H locs ls (by rw [ej84] at hf; exact hf) (lv_sub hl [0, 1, 2, 3, 4] rfl) w
        · have hf := if_t hf c87
          refine lv_aload_n hx hb dX5_raise_95 rfl (lv_at hl 0 rfl) ?_
          obtain ⟨v93, ev93, hf⟩ := ob_s hf
          refine px_getR hx hb hts nX5_raise_X5 hown hK w ev93 rfl (by decide) mX5_raise_28 rfl dX5_raise_96 ?_
          refine lv_iconst (v := (1 : Int32)) hx hb dX5_raise_99 (by decide) ?_
          refine lv_aload_n hx hb dX5_raise_100 rfl (lv_at hl 0 rfl) ?_
          obtain ⟨v94, ev94, hf⟩ := ob_s hf
          refine px_getR hx hb hts nX5_raise_X5 hown hK w ev94 rfl (by decide) mX5_raise_31 rfl dX5_raise_101 ?_
          refine lv_aload_n hx hb dX5_raise_104 rfl (lv_at hl 0 rfl) ?_
          obtain ⟨v95, ev95, hf⟩ := ob_s hf
          refine px_getR hx hb hts nX5_raise_X5 hown hK w ev95 rfl (by decide) mX5_raise_24 rfl dX5_raise_105 ?_
          obtain ⟨u98, eu98, hf⟩ := ob_s hf
          obtain ⟨h97, eh97, hf⟩ := ob_s hf
          refine px_callVv (As := [.int (1 : Int32), .ref (ι v94), .ref (ι v95)]) (rest := []) ⟨hx, hb, hml, hown, hts⟩ hC w (kX4_addProduct l D dA b0 ι N v93 (1 : Int32) v94 v95 h82 h97 eh97) (cwV 3 hts gX5_raise_X4_addProduct rfl rfl rfl (by decide +kernel) ⟨Nat.le_of_ble_eq_true rfl, Nat.le_of_ble_eq_true rfl⟩) eu98 rfl rfl hl.1 rfl (Nat.le_of_ble_eq_true rfl) dX5_raise_108 ⟨Nat.le_of_ble_eq_true rfl, Nat.le_of_ble_eq_true rfl⟩ (fun H locs w => ?_)
          refine lv_aload_n hx hb dX5_raise_111 rfl (lv_at hl 0 rfl) ?_
          obtain ⟨v99, ev99, hf⟩ := ob_s hf
          refine px_getR hx hb hts nX5_raise_X5 hown hK w ev99 rfl (by decide) mX5_raise_28 rfl dX5_raise_112 ?_
          refine lv_aload_n hx hb dX5_raise_115 rfl (lv_at hl 3 rfl) ?_
          refine lv_aload_n hx hb dX5_raise_116 rfl (lv_at hl 0 rfl) ?_
          obtain ⟨v100, ev100, hf⟩ := ob_s hf
          refine px_getR hx hb hts nX5_raise_X5 hown hK w ev100 rfl (by decide) mX5_raise_34 rfl dX5_raise_117 ?_
          obtain ⟨u103, eu103, hf⟩ := ob_s hf
          obtain ⟨h102, eh102, hf⟩ := ob_s hf
          refine px_callVv (As := [.ref (ι a3), .ref (ι v100)]) (rest := []) ⟨hx, hb, hml, hown, hts⟩ hC w (kX4_divideBy l D dA b0 ι N v99 a3 v100 h97 h102 eh102) (cwV 2 hts gX5_raise_X4_divideBy rfl rfl rfl (by decide +kernel) ⟨Nat.le_of_ble_eq_true rfl, Nat.le_of_ble_eq_true rfl⟩) eu103 rfl rfl hl.1 rfl (Nat.le_of_ble_eq_true rfl) dX5_raise_120 ⟨Nat.le_of_ble_eq_true rfl, Nat.le_of_ble_eq_true rfl⟩ (fun H locs w => ?_)
          refine lv_goto (tgt := 137) hx hb dX5_raise_123 (by decide) ?_
          exact hj137 h102 H locs ls (by rw [ej84] at hf; exact hf) (lv_sub hl [0, 1, 2, 3, 4] rfl) w
  exact hlp38 N (14 : Int32) h15 H locs ls (by rw [eκ38]; exact hf) (lv_sub hl [1, 2, 3, 4, 0] rfl) w
theorem nX5_split_X5 : ∀ w ∈ wsX50, w ∈ wsX5_split := by decide +kernel
theorem mX5_split_28 : Cond.fieldLink RX5 28 "NormalForms$Roots" "power" "LNormalForms$Polynomial;" ∈ wsX5_split := by decide +kernel
theorem mX5_split_40 : Cond.fieldLink RX5 40 "NormalForms$Roots" "divider" "LNormalForms$Divider;" ∈ wsX5_split := by decide +kernel
theorem nX5_split_X4 : ∀ w ∈ wsX40, w ∈ wsX5_split := by decide +kernel
theorem mX5_split_48 : Cond.fieldLink RX5 48 "NormalForms$Roots" "partCount" "I" ∈ wsX5_split := by decide +kernel
theorem mX5_split_17 : Cond.fieldLink RX5 17 "NormalForms$Roots" "parts" "[LNormalForms$Polynomial;" ∈ wsX5_split := by decide +kernel
abbrev rmX5_split : Room := { frames := 4, cells := 0, slots := 0, locals := 89 }
set_option maxHeartbeats 4000000 in
set_option maxRecDepth 100000 in
theorem kX5_split (l : Launch) (D : va_G) (dA : Nat → ClassId) (b0 : Nat) (ι : Nat → Nat) (N : Nat) (a0 : Nat) (a1 : Nat) (a2 : Int32) (h : Hp) (h' : Hp) (hf : fX5_split N a0 a1 a2 h = some h') : Met l yX5_split wsX5_split rmX5_split (PC D dA b0 ι [.ref (ι a0), .ref (ι a1), .int a2] h) (QV D dA b0 ι h') 0 0 (qA b0) := by
  unfold fX5_split at hf
  refine Met.ofW (cc := cX5_split) (maxL := 3) (ret := none) (by decide +kernel) rfl ?_
  intro p e s m args below meth c s₁ B hml hv
  obtain ⟨rfl, w0⟩ := hv
  have hx := B.exec
  have hb := B.bytes
  have hr := B.returns
  have hts := atoms_spec (ws := wsX5_split) B.pre
  have hown : s.vm.findClass RX5 = some m.cls := findClass_of_methodNamed B.named
  have hlocks := B.notSynchronized
  have hC := w0.c
  have hK := hC.1
  have w := WD.start w0
  clear w0
  have hl := lv_entry ([.ref (ι a0), .ref (ι a1), .int a2]) (n := 3) (Nat.le_of_ble_eq_true rfl)
  rw [lg_entry_eq]
  generalize (lg_sl ([.ref (ι a0), .ref (ι a1), .int a2]) ++ List.replicate (3 - (lg_sl ([.ref (ι a0), .ref (ι a1), .int a2])).length) Slot.unset).toArray = ls at hl ⊢
  have hl : lv_has ls 3 [(0, .ref (ι a0)), (1, .ref (ι a1)), (2, .int a2)] := hl
  obtain ⟨H, hH⟩ : ∃ H : Heap, H = s.heap := ⟨_, rfl⟩
  obtain ⟨locs, hlo⟩ : ∃ locs : List Loc, locs = [] := ⟨_, rfl⟩
  rw [← hlo]
  have w : WD D dA b0 ι h s.heap H locs := by rw [hH, hlo]; exact w
  refine px_start hH ?_
  refine lv_aload_n hx hb dX5_split_0 rfl (lv_at hl 0 rfl) ?_
  refine lv_iload_n hx hb dX5_split_1 rfl (lv_at hl 2 rfl) ?_
  refine lv_sipush (v := (16001 : Int32)) hx hb dX5_split_2 (by decide) ?_
  refine lv_aload_n hx hb dX5_split_5 rfl (lv_at hl 1 rfl) ?_
  obtain ⟨u3, eu3, hf⟩ := ob_s hf
  obtain ⟨h2, eh2, hf⟩ := ob_s hf
  refine px_callVv (As := [.int a2, .int (16001 : Int32), .ref (ι a1)]) (rest := []) ⟨hx, hb, hml, hown, hts⟩ hC w (kX5_raise l D dA b0 ι N a0 a2 (16001 : Int32) a1 h h2 eh2) (cwV 3 hts gX5_split_X5_raise rfl rfl rfl (by decide +kernel) ⟨Nat.le_of_ble_eq_true rfl, Nat.le_of_ble_eq_true rfl⟩) eu3 rfl rfl hl.1 rfl (Nat.le_of_ble_eq_true rfl) dX5_split_6 ⟨Nat.le_of_ble_eq_true rfl, Nat.le_of_ble_eq_true rfl⟩ (fun H locs w => ?_)
  refine lv_aload_n hx hb dX5_split_9 rfl (lv_at hl 0 rfl) ?_
  obtain ⟨v4, ev4, hf⟩ := ob_s hf
  refine px_getR hx hb hts nX5_split_X5 hown hK w ev4 rfl (by decide) mX5_split_28 rfl dX5_split_10 ?_
  refine lv_iconst (v := (0 : Int32)) hx hb dX5_split_13 (by decide) ?_
  refine lv_aload_n hx hb dX5_split_14 rfl (lv_at hl 0 rfl) ?_
  obtain ⟨v5, ev5, hf⟩ := ob_s hf
  refine px_getR hx hb hts nX5_split_X5 hown hK w ev5 rfl (by decide) mX5_split_28 rfl dX5_split_15 ?_
  refine lv_iconst (v := (0 : Int32)) hx hb dX5_split_18 (by decide) ?_
  obtain ⟨u8, eu8, hf⟩ := ob_s hf
  obtain ⟨⟨v6, h7⟩, eh7, hf⟩ := ob_s hf
  dsimp only at hf
  refine px_callVi (As := [.int (0 : Int32)]) (rest := [.int (0 : Int32), .ref (ι v4)]) ⟨hx, hb, hml, hown, hts⟩ hC w (kX4_numberAt l D dA b0 ι N v5 (0 : Int32) h2 v6 h7 eh7) (cwV 1 hts gX5_split_X4_numberAt rfl rfl rfl (by decide +kernel) ⟨Nat.le_of_ble_eq_true rfl, Nat.le_of_ble_eq_true rfl⟩) eu8 rfl rfl hl.1 rfl (Nat.le_of_ble_eq_true rfl) dX5_split_19 ⟨Nat.le_of_ble_eq_true rfl, Nat.le_of_ble_eq_true rfl⟩ (fun H locs w => ?_)
  refine lv_iconst (v := (1 : Int32)) hx hb dX5_split_22 (by decide) ?_
  refine lv_isub hx hb dX5_split_23 ?_
  refine lv_sipush (v := (32003 : Int32)) hx hb dX5_split_24 (by decide) ?_
  obtain ⟨⟨v9, h10⟩, eh10, hf⟩ := ob_s hf
  dsimp only at hf
  refine px_callSi (As := [.int (v6 - (1 : Int32)), .int (32003 : Int32)]) (rest := [.int (0 : Int32), .ref (ι v4)]) ⟨hx, hb, hml, hown, hts⟩ hC w (kJ9_floorMod_7cf53 l D dA b0 ι N (v6 - (1 : Int32)) (32003 : Int32) h7 v9 h10 eh10) (va_cwS 2 hts gX5_split_J9_floorMod_7cf53 rfl rfl rfl (by decide +kernel) ⟨Nat.le_of_ble_eq_true rfl, Nat.le_of_ble_eq_true rfl⟩) rfl hl.1 rfl (Nat.le_of_ble_eq_true rfl) dX5_split_27 ⟨Nat.le_of_ble_eq_true rfl, Nat.le_of_ble_eq_true rfl⟩ (fun H locs w => ?_)
  obtain ⟨u13, eu13, hf⟩ := ob_s hf
  obtain ⟨h12, eh12, hf⟩ := ob_s hf
  refine px_callVv (As := [.int (0 : Int32), .int v9]) (rest := []) ⟨hx, hb, hml, hown, hts⟩ hC w (kX4_setNumber l D dA b0 ι N v4 (0 : Int32) v9 h10 h12 eh12) (cwV 2 hts gX5_split_X4_setNumber rfl rfl rfl (by decide +kernel) ⟨Nat.le_of_ble_eq_true rfl, Nat.le_of_ble_eq_true rfl⟩) eu13 rfl rfl hl.1 rfl (Nat.le_of_ble_eq_true rfl) dX5_split_30 ⟨Nat.le_of_ble_eq_true rfl, Nat.le_of_ble_eq_true rfl⟩ (fun H locs w => ?_)
  refine lv_aload_n hx hb dX5_split_33 rfl (lv_at hl 0 rfl) ?_
  obtain ⟨v14, ev14, hf⟩ := ob_s hf
  refine px_getR hx hb hts nX5_split_X5 hown hK w ev14 rfl (by decide) mX5_split_40 rfl dX5_split_34 ?_
  refine lv_aload_n hx hb dX5_split_37 rfl (lv_at hl 0 rfl) ?_
  obtain ⟨v15, ev15, hf⟩ := ob_s hf
  refine px_getR hx hb hts nX5_split_X5 hown hK w ev15 rfl (by decide) mX5_split_28 rfl dX5_split_38 ?_
  refine lv_aload_n hx hb dX5_split_41 rfl (lv_at hl 1 rfl) ?_
  obtain ⟨u18, eu18, hf⟩ := ob_s hf
  obtain ⟨h17, eh17, hf⟩ := ob_s hf
  refine px_callVv (As := [.ref (ι v15), .ref (ι a1)]) (rest := []) ⟨hx, hb, hml, hown, hts⟩ hC w (kX0_shrinkToCommon l D dA b0 ι N v14 v15 a1 h12 h17 eh17) (cwV 2 hts gX5_split_X0_shrinkToCommon rfl rfl rfl (by decide +kernel) ⟨Nat.le_of_ble_eq_true rfl, Nat.le_of_ble_eq_true rfl⟩) eu18 rfl rfl hl.1 rfl (Nat.le_of_ble_eq_true rfl) dX5_split_42 ⟨Nat.le_of_ble_eq_true rfl, Nat.le_of_ble_eq_true rfl⟩ (fun H locs w => ?_)
  refine lv_aload_n hx hb dX5_split_45 rfl (lv_at hl 0 rfl) ?_
  obtain ⟨v19, ev19, hf⟩ := ob_s hf
  refine px_getR hx hb hts nX5_split_X5 hown hK w ev19 rfl (by decide) mX5_split_28 rfl dX5_split_46 ?_
  obtain ⟨v20, ev20, hf⟩ := ob_s hf
  refine px_getIN hx hb hts nX5_split_X4 hown hK w ev20 rfl (by decide) (hC.2.1 _ nest_9) rfl dX5_split_49 ?_
  have hj116 : ∀ (h22 : Hp) (H : Heap) (locs : List Loc) (ls : Array Slot), (some h22) = some h' → lv_has ls 3 [(0, .ref (ι a0)), (1, .ref (ι a1)), (2, .int a2)] → WD D dA b0 ι h22 s.heap H locs → W p l e (headSpec wsX5_split rmX5_split).room s m ([.ref (ι a0), .ref (ι a1), .int a2] : List Value).toArray below meth c H locs 0 0 (MQ below (QV D dA b0 ι h') ([.ref (ι a0), .ref (ι a1), .int a2] : List Value).toArray s 0 0 (qA b0)) (F0 m 116 ls []) := by
    intro h22 H locs ls hf hl w
    exact W.vret hx hb hr (qv_end hf w hC) w.locs_ok dX5_split_116
  obtain ⟨j21, ej21, hf⟩ := jn_s hf
  refine lv_if_le (tgt := 116) hx hb dX5_split_52 (by decide) (fun c23 => ?_) (fun c23 => ?_)
  · have hf := if_t hf c23
    exact hj116 h17 H locs ls (by rw [ej21] at hf; exact hf) (lv_sub hl [0, 1, 2] rfl) w
  · have hf := if_f hf c23
    refine lv_aload_n hx hb dX5_split_55 rfl (lv_at hl 0 rfl) ?_
    obtain ⟨v24, ev24, hf⟩ := ob_s hf
    refine px_getR hx hb hts nX5_split_X5 hown hK w ev24 rfl (by decide) mX5_split_28 rfl dX5_split_56 ?_
    obtain ⟨v25, ev25, hf⟩ := ob_s hf
    refine px_getIN hx hb hts nX5_split_X4 hown hK w ev25 rfl (by decide) (hC.2.1 _ nest_9) rfl dX5_split_59 ?_
    refine lv_aload_n hx hb dX5_split_62 rfl (lv_at hl 1 rfl) ?_
    obtain ⟨v26, ev26, hf⟩ := ob_s hf
    refine px_getIN hx hb hts nX5_split_X4 hown hK w ev26 rfl (by decide) (hC.2.1 _ nest_9) rfl dX5_split_63 ?_
    refine lv_icmp_ge (tgt := 116) hx hb dX5_split_66 (by decide) (fun c27 => ?_) (fun c27 => ?_)
    · have hf := if_t hf c27
      exact hj116 h17 H locs ls (by rw [ej21] at hf; exact hf) (lv_sub hl [0, 1, 2] rfl) w
    · have hf := if_f hf c27
      refine lv_aload_n hx hb dX5_split_69 rfl (lv_at hl 0 rfl) ?_
      obtain ⟨v28, ev28, hf⟩ := ob_s hf
      refine px_getI hx hb hts nX5_split_X5 hown hK w ev28 rfl (by decide) mX5_split_48 rfl dX5_split_70 ?_
      refine lv_iconst (v := (4 : Int32)) hx hb dX5_split_73 (by decide) ?_
      refine lv_icmp_ge (tgt := 116) hx hb dX5_split_74 (by decide) (fun c29 => ?_) (fun c29 => ?_)
      · have hf := if_t hf c29
        exact hj116 h17 H locs ls (by rw [ej21] at hf; exact hf) (lv_sub hl [0, 1, 2] rfl) w
      · have hf := if_f hf c29
        refine lv_aload_n hx hb dX5_split_77 rfl (lv_at hl 0 rfl) ?_
        obtain ⟨v30, ev30, hf⟩ := ob_s hf
        refine px_getR hx hb hts nX5_split_X5 hown hK w ev30 rfl (by decide) mX5_split_17 rfl dX5_split_78 ?_
        refine lv_aload_n hx hb dX5_split_81 rfl (lv_at hl 0 rfl) ?_
        obtain ⟨v31, ev31, hf⟩ := ob_s hf
        refine px_getI hx hb hts nX5_split_X5 hown hK w ev31 rfl (by decide) mX5_split_48 rfl dX5_split_82 ?_
        obtain ⟨v32, ev32, hf⟩ := ob_s hf
        refine px_rald hx hb hK w ev32 rfl dX5_split_85 ?_
        refine lv_aload_n hx hb dX5_split_86 rfl (lv_at hl 0 rfl) ?_
        obtain ⟨v33, ev33, hf⟩ := ob_s hf
        refine px_getR hx hb hts nX5_split_X5 hown hK w ev33 rfl (by decide) mX5_split_28 rfl dX5_split_87 ?_
        obtain ⟨u36, eu36, hf⟩ := ob_s hf
        obtain ⟨h35, eh35, hf⟩ := ob_s hf
        refine px_callVv (As := [.ref (ι v33)]) (rest := []) ⟨hx, hb, hml, hown, hts⟩ hC w (kX4_copyFrom l D dA b0 ι N v32 v33 h17 h35 eh35) (cwV 1 hts gX5_split_X4_copyFrom rfl rfl rfl (by decide +kernel) ⟨Nat.le_of_ble_eq_true rfl, Nat.le_of_ble_eq_true rfl⟩) eu36 rfl rfl hl.1 rfl (Nat.le_of_ble_eq_true rfl) dX5_split_90 ⟨Nat.le_of_ble_eq_true rfl, Nat.le_of_ble_eq_true rfl⟩ (fun H locs w => ?_)
        refine lv_aload_n hx hb dX5_split_93 rfl (lv_at hl 0 rfl) ?_
        refine lv_dup hx hb dX5_split_94 rfl ?_
        obtain ⟨v37, ev37, hf⟩ := ob_s hf
        refine px_getI hx hb hts nX5_split_X5 hown hK w ev37 rfl (by decide) mX5_split_48 rfl dX5_split_95 ?_
        refine lv_iconst (v := (1 : Int32)) hx hb dX5_split_98 (by decide) ?_
        refine lv_iadd hx hb dX5_split_99 ?_
        obtain ⟨h38, eh38, hf⟩ := ob_s hf
        refine px_put hx hb hts nX5_split_X5 tyX5 tyX5_ok nmX5 hown hK w eh38 rfl (by decide) mX5_split_48 rfl rfl rfl rfl dX5_split_100 rfl (fun H locs w => ?_)
        refine lv_aload_n hx hb dX5_split_103 rfl (lv_at hl 0 rfl) ?_
        obtain ⟨v39, ev39, hf⟩ := ob_s hf
        refine px_getR hx hb hts nX5_split_X5 hown hK w ev39 rfl (by decide) mX5_split_40 rfl dX5_split_104 ?_
        refine lv_aload_n hx hb dX5_split_107 rfl (lv_at hl 1 rfl) ?_
        refine lv_aload_n hx hb dX5_split_108 rfl (lv_at hl 1 rfl) ?_
        refine lv_aload_n hx hb dX5_split_109 rfl (lv_at hl 0 rfl) ?_
        obtain ⟨v40, ev40, hf⟩ := ob_s hf
        refine px_getR hx hb hts nX5_split_X5 hown hK w ev40 rfl (by decide) mX5_split_28 rfl dX5_split_110 ?_
        obtain ⟨u43, eu43, hf⟩ := ob_s hf
        obtain ⟨h42, eh42, hf⟩ := ob_s hf
        refine px_callVv (As := [.ref (ι a1), .ref (ι a1), .ref (ι v40)]) (rest := []) ⟨hx, hb, hml, hown, hts⟩ hC w (kX0_writeQuotient l D dA b0 ι N v39 a1 a1 v40 h38 h42 eh42) (cwV 3 hts gX5_split_X0_writeQuotient rfl rfl rfl (by decide +kernel) ⟨Nat.le_of_ble_eq_true rfl, Nat.le_of_ble_eq_true rfl⟩) eu43 rfl rfl hl.1 rfl (Nat.le_of_ble_eq_true rfl) dX5_split_113 ⟨Nat.le_of_ble_eq_true rfl, Nat.le_of_ble_eq_true rfl⟩ (fun H locs w => ?_)
        exact hj116 h42 H locs ls (by rw [ej21] at hf; exact hf) (lv_sub hl [0, 1, 2] rfl) w
theorem nX5_insert_X5 : ∀ w ∈ wsX50, w ∈ wsX5_insert := by decide +kernel
theorem mX5_insert_44 : Cond.fieldLink RX5 44 "NormalForms$Roots" "found" "I" ∈ wsX5_insert := by decide +kernel
theorem mX5_insert_9 : Cond.fieldLink RX5 9 "NormalForms$Roots" "values" "[I" ∈ wsX5_insert := by decide +kernel
abbrev rmX5_insert : Room := { frames := 1, cells := 0, slots := 0, locals := 12 }
set_option maxHeartbeats 4000000 in
set_option maxRecDepth 100000 in
theorem kX5_insert (l : Launch) (D : va_G) (dA : Nat → ClassId) (b0 : Nat) (ι : Nat → Nat) (N : Nat) (a0 : Nat) (a1 : Int32) (h : Hp) (h' : Hp) (hf : fX5_insert N a0 a1 h = some h') : Met l yX5_insert wsX5_insert rmX5_insert (PC D dA b0 ι [.ref (ι a0), .int a1] h) (QV D dA b0 ι h') 0 0 (qA b0) := by
  unfold fX5_insert at hf
  refine Met.ofW (cc := cX5_insert) (maxL := 3) (ret := none) (by decide +kernel) rfl ?_
  intro p e s m args below meth c s₁ B hml hv
  obtain ⟨rfl, w0⟩ := hv
  have hx := B.exec
  have hb := B.bytes
  have hr := B.returns
  have hts := atoms_spec (ws := wsX5_insert) B.pre
  have hown : s.vm.findClass RX5 = some m.cls := findClass_of_methodNamed B.named
  have hlocks := B.notSynchronized
  have hC := w0.c
  have hK := hC.1
  have w := WD.start w0
  clear w0
  have hl := lv_entry ([.ref (ι a0), .int a1]) (n := 3) (Nat.le_of_ble_eq_true rfl)
  rw [lg_entry_eq]
  generalize (lg_sl ([.ref (ι a0), .int a1]) ++ List.replicate (3 - (lg_sl ([.ref (ι a0), .int a1])).length) Slot.unset).toArray = ls at hl ⊢
  have hl : lv_has ls 3 [(0, .ref (ι a0)), (1, .int a1)] := hl
  obtain ⟨H, hH⟩ : ∃ H : Heap, H = s.heap := ⟨_, rfl⟩
  obtain ⟨locs, hlo⟩ : ∃ locs : List Loc, locs = [] := ⟨_, rfl⟩
  rw [← hlo]
  have w : WD D dA b0 ι h s.heap H locs := by rw [hH, hlo]; exact w
  refine px_start hH ?_
  refine lv_aload_n hx hb dX5_insert_0 rfl (lv_at hl 0 rfl) ?_
  obtain ⟨v1, ev1, hf⟩ := ob_s hf
  refine px_getI hx hb hts nX5_insert_X5 hown hK w ev1 rfl (by decide) mX5_insert_44 rfl dX5_insert_1 ?_
  refine lv_iconst (v := (4 : Int32)) hx hb dX5_insert_4 (by decide) ?_
  refine lv_icmp_lt (tgt := 9) hx hb dX5_insert_5 (by decide) (fun c2 => ?_) (fun c2 => ?_)
  · have hf := if_t hf c2
    refine lv_aload_n hx hb dX5_insert_9 rfl (lv_at hl 0 rfl) ?_
    obtain ⟨v3, ev3, hf⟩ := ob_s hf
    refine px_getI hx hb hts nX5_insert_X5 hown hK w ev3 rfl (by decide) mX5_insert_44 rfl dX5_insert_10 ?_
    refine lv_istore_n (lv' := [(2, .int v3), (0, .ref (ι a0)), (1, .int a1)]) hx hb dX5_insert_13 rfl hl (by decide) rfl (fun ls hl => ?_)
    have hx14 : ∀ (y4 : Int32) (h5 : Hp) (H : Heap) (locs : List Loc) (ls : Array Slot), ((gR h5 a0 7 0).bind fun v6 => (aIs h5 v6 y4 a1).bind fun h7 => (gI h7 a0 7 1).bind fun v8 => (pV h7 a0 7 1 (.int (v8 + (1 : Int32)))).bind fun h9 => some h9) = some h' → lv_has ls 3 [(0, .ref (ι a0)), (1, .int a1), (2, .int y4)] → WD D dA b0 ι h5 s.heap H locs → W p l e (headSpec wsX5_insert rmX5_insert).room s m ([.ref (ι a0), .int a1] : List Value).toArray below meth c H locs 0 0 (MQ below (QV D dA b0 ι h') ([.ref (ι a0), .int a1] : List Value).toArray s 0 0 (qA b0)) (F0 m 50 ls []) := by
      intro y4 h5 H locs ls hf hl w
      refine lv_aload_n hx hb dX5_insert_50 rfl (lv_at hl 0 rfl) ?_
      obtain ⟨v6, ev6, hf⟩ := ob_s hf
      refine px_getR hx hb hts nX5_insert_X5 hown hK w ev6 rfl (by decide) mX5_insert_9 rfl dX5_insert_51 ?_
      refine lv_iload_n hx hb dX5_insert_54 rfl (lv_at hl 2 rfl) ?_
      refine lv_iload_n hx hb dX5_insert_55 rfl (lv_at hl 1 rfl) ?_
      obtain ⟨h7, eh7, hf⟩ := ob_s hf
      refine px_iast hx hb hK w eh7 dX5_insert_56 (fun H locs w => ?_)
      refine lv_aload_n hx hb dX5_insert_57 rfl (lv_at hl 0 rfl) ?_
      refine lv_dup hx hb dX5_insert_58 rfl ?_
      obtain ⟨v8, ev8, hf⟩ := ob_s hf
      refine px_getI hx hb hts nX5_insert_X5 hown hK w ev8 rfl (by decide) mX5_insert_44 rfl dX5_insert_59 ?_
      refine lv_iconst (v := (1 : Int32)) hx hb dX5_insert_62 (by decide) ?_
      refine lv_iadd hx hb dX5_insert_63 ?_
      obtain ⟨h9, eh9, hf⟩ := ob_s hf
      refine px_put hx hb hts nX5_insert_X5 tyX5 tyX5_ok nmX5 hown hK w eh9 rfl (by decide) mX5_insert_44 rfl rfl rfl rfl dX5_insert_64 rfl (fun H locs w => ?_)
      exact W.vret hx hb hr (qv_end hf w hC) w.locs_ok dX5_insert_67
    obtain ⟨κ14, eκ14⟩ : ∃ k : Int32 → Hp → Option Hp, k = (fun y4 h5 => (gR h5 a0 7 0).bind fun v6 => (aIs h5 v6 y4 a1).bind fun h7 => (gI h7 a0 7 1).bind fun v8 => (pV h7 a0 7 1 (.int (v8 + (1 : Int32)))).bind fun h9 => some h9) := ⟨_, rfl⟩
    have hlp14 : ∀ (n : Nat) (z22 : Int32) (h23 : Hp) (H : Heap) (locs : List Loc) (ls : Array Slot), lX5_insert_14 N a0 a1 n z22 h23 κ14 = some h' → lv_has ls 3 [(0, .ref (ι a0)), (1, .int a1), (2, .int z22)] → WD D dA b0 ι h23 s.heap H locs → W p l e (headSpec wsX5_insert rmX5_insert).room s m ([.ref (ι a0), .int a1] : List Value).toArray below meth c H locs 0 0 (MQ below (QV D dA b0 ι h') ([.ref (ι a0), .int a1] : List Value).toArray s 0 0 (qA b0)) (F0 m 14 ls []) := by
      intro n14
      induction n14 with
      | zero => intro z22 h23 H locs ls hf; exact absurd hf (by rw [lX5_insert_14]; exact fun q => nomatch q)
      | succ n14 ih14 =>
        intro z22 h23 H locs ls hf hl w
        rw [lX5_insert_14] at hf
        refine lv_iload_n hx hb dX5_insert_14 rfl (lv_at hl 2 rfl) ?_
        refine lv_if_le (tgt := 50) hx hb dX5_insert_15 (by decide) (fun c24 => ?_) (fun c24 => ?_)
        · have hf := if_t hf c24
          exact hx14 z22 h23 H locs ls (by rw [eκ14] at hf; exact hf) (lv_sub hl [0, 1, 2] rfl) w
        · have hf := if_f hf c24
          refine lv_aload_n hx hb dX5_insert_18 rfl (lv_at hl 0 rfl) ?_
          obtain ⟨v25, ev25, hf⟩ := ob_s hf
          refine px_getR hx hb hts nX5_insert_X5 hown hK w ev25 rfl (by decide) mX5_insert_9 rfl dX5_insert_19 ?_
          refine lv_iload_n hx hb dX5_insert_22 rfl (lv_at hl 2 rfl) ?_
          refine lv_iconst (v := (1 : Int32)) hx hb dX5_insert_23 (by decide) ?_
          refine lv_isub hx hb dX5_insert_24 ?_
          obtain ⟨v26, ev26, hf⟩ := ob_s hf
          refine px_iald hx hb hK w ev26 dX5_insert_25 ?_
          refine lv_iload_n hx hb dX5_insert_26 rfl (lv_at hl 1 rfl) ?_
          refine lv_icmp_le (tgt := 50) hx hb dX5_insert_27 (by decide) (fun c27 => ?_) (fun c27 => ?_)
          · have hf := if_t hf c27
            exact hx14 z22 h23 H locs ls (by rw [eκ14] at hf; exact hf) (lv_sub hl [0, 1, 2] rfl) w
          · have hf := if_f hf c27
            refine lv_aload_n hx hb dX5_insert_30 rfl (lv_at hl 0 rfl) ?_
            obtain ⟨v28, ev28, hf⟩ := ob_s hf
            refine px_getR hx hb hts nX5_insert_X5 hown hK w ev28 rfl (by decide) mX5_insert_9 rfl dX5_insert_31 ?_
            refine lv_iload_n hx hb dX5_insert_34 rfl (lv_at hl 2 rfl) ?_
            refine lv_aload_n hx hb dX5_insert_35 rfl (lv_at hl 0 rfl) ?_
            obtain ⟨v29, ev29, hf⟩ := ob_s hf
            refine px_getR hx hb hts nX5_insert_X5 hown hK w ev29 rfl (by decide) mX5_insert_9 rfl dX5_insert_36 ?_
            refine lv_iload_n hx hb dX5_insert_39 rfl (lv_at hl 2 rfl) ?_
            refine lv_iconst (v := (1 : Int32)) hx hb dX5_insert_40 (by decide) ?_
            refine lv_isub hx hb dX5_insert_41 ?_
            obtain ⟨v30, ev30, hf⟩ := ob_s hf
            refine px_iald hx hb hK w ev30 dX5_insert_42 ?_
            obtain ⟨h31, eh31, hf⟩ := ob_s hf
            refine px_iast hx hb hK w eh31 dX5_insert_43 (fun H locs w => ?_)
            obtain ⟨x32, ex32, hf⟩ := nm_s hf
            refine lv_iinc (v := x32) (lv' := [(2, .int x32), (0, .ref (ι a0)), (1, .int a1)]) hx hb dX5_insert_44 hl (k := 2) rfl (by rw [ex32]; rfl) (by decide) rfl (fun ls hl => ?_)
            refine lv_goto (tgt := 14) hx hb dX5_insert_47 (by decide) ?_
            exact ih14 x32 h31 H locs ls hf (lv_sub hl [1, 2, 0] rfl) w
    exact hlp14 N v3 h H locs ls (by rw [eκ14]; exact hf) (lv_sub hl [1, 2, 0] rfl) w
  · have hf := if_f hf c2
    exact W.vret hx hb hr (qv_end hf w hC) w.locs_ok dX5_insert_8
theorem nX5_reckon_X5 : ∀ w ∈ wsX50, w ∈ wsX5_reckon := by decide +kernel
theorem mX5_reckon_44 : Cond.fieldLink RX5 44 "NormalForms$Roots" "found" "I" ∈ wsX5_reckon := by decide +kernel
theorem mX5_reckon_48 : Cond.fieldLink RX5 48 "NormalForms$Roots" "partCount" "I" ∈ wsX5_reckon := by decide +kernel
theorem nX5_reckon_X4 : ∀ w ∈ wsX40, w ∈ wsX5_reckon := by decide +kernel
theorem mX5_reckon_28 : Cond.fieldLink RX5 28 "NormalForms$Roots" "power" "LNormalForms$Polynomial;" ∈ wsX5_reckon := by decide +kernel
theorem mX5_reckon_17 : Cond.fieldLink RX5 17 "NormalForms$Roots" "parts" "[LNormalForms$Polynomial;" ∈ wsX5_reckon := by decide +kernel
theorem mX5_reckon_40 : Cond.fieldLink RX5 40 "NormalForms$Roots" "divider" "LNormalForms$Divider;" ∈ wsX5_reckon := by decide +kernel
theorem mX5_reckon_ini : Cond.initialized RX7 ∈ wsX5_reckon := by decide +kernel
theorem mX5_reckon_st_X7_negative : Cond.static yX7_negative ∈ wsX5_reckon := by decide +kernel
abbrev rmX5_reckon : Room := { frames := 5, cells := 0, slots := 0, locals := 111 }
set_option maxHeartbeats 4000000 in
set_option maxRecDepth 100000 in
theorem kX5_reckon (l : Launch) (D : va_G) (dA : Nat → ClassId) (b0 : Nat) (ι : Nat → Nat) (N : Nat) (a0 : Nat) (a1 : Nat) (h : Hp) (h' : Hp) (hf : fX5_reckon N a0 a1 h = some h') : Met l yX5_reckon wsX5_reckon rmX5_reckon (PC D dA b0 ι [.ref (ι a0), .ref (ι a1)] h) (QV D dA b0 ι h') 0 0 (qA b0) := by
  unfold fX5_reckon at hf
  refine Met.ofW (cc := cX5_reckon) (maxL := 5) (ret := none) (by decide +kernel) rfl ?_
  intro p e s m args below meth c s₁ B hml hv
  obtain ⟨rfl, w0⟩ := hv
  have hx := B.exec
  have hb := B.bytes
  have hr := B.returns
  have hts := atoms_spec (ws := wsX5_reckon) B.pre
  have hown : s.vm.findClass RX5 = some m.cls := findClass_of_methodNamed B.named
  have hlocks := B.notSynchronized
  have hC := w0.c
  have hK := hC.1
  have w := WD.start w0
  clear w0
  have hl := lv_entry ([.ref (ι a0), .ref (ι a1)]) (n := 5) (Nat.le_of_ble_eq_true rfl)
  rw [lg_entry_eq]
  generalize (lg_sl ([.ref (ι a0), .ref (ι a1)]) ++ List.replicate (5 - (lg_sl ([.ref (ι a0), .ref (ι a1)])).length) Slot.unset).toArray = ls at hl ⊢
  have hl : lv_has ls 5 [(0, .ref (ι a0)), (1, .ref (ι a1))] := hl
  obtain ⟨H, hH⟩ : ∃ H : Heap, H = s.heap := ⟨_, rfl⟩
  obtain ⟨locs, hlo⟩ : ∃ locs : List Loc, locs = [] := ⟨_, rfl⟩
  rw [← hlo]
  have w : WD D dA b0 ι h s.heap H locs := by rw [hH, hlo]; exact w
  refine px_start hH ?_
  refine lv_aload_n hx hb dX5_reckon_0 rfl (lv_at hl 0 rfl) ?_
  refine lv_iconst (v := (0 : Int32)) hx hb dX5_reckon_1 (by decide) ?_
  obtain ⟨h1, eh1, hf⟩ := ob_s hf
  refine px_put hx hb hts nX5_reckon_X5 tyX5 tyX5_ok nmX5 hown hK w eh1 rfl (by decide) mX5_reckon_44 rfl rfl rfl rfl dX5_reckon_2 rfl (fun H locs w => ?_)
  refine lv_aload_n hx hb dX5_reckon_5 rfl (lv_at hl 0 rfl) ?_
  refine lv_iconst (v := (0 : Int32)) hx hb dX5_reckon_6 (by decide) ?_
  obtain ⟨h2, eh2, hf⟩ := ob_s hf
  refine px_put hx hb hts nX5_reckon_X5 tyX5 tyX5_ok nmX5 hown hK w eh2 rfl (by decide) mX5_reckon_48 rfl rfl rfl rfl dX5_reckon_7 rfl (fun H locs w => ?_)
  refine lv_aload_n hx hb dX5_reckon_10 rfl (lv_at hl 1 rfl) ?_
  obtain ⟨v3, ev3, hf⟩ := ob_s hf
  refine px_getIN hx hb hts nX5_reckon_X4 hown hK w ev3 rfl (by decide) (hC.2.1 _ nest_9) rfl dX5_reckon_11 ?_
  refine lv_iconst (v := (1 : Int32)) hx hb dX5_reckon_14 (by decide) ?_
  refine lv_icmp_ge (tgt := 19) hx hb dX5_reckon_15 (by decide) (fun c4 => ?_) (fun c4 => ?_)
  · have hf := if_t hf c4
    refine lv_aload_n hx hb dX5_reckon_19 rfl (lv_at hl 0 rfl) ?_
    refine lv_iconst (v := (0 : Int32)) hx hb dX5_reckon_20 (by decide) ?_
    refine lv_sipush (v := (32003 : Int32)) hx hb dX5_reckon_21 (by decide) ?_
    refine lv_aload_n hx hb dX5_reckon_24 rfl (lv_at hl 1 rfl) ?_
    obtain ⟨u7, eu7, hf⟩ := ob_s hf
    obtain ⟨h6, eh6, hf⟩ := ob_s hf
    refine px_callVv (As := [.int (0 : Int32), .int (32003 : Int32), .ref (ι a1)]) (rest := []) ⟨hx, hb, hml, hown, hts⟩ hC w (kX5_raise l D dA b0 ι N a0 (0 : Int32) (32003 : Int32) a1 h2 h6 eh6) (cwV 3 hts gX5_reckon_X5_raise rfl rfl rfl (by decide +kernel) ⟨Nat.le_of_ble_eq_true rfl, Nat.le_of_ble_eq_true rfl⟩) eu7 rfl rfl hl.1 rfl (Nat.le_of_ble_eq_true rfl) dX5_reckon_25 ⟨Nat.le_of_ble_eq_true rfl, Nat.le_of_ble_eq_true rfl⟩ (fun H locs w => ?_)
    refine lv_aload_n hx hb dX5_reckon_28 rfl (lv_at hl 0 rfl) ?_
    obtain ⟨v8, ev8, hf⟩ := ob_s hf
    refine px_getR hx hb hts nX5_reckon_X5 hown hK w ev8 rfl (by decide) mX5_reckon_28 rfl dX5_reckon_29 ?_
    refine lv_iconst (v := (1 : Int32)) hx hb dX5_reckon_32 (by decide) ?_
    refine lv_aload_n hx hb dX5_reckon_33 rfl (lv_at hl 0 rfl) ?_
    obtain ⟨v9, ev9, hf⟩ := ob_s hf
    refine px_getR hx hb hts nX5_reckon_X5 hown hK w ev9 rfl (by decide) mX5_reckon_28 rfl dX5_reckon_34 ?_
    refine lv_iconst (v := (1 : Int32)) hx hb dX5_reckon_37 (by decide) ?_
    obtain ⟨u12, eu12, hf⟩ := ob_s hf
    obtain ⟨⟨v10, h11⟩, eh11, hf⟩ := ob_s hf
    dsimp only at hf
    refine px_callVi (As := [.int (1 : Int32)]) (rest := [.int (1 : Int32), .ref (ι v8)]) ⟨hx, hb, hml, hown, hts⟩ hC w (kX4_numberAt l D dA b0 ι N v9 (1 : Int32) h6 v10 h11 eh11) (cwV 1 hts gX5_reckon_X4_numberAt rfl rfl rfl (by decide +kernel) ⟨Nat.le_of_ble_eq_true rfl, Nat.le_of_ble_eq_true rfl⟩) eu12 rfl rfl hl.1 rfl (Nat.le_of_ble_eq_true rfl) dX5_reckon_38 ⟨Nat.le_of_ble_eq_true rfl, Nat.le_of_ble_eq_true rfl⟩ (fun H locs w => ?_)
    refine lv_iconst (v := (1 : Int32)) hx hb dX5_reckon_41 (by decide) ?_
    refine lv_isub hx hb dX5_reckon_42 ?_
    refine lv_sipush (v := (32003 : Int32)) hx hb dX5_reckon_43 (by decide) ?_
    obtain ⟨⟨v13, h14⟩, eh14, hf⟩ := ob_s hf
    dsimp only at hf
    refine px_callSi (As := [.int (v10 - (1 : Int32)), .int (32003 : Int32)]) (rest := [.int (1 : Int32), .ref (ι v8)]) ⟨hx, hb, hml, hown, hts⟩ hC w (kJ9_floorMod_7cf53 l D dA b0 ι N (v10 - (1 : Int32)) (32003 : Int32) h11 v13 h14 eh14) (va_cwS 2 hts gX5_reckon_J9_floorMod_7cf53 rfl rfl rfl (by decide +kernel) ⟨Nat.le_of_ble_eq_true rfl, Nat.le_of_ble_eq_true rfl⟩) rfl hl.1 rfl (Nat.le_of_ble_eq_true rfl) dX5_reckon_46 ⟨Nat.le_of_ble_eq_true rfl, Nat.le_of_ble_eq_true rfl⟩ (fun H locs w => ?_)
    obtain ⟨u17, eu17, hf⟩ := ob_s hf
    obtain ⟨h16, eh16, hf⟩ := ob_s hf
    refine px_callVv (As := [.int (1 : Int32), .int v13]) (rest := []) ⟨hx, hb, hml, hown, hts⟩ hC w (kX4_setNumber l D dA b0 ι N v8 (1 : Int32) v13 h14 h16 eh16) (cwV 2 hts gX5_reckon_X4_setNumber rfl rfl rfl (by decide +kernel) ⟨Nat.le_of_ble_eq_true rfl, Nat.le_of_ble_eq_true rfl⟩) eu17 rfl rfl hl.1 rfl (Nat.le_of_ble_eq_true rfl) dX5_reckon_49 ⟨Nat.le_of_ble_eq_true rfl, Nat.le_of_ble_eq_true rfl⟩ (fun H locs w => ?_)
    refine lv_aload_n hx hb dX5_reckon_52 rfl (lv_at hl 0 rfl) ?_
    obtain ⟨v18, ev18, hf⟩ := ob_s hf
    refine px_getR hx hb hts nX5_reckon_X5 hown hK w ev18 rfl (by decide) mX5_reckon_17 rfl dX5_reckon_53 ?_
    refine lv_iconst (v := (0 : Int32)) hx hb dX5_reckon_56 (by decide) ?_
    obtain ⟨v19, ev19, hf⟩ := ob_s hf
    refine px_rald hx hb hK w ev19 rfl dX5_reckon_57 ?_
    refine lv_aload_n hx hb dX5_reckon_58 rfl (lv_at hl 1 rfl) ?_
    obtain ⟨u22, eu22, hf⟩ := ob_s hf
    obtain ⟨h21, eh21, hf⟩ := ob_s hf
    refine px_callVv (As := [.ref (ι a1)]) (rest := []) ⟨hx, hb, hml, hown, hts⟩ hC w (kX4_copyFrom l D dA b0 ι N v19 a1 h16 h21 eh21) (cwV 1 hts gX5_reckon_X4_copyFrom rfl rfl rfl (by decide +kernel) ⟨Nat.le_of_ble_eq_true rfl, Nat.le_of_ble_eq_true rfl⟩) eu22 rfl rfl hl.1 rfl (Nat.le_of_ble_eq_true rfl) dX5_reckon_59 ⟨Nat.le_of_ble_eq_true rfl, Nat.le_of_ble_eq_true rfl⟩ (fun H locs w => ?_)
    refine lv_aload_n hx hb dX5_reckon_62 rfl (lv_at hl 0 rfl) ?_
    obtain ⟨v23, ev23, hf⟩ := ob_s hf
    refine px_getR hx hb hts nX5_reckon_X5 hown hK w ev23 rfl (by decide) mX5_reckon_40 rfl dX5_reckon_63 ?_
    refine lv_aload_n hx hb dX5_reckon_66 rfl (lv_at hl 0 rfl) ?_
    obtain ⟨v24, ev24, hf⟩ := ob_s hf
    refine px_getR hx hb hts nX5_reckon_X5 hown hK w ev24 rfl (by decide) mX5_reckon_17 rfl dX5_reckon_67 ?_
    refine lv_iconst (v := (0 : Int32)) hx hb dX5_reckon_70 (by decide) ?_
    obtain ⟨v25, ev25, hf⟩ := ob_s hf
    refine px_rald hx hb hK w ev25 rfl dX5_reckon_71 ?_
    refine lv_aload_n hx hb dX5_reckon_72 rfl (lv_at hl 0 rfl) ?_
    obtain ⟨v26, ev26, hf⟩ := ob_s hf
    refine px_getR hx hb hts nX5_reckon_X5 hown hK w ev26 rfl (by decide) mX5_reckon_28 rfl dX5_reckon_73 ?_
    obtain ⟨u29, eu29, hf⟩ := ob_s hf
    obtain ⟨h28, eh28, hf⟩ := ob_s hf
    refine px_callVv (As := [.ref (ι v25), .ref (ι v26)]) (rest := []) ⟨hx, hb, hml, hown, hts⟩ hC w (kX0_shrinkToCommon l D dA b0 ι N v23 v25 v26 h21 h28 eh28) (cwV 2 hts gX5_reckon_X0_shrinkToCommon rfl rfl rfl (by decide +kernel) ⟨Nat.le_of_ble_eq_true rfl, Nat.le_of_ble_eq_true rfl⟩) eu29 rfl rfl hl.1 rfl (Nat.le_of_ble_eq_true rfl) dX5_reckon_76 ⟨Nat.le_of_ble_eq_true rfl, Nat.le_of_ble_eq_true rfl⟩ (fun H locs w => ?_)
    refine lv_aload_n hx hb dX5_reckon_79 rfl (lv_at hl 0 rfl) ?_
    obtain ⟨v30, ev30, hf⟩ := ob_s hf
    refine px_getR hx hb hts nX5_reckon_X5 hown hK w ev30 rfl (by decide) mX5_reckon_17 rfl dX5_reckon_80 ?_
    refine lv_iconst (v := (0 : Int32)) hx hb dX5_reckon_83 (by decide) ?_
    obtain ⟨v31, ev31, hf⟩ := ob_s hf
    refine px_rald hx hb hK w ev31 rfl dX5_reckon_84 ?_
    obtain ⟨v32, ev32, hf⟩ := ob_s hf
    refine px_getIN hx hb hts nX5_reckon_X4 hown hK w ev32 rfl (by decide) (hC.2.1 _ nest_9) rfl dX5_reckon_85 ?_
    refine lv_istore_n (lv' := [(2, .int v32), (0, .ref (ι a0)), (1, .ref (ι a1))]) hx hb dX5_reckon_88 rfl hl (by decide) rfl (fun ls hl => ?_)
    refine lv_aload_n hx hb dX5_reckon_89 rfl (lv_at hl 1 rfl) ?_
    refine lv_iload_n hx hb dX5_reckon_90 rfl (lv_at hl 0 rfl) ?_
    have hj99 : ∀ (t35 : Int32) (h34 : Hp) (H : Heap) (locs : List Loc) (ls : Array Slot), ((pV h34 a0 7 3 (.int t35)).bind fun h36 => lX5_reckon_104 N a0 a1 v32 N (0 : Int32) h36 (fun y37 h38 => lX5_reckon_177 N a0 a1 v32 N (0 : Int32) h38 (fun y39 h40 => some h40))) = some h' → lv_has ls 5 [(0, .ref (ι a0)), (1, .ref (ι a1)), (2, .int v32)] → WD D dA b0 ι h34 s.heap H locs → W p l e (headSpec wsX5_reckon rmX5_reckon).room s m ([.ref (ι a0), .ref (ι a1)] : List Value).toArray below meth c H locs 0 0 (MQ below (QV D dA b0 ι h') ([.ref (ι a0), .ref (ι a1)] : List Value).toArray s 0 0 (qA b0)) (F0 m 99 ls [.int t35, .ref (ι a0)]) := by
      intro t35 h34 H locs ls hf hl w
      obtain ⟨h36, eh36, hf⟩ := ob_s hf
      refine px_put hx hb hts nX5_reckon_X5 tyX5 tyX5_ok nmX5 hown hK w eh36 rfl (by decide) mX5_reckon_48 rfl rfl rfl rfl dX5_reckon_99 rfl (fun H locs w => ?_)
      refine lv_iconst (v := (0 : Int32)) hx hb dX5_reckon_102 (by decide) ?_
      refine lv_istore_n (lv' := [(3, .int (0 : Int32)), (0, .ref (ι a0)), (1, .ref (ι a1)), (2, .int v32)]) hx hb dX5_reckon_103 rfl hl (by decide) rfl (fun ls hl => ?_)
      have hx104 : ∀ (y37 : Int32) (h38 : Hp) (H : Heap) (locs : List Loc) (ls : Array Slot), (lX5_reckon_177 N a0 a1 v32 N (0 : Int32) h38 (fun y39 h40 => some h40)) = some h' → lv_has ls 5 [(0, .ref (ι a0)), (1, .ref (ι a1)), (2, .int v32), (3, .int y37)] → WD D dA b0 ι h38 s.heap H locs → W p l e (headSpec wsX5_reckon rmX5_reckon).room s m ([.ref (ι a0), .ref (ι a1)] : List Value).toArray below meth c H locs 0 0 (MQ below (QV D dA b0 ι h') ([.ref (ι a0), .ref (ι a1)] : List Value).toArray s 0 0 (qA b0)) (F0 m 175 ls []) := by
        intro y37 h38 H locs ls hf hl w
        refine lv_iconst (v := (0 : Int32)) hx hb dX5_reckon_175 (by decide) ?_
        refine lv_istore_n (lv' := [(3, .int (0 : Int32)), (0, .ref (ι a0)), (1, .ref (ι a1)), (2, .int v32)]) hx hb dX5_reckon_176 rfl hl (by decide) rfl (fun ls hl => ?_)
        have hx177 : ∀ (y39 : Int32) (h40 : Hp) (H : Heap) (locs : List Loc) (ls : Array Slot), (some h40) = some h' → lv_has ls 5 [(0, .ref (ι a0)), (1, .ref (ι a1)), (2, .int v32), (3, .int y39)] → WD D dA b0 ι h40 s.heap H locs → W p l e (headSpec wsX5_reckon rmX5_reckon).room s m ([.ref (ι a0), .ref (ι a1)] : List Value).toArray below meth c H locs 0 0 (MQ below (QV D dA b0 ι h') ([.ref (ι a0), .ref (ι a1)] : List Value).toArray s 0 0 (qA b0)) (F0 m 208 ls []) := by
          intro y39 h40 H locs ls hf hl w
          exact W.vret hx hb hr (qv_end hf w hC) w.locs_ok dX5_reckon_208
        obtain ⟨κ177, eκ177⟩ : ∃ k : Int32 → Hp → Option Hp, k = (fun y39 h40 => some h40) := ⟨_, rfl⟩
        have hlp177 : ∀ (n : Nat) (z57 : Int32) (h58 : Hp) (H : Heap) (locs : List Loc) (ls : Array Slot), lX5_reckon_177 N a0 a1 v32 n z57 h58 κ177 = some h' → lv_has ls 5 [(0, .ref (ι a0)), (1, .ref (ι a1)), (2, .int v32), (3, .int z57)] → WD D dA b0 ι h58 s.heap H locs → W p l e (headSpec wsX5_reckon rmX5_reckon).room s m ([.ref (ι a0), .ref (ι a1)] : List Value).toArray below meth c H locs 0 0 (MQ below (QV D dA b0 ι h') ([.ref (ι a0), .ref (ι a1)] : List Value).toArray s 0 0 (qA b0)) (F0 m 177 ls []) := by
          intro n177
          induction n177 with
          | zero => intro z57 h58 H locs ls hf; exact absurd hf (by rw [lX5_reckon_177]; exact fun q => nomatch q)
          | succ n177 ih177 =>
            intro z57 h58 H locs ls hf hl w
            rw [lX5_reckon_177] at hf
            refine lv_iload_n hx hb dX5_reckon_177 rfl (lv_at hl 3 rfl) ?_
            refine lv_aload_n hx hb dX5_reckon_178 rfl (lv_at hl 0 rfl) ?_
            obtain ⟨v59, ev59, hf⟩ := ob_s hf
            refine px_getI hx hb hts nX5_reckon_X5 hown hK w ev59 rfl (by decide) mX5_reckon_48 rfl dX5_reckon_179 ?_
            refine lv_icmp_ge (tgt := 208) hx hb dX5_reckon_182 (by decide) (fun c60 => ?_) (fun c60 => ?_)
            · have hf := if_t hf c60
              exact hx177 z57 h58 H locs ls (by rw [eκ177] at hf; exact hf) (lv_sub hl [0, 1, 2, 3] rfl) w
            · have hf := if_f hf c60
              refine lv_aload_n hx hb dX5_reckon_185 rfl (lv_at hl 0 rfl) ?_
              refine lv_aload_n hx hb dX5_reckon_186 rfl (lv_at hl 0 rfl) ?_
              obtain ⟨v61, ev61, hf⟩ := ob_s hf
              refine px_getR hx hb hts nX5_reckon_X5 hown hK w ev61 rfl (by decide) mX5_reckon_17 rfl dX5_reckon_187 ?_
              refine lv_iload_n hx hb dX5_reckon_190 rfl (lv_at hl 3 rfl) ?_
              obtain ⟨v62, ev62, hf⟩ := ob_s hf
              refine px_rald hx hb hK w ev62 rfl dX5_reckon_191 ?_
              refine lv_iconst (v := (0 : Int32)) hx hb dX5_reckon_192 (by decide) ?_
              obtain ⟨u65, eu65, hf⟩ := ob_s hf
              obtain ⟨⟨v63, h64⟩, eh64, hf⟩ := ob_s hf
              dsimp only at hf
              refine px_callVi (As := [.int (0 : Int32)]) (rest := [.ref (ι a0)]) ⟨hx, hb, hml, hown, hts⟩ hC w (kX4_numberAt l D dA b0 ι N v62 (0 : Int32) h58 v63 h64 eh64) (cwV 1 hts gX5_reckon_X4_numberAt rfl rfl rfl (by decide +kernel) ⟨Nat.le_of_ble_eq_true rfl, Nat.le_of_ble_eq_true rfl⟩) eu65 rfl rfl hl.1 rfl (Nat.le_of_ble_eq_true rfl) dX5_reckon_193 ⟨Nat.le_of_ble_eq_true rfl, Nat.le_of_ble_eq_true rfl⟩ (fun H locs w => ?_)
              obtain ⟨⟨v66, h67⟩, eh67, hf⟩ := ob_s hf
              dsimp only at hf
              refine px_callSNi (As := [.int v63]) (rest := [.ref (ι a0)]) ⟨hx, hb, hml, hown, hts⟩ hC w (kX7_negative l D dA b0 ι N v63 h64 v66 h67 eh67) ⟨va_cnB 1 hts gX5_reckon_X7_negative_n84 rfl rfl rfl (hC.2.1 _ nest_10) (hts _ mX5_reckon_ini) (by decide +kernel) ⟨Nat.le_of_ble_eq_true rfl, Nat.le_of_ble_eq_true rfl⟩, hts _ mX5_reckon_st_X7_negative, trivial⟩ rfl hl.1 rfl (Nat.le_of_ble_eq_true rfl) dX5_reckon_196 ⟨Nat.le_of_ble_eq_true rfl, Nat.le_of_ble_eq_true rfl⟩ (fun H locs w => ?_)
              obtain ⟨u70, eu70, hf⟩ := ob_s hf
              obtain ⟨h69, eh69, hf⟩ := ob_s hf
              refine px_callVv (As := [.int v66]) (rest := []) ⟨hx, hb, hml, hown, hts⟩ hC w (kX5_insert l D dA b0 ι N a0 v66 h67 h69 eh69) (cwV 1 hts gX5_reckon_X5_insert rfl rfl rfl (by decide +kernel) ⟨Nat.le_of_ble_eq_true rfl, Nat.le_of_ble_eq_true rfl⟩) eu70 rfl rfl hl.1 rfl (Nat.le_of_ble_eq_true rfl) dX5_reckon_199 ⟨Nat.le_of_ble_eq_true rfl, Nat.le_of_ble_eq_true rfl⟩ (fun H locs w => ?_)
              obtain ⟨x71, ex71, hf⟩ := nm_s hf
              refine lv_iinc (v := x71) (lv' := [(3, .int x71), (0, .ref (ι a0)), (1, .ref (ι a1)), (2, .int v32)]) hx hb dX5_reckon_202 hl (k := 3) rfl (by rw [ex71]; rfl) (by decide) rfl (fun ls hl => ?_)
              refine lv_goto (tgt := 177) hx hb dX5_reckon_205 (by decide) ?_
              exact ih177 x71 h69 H locs ls hf (lv_sub hl [1, 2, 3, 0] rfl) w
        exact hlp177 N (0 : Int32) h38 H locs ls (by rw [eκ177]; exact hf) (lv_sub hl [1, 2, 3, 0] rfl) w
      obtain ⟨κ104, eκ104⟩ : ∃ k : Int32 → Hp → Option Hp, k = (fun y37 h38 => lX5_reckon_177 N a0 a1 v32 N (0 : Int32) h38 (fun y39 h40 => some h40)) := ⟨_, rfl⟩
      have hlp104 : ∀ (n : Nat) (z116 : Int32) (h117 : Hp) (H : Heap) (locs : List Loc) (ls : Array Slot), lX5_reckon_104 N a0 a1 v32 n z116 h117 κ104 = some h' → lv_has ls 5 [(0, .ref (ι a0)), (1, .ref (ι a1)), (2, .int v32), (3, .int z116)] → WD D dA b0 ι h117 s.heap H locs → W p l e (headSpec wsX5_reckon rmX5_reckon).room s m ([.ref (ι a0), .ref (ι a1)] : List Value).toArray below meth c H locs 0 0 (MQ below (QV D dA b0 ι h') ([.ref (ι a0), .ref (ι a1)] : List Value).toArray s 0 0 (qA b0)) (F0 m 104 ls []) := by
        intro n104
        induction n104 with
        | zero => intro z116 h117 H locs ls hf; exact absurd hf (by rw [lX5_reckon_104]; exact fun q => nomatch q)
        | succ n104 ih104 =>
          intro z116 h117 H locs ls hf hl w
          rw [lX5_reckon_104] at hf
          refine lv_iload_n hx hb dX5_reckon_104 rfl (lv_at hl 3 rfl) ?_
          refine lv_sipush (v := (32003 : Int32)) hx hb dX5_reckon_105 (by decide) ?_
          refine lv_icmp_ge (tgt := 175) hx hb dX5_reckon_108 (by decide) (fun c118 => ?_) (fun c118 => ?_)
          · have hf := if_t hf c118
            exact hx104 z116 h117 H locs ls (by rw [eκ104] at hf; exact hf) (lv_sub hl [0, 1, 2, 3] rfl) w
          · have hf := if_f hf c118
            refine lv_aload_n hx hb dX5_reckon_111 rfl (lv_at hl 0 rfl) ?_
            obtain ⟨v119, ev119, hf⟩ := ob_s hf
            refine px_getI hx hb hts nX5_reckon_X5 hown hK w ev119 rfl (by decide) mX5_reckon_48 rfl dX5_reckon_112 ?_
            refine lv_iload_n hx hb dX5_reckon_115 rfl (lv_at hl 2 rfl) ?_
            refine lv_icmp_ge (tgt := 175) hx hb dX5_reckon_116 (by decide) (fun c120 => ?_) (fun c120 => ?_)
            · have hf := if_t hf c120
              exact hx104 z116 h117 H locs ls (by rw [eκ104] at hf; exact hf) (lv_sub hl [0, 1, 2, 3] rfl) w
            · have hf := if_f hf c120
              refine lv_iconst (v := (0 : Int32)) hx hb dX5_reckon_119 (by decide) ?_
              refine lv_istore (lv' := [(4, .int (0 : Int32)), (0, .ref (ι a0)), (1, .ref (ι a1)), (2, .int v32), (3, .int z116)]) hx hb dX5_reckon_120 hl (by decide) rfl (fun ls hl => ?_)
              have hx122 : ∀ (y121 : Int32) (h122 : Hp) (H : Heap) (locs : List Loc) (ls : Array Slot), (nm (z116 + (1 : Int32)) fun x123 => lX5_reckon_104 N a0 a1 v32 n104 x123 h122 κ104) = some h' → lv_has ls 5 [(0, .ref (ι a0)), (1, .ref (ι a1)), (2, .int v32), (3, .int z116), (4, .int y121)] → WD D dA b0 ι h122 s.heap H locs → W p l e (headSpec wsX5_reckon rmX5_reckon).room s m ([.ref (ι a0), .ref (ι a1)] : List Value).toArray below meth c H locs 0 0 (MQ below (QV D dA b0 ι h') ([.ref (ι a0), .ref (ι a1)] : List Value).toArray s 0 0 (qA b0)) (F0 m 169 ls []) := by
                intro y121 h122 H locs ls hf hl w
                obtain ⟨x123, ex123, hf⟩ := nm_s hf
                refine lv_iinc (v := x123) (lv' := [(3, .int x123), (0, .ref (ι a0)), (1, .ref (ι a1)), (2, .int v32), (4, .int y121)]) hx hb dX5_reckon_169 hl (k := 3) rfl (by rw [ex123]; rfl) (by decide) rfl (fun ls hl => ?_)
                refine lv_goto (tgt := 104) hx hb dX5_reckon_172 (by decide) ?_
                exact ih104 x123 h122 H locs ls hf (lv_sub hl [1, 2, 3, 0] rfl) w
              obtain ⟨κ122, eκ122⟩ : ∃ k : Int32 → Hp → Option Hp, k = (fun y121 h122 => nm (z116 + (1 : Int32)) fun x123 => lX5_reckon_104 N a0 a1 v32 n104 x123 h122 κ104) := ⟨_, rfl⟩
              have hlp122 : ∀ (n : Nat) (z142 : Int32) (h143 : Hp) (H : Heap) (locs : List Loc) (ls : Array Slot), lX5_reckon_122 N a0 a1 v32 z116 n z142 h143 κ122 = some h' → lv_has ls 5 [(0, .ref (ι a0)), (1, .ref (ι a1)), (2, .int v32), (3, .int z116), (4, .int z142)] → WD D dA b0 ι h143 s.heap H locs → W p l e (headSpec wsX5_reckon rmX5_reckon).room s m ([.ref (ι a0), .ref (ι a1)] : List Value).toArray below meth c H locs 0 0 (MQ below (QV D dA b0 ι h') ([.ref (ι a0), .ref (ι a1)] : List Value).toArray s 0 0 (qA b0)) (F0 m 122 ls []) := by
                intro n122
                induction n122 with
                | zero => intro z142 h143 H locs ls hf; exact absurd hf (by rw [lX5_reckon_122]; exact fun q => nomatch q)
                | succ n122 ih122 =>
                  intro z142 h143 H locs ls hf hl w
                  rw [lX5_reckon_122] at hf
                  refine lv_iload hx hb dX5_reckon_122 (lv_at hl 4 rfl) ?_
                  refine lv_iconst (v := (4 : Int32)) hx hb dX5_reckon_124 (by decide) ?_
                  refine lv_icmp_ge (tgt := 169) hx hb dX5_reckon_125 (by decide) (fun c144 => ?_) (fun c144 => ?_)
                  · have hf := if_t hf c144
                    exact hx122 z142 h143 H locs ls (by rw [eκ122] at hf; exact hf) (lv_sub hl [0, 1, 2, 3, 4] rfl) w
                  · have hf := if_f hf c144
                    refine lv_iload hx hb dX5_reckon_128 (lv_at hl 4 rfl) ?_
                    refine lv_aload_n hx hb dX5_reckon_130 rfl (lv_at hl 0 rfl) ?_
                    obtain ⟨v145, ev145, hf⟩ := ob_s hf
                    refine px_getI hx hb hts nX5_reckon_X5 hown hK w ev145 rfl (by decide) mX5_reckon_48 rfl dX5_reckon_131 ?_
                    have hj163 : ∀ (h147 : Hp) (H : Heap) (locs : List Loc) (ls : Array Slot), (nm (z142 + (1 : Int32)) fun x148 => lX5_reckon_122 N a0 a1 v32 z116 n122 x148 h147 κ122) = some h' → lv_has ls 5 [(0, .ref (ι a0)), (1, .ref (ι a1)), (2, .int v32), (3, .int z116), (4, .int z142)] → WD D dA b0 ι h147 s.heap H locs → W p l e (headSpec wsX5_reckon rmX5_reckon).room s m ([.ref (ι a0), .ref (ι a1)] : List Value).toArray below meth c H locs 0 0 (MQ below (QV D dA b0 ι h') ([.ref (ι a0), .ref (ι a1)] : List Value).toArray s 0 0 (qA b0)) (F0 m 163 ls []) := by
                      intro h147 H locs ls hf hl w
                      obtain ⟨x148, ex148, hf⟩ := nm_s hf
                      refine lv_iinc (v := x148) (lv' := [(4, .int x148), (0, .ref (ι a0)), (1, .ref (ι a1)), (2, .int v32), (3, .int z116)]) hx hb dX5_reckon_163 hl (k := 4) rfl (by rw [ex148]; rfl) (by decide) rfl (fun ls hl => ?_)
                      refine lv_goto (tgt := 122) hx hb dX5_reckon_166 (by decide) ?_
                      exact ih122 x148 h147 H locs ls hf (lv_sub hl [1, 2, 3, 4, 0] rfl) w
                    obtain ⟨j146, ej146, hf⟩ := jn_s hf
                    refine lv_icmp_ge (tgt := 163) hx hb dX5_reckon_134 (by decide) (fun c149 => ?_) (fun c149 => ?_)
                    · have hf := if_t hf c149
                      exact hj163 h143 H locs ls (by rw [ej146] at hf; exact hf) (lv_sub hl [0, 1, 2, 3, 4] rfl) w
                    · have hf := if_f hf c149
                      refine lv_aload_n hx hb dX5_reckon_137 rfl (lv_at hl 0 rfl) ?_
                      obtain ⟨v150, ev150, hf⟩ := ob_s hf
                      refine px_getR hx hb hts nX5_reckon_X5 hown hK w ev150 rfl (by decide) mX5_reckon_17 rfl dX5_reckon_138 ?_
                      refine lv_iload hx hb dX5_reckon_141 (lv_at hl 4 rfl) ?_
                      obtain ⟨v151, ev151, hf⟩ := ob_s hf
                      refine px_rald hx hb hK w ev151 rfl dX5_reckon_143 ?_
                      obtain ⟨v152, ev152, hf⟩ := ob_s hf
                      refine px_getIN hx hb hts nX5_reckon_X4 hown hK w ev152 rfl (by decide) (hC.2.1 _ nest_9) rfl dX5_reckon_144 ?_
                      refine lv_iconst (v := (1 : Int32)) hx hb dX5_reckon_147 (by decide) ?_
                      refine lv_icmp_le (tgt := 163) hx hb dX5_reckon_148 (by decide) (fun c153 => ?_) (fun c153 => ?_)
                      · have hf := if_t hf c153
                        exact hj163 h143 H locs ls (by rw [ej146] at hf; exact hf) (lv_sub hl [0, 1, 2, 3, 4] rfl) w
                      · have hf := if_f hf c153
                        refine lv_aload_n hx hb dX5_reckon_151 rfl (lv_at hl 0 rfl) ?_
                        refine lv_aload_n hx hb dX5_reckon_152 rfl (lv_at hl 0 rfl) ?_
                        obtain ⟨v154, ev154, hf⟩ := ob_s hf
                        refine px_getR hx hb hts nX5_reckon_X5 hown hK w ev154 rfl (by decide) mX5_reckon_17 rfl dX5_reckon_153 ?_
                        refine lv_iload hx hb dX5_reckon_156 (lv_at hl 4 rfl) ?_
                        obtain ⟨v155, ev155, hf⟩ := ob_s hf
                        refine px_rald hx hb hK w ev155 rfl dX5_reckon_158 ?_
                        refine lv_iload_n hx hb dX5_reckon_159 rfl (lv_at hl 3 rfl) ?_
                        obtain ⟨u158, eu158, hf⟩ := ob_s hf
                        obtain ⟨h157, eh157, hf⟩ := ob_s hf
                        refine px_callVv (As := [.ref (ι v155), .int z116]) (rest := []) ⟨hx, hb, hml, hown, hts⟩ hC w (kX5_split l D dA b0 ι N a0 v155 z116 h143 h157 eh157) (cwV 2 hts gX5_reckon_X5_split rfl rfl rfl (by decide +kernel) ⟨Nat.le_of_ble_eq_true rfl, Nat.le_of_ble_eq_true rfl⟩) eu158 rfl rfl hl.1 rfl (Nat.le_of_ble_eq_true rfl) dX5_reckon_160 ⟨Nat.le_of_ble_eq_true rfl, Nat.le_of_ble_eq_true rfl⟩ (fun H locs w => ?_)
                        exact hj163 h157 H locs ls (by rw [ej146] at hf; exact hf) (lv_sub hl [0, 1, 2, 3, 4] rfl) w
              exact hlp122 N (0 : Int32) h117 H locs ls (by rw [eκ122]; exact hf) (lv_sub hl [1, 2, 3, 4, 0] rfl) w
      exact hlp104 N (0 : Int32) h36 H locs ls (by rw [eκ104]; exact hf) (lv_sub hl [1, 2, 3, 0] rfl) w
    obtain ⟨j33, ej33, hf⟩ := jn_s hf
    refine lv_if_le (tgt := 98) hx hb dX5_reckon_91 (by decide) (fun c159 => ?_) (fun c159 => ?_)
    · have hf := if_t hf c159
      refine lv_iconst (v := (0 : Int32)) hx hb dX5_reckon_98 (by decide) ?_
      exact hj99 (0 : Int32) h28 H locs ls (by rw [ej33] at hf; exact hf) (lv_sub hl [1, 2, 0] rfl) w
    · have hf := if_f hf c159
      refine lv_iconst (v := (1 : Int32)) hx hb dX5_reckon_94 (by decide) ?_
      refine lv_goto (tgt := 99) hx hb dX5_reckon_95 (by decide) ?_
      exact hj99 (1 : Int32) h28 H locs ls (by rw [ej33] at hf; exact hf) (lv_sub hl [1, 2, 0] rfl) w
  · have hf := if_f hf c4
    exact W.vret hx hb hr (qv_end hf w hC) w.locs_ok dX5_reckon_18
