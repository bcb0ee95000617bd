abbrev rmX7_inverseOf : Room := { frames := 1, cells := 0, slots := 0, locals := 12 }
set_option maxHeartbeats 4000000 in
set_option maxRecDepth 100000 in
theorem kX7_inverseOf (l : Launch) (D : va_G) (dA : Nat → ClassId) (b0 : Nat) (ι : Nat → Nat) (N : Nat) (a0 : Int32) (h : Hp) (r : Int32) (h' : Hp) (hf : fX7_inverseOf N a0 h = some (r, h')) : Met l yX7_inverseOf wsX7_inverseOf rmX7_inverseOf (PC D dA b0 ι [.int a0] h) (QI D dA b0 ι r h') 0 0 (qA b0) := by
  unfold fX7_inverseOf at hf
  refine Met.ofW (cc := cX7_inverseOf) (maxL := 4) (ret := (some .int)) (by decide +kernel) rfl ?_
  intro p e s m args below meth c s₁ B hml hv
  obtain ⟨rfl, w0⟩ := hv
  have hx := B.exec
  have hb := B.bytes
  have hr := B.returns
  have hts := atoms_spec (ws := wsX7_inverseOf) B.pre
  have hown : s.vm.findClass RX7 = some m.cls := findClass_of_methodNamed B.named
  have hlocks := B.notSynchronized
  have hC := w0.c
  have hK := hC.1
  have w := WD.start w0
  clear w0
  have hl := lv_entry ([.int a0]) (n := 4) (Nat.le_of_ble_eq_true rfl)
  rw [lg_entry_eq]
  generalize (lg_sl ([.int a0]) ++ List.replicate (4 - (lg_sl ([.int a0])).length) Slot.unset).toArray = ls at hl ⊢
  have hl : lv_has ls 4 [(0, .int a0)] := hl
  obtain ⟨H, hH⟩ : ∃ H : Heap, H = s.heap := ⟨_, rfl⟩
  obtain ⟨locs, hlo⟩ : ∃ locs : List Loc, locs = [] := ⟨_, rfl⟩
  rw [← hlo]
  have w : WD D dA b0 ι h s.heap H locs := by rw [hH, hlo]; exact w
  refine px_start hH ?_
  refine lv_iconst (v := (1 : Int32)) hx hb dX7_inverseOf_0 (by decide) ?_
  refine lv_istore_n (lv' := [(1, .int (1 : Int32)), (0, .int a0)]) hx hb dX7_inverseOf_1 rfl hl (by decide) rfl (fun ls hl => ?_)
  refine lv_iload_n hx hb dX7_inverseOf_2 rfl (lv_at hl 1 rfl) ?_
  refine lv_istore_n (lv' := [(2, .int a0), (1, .int (1 : Int32)), (0, .int a0)]) hx hb dX7_inverseOf_3 rfl hl (by decide) rfl (fun ls hl => ?_)
  refine lv_sipush (v := (32001 : Int32)) hx hb dX7_inverseOf_4 (by decide) ?_
  refine lv_istore_n (lv' := [(3, .int (32001 : Int32)), (2, .int a0), (1, .int (1 : Int32)), (0, .int a0)]) hx hb dX7_inverseOf_7 rfl hl (by decide) rfl (fun ls hl => ?_)
  have hx8 : ∀ (y1 : Int32) (y2 : Int32) (y3 : Int32) (h4 : Hp) (H : Heap) (locs : List Loc) (ls : Array Slot), (some (y1, h4)) = some (r, h') → lv_has ls 4 [(0, .int a0), (1, .int y1), (2, .int y2), (3, .int y3)] → WD D dA b0 ι h4 s.heap H locs → W p l e (headSpec wsX7_inverseOf rmX7_inverseOf).room s m ([.int a0] : List Value).toArray below meth c H locs 0 0 (MQ below (QI D dA b0 ι r h') ([.int a0] : List Value).toArray s 0 0 (qA b0)) (F0 m 42 ls []) := by
    intro y1 y2 y3 h4 H locs ls hf hl w
    refine lv_iload_n hx hb dX7_inverseOf_42 rfl (lv_at hl 1 rfl) ?_
    exact W.iret hx hb hr (qi_end hf w hC) w.locs_ok dX7_inverseOf_43
  obtain ⟨κ8, eκ8⟩ : ∃ k : Int32 → Int32 → Int32 → Hp → Option (Int32 × Hp), k = (fun y1 y2 y3 h4 => some (y1, h4)) := ⟨_, rfl⟩
  have hlp8 : ∀ (n : Nat) (z18 : Int32) (z19 : Int32) (z20 : Int32) (h21 : Hp) (H : Heap) (locs : List Loc) (ls : Array Slot), lX7_inverseOf_8 N a0 n z18 z19 z20 h21 κ8 = some (r, h') → lv_has ls 4 [(0, .int a0), (1, .int z18), (2, .int z19), (3, .int z20)] → WD D dA b0 ι h21 s.heap H locs → W p l e (headSpec wsX7_inverseOf rmX7_inverseOf).room s m ([.int a0] : List Value).toArray below meth c H locs 0 0 (MQ below (QI D dA b0 ι r h') ([.int a0] : List Value).toArray s 0 0 (qA b0)) (F0 m 8 ls []) := by
    intro n8
    induction n8 with
    | zero => intro z18 z19 z20 h21 H locs ls hf; exact absurd hf (by rw [lX7_inverseOf_8]; exact fun q => nomatch q)
    | succ n8 ih8 =>
      intro z18 z19 z20 h21 H locs ls hf hl w
      rw [lX7_inverseOf_8] at hf
      refine lv_iload_n hx hb dX7_inverseOf_8 rfl (lv_at hl 3 rfl) ?_
      refine lv_if_le (tgt := 42) hx hb dX7_inverseOf_9 (by decide) (fun c22 => ?_) (fun c22 => ?_)
      · have hf := if_t hf c22
        exact hx8 z18 z19 z20 h21 H locs ls (by rw [eκ8] at hf; exact hf) (lv_sub hl [0, 1, 2, 3] rfl) w
      · have hf := if_f hf c22
        refine lv_iload_n hx hb dX7_inverseOf_12 rfl (lv_at hl 3 rfl) ?_
        refine lv_iconst (v := (1 : Int32)) hx hb dX7_inverseOf_13 (by decide) ?_
        refine lv_iand hx hb dX7_inverseOf_14 ?_
        refine lv_iconst (v := (1 : Int32)) hx hb dX7_inverseOf_15 (by decide) ?_
        have hj27 : ∀ (y24 : Int32) (h25 : Hp) (H : Heap) (locs : List Loc) (ls : Array Slot), (nm (irm (z19 * z19) (32003 : Int32)) fun x26 => nm (z20 >>> ((1 : Int32) &&& 31)) fun x27 => lX7_inverseOf_8 N a0 n8 y24 x26 x27 h25 κ8) = some (r, h') → lv_has ls 4 [(0, .int a0), (1, .int y24), (2, .int z19), (3, .int z20)] → WD D dA b0 ι h25 s.heap H locs → W p l e (headSpec wsX7_inverseOf rmX7_inverseOf).room s m ([.int a0] : List Value).toArray below meth c H locs 0 0 (MQ below (QI D dA b0 ι r h') ([.int a0] : List Value).toArray s 0 0 (qA b0)) (F0 m 27 ls []) := by
          intro y24 h25 H locs ls hf hl w
          refine lv_iload_n hx hb dX7_inverseOf_27 rfl (lv_at hl 2 rfl) ?_
          refine lv_iload_n hx hb dX7_inverseOf_28 rfl (lv_at hl 2 rfl) ?_
          refine lv_imul hx hb dX7_inverseOf_29 ?_
          refine lv_sipush (v := (32003 : Int32)) hx hb dX7_inverseOf_30 (by decide) ?_
          refine px_irem hx hb dX7_inverseOf_33 (by decide) ?_
          obtain ⟨x26, ex26, hf⟩ := nm_s hf
          refine px_nmI ex26 ?_
          refine lv_istore_n (lv' := [(2, .int x26), (0, .int a0), (1, .int y24), (3, .int z20)]) hx hb dX7_inverseOf_34 rfl hl (by decide) rfl (fun ls hl => ?_)
          refine lv_iload_n hx hb dX7_inverseOf_35 rfl (lv_at hl 3 rfl) ?_
          refine lv_iconst (v := (1 : Int32)) hx hb dX7_inverseOf_36 (by decide) ?_
          refine lv_ishr hx hb dX7_inverseOf_37 ?_
          obtain ⟨x27, ex27, hf⟩ := nm_s hf
          refine px_nmI ex27 ?_
          refine lv_istore_n (lv' := [(3, .int x27), (2, .int x26), (0, .int a0), (1, .int y24)]) hx hb dX7_inverseOf_38 rfl hl (by decide) rfl (fun ls hl => ?_)
          refine lv_goto (tgt := 8) hx hb dX7_inverseOf_39 (by decide) ?_
          exact ih8 y24 x26 x27 h25 H locs ls hf (lv_sub hl [2, 3, 1, 0] rfl) w
        obtain ⟨j23, ej23, hf⟩ := jn_s hf
        refine lv_icmp_ne (tgt := 27) hx hb dX7_inverseOf_16 (by decide) (fun c28 => ?_) (fun c28 => ?_)
        · have hf := if_f hf c28
          exact hj27 z18 h21 H locs ls (by rw [ej23] at hf; exact hf) (lv_sub hl [0, 1, 2, 3] rfl) w
        · have hf := if_t hf c28
          refine lv_iload_n hx hb dX7_inverseOf_19 rfl (lv_at hl 1 rfl) ?_
          refine lv_iload_n hx hb dX7_inverseOf_20 rfl (lv_at hl 2 rfl) ?_
          refine lv_imul hx hb dX7_inverseOf_21 ?_
          refine lv_sipush (v := (32003 : Int32)) hx hb dX7_inverseOf_22 (by decide) ?_
          refine px_irem hx hb dX7_inverseOf_25 (by decide) ?_
          obtain ⟨x29, ex29, hf⟩ := nm_s hf
          refine px_nmI ex29 ?_
          refine lv_istore_n (lv' := [(1, .int x29), (0, .int a0), (2, .int z19), (3, .int z20)]) hx hb dX7_inverseOf_26 rfl hl (by decide) rfl (fun ls hl => ?_)
          exact hj27 x29 h21 H locs ls (by rw [ej23] at hf; exact hf) (lv_sub hl [1, 0, 2, 3] rfl) w
  exact hlp8 N (1 : Int32) a0 (32001 : Int32) h H locs ls (by rw [eκ8]; exact hf) (lv_sub hl [3, 2, 1, 0] rfl) w
abbrev rmX7_negative : Room := { frames := 1, cells := 0, slots := 0, locals := 12 }
set_option maxHeartbeats 4000000 in
set_option maxRecDepth 100000 in
theorem kX7_negative (l : Launch) (D : va_G) (dA : Nat → ClassId) (b0 : Nat) (ι : Nat → Nat) (N : Nat) (a0 : Int32) (h : Hp) (r : Int32) (h' : Hp) (hf : fX7_negative N a0 h = some (r, h')) : Met l yX7_negative wsX7_negative rmX7_negative (PC D dA b0 ι [.int a0] h) (QI D dA b0 ι r h') 0 0 (qA b0) := by
  unfold fX7_negative at hf
  refine Met.ofW (cc := cX7_negative) (maxL := 1) (ret := (some .int)) (by decide +kernel) rfl ?_
  intro p e s m args below meth c s₁ B hml hv
  obtain ⟨rfl, w0⟩ := hv
  have hx := B.exec
  have hb := B.bytes
  have hr := B.returns
  have hts := atoms_spec (ws := wsX7_negative) B.pre
  have hown : s.vm.findClass RX7 = some m.cls := findClass_of_methodNamed B.named
  have hlocks := B.notSynchronized
  have hC := w0.c
  have hK := hC.1
  have w := WD.start w0
  clear w0
  have hl := lv_entry ([.int a0]) (n := 1) (Nat.le_of_ble_eq_true rfl)
  rw [lg_entry_eq]
  generalize (lg_sl ([.int a0]) ++ List.replicate (1 - (lg_sl ([.int a0])).length) Slot.unset).toArray = ls at hl ⊢
  have hl : lv_has ls 1 [(0, .int a0)] := hl
  obtain ⟨H, hH⟩ : ∃ H : Heap, H = s.heap := ⟨_, rfl⟩
  obtain ⟨locs, hlo⟩ : ∃ locs : List Loc, locs = [] := ⟨_, rfl⟩
  rw [← hlo]
  have w : WD D dA b0 ι h s.heap H locs := by rw [hH, hlo]; exact w
  refine px_start hH ?_
  refine lv_iload_n hx hb dX7_negative_0 rfl (lv_at hl 0 rfl) ?_
  have hj13 : ∀ (t3 : Int32) (h2 : Hp) (H : Heap) (locs : List Loc) (ls : Array Slot), (some (t3, h2)) = some (r, h') → lv_has ls 1 [(0, .int a0)] → WD D dA b0 ι h2 s.heap H locs → W p l e (headSpec wsX7_negative rmX7_negative).room s m ([.int a0] : List Value).toArray below meth c H locs 0 0 (MQ below (QI D dA b0 ι r h') ([.int a0] : List Value).toArray s 0 0 (qA b0)) (F0 m 13 ls [.int t3]) := by
    intro t3 h2 H locs ls hf hl w
    exact W.iret hx hb hr (qi_end hf w hC) w.locs_ok dX7_negative_13
  obtain ⟨j1, ej1, hf⟩ := jn_s hf
  refine lv_if_ne (tgt := 8) hx hb dX7_negative_1 (by decide) (fun c4 => ?_) (fun c4 => ?_)
  · have hf := if_f hf c4
    refine lv_sipush (v := (32003 : Int32)) hx hb dX7_negative_8 (by decide) ?_
    refine lv_iload_n hx hb dX7_negative_11 rfl (lv_at hl 0 rfl) ?_
    refine lv_isub hx hb dX7_negative_12 ?_
    exact hj13 ((32003 : Int32) - a0) h H locs ls (by rw [ej1] at hf; exact hf) (lv_sub hl [0] rfl) w
  · have hf := if_t hf c4
    refine lv_iconst (v := (0 : Int32)) hx hb dX7_negative_4 (by decide) ?_
    refine lv_goto (tgt := 13) hx hb dX7_negative_5 (by decide) ?_
    exact hj13 (0 : Int32) h H locs ls (by rw [ej1] at hf; exact hf) (lv_sub hl [0] rfl) w
abbrev rmJ9_floorMod_7cf53 : Room := { frames := 1, cells := 0, slots := 0, locals := 12 }
set_option maxHeartbeats 4000000 in
set_option maxRecDepth 100000 in
theorem kJ9_floorMod_7cf53 (l : Launch) (D : va_G) (dA : Nat → ClassId) (b0 : Nat) (ι : Nat → Nat) (N : Nat) (a0 : Int32) (a1 : Int32) (h : Hp) (r : Int32) (h' : Hp) (hf : fJ9_floorMod_7cf53 N a0 a1 h = some (r, h')) : Met l yJ9_floorMod_7cf53 wsJ9_floorMod_7cf53 rmJ9_floorMod_7cf53 (PC D dA b0 ι [.int a0, .int a1] h) (QI D dA b0 ι r h') 0 0 (qA b0) := by
  unfold fJ9_floorMod_7cf53 at hf
  refine va_MetF (cc := cJ9_floorMod_7cf53) (maxL := 3) (ret := (some .int)) (by decide +kernel) rfl ?_
  intro p e s m args below meth c s₁ B hml hv
  obtain ⟨rfl, w0⟩ := hv
  have hx := B.exec
  have hb := B.bytes
  have hr := B.returns
  have hts := atoms_spec (ws := wsJ9_floorMod_7cf53) B.pre
  have hown : s.vm.findClass RJ9 = some m.cls := findClass_of_methodNamed B.named
  have hlocks := B.notSynchronized
  have hC := w0.c
  have hK := hC.1
  have w := WD.start w0
  clear w0
  have hl := lv_entry ([.int a0, .int a1]) (n := 3) (Nat.le_of_ble_eq_true rfl)
  rw [lg_entry_eq]
  generalize (lg_sl ([.int a0, .int a1]) ++ List.replicate (3 - (lg_sl ([.int a0, .int a1])).length) Slot.unset).toArray = ls at hl ⊢
  have hl : lv_has ls 3 [(0, .int a0), (1, .int a1)] := hl
  obtain ⟨H, hH⟩ : ∃ H : Heap, H = s.heap := ⟨_, rfl⟩
  obtain ⟨locs, hlo⟩ : ∃ locs : List Loc, locs = [] := ⟨_, rfl⟩
  rw [← hlo]
  have w : WD D dA b0 ι h s.heap H locs := by rw [hH, hlo]; exact w
  refine px_start hH ?_
  refine lv_iload_n hx hb dJ9_floorMod_7cf53_0 rfl (lv_at hl 0 rfl) ?_
  refine lv_iload_n hx hb dJ9_floorMod_7cf53_1 rfl (lv_at hl 1 rfl) ?_
  obtain ⟨c1, hf⟩ := if_s hf
  refine px_irem hx hb dJ9_floorMod_7cf53_2 c1 ?_
  obtain ⟨x2, ex2, hf⟩ := nm_s hf
  refine px_nmI ex2 ?_
  refine lv_istore_n (lv' := [(2, .int x2), (0, .int a0), (1, .int a1)]) hx hb dJ9_floorMod_7cf53_3 rfl hl (by decide) rfl (fun ls hl => ?_)
  refine lv_iload_n hx hb dJ9_floorMod_7cf53_4 rfl (lv_at hl 1 rfl) ?_
  refine lv_iload_n hx hb dJ9_floorMod_7cf53_5 rfl (lv_at hl 2 rfl) ?_
  refine lv_ixor hx hb dJ9_floorMod_7cf53_6 ?_
  have hj18 : ∀ (h4 : Hp) (H : Heap) (locs : List Loc) (ls : Array Slot), (some (x2, h4)) = some (r, h') → lv_has ls 3 [(0, .int a0), (1, .int a1), (2, .int x2)] → WD D dA b0 ι h4 s.heap H locs → W p l e (headSpec wsJ9_floorMod_7cf53 rmJ9_floorMod_7cf53).room s m ([.int a0, .int a1] : List Value).toArray below meth c H locs 0 0 (MQ below (QI D dA b0 ι r h') ([.int a0, .int a1] : List Value).toArray s 0 0 (qA b0)) (F0 m 18 ls []) := by
    intro h4 H locs ls hf hl w
    refine lv_iload_n hx hb dJ9_floorMod_7cf53_18 rfl (lv_at hl 2 rfl) ?_
    exact W.iret hx hb hr (qi_end hf w hC) w.locs_ok dJ9_floorMod_7cf53_19
  obtain ⟨j3, ej3, hf⟩ := jn_s hf
  refine lv_if_ge (tgt := 18) hx hb dJ9_floorMod_7cf53_7 (by decide) (fun c5 => ?_) (fun c5 => ?_)
  · have hf := if_t hf c5
    exact hj18 h H locs ls (by rw [ej3] at hf; exact hf) (lv_sub hl [1, 2, 0] rfl) w
  · have hf := if_f hf c5
    refine lv_iload_n hx hb dJ9_floorMod_7cf53_10 rfl (lv_at hl 0 rfl) ?_
    refine lv_if_eq (tgt := 18) hx hb dJ9_floorMod_7cf53_11 (by decide) (fun c6 => ?_) (fun c6 => ?_)
    · have hf := if_t hf c6
      exact hj18 h H locs ls (by rw [ej3] at hf; exact hf) (lv_sub hl [1, 2, 0] rfl) w
    · have hf := if_f hf c6
      refine lv_iload_n hx hb dJ9_floorMod_7cf53_14 rfl (lv_at hl 0 rfl) ?_
      refine lv_iload_n hx hb dJ9_floorMod_7cf53_15 rfl (lv_at hl 2 rfl) ?_
      refine lv_iadd hx hb dJ9_floorMod_7cf53_16 ?_
      exact W.iret hx hb hr (qi_end hf w hC) w.locs_ok dJ9_floorMod_7cf53_17
theorem mJ6_bitCount_0f7a4_265 : Cond.constant RJ6 265 (1431655765) ∈ wsJ6_bitCount_0f7a4 := by decide +kernel
theorem mJ6_bitCount_0f7a4_266 : Cond.constant RJ6 266 (858993459) ∈ wsJ6_bitCount_0f7a4 := by decide +kernel
theorem mJ6_bitCount_0f7a4_267 : Cond.constant RJ6 267 (252645135) ∈ wsJ6_bitCount_0f7a4 := by decide +kernel
abbrev rmJ6_bitCount_0f7a4 : Room := { frames := 1, cells := 0, slots := 0, locals := 12 }
set_option maxHeartbeats 4000000 in
set_option maxRecDepth 100000 in
theorem kJ6_bitCount_0f7a4 (l : Launch) (D : va_G) (dA : Nat → ClassId) (b0 : Nat) (ι : Nat → Nat) (N : Nat) (a0 : Int32) (h : Hp) (r : Int32) (h' : Hp) (hf : fJ6_bitCount_0f7a4 N a0 h = some (r, h')) : Met l yJ6_bitCount_0f7a4 wsJ6_bitCount_0f7a4 rmJ6_bitCount_0f7a4 (PC D dA b0 ι [.int a0] h) (QI D dA b0 ι r h') 0 0 (qA b0) := by
  unfold fJ6_bitCount_0f7a4 at hf
  refine Met.ofW (cc := cJ6_bitCount_0f7a4) (maxL := 1) (ret := (some .int)) (by decide +kernel) rfl ?_
  intro p e s m args below meth c s₁ B hml hv
  obtain ⟨rfl, w0⟩ := hv
  have hx := B.exec
  have hb := B.bytes
  have hr := B.returns
  have hts := atoms_spec (ws := wsJ6_bitCount_0f7a4) B.pre
  have hown : s.vm.findClass RJ6 = some m.cls := findClass_of_methodNamed B.named
  have hlocks := B.notSynchronized
  have hC := w0.c
  have hK := hC.1
  have w := WD.start w0
  clear w0
  have hl := lv_entry ([.int a0]) (n := 1) (Nat.le_of_ble_eq_true rfl)
  rw [lg_entry_eq]
  generalize (lg_sl ([.int a0]) ++ List.replicate (1 - (lg_sl ([.int a0])).length) Slot.unset).toArray = ls at hl ⊢
  have hl : lv_has ls 1 [(0, .int a0)] := hl
  obtain ⟨H, hH⟩ : ∃ H : Heap, H = s.heap := ⟨_, rfl⟩
  obtain ⟨locs, hlo⟩ : ∃ locs : List Loc, locs = [] := ⟨_, rfl⟩
  rw [← hlo]
  have w : WD D dA b0 ι h s.heap H locs := by rw [hH, hlo]; exact w
  refine px_start hH ?_
  refine lv_iload_n hx hb dJ6_bitCount_0f7a4_0 rfl (lv_at hl 0 rfl) ?_
  refine lv_iload_n hx hb dJ6_bitCount_0f7a4_1 rfl (lv_at hl 0 rfl) ?_
  refine lv_iconst (v := (1 : Int32)) hx hb dJ6_bitCount_0f7a4_2 (by decide) ?_
  refine lv_iushr (v := iushr a0 (1 : Int32)) hx hb dJ6_bitCount_0f7a4_3 rfl ?_
  refine lv_ldcw (v := (1431655765 : Int32)) hx hb hown (hts _ mJ6_bitCount_0f7a4_265) dJ6_bitCount_0f7a4_4 ?_
  refine lv_iand hx hb dJ6_bitCount_0f7a4_7 ?_
  refine lv_isub hx hb dJ6_bitCount_0f7a4_8 ?_
  obtain ⟨x1, ex1, hf⟩ := nm_s hf
  refine px_nmI ex1 ?_
  refine lv_istore_n (lv' := [(0, .int x1)]) hx hb dJ6_bitCount_0f7a4_9 rfl hl (by decide) rfl (fun ls hl => ?_)
  refine lv_iload_n hx hb dJ6_bitCount_0f7a4_10 rfl (lv_at hl 0 rfl) ?_
  refine lv_ldcw (v := (858993459 : Int32)) hx hb hown (hts _ mJ6_bitCount_0f7a4_266) dJ6_bitCount_0f7a4_11 ?_
  refine lv_iand hx hb dJ6_bitCount_0f7a4_14 ?_
  refine lv_iload_n hx hb dJ6_bitCount_0f7a4_15 rfl (lv_at hl 0 rfl) ?_
  refine lv_iconst (v := (2 : Int32)) hx hb dJ6_bitCount_0f7a4_16 (by decide) ?_
  refine lv_iushr (v := iushr x1 (2 : Int32)) hx hb dJ6_bitCount_0f7a4_17 rfl ?_
  refine lv_ldcw (v := (858993459 : Int32)) hx hb hown (hts _ mJ6_bitCount_0f7a4_266) dJ6_bitCount_0f7a4_18 ?_
  refine lv_iand hx hb dJ6_bitCount_0f7a4_21 ?_
  refine lv_iadd hx hb dJ6_bitCount_0f7a4_22 ?_
  obtain ⟨x2, ex2, hf⟩ := nm_s hf
  refine px_nmI ex2 ?_
  refine lv_istore_n (lv' := [(0, .int x2)]) hx hb dJ6_bitCount_0f7a4_23 rfl hl (by decide) rfl (fun ls hl => ?_)
  refine lv_iload_n hx hb dJ6_bitCount_0f7a4_24 rfl (lv_at hl 0 rfl) ?_
  refine lv_iload_n hx hb dJ6_bitCount_0f7a4_25 rfl (lv_at hl 0 rfl) ?_
  refine lv_iconst (v := (4 : Int32)) hx hb dJ6_bitCount_0f7a4_26 (by decide) ?_
  refine lv_iushr (v := iushr x2 (4 : Int32)) hx hb dJ6_bitCount_0f7a4_27 rfl ?_
  refine lv_iadd hx hb dJ6_bitCount_0f7a4_28 ?_
  refine lv_ldcw (v := (252645135 : Int32)) hx hb hown (hts _ mJ6_bitCount_0f7a4_267) dJ6_bitCount_0f7a4_29 ?_
  refine lv_iand hx hb dJ6_bitCount_0f7a4_32 ?_
  obtain ⟨x3, ex3, hf⟩ := nm_s hf
  refine px_nmI ex3 ?_
  refine lv_istore_n (lv' := [(0, .int x3)]) hx hb dJ6_bitCount_0f7a4_33 rfl hl (by decide) rfl (fun ls hl => ?_)
  refine lv_iload_n hx hb dJ6_bitCount_0f7a4_34 rfl (lv_at hl 0 rfl) ?_
  refine lv_iload_n hx hb dJ6_bitCount_0f7a4_35 rfl (lv_at hl 0 rfl) ?_
  refine lv_bipush (v := (8 : Int32)) hx hb dJ6_bitCount_0f7a4_36 (by decide) ?_
  refine lv_iushr (v := iushr x3 (8 : Int32)) hx hb dJ6_bitCount_0f7a4_38 rfl ?_
  refine lv_iadd hx hb dJ6_bitCount_0f7a4_39 ?_
  obtain ⟨x4, ex4, hf⟩ := nm_s hf
  refine px_nmI ex4 ?_
  refine lv_istore_n (lv' := [(0, .int x4)]) hx hb dJ6_bitCount_0f7a4_40 rfl hl (by decide) rfl (fun ls hl => ?_)
  refine lv_iload_n hx hb dJ6_bitCount_0f7a4_41 rfl (lv_at hl 0 rfl) ?_
  refine lv_iload_n hx hb dJ6_bitCount_0f7a4_42 rfl (lv_at hl 0 rfl) ?_
  refine lv_bipush (v := (16 : Int32)) hx hb dJ6_bitCount_0f7a4_43 (by decide) ?_
  refine lv_iushr (v := iushr x4 (16 : Int32)) hx hb dJ6_bitCount_0f7a4_45 rfl ?_
  refine lv_iadd hx hb dJ6_bitCount_0f7a4_46 ?_
  obtain ⟨x5, ex5, hf⟩ := nm_s hf
  refine px_nmI ex5 ?_
  refine lv_istore_n (lv' := [(0, .int x5)]) hx hb dJ6_bitCount_0f7a4_47 rfl hl (by decide) rfl (fun ls hl => ?_)
  refine lv_iload_n hx hb dJ6_bitCount_0f7a4_48 rfl (lv_at hl 0 rfl) ?_
  refine lv_bipush (v := (63 : Int32)) hx hb dJ6_bitCount_0f7a4_49 (by decide) ?_
  refine lv_iand hx hb dJ6_bitCount_0f7a4_51 ?_
  exact W.iret hx hb hr (qi_end hf w hC) w.locs_ok dJ6_bitCount_0f7a4_52
theorem nX4_numberAt_X4 : ∀ w ∈ wsX40, w ∈ wsX4_numberAt := by decide +kernel
theorem mX4_numberAt_15 : Cond.fieldLink RX4 15 "NormalForms$Polynomial" "degree" "I" ∈ wsX4_numberAt := by decide +kernel
theorem mX4_numberAt_9 : Cond.fieldLink RX4 9 "NormalForms$Polynomial" "numbers" "[I" ∈ wsX4_numberAt := by decide +kernel
abbrev rmX4_numberAt : Room := { frames := 1, cells := 0, slots := 0, locals := 12 }
set_option maxHeartbeats 4000000 in
set_option maxRecDepth 100000 in
theorem kX4_numberAt (l : Launch) (D : va_G) (dA : Nat → ClassId) (b0 : Nat) (ι : Nat → Nat) (N : Nat) (a0 : Nat) (a1 : Int32) (h : Hp) (r : Int32) (h' : Hp) (hf : fX4_numberAt N a0 a1 h = some (r, h')) : Met l yX4_numberAt wsX4_numberAt rmX4_numberAt (PC D dA b0 ι [.ref (ι a0), .int a1] h) (QI D dA b0 ι r h') 0 0 (qA b0) := by
  unfold fX4_numberAt at hf
  refine Met.ofW (cc := cX4_numberAt) (maxL := 2) (ret := (some .int)) (by decide +kernel) rfl ?_
  intro p e s m args below meth c s₁ B hml hv
  obtain ⟨rfl, w0⟩ := hv
  have hx := B.exec
  have hb := B.bytes
  have hr := B.returns
  have hts := atoms_spec (ws := wsX4_numberAt) B.pre
  have hown : s.vm.findClass RX4 = some m.cls := findClass_of_methodNamed B.named
  have hlocks := B.notSynchronized
  have hC := w0.c
  have hK := hC.1
  have w := WD.start w0
  clear w0
  have hl := lv_entry ([.ref (ι a0), .int a1]) (n := 2) (Nat.le_of_ble_eq_true rfl)
  rw [lg_entry_eq]
  generalize (lg_sl ([.ref (ι a0), .int a1]) ++ List.replicate (2 - (lg_sl ([.ref (ι a0), .int a1])).length) Slot.unset).toArray = ls at hl ⊢
  have hl : lv_has ls 2 [(0, .ref (ι a0)), (1, .int a1)] := hl
  obtain ⟨H, hH⟩ : ∃ H : Heap, H = s.heap := ⟨_, rfl⟩
  obtain ⟨locs, hlo⟩ : ∃ locs : List Loc, locs = [] := ⟨_, rfl⟩
  rw [← hlo]
  have w : WD D dA b0 ι h s.heap H locs := by rw [hH, hlo]; exact w
  refine px_start hH ?_
  refine lv_iload_n hx hb dX4_numberAt_0 rfl (lv_at hl 1 rfl) ?_
  have hj22 : ∀ (t3 : Int32) (h2 : Hp) (H : Heap) (locs : List Loc) (ls : Array Slot), (some (t3, h2)) = some (r, h') → lv_has ls 2 [(0, .ref (ι a0)), (1, .int a1)] → WD D dA b0 ι h2 s.heap H locs → W p l e (headSpec wsX4_numberAt rmX4_numberAt).room s m ([.ref (ι a0), .int a1] : List Value).toArray below meth c H locs 0 0 (MQ below (QI D dA b0 ι r h') ([.ref (ι a0), .int a1] : List Value).toArray s 0 0 (qA b0)) (F0 m 22 ls [.int t3]) := by
    intro t3 h2 H locs ls hf hl w
    exact W.iret hx hb hr (qi_end hf w hC) w.locs_ok dX4_numberAt_22
  obtain ⟨j1, ej1, hf⟩ := jn_s hf
  have hj12 : ∀ (h5 : Hp) (H : Heap) (locs : List Loc) (ls : Array Slot), (j1 (0 : Int32) h5) = some (r, h') → lv_has ls 2 [(0, .ref (ι a0)), (1, .int a1)] → WD D dA b0 ι h5 s.heap H locs → W p l e (headSpec wsX4_numberAt rmX4_numberAt).room s m ([.ref (ι a0), .int a1] : List Value).toArray below meth c H locs 0 0 (MQ below (QI D dA b0 ι r h') ([.ref (ι a0), .int a1] : List Value).toArray s 0 0 (qA b0)) (F0 m 12 ls []) := by
    intro h5 H locs ls hf hl w
    refine lv_iconst (v := (0 : Int32)) hx hb dX4_numberAt_12 (by decide) ?_
    refine lv_goto (tgt := 22) hx hb dX4_numberAt_13 (by decide) ?_
    exact hj22 (0 : Int32) h5 H locs ls (by rw [ej1] at hf; exact hf) (lv_sub hl [0, 1] rfl) w
  obtain ⟨j4, ej4, hf⟩ := jn_s hf
  refine lv_if_lt (tgt := 12) hx hb dX4_numberAt_1 (by decide) (fun c6 => ?_) (fun c6 => ?_)
  · have hf := if_t hf c6
    exact hj12 h H locs ls (by rw [ej4] at hf; exact hf) (lv_sub hl [0, 1] rfl) w
  · have hf := if_f hf c6
    refine lv_iload_n hx hb dX4_numberAt_4 rfl (lv_at hl 1 rfl) ?_
    refine lv_aload_n hx hb dX4_numberAt_5 rfl (lv_at hl 0 rfl) ?_
    obtain ⟨v7, ev7, hf⟩ := ob_s hf
    refine px_getI hx hb hts nX4_numberAt_X4 hown hK w ev7 rfl (by decide) mX4_numberAt_15 rfl dX4_numberAt_6 ?_
    refine lv_icmp_le (tgt := 16) hx hb dX4_numberAt_9 (by decide) (fun c8 => ?_) (fun c8 => ?_)
    · have hf := if_t hf c8
      refine lv_aload_n hx hb dX4_numberAt_16 rfl (lv_at hl 0 rfl) ?_
      obtain ⟨v9, ev9, hf⟩ := ob_s hf
      refine px_getR hx hb hts nX4_numberAt_X4 hown hK w ev9 rfl (by decide) mX4_numberAt_9 rfl dX4_numberAt_17 ?_
      refine lv_iload_n hx hb dX4_numberAt_20 rfl (lv_at hl 1 rfl) ?_
      obtain ⟨v10, ev10, hf⟩ := ob_s hf
      refine px_iald hx hb hK w ev10 dX4_numberAt_21 ?_
      exact hj22 v10 h H locs ls (by rw [ej1] at hf; exact hf) (lv_sub hl [0, 1] rfl) w
    · have hf := if_f hf c8
      exact hj12 h H locs ls (by rw [ej4] at hf; exact hf) (lv_sub hl [0, 1] rfl) w
theorem nX4_clear_X4 : ∀ w ∈ wsX40, w ∈ wsX4_clear := by decide +kernel
theorem mX4_clear_15 : Cond.fieldLink RX4 15 "NormalForms$Polynomial" "degree" "I" ∈ wsX4_clear := by decide +kernel
theorem mX4_clear_9 : Cond.fieldLink RX4 9 "NormalForms$Polynomial" "numbers" "[I" ∈ wsX4_clear := by decide +kernel
abbrev rmX4_clear : Room := { frames := 1, cells := 0, slots := 0, locals := 12 }
set_option maxHeartbeats 4000000 in
set_option maxRecDepth 100000 in
theorem kX4_clear (l : Launch) (D : va_G) (dA : Nat → ClassId) (b0 : Nat) (ι : Nat → Nat) (N : Nat) (a0 : Nat) (h : Hp) (h' : Hp) (hf : fX4_clear N a0 h = some h') : Met l yX4_clear wsX4_clear rmX4_clear (PC D dA b0 ι [.ref (ι a0)] h) (QV D dA b0 ι h') 0 0 (qA b0) := by
  unfold fX4_clear at hf
  refine Met.ofW (cc := cX4_clear) (maxL := 2) (ret := none) (by decide +kernel) rfl ?_
  intro p e s m args below meth c s₁ B hml hv
  obtain ⟨rfl, w0⟩ := hv
  have hx := B.exec
  have hb := B.bytes
  have hr := B.returns
  have hts := atoms_spec (ws := wsX4_clear) B.pre
  have hown : s.vm.findClass RX4 = some m.cls := findClass_of_methodNamed B.named
  have hlocks := B.notSynchronized
  have hC := w0.c
  have hK := hC.1
  have w := WD.start w0
  clear w0
  have hl := lv_entry ([.ref (ι a0)]) (n := 2) (Nat.le_of_ble_eq_true rfl)
  rw [lg_entry_eq]
  generalize (lg_sl ([.ref (ι a0)]) ++ List.replicate (2 - (lg_sl ([.ref (ι a0)])).length) Slot.unset).toArray = ls at hl ⊢
  have hl : lv_has ls 2 [(0, .ref (ι a0))] := hl
  obtain ⟨H, hH⟩ : ∃ H : Heap, H = s.heap := ⟨_, rfl⟩
  obtain ⟨locs, hlo⟩ : ∃ locs : List Loc, locs = [] := ⟨_, rfl⟩
  rw [← hlo]
  have w : WD D dA b0 ι h s.heap H locs := by rw [hH, hlo]; exact w
  refine px_start hH ?_
  refine lv_iconst (v := (0 : Int32)) hx hb dX4_clear_0 (by decide) ?_
  refine lv_istore_n (lv' := [(1, .int (0 : Int32)), (0, .ref (ι a0))]) hx hb dX4_clear_1 rfl hl (by decide) rfl (fun ls hl => ?_)
  have hx2 : ∀ (y1 : Int32) (h2 : Hp) (H : Heap) (locs : List Loc) (ls : Array Slot), ((pV h2 a0 6 1 (.int (-1 : Int32))).bind fun h3 => some h3) = some h' → lv_has ls 2 [(0, .ref (ι a0)), (1, .int y1)] → WD D dA b0 ι h2 s.heap H locs → W p l e (headSpec wsX4_clear rmX4_clear).room s m ([.ref (ι a0)] : List Value).toArray below meth c H locs 0 0 (MQ below (QV D dA b0 ι h') ([.ref (ι a0)] : List Value).toArray s 0 0 (qA b0)) (F0 m 23 ls []) := by
    intro y1 h2 H locs ls hf hl w
    refine lv_aload_n hx hb dX4_clear_23 rfl (lv_at hl 0 rfl) ?_
    refine lv_iconst (v := (-1 : Int32)) hx hb dX4_clear_24 (by decide) ?_
    obtain ⟨h3, eh3, hf⟩ := ob_s hf
    refine px_put hx hb hts nX4_clear_X4 tyX4 tyX4_ok nmX4 hown hK w eh3 rfl (by decide) mX4_clear_15 rfl rfl rfl rfl dX4_clear_25 rfl (fun H locs w => ?_)
    exact W.vret hx hb hr (qv_end hf w hC) w.locs_ok dX4_clear_28
  obtain ⟨κ2, eκ2⟩ : ∃ k : Int32 → Hp → Option Hp, k = (fun y1 h2 => (pV h2 a0 6 1 (.int (-1 : Int32))).bind fun h3 => some h3) := ⟨_, rfl⟩
  have hlp2 : ∀ (n : Nat) (z12 : Int32) (h13 : Hp) (H : Heap) (locs : List Loc) (ls : Array Slot), lX4_clear_2 N a0 n z12 h13 κ2 = some h' → lv_has ls 2 [(0, .ref (ι a0)), (1, .int z12)] → WD D dA b0 ι h13 s.heap H locs → W p l e (headSpec wsX4_clear rmX4_clear).room s m ([.ref (ι a0)] : List Value).toArray below meth c H locs 0 0 (MQ below (QV D dA b0 ι h') ([.ref (ι a0)] : List Value).toArray s 0 0 (qA b0)) (F0 m 2 ls []) := by
    intro n2
    induction n2 with
    | zero => intro z12 h13 H locs ls hf; exact absurd hf (by rw [lX4_clear_2]; exact fun q => nomatch q)
    | succ n2 ih2 =>
      intro z12 h13 H locs ls hf hl w
      rw [lX4_clear_2] at hf
      refine lv_iload_n hx hb dX4_clear_2 rfl (lv_at hl 1 rfl) ?_
      refine lv_aload_n hx hb dX4_clear_3 rfl (lv_at hl 0 rfl) ?_
      obtain ⟨v14, ev14, hf⟩ := ob_s hf
      refine px_getI hx hb hts nX4_clear_X4 hown hK w ev14 rfl (by decide) mX4_clear_15 rfl dX4_clear_4 ?_
      refine lv_icmp_gt (tgt := 23) hx hb dX4_clear_7 (by decide) (fun c15 => ?_) (fun c15 => ?_)
      · have hf := if_t hf c15
        exact hx2 z12 h13 H locs ls (by rw [eκ2] at hf; exact hf) (lv_sub hl [0, 1] rfl) w
      · have hf := if_f hf c15
        refine lv_aload_n hx hb dX4_clear_10 rfl (lv_at hl 0 rfl) ?_
        obtain ⟨v16, ev16, hf⟩ := ob_s hf
        refine px_getR hx hb hts nX4_clear_X4 hown hK w ev16 rfl (by decide) mX4_clear_9 rfl dX4_clear_11 ?_
        refine lv_iload_n hx hb dX4_clear_14 rfl (lv_at hl 1 rfl) ?_
        refine lv_iconst (v := (0 : Int32)) hx hb dX4_clear_15 (by decide) ?_
        obtain ⟨h17, eh17, hf⟩ := ob_s hf
        refine px_iast hx hb hK w eh17 dX4_clear_16 (fun H locs w => ?_)
        obtain ⟨x18, ex18, hf⟩ := nm_s hf
        refine lv_iinc (v := x18) (lv' := [(1, .int x18), (0, .ref (ι a0))]) hx hb dX4_clear_17 hl (k := 1) rfl (by rw [ex18]; rfl) (by decide) rfl (fun ls hl => ?_)
        refine lv_goto (tgt := 2) hx hb dX4_clear_20 (by decide) ?_
        exact ih2 x18 h17 H locs ls hf (lv_sub hl [1, 0] rfl) w
  exact hlp2 N (0 : Int32) h H locs ls (by rw [eκ2]; exact hf) (lv_sub hl [1, 0] rfl) w
theorem nX4_findDegree_X4 : ∀ w ∈ wsX40, w ∈ wsX4_findDegree := by decide +kernel
theorem mX4_findDegree_15 : Cond.fieldLink RX4 15 "NormalForms$Polynomial" "degree" "I" ∈ wsX4_findDegree := by decide +kernel
theorem mX4_findDegree_9 : Cond.fieldLink RX4 9 "NormalForms$Polynomial" "numbers" "[I" ∈ wsX4_findDegree := by decide +kernel
abbrev rmX4_findDegree : Room := { frames := 1, cells := 0, slots := 0, locals := 12 }
set_option maxHeartbeats 4000000 in
set_option maxRecDepth 100000 in
theorem kX4_findDegree (l : Launch) (D : va_G) (dA : Nat → ClassId) (b0 : Nat) (ι : Nat → Nat) (N : Nat) (a0 : Nat) (a1 : Int32) (h : Hp) (h' : Hp) (hf : fX4_findDegree N a0 a1 h = some h') : Met l yX4_findDegree wsX4_findDegree rmX4_findDegree (PC D dA b0 ι [.ref (ι a0), .int a1] h) (QV D dA b0 ι h') 0 0 (qA b0) := by
  unfold fX4_findDegree at hf
  refine Met.ofW (cc := cX4_findDegree) (maxL := 2) (ret := none) (by decide +kernel) rfl ?_
  intro p e s m args below meth c s₁ B hml hv
  obtain ⟨rfl, w0⟩ := hv
  have hx := B.exec
  have hb := B.bytes
  have hr := B.returns
  have hts := atoms_spec (ws := wsX4_findDegree) B.pre
  have hown : s.vm.findClass RX4 = some m.cls := findClass_of_methodNamed B.named
  have hlocks := B.notSynchronized
  have hC := w0.c
  have hK := hC.1
  have w := WD.start w0
  clear w0
  have hl := lv_entry ([.ref (ι a0), .int a1]) (n := 2) (Nat.le_of_ble_eq_true rfl)
  rw [lg_entry_eq]
  generalize (lg_sl ([.ref (ι a0), .int a1]) ++ List.replicate (2 - (lg_sl ([.ref (ι a0), .int a1])).length) Slot.unset).toArray = ls at hl ⊢
  have hl : lv_has ls 2 [(0, .ref (ι a0)), (1, .int a1)] := hl
  obtain ⟨H, hH⟩ : ∃ H : Heap, H = s.heap := ⟨_, rfl⟩
  obtain ⟨locs, hlo⟩ : ∃ locs : List Loc, locs = [] := ⟨_, rfl⟩
  rw [← hlo]
  have w : WD D dA b0 ι h s.heap H locs := by rw [hH, hlo]; exact w
  refine px_start hH ?_
  refine lv_aload_n hx hb dX4_findDegree_0 rfl (lv_at hl 0 rfl) ?_
  refine lv_iload_n hx hb dX4_findDegree_1 rfl (lv_at hl 1 rfl) ?_
  obtain ⟨h1, eh1, hf⟩ := ob_s hf
  refine px_put hx hb hts nX4_findDegree_X4 tyX4 tyX4_ok nmX4 hown hK w eh1 rfl (by decide) mX4_findDegree_15 rfl rfl rfl rfl dX4_findDegree_2 rfl (fun H locs w => ?_)
  have hx5 : ∀ (h2 : Hp) (H : Heap) (locs : List Loc) (ls : Array Slot), (some h2) = some h' → lv_has ls 2 [(0, .ref (ι a0)), (1, .int a1)] → WD D dA b0 ι h2 s.heap H locs → W p l e (headSpec wsX4_findDegree rmX4_findDegree).room s m ([.ref (ι a0), .int a1] : List Value).toArray below meth c H locs 0 0 (MQ below (QV D dA b0 ι h') ([.ref (ι a0), .int a1] : List Value).toArray s 0 0 (qA b0)) (F0 m 37 ls []) := by
    intro  h2 H locs ls hf hl w
    exact W.vret hx hb hr (qv_end hf w hC) w.locs_ok dX4_findDegree_37
  obtain ⟨κ5, eκ5⟩ : ∃ k : Hp → Option Hp, k = (fun h2 => some h2) := ⟨_, rfl⟩
  have hlp5 : ∀ (n : Nat) (h13 : Hp) (H : Heap) (locs : List Loc) (ls : Array Slot), lX4_findDegree_5 N a0 a1 n  h13 κ5 = some h' → lv_has ls 2 [(0, .ref (ι a0)), (1, .int a1)] → WD D dA b0 ι h13 s.heap H locs → W p l e (headSpec wsX4_findDegree rmX4_findDegree).room s m ([.ref (ι a0), .int a1] : List Value).toArray below meth c H locs 0 0 (MQ below (QV D dA b0 ι h') ([.ref (ι a0), .int a1] : List Value).toArray s 0 0 (qA b0)) (F0 m 5 ls []) := by
    intro n5
    induction n5 with
    | zero => intro  h13 H locs ls hf; exact absurd hf (by rw [lX4_findDegree_5]; exact fun q => nomatch q)
    | succ n5 ih5 =>
      intro  h13 H locs ls hf hl w
      rw [lX4_findDegree_5] at hf
      refine lv_aload_n hx hb dX4_findDegree_5 rfl (lv_at hl 0 rfl) ?_
      obtain ⟨v14, ev14, hf⟩ := ob_s hf
      refine px_getI hx hb hts nX4_findDegree_X4 hown hK w ev14 rfl (by decide) mX4_findDegree_15 rfl dX4_findDegree_6 ?_
      refine lv_if_lt (tgt := 37) hx hb dX4_findDegree_9 (by decide) (fun c15 => ?_) (fun c15 => ?_)
      · have hf := if_t hf c15
        exact hx5 h13 H locs ls (by rw [eκ5] at hf; exact hf) (lv_sub hl [0, 1] rfl) w
      · have hf := if_f hf c15
        refine lv_aload_n hx hb dX4_findDegree_12 rfl (lv_at hl 0 rfl) ?_
        obtain ⟨v16, ev16, hf⟩ := ob_s hf
        refine px_getR hx hb hts nX4_findDegree_X4 hown hK w ev16 rfl (by decide) mX4_findDegree_9 rfl dX4_findDegree_13 ?_
        refine lv_aload_n hx hb dX4_findDegree_16 rfl (lv_at hl 0 rfl) ?_
        obtain ⟨v17, ev17, hf⟩ := ob_s hf
        refine px_getI hx hb hts nX4_findDegree_X4 hown hK w ev17 rfl (by decide) mX4_findDegree_15 rfl dX4_findDegree_17 ?_
        obtain ⟨v18, ev18, hf⟩ := ob_s hf
        refine px_iald hx hb hK w ev18 dX4_findDegree_20 ?_
        refine lv_if_ne (tgt := 37) hx hb dX4_findDegree_21 (by decide) (fun c19 => ?_) (fun c19 => ?_)
        · have hf := if_f hf c19
          exact hx5 h13 H locs ls (by rw [eκ5] at hf; exact hf) (lv_sub hl [0, 1] rfl) w
        · have hf := if_t hf c19
          refine lv_aload_n hx hb dX4_findDegree_24 rfl (lv_at hl 0 rfl) ?_
          refine lv_dup hx hb dX4_findDegree_25 rfl ?_
          obtain ⟨v20, ev20, hf⟩ := ob_s hf
          refine px_getI hx hb hts nX4_findDegree_X4 hown hK w ev20 rfl (by decide) mX4_findDegree_15 rfl dX4_findDegree_26 ?_
          refine lv_iconst (v := (1 : Int32)) hx hb dX4_findDegree_29 (by decide) ?_
          refine lv_isub hx hb dX4_findDegree_30 ?_
          obtain ⟨h21, eh21, hf⟩ := ob_s hf
          refine px_put hx hb hts nX4_findDegree_X4 tyX4 tyX4_ok nmX4 hown hK w eh21 rfl (by decide) mX4_findDegree_15 rfl rfl rfl rfl dX4_findDegree_31 rfl (fun H locs w => ?_)
          refine lv_goto (tgt := 5) hx hb dX4_findDegree_34 (by decide) ?_
          exact ih5 h21 H locs ls hf (lv_sub hl [0, 1] rfl) w
  exact hlp5 N  h1 H locs ls (by rw [eκ5]; exact hf) (lv_sub hl [0, 1] rfl) w
theorem nX4_setNumber_X4 : ∀ w ∈ wsX40, w ∈ wsX4_setNumber := by decide +kernel
theorem mX4_setNumber_9 : Cond.fieldLink RX4 9 "NormalForms$Polynomial" "numbers" "[I" ∈ wsX4_setNumber := by decide +kernel
theorem mX4_setNumber_15 : Cond.fieldLink RX4 15 "NormalForms$Polynomial" "degree" "I" ∈ wsX4_setNumber := by decide +kernel
theorem mX4_setNumber_max_l : Cond.methodLink RX4 19 Lib.Math.max.name ∈ wsX4_setNumber := by decide +kernel
theorem mX4_setNumber_max_s : Cond.static Lib.Math.max.name ∈ wsX4_setNumber := by decide +kernel
theorem mX4_setNumber_max_i : Cond.initialized "java/lang/Math" ∈ wsX4_setNumber := by decide +kernel
theorem mX4_setNumber_max_c : Cond.code Lib.Math.max.name Lib.Math.max.code 2 (some .int) ∈ wsX4_setNumber := by decide +kernel
abbrev rmX4_setNumber : Room := { frames := 2, cells := 0, slots := 0, locals := 33 }
set_option maxHeartbeats 4000000 in
set_option maxRecDepth 100000 in
theorem kX4_setNumber (l : Launch) (D : va_G) (dA : Nat → ClassId) (b0 : Nat) (ι : Nat → Nat) (N : Nat) (a0 : Nat) (a1 : Int32) (a2 : Int32) (h : Hp) (h' : Hp) (hf : fX4_setNumber N a0 a1 a2 h = some h') : Met l yX4_setNumber wsX4_setNumber rmX4_setNumber (PC D dA b0 ι [.ref (ι a0), .int a1, .int a2] h) (QV D dA b0 ι h') 0 0 (qA b0) := by
  unfold fX4_setNumber at hf
  refine Met.ofW (cc := cX4_setNumber) (maxL := 3) (ret := none) (by decide +kernel) rfl ?_
  intro p e s m args below meth c s₁ B hml hv
  obtain ⟨rfl, w0⟩ := hv
  have hx := B.exec
  have hb := B.bytes
  have hr := B.returns
  have hts := atoms_spec (ws := wsX4_setNumber) B.pre
  have hown : s.vm.findClass RX4 = some m.cls := findClass_of_methodNamed B.named
  have hlocks := B.notSynchronized
  have hC := w0.c
  have hK := hC.1
  have w := WD.start w0
  clear w0
  have hl := lv_entry ([.ref (ι a0), .int a1, .int a2]) (n := 3) (Nat.le_of_ble_eq_true rfl)
  rw [lg_entry_eq]
  generalize (lg_sl ([.ref (ι a0), .int a1, .int a2]) ++ List.replicate (3 - (lg_sl ([.ref (ι a0), .int a1, .int a2])).length) Slot.unset).toArray = ls at hl ⊢
  have hl : lv_has ls 3 [(0, .ref (ι a0)), (1, .int a1), (2, .int a2)] := hl
  obtain ⟨H, hH⟩ : ∃ H : Heap, H = s.heap := ⟨_, rfl⟩
  obtain ⟨locs, hlo⟩ : ∃ locs : List Loc, locs = [] := ⟨_, rfl⟩
  rw [← hlo]
  have w : WD D dA b0 ι h s.heap H locs := by rw [hH, hlo]; exact w
  refine px_start hH ?_
  refine lv_iload_n hx hb dX4_setNumber_0 rfl (lv_at hl 1 rfl) ?_
  have hj13 : ∀ (h2 : Hp) (H : Heap) (locs : List Loc) (ls : Array Slot), (some h2) = some h' → lv_has ls 3 [(0, .ref (ι a0)), (1, .int a1), (2, .int a2)] → WD D dA b0 ι h2 s.heap H locs → W p l e (headSpec wsX4_setNumber rmX4_setNumber).room s m ([.ref (ι a0), .int a1, .int a2] : List Value).toArray below meth c H locs 0 0 (MQ below (QV D dA b0 ι h') ([.ref (ι a0), .int a1, .int a2] : List Value).toArray s 0 0 (qA b0)) (F0 m 13 ls []) := by
    intro h2 H locs ls hf hl w
    exact W.vret hx hb hr (qv_end hf w hC) w.locs_ok dX4_setNumber_13
  obtain ⟨j1, ej1, hf⟩ := jn_s hf
  refine lv_if_lt (tgt := 13) hx hb dX4_setNumber_1 (by decide) (fun c3 => ?_) (fun c3 => ?_)
  · have hf := if_t hf c3
    exact hj13 h H locs ls (by rw [ej1] at hf; exact hf) (lv_sub hl [0, 1, 2] rfl) w
  · have hf := if_f hf c3
    refine lv_iload_n hx hb dX4_setNumber_4 rfl (lv_at hl 1 rfl) ?_
    refine lv_aload_n hx hb dX4_setNumber_5 rfl (lv_at hl 0 rfl) ?_
    obtain ⟨v4, ev4, hf⟩ := ob_s hf
    refine px_getR hx hb hts nX4_setNumber_X4 hown hK w ev4 rfl (by decide) mX4_setNumber_9 rfl dX4_setNumber_6 ?_
    obtain ⟨v5, ev5, hf⟩ := ob_s hf
    refine px_alen hx hb hK w ev5 rfl dX4_setNumber_9 ?_
    refine lv_icmp_lt (tgt := 14) hx hb dX4_setNumber_10 (by decide) (fun c6 => ?_) (fun c6 => ?_)
    · have hf := if_t hf c6
      refine lv_aload_n hx hb dX4_setNumber_14 rfl (lv_at hl 0 rfl) ?_
      obtain ⟨v7, ev7, hf⟩ := ob_s hf
      refine px_getR hx hb hts nX4_setNumber_X4 hown hK w ev7 rfl (by decide) mX4_setNumber_9 rfl dX4_setNumber_15 ?_
      refine lv_iload_n hx hb dX4_setNumber_18 rfl (lv_at hl 1 rfl) ?_
      refine lv_iload_n hx hb dX4_setNumber_19 rfl (lv_at hl 2 rfl) ?_
      obtain ⟨h8, eh8, hf⟩ := ob_s hf
      refine px_iast hx hb hK w eh8 dX4_setNumber_20 (fun H locs w => ?_)
      refine lv_aload_n hx hb dX4_setNumber_21 rfl (lv_at hl 0 rfl) ?_
      refine lv_aload_n hx hb dX4_setNumber_22 rfl (lv_at hl 0 rfl) ?_
      obtain ⟨v9, ev9, hf⟩ := ob_s hf
      refine px_getI hx hb hts nX4_setNumber_X4 hown hK w ev9 rfl (by decide) mX4_setNumber_15 rfl dX4_setNumber_23 ?_
      refine lv_iload_n hx hb dX4_setNumber_26 rfl (lv_at hl 1 rfl) ?_
      refine px_mmax hx hb (by rw [hml, hl.1]) hown (hts _ mX4_setNumber_max_l) (hts _ mX4_setNumber_max_s) (hts _ mX4_setNumber_max_i) (hts _ mX4_setNumber_max_c) (Nat.le_of_ble_eq_true rfl) (Nat.le_of_ble_eq_true rfl) (Nat.le_of_ble_eq_true rfl) (Nat.le_of_ble_eq_true rfl) dX4_setNumber_27 ?_
      obtain ⟨u12, eu12, hf⟩ := ob_s hf
      obtain ⟨h11, eh11, hf⟩ := ob_s hf
      refine px_callVv (As := [.int (imx v9 a1)]) (rest := []) ⟨hx, hb, hml, hown, hts⟩ hC w (kX4_findDegree l D dA b0 ι N a0 (imx v9 a1) h8 h11 eh11) (cwV 1 hts gX4_setNumber_X4_findDegree rfl rfl rfl (by decide +kernel) ⟨Nat.le_of_ble_eq_true rfl, Nat.le_of_ble_eq_true rfl⟩) eu12 rfl rfl hl.1 rfl (Nat.le_of_ble_eq_true rfl) dX4_setNumber_30 ⟨Nat.le_of_ble_eq_true rfl, Nat.le_of_ble_eq_true rfl⟩ (fun H locs w => ?_)
      exact W.vret hx hb hr (qv_end hf w hC) w.locs_ok dX4_setNumber_33
    · have hf := if_f hf c6
      exact hj13 h H locs ls (by rw [ej1] at hf; exact hf) (lv_sub hl [0, 1, 2] rfl) w
theorem nX4_copyFrom_X4 : ∀ w ∈ wsX40, w ∈ wsX4_copyFrom := by decide +kernel
theorem mX4_copyFrom_15 : Cond.fieldLink RX4 15 "NormalForms$Polynomial" "degree" "I" ∈ wsX4_copyFrom := by decide +kernel
theorem mX4_copyFrom_9 : Cond.fieldLink RX4 9 "NormalForms$Polynomial" "numbers" "[I" ∈ wsX4_copyFrom := by decide +kernel
theorem mX4_copyFrom_min_l : Cond.methodLink RX4 32 Lib.Math.min.name ∈ wsX4_copyFrom := by decide +kernel
theorem mX4_copyFrom_min_s : Cond.static Lib.Math.min.name ∈ wsX4_copyFrom := by decide +kernel
theorem mX4_copyFrom_min_i : Cond.initialized "java/lang/Math" ∈ wsX4_copyFrom := by decide +kernel
theorem mX4_copyFrom_min_c : Cond.code Lib.Math.min.name Lib.Math.min.code 2 (some .int) ∈ wsX4_copyFrom := by decide +kernel
abbrev rmX4_copyFrom : Room := { frames := 2, cells := 0, slots := 0, locals := 33 }
set_option maxHeartbeats 4000000 in
set_option maxRecDepth 100000 in
theorem kX4_copyFrom (l : Launch) (D : va_G) (dA : Nat → ClassId) (b0 : Nat) (ι : Nat → Nat) (N : Nat) (a0 : Nat) (a1 : Nat) (h : Hp) (h' : Hp) (hf : fX4_copyFrom N a0 a1 h = some h') : Met l yX4_copyFrom wsX4_copyFrom rmX4_copyFrom (PC D dA b0 ι [.ref (ι a0), .ref (ι a1)] h) (QV D dA b0 ι h') 0 0 (qA b0) := by
  unfold fX4_copyFrom at hf
  refine Met.ofW (cc := cX4_copyFrom) (maxL := 4) (ret := none) (by decide +kernel) rfl ?_
  intro p e s m args below meth c s₁ B hml hv
  obtain ⟨rfl, w0⟩ := hv
  have hx := B.exec
  have hb := B.bytes
  have hr := B.returns
  have hts := atoms_spec (ws := wsX4_copyFrom) B.pre
  have hown : s.vm.findClass RX4 = some m.cls := findClass_of_methodNamed B.named
  have hlocks := B.notSynchronized
  have hC := w0.c
  have hK := hC.1
  have w := WD.start w0
  clear w0
  have hl := lv_entry ([.ref (ι a0), .ref (ι a1)]) (n := 4) (Nat.le_of_ble_eq_true rfl)
  rw [lg_entry_eq]
  generalize (lg_sl ([.ref (ι a0), .ref (ι a1)]) ++ List.replicate (4 - (lg_sl ([.ref (ι a0), .ref (ι a1)])).length) Slot.unset).toArray = ls at hl ⊢
  have hl : lv_has ls 4 [(0, .ref (ι a0)), (1, .ref (ι a1))] := hl
  obtain ⟨H, hH⟩ : ∃ H : Heap, H = s.heap := ⟨_, rfl⟩
  obtain ⟨locs, hlo⟩ : ∃ locs : List Loc, locs = [] := ⟨_, rfl⟩
  rw [← hlo]
  have w : WD D dA b0 ι h s.heap H locs := by rw [hH, hlo]; exact w
  refine px_start hH ?_
  refine lv_aload_n hx hb dX4_copyFrom_0 rfl (lv_at hl 0 rfl) ?_
  obtain ⟨u3, eu3, hf⟩ := ob_s hf
  obtain ⟨h2, eh2, hf⟩ := ob_s hf
  refine px_callVv (As := []) (rest := []) ⟨hx, hb, hml, hown, hts⟩ hC w (kX4_clear l D dA b0 ι N a0 h h2 eh2) (cwV 0 hts gX4_copyFrom_X4_clear rfl rfl rfl (by decide +kernel) ⟨Nat.le_of_ble_eq_true rfl, Nat.le_of_ble_eq_true rfl⟩) eu3 rfl rfl hl.1 rfl (Nat.le_of_ble_eq_true rfl) dX4_copyFrom_1 ⟨Nat.le_of_ble_eq_true rfl, Nat.le_of_ble_eq_true rfl⟩ (fun H locs w => ?_)
  refine lv_aload_n hx hb dX4_copyFrom_4 rfl (lv_at hl 1 rfl) ?_
  obtain ⟨v4, ev4, hf⟩ := ob_s hf
  refine px_getI hx hb hts nX4_copyFrom_X4 hown hK w ev4 rfl (by decide) mX4_copyFrom_15 rfl dX4_copyFrom_5 ?_
  refine lv_aload_n hx hb dX4_copyFrom_8 rfl (lv_at hl 0 rfl) ?_
  obtain ⟨v5, ev5, hf⟩ := ob_s hf
  refine px_getR hx hb hts nX4_copyFrom_X4 hown hK w ev5 rfl (by decide) mX4_copyFrom_9 rfl dX4_copyFrom_9 ?_
  obtain ⟨v6, ev6, hf⟩ := ob_s hf
  refine px_alen hx hb hK w ev6 rfl dX4_copyFrom_12 ?_
  refine lv_iconst (v := (1 : Int32)) hx hb dX4_copyFrom_13 (by decide) ?_
  refine lv_isub hx hb dX4_copyFrom_14 ?_
  refine px_mmin hx hb (by rw [hml, hl.1]) hown (hts _ mX4_copyFrom_min_l) (hts _ mX4_copyFrom_min_s) (hts _ mX4_copyFrom_min_i) (hts _ mX4_copyFrom_min_c) (Nat.le_of_ble_eq_true rfl) (Nat.le_of_ble_eq_true rfl) (Nat.le_of_ble_eq_true rfl) (Nat.le_of_ble_eq_true rfl) dX4_copyFrom_15 ?_
  obtain ⟨x7, ex7, hf⟩ := nm_s hf
  refine px_nmI ex7 ?_
  refine lv_istore_n (lv' := [(2, .int x7), (0, .ref (ι a0)), (1, .ref (ι a1))]) hx hb dX4_copyFrom_18 rfl hl (by decide) rfl (fun ls hl => ?_)
  refine lv_iconst (v := (0 : Int32)) hx hb dX4_copyFrom_19 (by decide) ?_
  refine lv_istore_n (lv' := [(3, .int (0 : Int32)), (2, .int x7), (0, .ref (ι a0)), (1, .ref (ι a1))]) hx hb dX4_copyFrom_20 rfl hl (by decide) rfl (fun ls hl => ?_)
  have hx21 : ∀ (y8 : Int32) (h9 : Hp) (H : Heap) (locs : List Loc) (ls : Array Slot), ((cK h9 a0 6).bind fun u12 => (fX4_findDegree N a0 x7 h9).bind fun h11 => some h11) = some h' → lv_has ls 4 [(0, .ref (ι a0)), (1, .ref (ι a1)), (2, .int x7), (3, .int y8)] → WD D dA b0 ι h9 s.heap H locs → W p l e (headSpec wsX4_copyFrom rmX4_copyFrom).room s m ([.ref (ι a0), .ref (ι a1)] : List Value).toArray below meth c H locs 0 0 (MQ below (QV D dA b0 ι h') ([.ref (ι a0), .ref (ι a1)] : List Value).toArray s 0 0 (qA b0)) (F0 m 44 ls []) := by
    intro y8 h9 H locs ls hf hl w
    refine lv_aload_n hx hb dX4_copyFrom_44 rfl (lv_at hl 0 rfl) ?_
    refine lv_iload_n hx hb dX4_copyFrom_45 rfl (lv_at hl 2 rfl) ?_
    obtain ⟨u12, eu12, hf⟩ := ob_s hf
    obtain ⟨h11, eh11, hf⟩ := ob_s hf
    refine px_callVv (As := [.int x7]) (rest := []) ⟨hx, hb, hml, hown, hts⟩ hC w (kX4_findDegree l D dA b0 ι N a0 x7 h9 h11 eh11) (cwV 1 hts gX4_copyFrom_X4_findDegree rfl rfl rfl (by decide +kernel) ⟨Nat.le_of_ble_eq_true rfl, Nat.le_of_ble_eq_true rfl⟩) eu12 rfl rfl hl.1 rfl (Nat.le_of_ble_eq_true rfl) dX4_copyFrom_46 ⟨Nat.le_of_ble_eq_true rfl, Nat.le_of_ble_eq_true rfl⟩ (fun H locs w => ?_)
    exact W.vret hx hb hr (qv_end hf w hC) w.locs_ok dX4_copyFrom_49
  obtain ⟨κ21, eκ21⟩ : ∃ k : Int32 → Hp → Option Hp, k = (fun y8 h9 => (cK h9 a0 6).bind fun u12 => (fX4_findDegree N a0 x7 h9).bind fun h11 => some h11) := ⟨_, rfl⟩
  have hlp21 : ∀ (n : Nat) (z22 : Int32) (h23 : Hp) (H : Heap) (locs : List Loc) (ls : Array Slot), lX4_copyFrom_21 N a0 a1 x7 n z22 h23 κ21 = some h' → lv_has ls 4 [(0, .ref (ι a0)), (1, .ref (ι a1)), (2, .int x7), (3, .int z22)] → WD D dA b0 ι h23 s.heap H locs → W p l e (headSpec wsX4_copyFrom rmX4_copyFrom).room s m ([.ref (ι a0), .ref (ι a1)] : List Value).toArray below meth c H locs 0 0 (MQ below (QV D dA b0 ι h') ([.ref (ι a0), .ref (ι a1)] : List Value).toArray s 0 0 (qA b0)) (F0 m 21 ls []) := by
    intro n21
    induction n21 with
    | zero => intro z22 h23 H locs ls hf; exact absurd hf (by rw [lX4_copyFrom_21]; exact fun q => nomatch q)
    | succ n21 ih21 =>
      intro z22 h23 H locs ls hf hl w
      rw [lX4_copyFrom_21] at hf
      refine lv_iload_n hx hb dX4_copyFrom_21 rfl (lv_at hl 3 rfl) ?_
      refine lv_iload_n hx hb dX4_copyFrom_22 rfl (lv_at hl 2 rfl) ?_
      refine lv_icmp_gt (tgt := 44) hx hb dX4_copyFrom_23 (by decide) (fun c24 => ?_) (fun c24 => ?_)
      · have hf := if_t hf c24
        exact hx21 z22 h23 H locs ls (by rw [eκ21] at hf; exact hf) (lv_sub hl [0, 1, 2, 3] rfl) w
      · have hf := if_f hf c24
        refine lv_aload_n hx hb dX4_copyFrom_26 rfl (lv_at hl 0 rfl) ?_
        obtain ⟨v25, ev25, hf⟩ := ob_s hf
        refine px_getR hx hb hts nX4_copyFrom_X4 hown hK w ev25 rfl (by decide) mX4_copyFrom_9 rfl dX4_copyFrom_27 ?_
        refine lv_iload_n hx hb dX4_copyFrom_30 rfl (lv_at hl 3 rfl) ?_
        refine lv_aload_n hx hb dX4_copyFrom_31 rfl (lv_at hl 1 rfl) ?_
        obtain ⟨v26, ev26, hf⟩ := ob_s hf
        refine px_getR hx hb hts nX4_copyFrom_X4 hown hK w ev26 rfl (by decide) mX4_copyFrom_9 rfl dX4_copyFrom_32 ?_
        refine lv_iload_n hx hb dX4_copyFrom_35 rfl (lv_at hl 3 rfl) ?_
        obtain ⟨v27, ev27, hf⟩ := ob_s hf
        refine px_iald hx hb hK w ev27 dX4_copyFrom_36 ?_
        obtain ⟨h28, eh28, hf⟩ := ob_s hf
        refine px_iast hx hb hK w eh28 dX4_copyFrom_37 (fun H locs w => ?_)
        obtain ⟨x29, ex29, hf⟩ := nm_s hf
        refine lv_iinc (v := x29) (lv' := [(3, .int x29), (0, .ref (ι a0)), (1, .ref (ι a1)), (2, .int x7)]) hx hb dX4_copyFrom_38 hl (k := 3) rfl (by rw [ex29]; rfl) (by decide) rfl (fun ls hl => ?_)
        refine lv_goto (tgt := 21) hx hb dX4_copyFrom_41 (by decide) ?_
        exact ih21 x29 h28 H locs ls hf (lv_sub hl [1, 2, 3, 0] rfl) w
  exact hlp21 N (0 : Int32) h2 H locs ls (by rw [eκ21]; exact hf) (lv_sub hl [2, 3, 1, 0] rfl) w
theorem nX4_multiply_X4 : ∀ w ∈ wsX40, w ∈ wsX4_multiply := by decide +kernel
theorem mX4_multiply_15 : Cond.fieldLink RX4 15 "NormalForms$Polynomial" "degree" "I" ∈ wsX4_multiply := by decide +kernel
theorem mX4_multiply_9 : Cond.fieldLink RX4 9 "NormalForms$Polynomial" "numbers" "[I" ∈ wsX4_multiply := by decide +kernel
abbrev rmX4_multiply : Room := { frames := 1, cells := 0, slots := 0, locals := 12 }
set_option maxHeartbeats 4000000 in
set_option maxRecDepth 100000 in
theorem kX4_multiply (l : Launch) (D : va_G) (dA : Nat → ClassId) (b0 : Nat) (ι : Nat → Nat) (N : Nat) (a0 : Nat) (a1 : Int32) (h : Hp) (h' : Hp) (hf : fX4_multiply N a0 a1 h = some h') : Met l yX4_multiply wsX4_multiply rmX4_multiply (PC D dA b0 ι [.ref (ι a0), .int a1] h) (QV D dA b0 ι h') 0 0 (qA b0) := by
  unfold fX4_multiply at hf
  refine Met.ofW (cc := cX4_multiply) (maxL := 3) (ret := none) (by decide +kernel) rfl ?_
  intro p e s m args below meth c s₁ B hml hv
  obtain ⟨rfl, w0⟩ := hv
  have hx := B.exec
  have hb := B.bytes
  have hr := B.returns
  have hts := atoms_spec (ws := wsX4_multiply) B.pre
  have hown : s.vm.findClass RX4 = some m.cls := findClass_of_methodNamed B.named
  have hlocks := B.notSynchronized
  have hC := w0.c
  have hK := hC.1
  have w := WD.start w0
  clear w0
  have hl := lv_entry ([.ref (ι a0), .int a1]) (n := 3) (Nat.le_of_ble_eq_true rfl)
  rw [lg_entry_eq]
  generalize (lg_sl ([.ref (ι a0), .int a1]) ++ List.replicate (3 - (lg_sl ([.ref (ι a0), .int a1])).length) Slot.unset).toArray = ls at hl ⊢
  have hl : lv_has ls 3 [(0, .ref (ι a0)), (1, .int a1)] := hl
  obtain ⟨H, hH⟩ : ∃ H : Heap, H = s.heap := ⟨_, rfl⟩
  obtain ⟨locs, hlo⟩ : ∃ locs : List Loc, locs = [] := ⟨_, rfl⟩
  rw [← hlo]
  have w : WD D dA b0 ι h s.heap H locs := by rw [hH, hlo]; exact w
  refine px_start hH ?_
  refine lv_iconst (v := (0 : Int32)) hx hb dX4_multiply_0 (by decide) ?_
  refine lv_istore_n (lv' := [(2, .int (0 : Int32)), (0, .ref (ι a0)), (1, .int a1)]) hx hb dX4_multiply_1 rfl hl (by decide) rfl (fun ls hl => ?_)
  have hx2 : ∀ (y1 : Int32) (h2 : Hp) (H : Heap) (locs : List Loc) (ls : Array Slot), (some h2) = some h' → lv_has ls 3 [(0, .ref (ι a0)), (1, .int a1), (2, .int y1)] → WD D dA b0 ι h2 s.heap H locs → W p l e (headSpec wsX4_multiply rmX4_multiply).room s m ([.ref (ι a0), .int a1] : List Value).toArray below meth c H locs 0 0 (MQ below (QV D dA b0 ι h') ([.ref (ι a0), .int a1] : List Value).toArray s 0 0 (qA b0)) (F0 m 34 ls []) := by
    intro y1 h2 H locs ls hf hl w
    exact W.vret hx hb hr (qv_end hf w hC) w.locs_ok dX4_multiply_34
  obtain ⟨κ2, eκ2⟩ : ∃ k : Int32 → Hp → Option Hp, k = (fun y1 h2 => some h2) := ⟨_, rfl⟩
  have hlp2 : ∀ (n : Nat) (z13 : Int32) (h14 : Hp) (H : Heap) (locs : List Loc) (ls : Array Slot), lX4_multiply_2 N a0 a1 n z13 h14 κ2 = some h' → lv_has ls 3 [(0, .ref (ι a0)), (1, .int a1), (2, .int z13)] → WD D dA b0 ι h14 s.heap H locs → W p l e (headSpec wsX4_multiply rmX4_multiply).room s m ([.ref (ι a0), .int a1] : List Value).toArray below meth c H locs 0 0 (MQ below (QV D dA b0 ι h') ([.ref (ι a0), .int a1] : List Value).toArray s 0 0 (qA b0)) (F0 m 2 ls []) := by
    intro n2
    induction n2 with
    | zero => intro z13 h14 H locs ls hf; exact absurd hf (by rw [lX4_multiply_2]; exact fun q => nomatch q)
    | succ n2 ih2 =>
      intro z13 h14 H locs ls hf hl w
      rw [lX4_multiply_2] at hf
      refine lv_iload_n hx hb dX4_multiply_2 rfl (lv_at hl 2 rfl) ?_
      refine lv_aload_n hx hb dX4_multiply_3 rfl (lv_at hl 0 rfl) ?_
      obtain ⟨v15, ev15, hf⟩ := ob_s hf
      refine px_getI hx hb hts nX4_multiply_X4 hown hK w ev15 rfl (by decide) mX4_multiply_15 rfl dX4_multiply_4 ?_
      refine lv_icmp_gt (tgt := 34) hx hb dX4_multiply_7 (by decide) (fun c16 => ?_) (fun c16 => ?_)
      · have hf := if_t hf c16
        exact hx2 z13 h14 H locs ls (by rw [eκ2] at hf; exact hf) (lv_sub hl [0, 1, 2] rfl) w
      · have hf := if_f hf c16
        refine lv_aload_n hx hb dX4_multiply_10 rfl (lv_at hl 0 rfl) ?_
        obtain ⟨v17, ev17, hf⟩ := ob_s hf
        refine px_getR hx hb hts nX4_multiply_X4 hown hK w ev17 rfl (by decide) mX4_multiply_9 rfl dX4_multiply_11 ?_
        refine lv_iload_n hx hb dX4_multiply_14 rfl (lv_at hl 2 rfl) ?_
        refine lv_aload_n hx hb dX4_multiply_15 rfl (lv_at hl 0 rfl) ?_
        obtain ⟨v18, ev18, hf⟩ := ob_s hf
        refine px_getR hx hb hts nX4_multiply_X4 hown hK w ev18 rfl (by decide) mX4_multiply_9 rfl dX4_multiply_16 ?_
        refine lv_iload_n hx hb dX4_multiply_19 rfl (lv_at hl 2 rfl) ?_
        obtain ⟨v19, ev19, hf⟩ := ob_s hf
        refine px_iald hx hb hK w ev19 dX4_multiply_20 ?_
        refine lv_iload_n hx hb dX4_multiply_21 rfl (lv_at hl 1 rfl) ?_
        refine lv_imul hx hb dX4_multiply_22 ?_
        refine lv_sipush (v := (32003 : Int32)) hx hb dX4_multiply_23 (by decide) ?_
        refine px_irem hx hb dX4_multiply_26 (by decide) ?_
        obtain ⟨h20, eh20, hf⟩ := ob_s hf
        refine px_iast hx hb hK w eh20 dX4_multiply_27 (fun H locs w => ?_)
        obtain ⟨x21, ex21, hf⟩ := nm_s hf
        refine lv_iinc (v := x21) (lv' := [(2, .int x21), (0, .ref (ι a0)), (1, .int a1)]) hx hb dX4_multiply_28 hl (k := 2) rfl (by rw [ex21]; rfl) (by decide) rfl (fun ls hl => ?_)
        refine lv_goto (tgt := 2) hx hb dX4_multiply_31 (by decide) ?_
        exact ih2 x21 h20 H locs ls hf (lv_sub hl [1, 2, 0] rfl) w
  exact hlp2 N (0 : Int32) h H locs ls (by rw [eκ2]; exact hf) (lv_sub hl [1, 2, 0] rfl) w
theorem nX4_makeMonic_X4 : ∀ w ∈ wsX40, w ∈ wsX4_makeMonic := by decide +kernel
theorem mX4_makeMonic_15 : Cond.fieldLink RX4 15 "NormalForms$Polynomial" "degree" "I" ∈ wsX4_makeMonic := by decide +kernel
theorem mX4_makeMonic_9 : Cond.fieldLink RX4 9 "NormalForms$Polynomial" "numbers" "[I" ∈ wsX4_makeMonic := by decide +kernel
theorem mX4_makeMonic_ini : Cond.initialized RX7 ∈ wsX4_makeMonic := by decide +kernel
theorem mX4_makeMonic_st_X7_inverseOf : Cond.static yX7_inverseOf ∈ wsX4_makeMonic := by decide +kernel
abbrev rmX4_makeMonic : Room := { frames := 2, cells := 0, slots := 0, locals := 35 }
set_option maxHeartbeats 4000000 in
set_option maxRecDepth 100000 in
theorem kX4_makeMonic (l : Launch) (D : va_G) (dA : Nat → ClassId) (b0 : Nat) (ι : Nat → Nat) (N : Nat) (a0 : Nat) (h : Hp) (h' : Hp) (hf : fX4_makeMonic N a0 h = some h') : Met l yX4_makeMonic wsX4_makeMonic rmX4_makeMonic (PC D dA b0 ι [.ref (ι a0)] h) (QV D dA b0 ι h') 0 0 (qA b0) := by
  unfold fX4_makeMonic at hf
  refine Met.ofW (cc := cX4_makeMonic) (maxL := 1) (ret := none) (by decide +kernel) rfl ?_
  intro p e s m args below meth c s₁ B hml hv
  obtain ⟨rfl, w0⟩ := hv
  have hx := B.exec
  have hb := B.bytes
  have hr := B.returns
  have hts := atoms_spec (ws := wsX4_makeMonic) B.pre
  have hown : s.vm.findClass RX4 = some m.cls := findClass_of_methodNamed B.named
  have hlocks := B.notSynchronized
  have hC := w0.c
  have hK := hC.1
  have w := WD.start w0
  clear w0
  have hl := lv_entry ([.ref (ι a0)]) (n := 1) (Nat.le_of_ble_eq_true rfl)
  rw [lg_entry_eq]
  generalize (lg_sl ([.ref (ι a0)]) ++ List.replicate (1 - (lg_sl ([.ref (ι a0)])).length) Slot.unset).toArray = ls at hl ⊢
  have hl : lv_has ls 1 [(0, .ref (ι a0))] := hl
  obtain ⟨H, hH⟩ : ∃ H : Heap, H = s.heap := ⟨_, rfl⟩
  obtain ⟨locs, hlo⟩ : ∃ locs : List Loc, locs = [] := ⟨_, rfl⟩
  rw [← hlo]
  have w : WD D dA b0 ι h s.heap H locs := by rw [hH, hlo]; exact w
  refine px_start hH ?_
  refine lv_aload_n hx hb dX4_makeMonic_0 rfl (lv_at hl 0 rfl) ?_
  obtain ⟨v1, ev1, hf⟩ := ob_s hf
  refine px_getI hx hb hts nX4_makeMonic_X4 hown hK w ev1 rfl (by decide) mX4_makeMonic_15 rfl dX4_makeMonic_1 ?_
  have hj23 : ∀ (h3 : Hp) (H : Heap) (locs : List Loc) (ls : Array Slot), (some h3) = some h' → lv_has ls 1 [(0, .ref (ι a0))] → WD D dA b0 ι h3 s.heap H locs → W p l e (headSpec wsX4_makeMonic rmX4_makeMonic).room s m ([.ref (ι a0)] : List Value).toArray below meth c H locs 0 0 (MQ below (QV D dA b0 ι h') ([.ref (ι a0)] : List Value).toArray s 0 0 (qA b0)) (F0 m 23 ls []) := by
    intro h3 H locs ls hf hl w
    exact W.vret hx hb hr (qv_end hf w hC) w.locs_ok dX4_makeMonic_23
  obtain ⟨j2, ej2, hf⟩ := jn_s hf
  refine lv_if_lt (tgt := 23) hx hb dX4_makeMonic_4 (by decide) (fun c4 => ?_) (fun c4 => ?_)
  · have hf := if_t hf c4
    exact hj23 h H locs ls (by rw [ej2] at hf; exact hf) (lv_sub hl [0] rfl) w
  · have hf := if_f hf c4
    refine lv_aload_n hx hb dX4_makeMonic_7 rfl (lv_at hl 0 rfl) ?_
    refine lv_aload_n hx hb dX4_makeMonic_8 rfl (lv_at hl 0 rfl) ?_
    obtain ⟨v5, ev5, hf⟩ := ob_s hf
    refine px_getR hx hb hts nX4_makeMonic_X4 hown hK w ev5 rfl (by decide) mX4_makeMonic_9 rfl dX4_makeMonic_9 ?_
    refine lv_aload_n hx hb dX4_makeMonic_12 rfl (lv_at hl 0 rfl) ?_
    obtain ⟨v6, ev6, hf⟩ := ob_s hf
    refine px_getI hx hb hts nX4_makeMonic_X4 hown hK w ev6 rfl (by decide) mX4_makeMonic_15 rfl dX4_makeMonic_13 ?_
    obtain ⟨v7, ev7, hf⟩ := ob_s hf
    refine px_iald hx hb hK w ev7 dX4_makeMonic_16 ?_
    obtain ⟨⟨v8, h9⟩, eh9, hf⟩ := ob_s hf
    dsimp only at hf
    refine px_callSNi (As := [.int v7]) (rest := [.ref (ι a0)]) ⟨hx, hb, hml, hown, hts⟩ hC w (kX7_inverseOf l D dA b0 ι N v7 h v8 h9 eh9) ⟨va_cnB 1 hts gX4_makeMonic_X7_inverseOf_n35 rfl rfl rfl (hC.2.1 _ nest_0) (hts _ mX4_makeMonic_ini) (by decide +kernel) ⟨Nat.le_of_ble_eq_true rfl, Nat.le_of_ble_eq_true rfl⟩, hts _ mX4_makeMonic_st_X7_inverseOf, trivial⟩ rfl hl.1 rfl (Nat.le_of_ble_eq_true rfl) dX4_makeMonic_17 ⟨Nat.le_of_ble_eq_true rfl, Nat.le_of_ble_eq_true rfl⟩ (fun H locs w => ?_)
    obtain ⟨u12, eu12, hf⟩ := ob_s hf
    obtain ⟨h11, eh11, hf⟩ := ob_s hf
    refine px_callVv (As := [.int v8]) (rest := []) ⟨hx, hb, hml, hown, hts⟩ hC w (kX4_multiply l D dA b0 ι N a0 v8 h9 h11 eh11) (cwV 1 hts gX4_makeMonic_X4_multiply rfl rfl rfl (by decide +kernel) ⟨Nat.le_of_ble_eq_true rfl, Nat.le_of_ble_eq_true rfl⟩) eu12 rfl rfl hl.1 rfl (Nat.le_of_ble_eq_true rfl) dX4_makeMonic_20 ⟨Nat.le_of_ble_eq_true rfl, Nat.le_of_ble_eq_true rfl⟩ (fun H locs w => ?_)
    exact hj23 h11 H locs ls (by rw [ej2] at hf; exact hf) (lv_sub hl [0] rfl) w
theorem nX4_addProduct_X4 : ∀ w ∈ wsX40, w ∈ wsX4_addProduct := by decide +kernel
theorem mX4_addProduct_15 : Cond.fieldLink RX4 15 "NormalForms$Polynomial" "degree" "I" ∈ wsX4_addProduct := by decide +kernel
theorem mX4_addProduct_max_l : Cond.methodLink RX4 19 Lib.Math.max.name ∈ wsX4_addProduct := by decide +kernel
theorem mX4_addProduct_max_s : Cond.static Lib.Math.max.name ∈ wsX4_addProduct := by decide +kernel
theorem mX4_addProduct_max_i : Cond.initialized "java/lang/Math" ∈ wsX4_addProduct := by decide +kernel
theorem mX4_addProduct_max_c : Cond.code Lib.Math.max.name Lib.Math.max.code 2 (some .int) ∈ wsX4_addProduct := by decide +kernel
theorem mX4_addProduct_9 : Cond.fieldLink RX4 9 "NormalForms$Polynomial" "numbers" "[I" ∈ wsX4_addProduct := by decide +kernel
theorem mX4_addProduct_min_l : Cond.methodLink RX4 32 Lib.Math.min.name ∈ wsX4_addProduct := by decide +kernel
theorem mX4_addProduct_min_s : Cond.static Lib.Math.min.name ∈ wsX4_addProduct := by decide +kernel
theorem mX4_addProduct_min_i : Cond.initialized "java/lang/Math" ∈ wsX4_addProduct := by decide +kernel
theorem mX4_addProduct_min_c : Cond.code Lib.Math.min.name Lib.Math.min.code 2 (some .int) ∈ wsX4_addProduct := by decide +kernel
abbrev rmX4_addProduct : Room := { frames := 2, cells := 0, slots := 0, locals := 33 }
set_option maxHeartbeats 4000000 in
set_option maxRecDepth 100000 in
theorem kX4_addProduct (l : Launch) (D : va_G) (dA : Nat → ClassId) (b0 : Nat) (ι : Nat → Nat) (N : Nat) (a0 : Nat) (a1 : Int32) (a2 : Nat) (a3 : Nat) (h : Hp) (h' : Hp) (hf : fX4_addProduct N a0 a1 a2 a3 h = some h') : Met l yX4_addProduct wsX4_addProduct rmX4_addProduct (PC D dA b0 ι [.ref (ι a0), .int a1, .ref (ι a2), .ref (ι a3)] h) (QV D dA b0 ι h') 0 0 (qA b0) := by
  unfold fX4_addProduct at hf
  refine Met.ofW (cc := cX4_addProduct) (maxL := 8) (ret := none) (by decide +kernel) rfl ?_
  intro p e s m args below meth c s₁ B hml hv
  obtain ⟨rfl, w0⟩ := hv
  have hx := B.exec
  have hb := B.bytes
  have hr := B.returns
  have hts := atoms_spec (ws := wsX4_addProduct) B.pre
  have hown : s.vm.findClass RX4 = some m.cls := findClass_of_methodNamed B.named
  have hlocks := B.notSynchronized
  have hC := w0.c
  have hK := hC.1
  have w := WD.start w0
  clear w0
  have hl := lv_entry ([.ref (ι a0), .int a1, .ref (ι a2), .ref (ι a3)]) (n := 8) (Nat.le_of_ble_eq_true rfl)
  rw [lg_entry_eq]
  generalize (lg_sl ([.ref (ι a0), .int a1, .ref (ι a2), .ref (ι a3)]) ++ List.replicate (8 - (lg_sl ([.ref (ι a0), .int a1, .ref (ι a2), .ref (ι a3)])).length) Slot.unset).toArray = ls at hl ⊢
  have hl : lv_has ls 8 [(0, .ref (ι a0)), (1, .int a1), (2, .ref (ι a2)), (3, .ref (ι a3))] := hl
  obtain ⟨H, hH⟩ : ∃ H : Heap, H = s.heap := ⟨_, rfl⟩
  obtain ⟨locs, hlo⟩ : ∃ locs : List Loc, locs = [] := ⟨_, rfl⟩
  rw [← hlo]
  have w : WD D dA b0 ι h s.heap H locs := by rw [hH, hlo]; exact w
  refine px_start hH ?_
  refine lv_iconst (v := (0 : Int32)) hx hb dX4_addProduct_0 (by decide) ?_
  refine lv_istore (lv' := [(4, .int (0 : Int32)), (0, .ref (ι a0)), (1, .int a1), (2, .ref (ι a2)), (3, .ref (ι a3))]) hx hb dX4_addProduct_1 hl (by decide) rfl (fun ls hl => ?_)
  have hx3 : ∀ (y1 : Int32) (h2 : Hp) (H : Heap) (locs : List Loc) (ls : Array Slot), ((gI h2 a0 6 1).bind fun v3 => (gI h2 a2 6 1).bind fun v4 => (gI h2 a3 6 1).bind fun v5 => (gR h2 a0 6 0).bind fun v6 => (aLen h2 v6 0).bind fun v7 => (cK h2 a0 6).bind fun u10 => (fX4_findDegree N a0 (imn (imx v3 (v4 + v5)) (v7 - (1 : Int32))) h2).bind fun h9 => some h9) = some h' → lv_has ls 8 [(0, .ref (ι a0)), (1, .int a1), (2, .ref (ι a2)), (3, .ref (ι a3)), (4, .int y1)] → WD D dA b0 ι h2 s.heap H locs → W p l e (headSpec wsX4_addProduct rmX4_addProduct).room s m ([.ref (ι a0), .int a1, .ref (ι a2), .ref (ι a3)] : List Value).toArray below meth c H locs 0 0 (MQ below (QV D dA b0 ι h') ([.ref (ι a0), .int a1, .ref (ι a2), .ref (ι a3)] : List Value).toArray s 0 0 (qA b0)) (F0 m 103 ls []) := by
    intro y1 h2 H locs ls hf hl w
    refine lv_aload_n hx hb dX4_addProduct_103 rfl (lv_at hl 0 rfl) ?_
    refine lv_aload_n hx hb dX4_addProduct_104 rfl (lv_at hl 0 rfl) ?_
    obtain ⟨v3, ev3, hf⟩ := ob_s hf
    refine px_getI hx hb hts nX4_addProduct_X4 hown hK w ev3 rfl (by decide) mX4_addProduct_15 rfl dX4_addProduct_105 ?_
    refine lv_aload_n hx hb dX4_addProduct_108 rfl (lv_at hl 2 rfl) ?_
    obtain ⟨v4, ev4, hf⟩ := ob_s hf
    refine px_getI hx hb hts nX4_addProduct_X4 hown hK w ev4 rfl (by decide) mX4_addProduct_15 rfl dX4_addProduct_109 ?_
    refine lv_aload_n hx hb dX4_addProduct_112 rfl (lv_at hl 3 rfl) ?_
    obtain ⟨v5, ev5, hf⟩ := ob_s hf
    refine px_getI hx hb hts nX4_addProduct_X4 hown hK w ev5 rfl (by decide) mX4_addProduct_15 rfl dX4_addProduct_113 ?_
    refine lv_iadd hx hb dX4_addProduct_116 ?_
    refine px_mmax hx hb (by rw [hml, hl.1]) hown (hts _ mX4_addProduct_max_l) (hts _ mX4_addProduct_max_s) (hts _ mX4_addProduct_max_i) (hts _ mX4_addProduct_max_c) (Nat.le_of_ble_eq_true rfl) (Nat.le_of_ble_eq_true rfl) (Nat.le_of_ble_eq_true rfl) (Nat.le_of_ble_eq_true rfl) dX4_addProduct_117 ?_
    refine lv_aload_n hx hb dX4_addProduct_120 rfl (lv_at hl 0 rfl) ?_
    obtain ⟨v6, ev6, hf⟩ := ob_s hf
    refine px_getR hx hb hts nX4_addProduct_X4 hown hK w ev6 rfl (by decide) mX4_addProduct_9 rfl dX4_addProduct_121 ?_
    obtain ⟨v7, ev7, hf⟩ := ob_s hf
    refine px_alen hx hb hK w ev7 rfl dX4_addProduct_124 ?_
    refine lv_iconst (v := (1 : Int32)) hx hb dX4_addProduct_125 (by decide) ?_
    refine lv_isub hx hb dX4_addProduct_126 ?_
    refine px_mmin hx hb (by rw [hml, hl.1]) hown (hts _ mX4_addProduct_min_l) (hts _ mX4_addProduct_min_s) (hts _ mX4_addProduct_min_i) (hts _ mX4_addProduct_min_c) (Nat.le_of_ble_eq_true rfl) (Nat.le_of_ble_eq_true rfl) (Nat.le_of_ble_eq_true rfl) (Nat.le_of_ble_eq_true rfl) dX4_addProduct_127 ?_
    obtain ⟨u10, eu10, hf⟩ := ob_s hf
    obtain ⟨h9, eh9, hf⟩ := ob_s hf
    refine px_callVv (As := [.int (imn (imx v3 (v4 + v5)) (v7 - (1 : Int32)))]) (rest := []) ⟨hx, hb, hml, hown, hts⟩ hC w (kX4_findDegree l D dA b0 ι N a0 (imn (imx v3 (v4 + v5)) (v7 - (1 : Int32))) h2 h9 eh9) (cwV 1 hts gX4_addProduct_X4_findDegree rfl rfl rfl (by decide +kernel) ⟨Nat.le_of_ble_eq_true rfl, Nat.le_of_ble_eq_true rfl⟩) eu10 rfl rfl hl.1 rfl (Nat.le_of_ble_eq_true rfl) dX4_addProduct_130 ⟨Nat.le_of_ble_eq_true rfl, Nat.le_of_ble_eq_true rfl⟩ (fun H locs w => ?_)
    exact W.vret hx hb hr (qv_end hf w hC) w.locs_ok dX4_addProduct_133
  obtain ⟨κ3, eκ3⟩ : ∃ k : Int32 → Hp → Option Hp, k = (fun y1 h2 => (gI h2 a0 6 1).bind fun v3 => (gI h2 a2 6 1).bind fun v4 => (gI h2 a3 6 1).bind fun v5 => (gR h2 a0 6 0).bind fun v6 => (aLen h2 v6 0).bind fun v7 => (cK h2 a0 6).bind fun u10 => (fX4_findDegree N a0 (imn (imx v3 (v4 + v5)) (v7 - (1 : Int32))) h2).bind fun h9 => some h9) := ⟨_, rfl⟩
  have hlp3 : ∀ (n : Nat) (z47 : Int32) (h48 : Hp) (H : Heap) (locs : List Loc) (ls : Array Slot), lX4_addProduct_3 N a0 a1 a2 a3 n z47 h48 κ3 = some h' → lv_has ls 8 [(0, .ref (ι a0)), (1, .int a1), (2, .ref (ι a2)), (3, .ref (ι a3)), (4, .int z47)] → WD D dA b0 ι h48 s.heap H locs → W p l e (headSpec wsX4_addProduct rmX4_addProduct).room s m ([.ref (ι a0), .int a1, .ref (ι a2), .ref (ι a3)] : List Value).toArray below meth c H locs 0 0 (MQ below (QV D dA b0 ι h') ([.ref (ι a0), .int a1, .ref (ι a2), .ref (ι a3)] : List Value).toArray s 0 0 (qA b0)) (F0 m 3 ls []) := by
    intro n3
    induction n3 with
    | zero => intro z47 h48 H locs ls hf; exact absurd hf (by rw [lX4_addProduct_3]; exact fun q => nomatch q)
    | succ n3 ih3 =>
      intro z47 h48 H locs ls hf hl w
      rw [lX4_addProduct_3] at hf
      refine lv_iload hx hb dX4_addProduct_3 (lv_at hl 4 rfl) ?_
      refine lv_aload_n hx hb dX4_addProduct_5 rfl (lv_at hl 2 rfl) ?_
      obtain ⟨v49, ev49, hf⟩ := ob_s hf
      refine px_getI hx hb hts nX4_addProduct_X4 hown hK w ev49 rfl (by decide) mX4_addProduct_15 rfl dX4_addProduct_6 ?_
      refine lv_icmp_gt (tgt := 103) hx hb dX4_addProduct_9 (by decide) (fun c50 => ?_) (fun c50 => ?_)
      · have hf := if_t hf c50
        exact hx3 z47 h48 H locs ls (by rw [eκ3] at hf; exact hf) (lv_sub hl [0, 1, 2, 3, 4] rfl) w
      · have hf := if_f hf c50
        refine lv_aload_n hx hb dX4_addProduct_12 rfl (lv_at hl 2 rfl) ?_
        obtain ⟨v51, ev51, hf⟩ := ob_s hf
        refine px_getR hx hb hts nX4_addProduct_X4 hown hK w ev51 rfl (by decide) mX4_addProduct_9 rfl dX4_addProduct_13 ?_
        refine lv_iload hx hb dX4_addProduct_16 (lv_at hl 4 rfl) ?_
        obtain ⟨v52, ev52, hf⟩ := ob_s hf
        refine px_iald hx hb hK w ev52 dX4_addProduct_18 ?_
        refine lv_iload_n hx hb dX4_addProduct_19 rfl (lv_at hl 1 rfl) ?_
        refine lv_imul hx hb dX4_addProduct_20 ?_
        refine lv_sipush (v := (32003 : Int32)) hx hb dX4_addProduct_21 (by decide) ?_
        refine px_irem hx hb dX4_addProduct_24 (by decide) ?_
        obtain ⟨x53, ex53, hf⟩ := nm_s hf
        refine px_nmI ex53 ?_
        refine lv_istore (lv' := [(5, .int x53), (0, .ref (ι a0)), (1, .int a1), (2, .ref (ι a2)), (3, .ref (ι a3)), (4, .int z47)]) hx hb dX4_addProduct_25 hl (by decide) rfl (fun ls hl => ?_)
        refine lv_aload_n hx hb dX4_addProduct_27 rfl (lv_at hl 4 rfl) ?_
        obtain ⟨v54, ev54, hf⟩ := ob_s hf
        refine px_getI hx hb hts nX4_addProduct_X4 hown hK w ev54 rfl (by decide) mX4_addProduct_15 rfl dX4_addProduct_28 ?_
        refine lv_aload_n hx hb dX4_addProduct_31 rfl (lv_at hl 1 rfl) ?_
        obtain ⟨v55, ev55, hf⟩ := ob_s hf
        refine px_getR hx hb hts nX4_addProduct_X4 hown hK w ev55 rfl (by decide) mX4_addProduct_9 rfl dX4_addProduct_32 ?_
        obtain ⟨v56, ev56, hf⟩ := ob_s hf
        refine px_alen hx hb hK w ev56 rfl dX4_addProduct_35 ?_
        refine lv_iconst (v := (1 : Int32)) hx hb dX4_addProduct_36 (by decide) ?_
        refine lv_isub hx hb dX4_addProduct_37 ?_
        refine lv_iload hx hb dX4_addProduct_38 (lv_at hl 5 rfl) ?_
        refine lv_isub hx hb dX4_addProduct_40 ?_
        refine px_mmin hx hb (by rw [hml, hl.1]) hown (hts _ mX4_addProduct_min_l) (hts _ mX4_addProduct_min_s) (hts _ mX4_addProduct_min_i) (hts _ mX4_addProduct_min_c) (Nat.le_of_ble_eq_true rfl) (Nat.le_of_ble_eq_true rfl) (Nat.le_of_ble_eq_true rfl) (Nat.le_of_ble_eq_true rfl) dX4_addProduct_41 ?_
        obtain ⟨x57, ex57, hf⟩ := nm_s hf
        refine px_nmI ex57 ?_
        refine lv_istore (lv' := [(6, .int x57), (5, .int x53), (0, .ref (ι a0)), (1, .int a1), (2, .ref (ι a2)), (3, .ref (ι a3)), (4, .int z47)]) hx hb dX4_addProduct_44 hl (by decide) rfl (fun ls hl => ?_)
        refine lv_iconst (v := (0 : Int32)) hx hb dX4_addProduct_46 (by decide) ?_
        refine lv_istore (lv' := [(7, .int (0 : Int32)), (6, .int x57), (5, .int x53), (0, .ref (ι a0)), (1, .int a1), (2, .ref (ι a2)), (3, .ref (ι a3)), (4, .int z47)]) hx hb dX4_addProduct_47 hl (by decide) rfl (fun ls hl => ?_)
        have hx49 : ∀ (y58 : Int32) (h59 : Hp) (H : Heap) (locs : List Loc) (ls : Array Slot), (nm (z47 + (1 : Int32)) fun x60 => lX4_addProduct_3 N a0 a1 a2 a3 n3 x60 h59 κ3) = some h' → lv_has ls 8 [(0, .ref (ι a0)), (1, .int a1), (2, .ref (ι a2)), (3, .ref (ι a3)), (4, .int z47), (5, .int x53), (6, .int x57), (7, .int y58)] → WD D dA b0 ι h59 s.heap H locs → W p l e (headSpec wsX4_addProduct rmX4_addProduct).room s m ([.ref (ι a0), .int a1, .ref (ι a2), .ref (ι a3)] : List Value).toArray below meth c H locs 0 0 (MQ below (QV D dA b0 ι h') ([.ref (ι a0), .int a1, .ref (ι a2), .ref (ι a3)] : List Value).toArray s 0 0 (qA b0)) (F0 m 97 ls []) := by
          intro y58 h59 H locs ls hf hl w
          obtain ⟨x60, ex60, hf⟩ := nm_s hf
          refine lv_iinc (v := x60) (lv' := [(4, .int x60), (0, .ref (ι a0)), (1, .int a1), (2, .ref (ι a2)), (3, .ref (ι a3)), (5, .int x53), (6, .int x57), (7, .int y58)]) hx hb dX4_addProduct_97 hl (k := 4) rfl (by rw [ex60]; rfl) (by decide) rfl (fun ls hl => ?_)
          refine lv_goto (tgt := 3) hx hb dX4_addProduct_100 (by decide) ?_
          exact ih3 x60 h59 H locs ls hf (lv_sub hl [1, 2, 3, 4, 0] rfl) w
        obtain ⟨κ49, eκ49⟩ : ∃ k : Int32 → Hp → Option Hp, k = (fun y58 h59 => nm (z47 + (1 : Int32)) fun x60 => lX4_addProduct_3 N a0 a1 a2 a3 n3 x60 h59 κ3) := ⟨_, rfl⟩
        have hlp49 : ∀ (n : Nat) (z72 : Int32) (h73 : Hp) (H : Heap) (locs : List Loc) (ls : Array Slot), lX4_addProduct_49 N a0 a1 a2 a3 z47 x53 x57 n z72 h73 κ49 = some h' → lv_has ls 8 [(0, .ref (ι a0)), (1, .int a1), (2, .ref (ι a2)), (3, .ref (ι a3)), (4, .int z47), (5, .int x53), (6, .int x57), (7, .int z72)] → WD D dA b0 ι h73 s.heap H locs → W p l e (headSpec wsX4_addProduct rmX4_addProduct).room s m ([.ref (ι a0), .int a1, .ref (ι a2), .ref (ι a3)] : List Value).toArray below meth c H locs 0 0 (MQ below (QV D dA b0 ι h') ([.ref (ι a0), .int a1, .ref (ι a2), .ref (ι a3)] : List Value).toArray s 0 0 (qA b0)) (F0 m 49 ls []) := by
          intro n49
          induction n49 with
          | zero => intro z72 h73 H locs ls hf; exact absurd hf (by rw [lX4_addProduct_49]; exact fun q => nomatch q)
          | succ n49 ih49 =>
            intro z72 h73 H locs ls hf hl w
            rw [lX4_addProduct_49] at hf
            refine lv_iload hx hb dX4_addProduct_49 (lv_at hl 7 rfl) ?_
            refine lv_iload hx hb dX4_addProduct_51 (lv_at hl 6 rfl) ?_
            refine lv_icmp_gt (tgt := 97) hx hb dX4_addProduct_53 (by decide) (fun c74 => ?_) (fun c74 => ?_)
            · have hf := if_t hf c74
              exact hx49 z72 h73 H locs ls (by rw [eκ49] at hf; exact hf) (lv_sub hl [0, 1, 2, 3, 4, 5, 6, 7] rfl) w
            · have hf := if_f hf c74
              refine lv_aload_n hx hb dX4_addProduct_56 rfl (lv_at hl 0 rfl) ?_
              obtain ⟨v75, ev75, hf⟩ := ob_s hf
              refine px_getR hx hb hts nX4_addProduct_X4 hown hK w ev75 rfl (by decide) mX4_addProduct_9 rfl dX4_addProduct_57 ?_
              refine lv_iload hx hb dX4_addProduct_60 (lv_at hl 4 rfl) ?_
              refine lv_iload hx hb dX4_addProduct_62 (lv_at hl 7 rfl) ?_
              refine lv_iadd hx hb dX4_addProduct_64 ?_
              refine lv_aload_n hx hb dX4_addProduct_65 rfl (lv_at hl 0 rfl) ?_
              obtain ⟨v76, ev76, hf⟩ := ob_s hf
              refine px_getR hx hb hts nX4_addProduct_X4 hown hK w ev76 rfl (by decide) mX4_addProduct_9 rfl dX4_addProduct_66 ?_
              refine lv_iload hx hb dX4_addProduct_69 (lv_at hl 4 rfl) ?_
              refine lv_iload hx hb dX4_addProduct_71 (lv_at hl 7 rfl) ?_
              refine lv_iadd hx hb dX4_addProduct_73 ?_
              obtain ⟨v77, ev77, hf⟩ := ob_s hf
              refine px_iald hx hb hK w ev77 dX4_addProduct_74 ?_
              refine lv_iload hx hb dX4_addProduct_75 (lv_at hl 5 rfl) ?_
              refine lv_aload_n hx hb dX4_addProduct_77 rfl (lv_at hl 3 rfl) ?_
              obtain ⟨v78, ev78, hf⟩ := ob_s hf
              refine px_getR hx hb hts nX4_addProduct_X4 hown hK w ev78 rfl (by decide) mX4_addProduct_9 rfl dX4_addProduct_78 ?_
              refine lv_iload hx hb dX4_addProduct_81 (lv_at hl 7 rfl) ?_
              obtain ⟨v79, ev79, hf⟩ := ob_s hf
              refine px_iald hx hb hK w ev79 dX4_addProduct_83 ?_
              refine lv_imul hx hb dX4_addProduct_84 ?_
              refine lv_iadd hx hb dX4_addProduct_85 ?_
              refine lv_sipush (v := (32003 : Int32)) hx hb dX4_addProduct_86 (by decide) ?_
              refine px_irem hx hb dX4_addProduct_89 (by decide) ?_
              obtain ⟨h80, eh80, hf⟩ := ob_s hf
              refine px_iast hx hb hK w eh80 dX4_addProduct_90 (fun H locs w => ?_)
              obtain ⟨x81, ex81, hf⟩ := nm_s hf
              refine lv_iinc (v := x81) (lv' := [(7, .int x81), (0, .ref (ι a0)), (1, .int a1), (2, .ref (ι a2)), (3, .ref (ι a3)), (4, .int z47), (5, .int x53), (6, .int x57)]) hx hb dX4_addProduct_91 hl (k := 7) rfl (by rw [ex81]; rfl) (by decide) rfl (fun ls hl => ?_)
              refine lv_goto (tgt := 49) hx hb dX4_addProduct_94 (by decide) ?_
              exact ih49 x81 h80 H locs ls hf (lv_sub hl [1, 2, 3, 4, 5, 6, 7, 0] rfl) w
        exact hlp49 N (0 : Int32) h48 H locs ls (by rw [eκ49]; exact hf) (lv_sub hl [3, 4, 5, 6, 7, 2, 1, 0] rfl) w
  exact hlp3 N (0 : Int32) h H locs ls (by rw [eκ3]; exact hf) (lv_sub hl [1, 2, 3, 4, 0] rfl) w
theorem nX4_divideBy_X4 : ∀ w ∈ wsX40, w ∈ wsX4_divideBy := by decide +kernel
theorem mX4_divideBy_15 : Cond.fieldLink RX4 15 "NormalForms$Polynomial" "degree" "I" ∈ wsX4_divideBy := by decide +kernel
theorem mX4_divideBy_9 : Cond.fieldLink RX4 9 "NormalForms$Polynomial" "numbers" "[I" ∈ wsX4_divideBy := by decide +kernel
theorem mX4_divideBy_ini : Cond.initialized RX7 ∈ wsX4_divideBy := by decide +kernel
theorem mX4_divideBy_st_X7_inverseOf : Cond.static yX7_inverseOf ∈ wsX4_divideBy := by decide +kernel
abbrev rmX4_divideBy : Room := { frames := 2, cells := 0, slots := 0, locals := 35 }
set_option maxHeartbeats 4000000 in
set_option maxRecDepth 100000 in
theorem kX4_divideBy (l : Launch) (D : va_G) (dA : Nat → ClassId) (b0 : Nat) (ι : Nat → Nat) (N : Nat) (a0 : Nat) (a1 : Nat) (a2 : Nat) (h : Hp) (h' : Hp) (hf : fX4_divideBy N a0 a1 a2 h = some h') : Met l yX4_divideBy wsX4_divideBy rmX4_divideBy (PC D dA b0 ι [.ref (ι a0), .ref (ι a1), .ref (ι a2)] h) (QV D dA b0 ι h') 0 0 (qA b0) := by
  unfold fX4_divideBy at hf
  refine Met.ofW (cc := cX4_divideBy) (maxL := 9) (ret := none) (by decide +kernel) rfl ?_
  intro p e s m args below meth c s₁ B hml hv
  obtain ⟨rfl, w0⟩ := hv
  have hx := B.exec
  have hb := B.bytes
  have hr := B.returns
  have hts := atoms_spec (ws := wsX4_divideBy) B.pre
  have hown : s.vm.findClass RX4 = some m.cls := findClass_of_methodNamed B.named
  have hlocks := B.notSynchronized
  have hC := w0.c
  have hK := hC.1
  have w := WD.start w0
  clear w0
  have hl := lv_entry ([.ref (ι a0), .ref (ι a1), .ref (ι a2)]) (n := 9) (Nat.le_of_ble_eq_true rfl)
  rw [lg_entry_eq]
  generalize (lg_sl ([.ref (ι a0), .ref (ι a1), .ref (ι a2)]) ++ List.replicate (9 - (lg_sl ([.ref (ι a0), .ref (ι a1), .ref (ι a2)])).length) Slot.unset).toArray = ls at hl ⊢
  have hl : lv_has ls 9 [(0, .ref (ι a0)), (1, .ref (ι a1)), (2, .ref (ι a2))] := hl
  obtain ⟨H, hH⟩ : ∃ H : Heap, H = s.heap := ⟨_, rfl⟩
  obtain ⟨locs, hlo⟩ : ∃ locs : List Loc, locs = [] := ⟨_, rfl⟩
  rw [← hlo]
  have w : WD D dA b0 ι h s.heap H locs := by rw [hH, hlo]; exact w
  refine px_start hH ?_
  refine lv_aload_n hx hb dX4_divideBy_0 rfl (lv_at hl 2 rfl) ?_
  obtain ⟨u3, eu3, hf⟩ := ob_s hf
  obtain ⟨h2, eh2, hf⟩ := ob_s hf
  refine px_callVv (As := []) (rest := []) ⟨hx, hb, hml, hown, hts⟩ hC w (kX4_clear l D dA b0 ι N a2 h h2 eh2) (cwV 0 hts gX4_divideBy_X4_clear rfl rfl rfl (by decide +kernel) ⟨Nat.le_of_ble_eq_true rfl, Nat.le_of_ble_eq_true rfl⟩) eu3 rfl rfl hl.1 rfl (Nat.le_of_ble_eq_true rfl) dX4_divideBy_1 ⟨Nat.le_of_ble_eq_true rfl, Nat.le_of_ble_eq_true rfl⟩ (fun H locs w => ?_)
  refine lv_aload_n hx hb dX4_divideBy_4 rfl (lv_at hl 1 rfl) ?_
  obtain ⟨v4, ev4, hf⟩ := ob_s hf
  refine px_getI hx hb hts nX4_divideBy_X4 hown hK w ev4 rfl (by decide) mX4_divideBy_15 rfl dX4_divideBy_5 ?_
  refine lv_istore_n (lv' := [(3, .int v4), (0, .ref (ι a0)), (1, .ref (ι a1)), (2, .ref (ι a2))]) hx hb dX4_divideBy_8 rfl hl (by decide) rfl (fun ls hl => ?_)
  refine lv_iload_n hx hb dX4_divideBy_9 rfl (lv_at hl 0 rfl) ?_
  have hj35 : ∀ (h6 : Hp) (H : Heap) (locs : List Loc) (ls : Array Slot), (some h6) = some h' → lv_has ls 9 [(0, .ref (ι a0)), (1, .ref (ι a1)), (2, .ref (ι a2)), (3, .int v4)] → WD D dA b0 ι h6 s.heap H locs → W p l e (headSpec wsX4_divideBy rmX4_divideBy).room s m ([.ref (ι a0), .ref (ι a1), .ref (ι a2)] : List Value).toArray below meth c H locs 0 0 (MQ below (QV D dA b0 ι h') ([.ref (ι a0), .ref (ι a1), .ref (ι a2)] : List Value).toArray s 0 0 (qA b0)) (F0 m 35 ls []) := by
    intro h6 H locs ls hf hl w
    exact W.vret hx hb hr (qv_end hf w hC) w.locs_ok dX4_divideBy_35
  obtain ⟨j5, ej5, hf⟩ := jn_s hf
  refine lv_if_lt (tgt := 35) hx hb dX4_divideBy_10 (by decide) (fun c7 => ?_) (fun c7 => ?_)
  · have hf := if_t hf c7
    exact hj35 h2 H locs ls (by rw [ej5] at hf; exact hf) (lv_sub hl [1, 2, 3, 0] rfl) w
  · have hf := if_f hf c7
    refine lv_aload_n hx hb dX4_divideBy_13 rfl (lv_at hl 1 rfl) ?_
    obtain ⟨v8, ev8, hf⟩ := ob_s hf
    refine px_getI hx hb hts nX4_divideBy_X4 hown hK w ev8 rfl (by decide) mX4_divideBy_15 rfl dX4_divideBy_14 ?_
    refine lv_iload_n hx hb dX4_divideBy_17 rfl (lv_at hl 0 rfl) ?_
    refine lv_icmp_lt (tgt := 35) hx hb dX4_divideBy_18 (by decide) (fun c9 => ?_) (fun c9 => ?_)
    · have hf := if_t hf c9
      exact hj35 h2 H locs ls (by rw [ej5] at hf; exact hf) (lv_sub hl [1, 2, 3, 0] rfl) w
    · have hf := if_f hf c9
      refine lv_aload_n hx hb dX4_divideBy_21 rfl (lv_at hl 1 rfl) ?_
      obtain ⟨v10, ev10, hf⟩ := ob_s hf
      refine px_getI hx hb hts nX4_divideBy_X4 hown hK w ev10 rfl (by decide) mX4_divideBy_15 rfl dX4_divideBy_22 ?_
      refine lv_iload_n hx hb dX4_divideBy_25 rfl (lv_at hl 0 rfl) ?_
      refine lv_isub hx hb dX4_divideBy_26 ?_
      refine lv_aload_n hx hb dX4_divideBy_27 rfl (lv_at hl 3 rfl) ?_
      obtain ⟨v11, ev11, hf⟩ := ob_s hf
      refine px_getR hx hb hts nX4_divideBy_X4 hown hK w ev11 rfl (by decide) mX4_divideBy_9 rfl dX4_divideBy_28 ?_
      obtain ⟨v12, ev12, hf⟩ := ob_s hf
      refine px_alen hx hb hK w ev12 rfl dX4_divideBy_31 ?_
      refine lv_icmp_lt (tgt := 36) hx hb dX4_divideBy_32 (by decide) (fun c13 => ?_) (fun c13 => ?_)
      · have hf := if_t hf c13
        refine lv_aload_n hx hb dX4_divideBy_36 rfl (lv_at hl 2 rfl) ?_
        obtain ⟨v14, ev14, hf⟩ := ob_s hf
        refine px_getR hx hb hts nX4_divideBy_X4 hown hK w ev14 rfl (by decide) mX4_divideBy_9 rfl dX4_divideBy_37 ?_
        refine lv_iload_n hx hb dX4_divideBy_40 rfl (lv_at hl 0 rfl) ?_
        obtain ⟨v15, ev15, hf⟩ := ob_s hf
        refine px_iald hx hb hK w ev15 dX4_divideBy_41 ?_
        obtain ⟨⟨v16, h17⟩, eh17, hf⟩ := ob_s hf
        dsimp only at hf
        refine px_callSNi (As := [.int v15]) (rest := []) ⟨hx, hb, hml, hown, hts⟩ hC w (kX7_inverseOf l D dA b0 ι N v15 h2 v16 h17 eh17) ⟨va_cnB 1 hts gX4_divideBy_X7_inverseOf_n35 rfl rfl rfl (hC.2.1 _ nest_0) (hts _ mX4_divideBy_ini) (by decide +kernel) ⟨Nat.le_of_ble_eq_true rfl, Nat.le_of_ble_eq_true rfl⟩, hts _ mX4_divideBy_st_X7_inverseOf, trivial⟩ rfl hl.1 rfl (Nat.le_of_ble_eq_true rfl) dX4_divideBy_42 ⟨Nat.le_of_ble_eq_true rfl, Nat.le_of_ble_eq_true rfl⟩ (fun H locs w => ?_)
        refine lv_istore (lv' := [(4, .int v16), (3, .int v4), (0, .ref (ι a0)), (1, .ref (ι a1)), (2, .ref (ι a2))]) hx hb dX4_divideBy_45 hl (by decide) rfl (fun ls hl => ?_)
        refine lv_aload_n hx hb dX4_divideBy_47 rfl (lv_at hl 4 rfl) ?_
        refine lv_aload_n hx hb dX4_divideBy_48 rfl (lv_at hl 2 rfl) ?_
        obtain ⟨v18, ev18, hf⟩ := ob_s hf
        refine px_getI hx hb hts nX4_divideBy_X4 hown hK w ev18 rfl (by decide) mX4_divideBy_15 rfl dX4_divideBy_49 ?_
        refine lv_iload_n hx hb dX4_divideBy_52 rfl (lv_at hl 1 rfl) ?_
        refine lv_isub hx hb dX4_divideBy_53 ?_
        obtain ⟨h19, eh19, hf⟩ := ob_s hf
        refine px_put hx hb hts nX4_divideBy_X4 tyX4 tyX4_ok nmX4 hown hK w eh19 rfl (by decide) mX4_divideBy_15 rfl rfl rfl rfl dX4_divideBy_54 rfl (fun H locs w => ?_)
        refine lv_aload_n hx hb dX4_divideBy_57 rfl (lv_at hl 2 rfl) ?_
        obtain ⟨v20, ev20, hf⟩ := ob_s hf
        refine px_getI hx hb hts nX4_divideBy_X4 hown hK w ev20 rfl (by decide) mX4_divideBy_15 rfl dX4_divideBy_58 ?_
        refine lv_iload_n hx hb dX4_divideBy_61 rfl (lv_at hl 1 rfl) ?_
        refine lv_isub hx hb dX4_divideBy_62 ?_
        obtain ⟨x21, ex21, hf⟩ := nm_s hf
        refine px_nmI ex21 ?_
        refine lv_istore (lv' := [(5, .int x21), (4, .int v16), (3, .int v4), (0, .ref (ι a0)), (1, .ref (ι a1)), (2, .ref (ι a2))]) hx hb dX4_divideBy_63 hl (by decide) rfl (fun ls hl => ?_)
        have hx65 : ∀ (y22 : Int32) (h23 : Hp) (H : Heap) (locs : List Loc) (ls : Array Slot), ((cK h23 a0 6).bind fun u26 => (fX4_findDegree N a0 (v4 - (1 : Int32)) h23).bind fun h25 => some h25) = some h' → lv_has ls 9 [(0, .ref (ι a0)), (1, .ref (ι a1)), (2, .ref (ι a2)), (3, .int v4), (4, .int v16), (5, .int y22)] → WD D dA b0 ι h23 s.heap H locs → W p l e (headSpec wsX4_divideBy rmX4_divideBy).room s m ([.ref (ι a0), .ref (ι a1), .ref (ι a2)] : List Value).toArray below meth c H locs 0 0 (MQ below (QV D dA b0 ι h') ([.ref (ι a0), .ref (ι a1), .ref (ι a2)] : List Value).toArray s 0 0 (qA b0)) (F0 m 161 ls []) := by
          intro y22 h23 H locs ls hf hl w
          refine lv_aload_n hx hb dX4_divideBy_161 rfl (lv_at hl 0 rfl) ?_
          refine lv_iload_n hx hb dX4_divideBy_162 rfl (lv_at hl 3 rfl) ?_
          refine lv_iconst (v := (1 : Int32)) hx hb dX4_divideBy_163 (by decide) ?_
          refine lv_isub hx hb dX4_divideBy_164 ?_
          obtain ⟨u26, eu26, hf⟩ := ob_s hf
          obtain ⟨h25, eh25, hf⟩ := ob_s hf
          refine px_callVv (As := [.int (v4 - (1 : Int32))]) (rest := []) ⟨hx, hb, hml, hown, hts⟩ hC w (kX4_findDegree l D dA b0 ι N a0 (v4 - (1 : Int32)) h23 h25 eh25) (cwV 1 hts gX4_divideBy_X4_findDegree rfl rfl rfl (by decide +kernel) ⟨Nat.le_of_ble_eq_true rfl, Nat.le_of_ble_eq_true rfl⟩) eu26 rfl rfl hl.1 rfl (Nat.le_of_ble_eq_true rfl) dX4_divideBy_165 ⟨Nat.le_of_ble_eq_true rfl, Nat.le_of_ble_eq_true rfl⟩ (fun H locs w => ?_)
          exact W.vret hx hb hr (qv_end hf w hC) w.locs_ok dX4_divideBy_168
        obtain ⟨κ65, eκ65⟩ : ∃ k : Int32 → Hp → Option Hp, k = (fun y22 h23 => (cK h23 a0 6).bind fun u26 => (fX4_findDegree N a0 (v4 - (1 : Int32)) h23).bind fun h25 => some h25) := ⟨_, rfl⟩
        have hlp65 : ∀ (n : Nat) (z61 : Int32) (h62 : Hp) (H : Heap) (locs : List Loc) (ls : Array Slot), lX4_divideBy_65 N a0 a1 a2 v4 v16 n z61 h62 κ65 = some h' → lv_has ls 9 [(0, .ref (ι a0)), (1, .ref (ι a1)), (2, .ref (ι a2)), (3, .int v4), (4, .int v16), (5, .int z61)] → WD D dA b0 ι h62 s.heap H locs → W p l e (headSpec wsX4_divideBy rmX4_divideBy).room s m ([.ref (ι a0), .ref (ι a1), .ref (ι a2)] : List Value).toArray below meth c H locs 0 0 (MQ below (QV D dA b0 ι h') ([.ref (ι a0), .ref (ι a1), .ref (ι a2)] : List Value).toArray s 0 0 (qA b0)) (F0 m 65 ls []) := by
          intro n65
          induction n65 with
          | zero => intro z61 h62 H locs ls hf; exact absurd hf (by rw [lX4_divideBy_65]; exact fun q => nomatch q)
          | succ n65 ih65 =>
            intro z61 h62 H locs ls hf hl w
            rw [lX4_divideBy_65] at hf
            refine lv_iload hx hb dX4_divideBy_65 (lv_at hl 5 rfl) ?_
            refine lv_if_lt (tgt := 161) hx hb dX4_divideBy_67 (by decide) (fun c63 => ?_) (fun c63 => ?_)
            · have hf := if_t hf c63
              exact hx65 z61 h62 H locs ls (by rw [eκ65] at hf; exact hf) (lv_sub hl [0, 1, 2, 3, 4, 5] rfl) w
            · have hf := if_f hf c63
              refine lv_aload_n hx hb dX4_divideBy_70 rfl (lv_at hl 0 rfl) ?_
              obtain ⟨v64, ev64, hf⟩ := ob_s hf
              refine px_getR hx hb hts nX4_divideBy_X4 hown hK w ev64 rfl (by decide) mX4_divideBy_9 rfl dX4_divideBy_71 ?_
              refine lv_iload hx hb dX4_divideBy_74 (lv_at hl 5 rfl) ?_
              refine lv_iload_n hx hb dX4_divideBy_76 rfl (lv_at hl 3 rfl) ?_
              refine lv_iadd hx hb dX4_divideBy_77 ?_
              obtain ⟨v65, ev65, hf⟩ := ob_s hf
              refine px_iald hx hb hK w ev65 dX4_divideBy_78 ?_
              refine lv_iload hx hb dX4_divideBy_79 (lv_at hl 4 rfl) ?_
              refine lv_imul hx hb dX4_divideBy_81 ?_
              refine lv_sipush (v := (32003 : Int32)) hx hb dX4_divideBy_82 (by decide) ?_
              refine px_irem hx hb dX4_divideBy_85 (by decide) ?_
              obtain ⟨x66, ex66, hf⟩ := nm_s hf
              refine px_nmI ex66 ?_
              refine lv_istore (lv' := [(6, .int x66), (0, .ref (ι a0)), (1, .ref (ι a1)), (2, .ref (ι a2)), (3, .int v4), (4, .int v16), (5, .int z61)]) hx hb dX4_divideBy_86 hl (by decide) rfl (fun ls hl => ?_)
              refine lv_aload_n hx hb dX4_divideBy_88 rfl (lv_at hl 3 rfl) ?_
              obtain ⟨v67, ev67, hf⟩ := ob_s hf
              refine px_getR hx hb hts nX4_divideBy_X4 hown hK w ev67 rfl (by decide) mX4_divideBy_9 rfl dX4_divideBy_89 ?_
              refine lv_iload hx hb dX4_divideBy_92 (lv_at hl 6 rfl) ?_
              refine lv_iload hx hb dX4_divideBy_94 (lv_at hl 0 rfl) ?_
              obtain ⟨h68, eh68, hf⟩ := ob_s hf
              refine px_iast hx hb hK w eh68 dX4_divideBy_96 (fun H locs w => ?_)
              refine lv_sipush (v := (32003 : Int32)) hx hb dX4_divideBy_97 (by decide) ?_
              refine lv_iload hx hb dX4_divideBy_100 (lv_at hl 0 rfl) ?_
              refine lv_isub hx hb dX4_divideBy_102 ?_
              obtain ⟨x69, ex69, hf⟩ := nm_s hf
              refine px_nmI ex69 ?_
              refine lv_istore (lv' := [(7, .int x69), (6, .int x66), (0, .ref (ι a0)), (1, .ref (ι a1)), (2, .ref (ι a2)), (3, .int v4), (4, .int v16), (5, .int z61)]) hx hb dX4_divideBy_103 hl (by decide) rfl (fun ls hl => ?_)
              refine lv_iconst (v := (0 : Int32)) hx hb dX4_divideBy_105 (by decide) ?_
              refine lv_istore (lv' := [(8, .int (0 : Int32)), (7, .int x69), (6, .int x66), (0, .ref (ι a0)), (1, .ref (ι a1)), (2, .ref (ι a2)), (3, .int v4), (4, .int v16), (5, .int z61)]) hx hb dX4_divideBy_106 hl (by decide) rfl (fun ls hl => ?_)
              have hx108 : ∀ (y70 : Int32) (h71 : Hp) (H : Heap) (locs : List Loc) (ls : Array Slot), (nm (z61 + (-1 : Int32)) fun x72 => lX4_divideBy_65 N a0 a1 a2 v4 v16 n65 x72 h71 κ65) = some h' → lv_has ls 9 [(0, .ref (ι a0)), (1, .ref (ι a1)), (2, .ref (ι a2)), (3, .int v4), (4, .int v16), (5, .int z61), (6, .int x66), (7, .int x69), (8, .int y70)] → WD D dA b0 ι h71 s.heap H locs → W p l e (headSpec wsX4_divideBy rmX4_divideBy).room s m ([.ref (ι a0), .ref (ι a1), .ref (ι a2)] : List Value).toArray below meth c H locs 0 0 (MQ below (QV D dA b0 ι h') ([.ref (ι a0), .ref (ι a1), .ref (ι a2)] : List Value).toArray s 0 0 (qA b0)) (F0 m 155 ls []) := by
                intro y70 h71 H locs ls hf hl w
                obtain ⟨x72, ex72, hf⟩ := nm_s hf
                refine lv_iinc (v := x72) (lv' := [(5, .int x72), (0, .ref (ι a0)), (1, .ref (ι a1)), (2, .ref (ι a2)), (3, .int v4), (4, .int v16), (6, .int x66), (7, .int x69), (8, .int y70)]) hx hb dX4_divideBy_155 hl (k := 5) rfl (by rw [ex72]; rfl) (by decide) rfl (fun ls hl => ?_)
                refine lv_goto (tgt := 65) hx hb dX4_divideBy_158 (by decide) ?_
                exact ih65 x72 h71 H locs ls hf (lv_sub hl [1, 2, 3, 4, 5, 0] rfl) w
              obtain ⟨κ108, eκ108⟩ : ∃ k : Int32 → Hp → Option Hp, k = (fun y70 h71 => nm (z61 + (-1 : Int32)) fun x72 => lX4_divideBy_65 N a0 a1 a2 v4 v16 n65 x72 h71 κ65) := ⟨_, rfl⟩
              have hlp108 : ∀ (n : Nat) (z84 : Int32) (h85 : Hp) (H : Heap) (locs : List Loc) (ls : Array Slot), lX4_divideBy_108 N a0 a1 a2 v4 v16 z61 x66 x69 n z84 h85 κ108 = some h' → lv_has ls 9 [(0, .ref (ι a0)), (1, .ref (ι a1)), (2, .ref (ι a2)), (3, .int v4), (4, .int v16), (5, .int z61), (6, .int x66), (7, .int x69), (8, .int z84)] → WD D dA b0 ι h85 s.heap H locs → W p l e (headSpec wsX4_divideBy rmX4_divideBy).room s m ([.ref (ι a0), .ref (ι a1), .ref (ι a2)] : List Value).toArray below meth c H locs 0 0 (MQ below (QV D dA b0 ι h') ([.ref (ι a0), .ref (ι a1), .ref (ι a2)] : List Value).toArray s 0 0 (qA b0)) (F0 m 108 ls []) := by
                intro n108
                induction n108 with
                | zero => intro z84 h85 H locs ls hf; exact absurd hf (by rw [lX4_divideBy_108]; exact fun q => nomatch q)
                | succ n108 ih108 =>
                  intro z84 h85 H locs ls hf hl w
                  rw [lX4_divideBy_108] at hf
                  refine lv_iload hx hb dX4_divideBy_108 (lv_at hl 8 rfl) ?_
                  refine lv_iload_n hx hb dX4_divideBy_110 rfl (lv_at hl 3 rfl) ?_
                  refine lv_icmp_gt (tgt := 155) hx hb dX4_divideBy_111 (by decide) (fun c86 => ?_) (fun c86 => ?_)
                  · have hf := if_t hf c86
                    exact hx108 z84 h85 H locs ls (by rw [eκ108] at hf; exact hf) (lv_sub hl [0, 1, 2, 3, 4, 5, 6, 7, 8] rfl) w
                  · have hf := if_f hf c86
                    refine lv_aload_n hx hb dX4_divideBy_114 rfl (lv_at hl 0 rfl) ?_
                    obtain ⟨v87, ev87, hf⟩ := ob_s hf
                    refine px_getR hx hb hts nX4_divideBy_X4 hown hK w ev87 rfl (by decide) mX4_divideBy_9 rfl dX4_divideBy_115 ?_
                    refine lv_iload hx hb dX4_divideBy_118 (lv_at hl 5 rfl) ?_
                    refine lv_iload hx hb dX4_divideBy_120 (lv_at hl 8 rfl) ?_
                    refine lv_iadd hx hb dX4_divideBy_122 ?_
                    refine lv_aload_n hx hb dX4_divideBy_123 rfl (lv_at hl 0 rfl) ?_
                    obtain ⟨v88, ev88, hf⟩ := ob_s hf
                    refine px_getR hx hb hts nX4_divideBy_X4 hown hK w ev88 rfl (by decide) mX4_divideBy_9 rfl dX4_divideBy_124 ?_
                    refine lv_iload hx hb dX4_divideBy_127 (lv_at hl 5 rfl) ?_
                    refine lv_iload hx hb dX4_divideBy_129 (lv_at hl 8 rfl) ?_
                    refine lv_iadd hx hb dX4_divideBy_131 ?_
                    obtain ⟨v89, ev89, hf⟩ := ob_s hf
                    refine px_iald hx hb hK w ev89 dX4_divideBy_132 ?_
                    refine lv_iload hx hb dX4_divideBy_133 (lv_at hl 7 rfl) ?_
                    refine lv_aload_n hx hb dX4_divideBy_135 rfl (lv_at hl 1 rfl) ?_
                    obtain ⟨v90, ev90, hf⟩ := ob_s hf
                    refine px_getR hx hb hts nX4_divideBy_X4 hown hK w ev90 rfl (by decide) mX4_divideBy_9 rfl dX4_divideBy_136 ?_
                    refine lv_iload hx hb dX4_divideBy_139 (lv_at hl 8 rfl) ?_
                    obtain ⟨v91, ev91, hf⟩ := ob_s hf
                    refine px_iald hx hb hK w ev91 dX4_divideBy_141 ?_
                    refine lv_imul hx hb dX4_divideBy_142 ?_
                    refine lv_iadd hx hb dX4_divideBy_143 ?_
                    refine lv_sipush (v := (32003 : Int32)) hx hb dX4_divideBy_144 (by decide) ?_
                    refine px_irem hx hb dX4_divideBy_147 (by decide) ?_
                    obtain ⟨h92, eh92, hf⟩ := ob_s hf
                    refine px_iast hx hb hK w eh92 dX4_divideBy_148 (fun H locs w => ?_)
                    obtain ⟨x93, ex93, hf⟩ := nm_s hf
                    refine lv_iinc (v := x93) (lv' := [(8, .int x93), (0, .ref (ι a0)), (1, .ref (ι a1)), (2, .ref (ι a2)), (3, .int v4), (4, .int v16), (5, .int z61), (6, .int x66), (7, .int x69)]) hx hb dX4_divideBy_149 hl (k := 8) rfl (by rw [ex93]; rfl) (by decide) rfl (fun ls hl => ?_)
                    refine lv_goto (tgt := 108) hx hb dX4_divideBy_152 (by decide) ?_
                    exact ih108 x93 h92 H locs ls hf (lv_sub hl [1, 2, 3, 4, 5, 6, 7, 8, 0] rfl) w
              exact hlp108 N (0 : Int32) h68 H locs ls (by rw [eκ108]; exact hf) (lv_sub hl [3, 4, 5, 6, 7, 8, 2, 1, 0] rfl) w
        exact hlp65 N x21 h19 H locs ls (by rw [eκ65]; exact hf) (lv_sub hl [3, 4, 5, 2, 1, 0] rfl) w
      · have hf := if_f hf c13
        exact hj35 h2 H locs ls (by rw [ej5] at hf; exact hf) (lv_sub hl [1, 2, 3, 0] rfl) w
