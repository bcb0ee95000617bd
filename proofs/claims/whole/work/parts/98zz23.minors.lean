theorem nX3_of_X3 : ∀ w ∈ wsX30, w ∈ wsX3_of := by decide +kernel
theorem mX3_of_11 : Cond.fieldLink RX3 11 "NormalForms$Minors" "minors" "[LNormalForms$Polynomial;" ∈ wsX3_of := by decide +kernel
abbrev rmX3_of : Room := { frames := 1, cells := 0, slots := 0, locals := 12 }
set_option maxHeartbeats 4000000 in
set_option maxRecDepth 100000 in
theorem kX3_of (l : Launch) (D : va_G) (dA : Nat → ClassId) (b0 : Nat) (ι : Nat → Nat) (N : Nat) (a0 : Nat) (a1 : Int32) (a2 : Int32) (h : Hp) (r : Nat) (h' : Hp) (hf : fX3_of N a0 a1 a2 h = some (r, h')) : Met l yX3_of wsX3_of rmX3_of (PC D dA b0 ι [.ref (ι a0), .int a1, .int a2] h) (QR D dA b0 ι r h') 0 0 (qA b0) := by
  unfold fX3_of at hf
  refine Met.ofW (cc := cX3_of) (maxL := 3) (ret := (some (.object "NormalForms$Polynomial"))) (by decide +kernel) rfl ?_
  intro p e s m args below meth c s₁ B hml hv
  obtain ⟨rfl, w0⟩ := hv
  have hx := B.exec
  have hb := B.bytes
  have hr := B.returns
  have hts := atoms_spec (ws := wsX3_of) B.pre
  have hown : s.vm.findClass RX3 = some m.cls := findClass_of_methodNamed B.named
  have hlocks := B.notSynchronized
  have hC := w0.c
  have hK := hC.1
  have w := WD.start w0
  clear w0
  have hl := lv_entry ([.ref (ι a0), .int a1, .int a2]) (n := 3) (Nat.le_of_ble_eq_true rfl)
  rw [lg_entry_eq]
  generalize (lg_sl ([.ref (ι a0), .int a1, .int a2]) ++ List.replicate (3 - (lg_sl ([.ref (ι a0), .int a1, .int a2])).length) Slot.unset).toArray = ls at hl ⊢
  have hl : lv_has ls 3 [(0, .ref (ι a0)), (1, .int a1), (2, .int a2)] := hl
  obtain ⟨H, hH⟩ : ∃ H : Heap, H = s.heap := ⟨_, rfl⟩
  obtain ⟨locs, hlo⟩ : ∃ locs : List Loc, locs = [] := ⟨_, rfl⟩
  rw [← hlo]
  have w : WD D dA b0 ι h s.heap H locs := by rw [hH, hlo]; exact w
  refine px_start hH ?_
  refine lv_aload_n hx hb dX3_of_0 rfl (lv_at hl 0 rfl) ?_
  obtain ⟨v1, ev1, hf⟩ := ob_s hf
  refine px_getR hx hb hts nX3_of_X3 hown hK w ev1 rfl (by decide) mX3_of_11 rfl dX3_of_1 ?_
  refine lv_iload_n hx hb dX3_of_4 rfl (lv_at hl 1 rfl) ?_
  refine lv_bipush (v := (15 : Int32)) hx hb dX3_of_5 (by decide) ?_
  refine lv_iand hx hb dX3_of_7 ?_
  refine lv_iconst (v := (4 : Int32)) hx hb dX3_of_8 (by decide) ?_
  refine lv_ishl hx hb dX3_of_9 ?_
  refine lv_iload_n hx hb dX3_of_10 rfl (lv_at hl 2 rfl) ?_
  refine lv_bipush (v := (15 : Int32)) hx hb dX3_of_11 (by decide) ?_
  refine lv_iand hx hb dX3_of_13 ?_
  refine lv_ior hx hb dX3_of_14 ?_
  obtain ⟨v2, ev2, hf⟩ := ob_s hf
  refine px_rald hx hb hK w ev2 rfl dX3_of_15 ?_
  exact W.aret hx hb hr (Or.inl ⟨_, rfl⟩) (Or.inr ⟨_, rfl⟩) (qr_end hf w hC) w.locs_ok dX3_of_16
abbrev rmX3_leading : Room := { frames := 2, cells := 0, slots := 0, locals := 34 }
set_option maxHeartbeats 4000000 in
set_option maxRecDepth 100000 in
theorem kX3_leading (l : Launch) (D : va_G) (dA : Nat → ClassId) (b0 : Nat) (ι : Nat → Nat) (N : Nat) (a0 : Nat) (a1 : Int32) (h : Hp) (r : Nat) (h' : Hp) (hf : fX3_leading N a0 a1 h = some (r, h')) : Met l yX3_leading wsX3_leading rmX3_leading (PC D dA b0 ι [.ref (ι a0), .int a1] h) (QR D dA b0 ι r h') 0 0 (qA b0) := by
  unfold fX3_leading at hf
  refine Met.ofW (cc := cX3_leading) (maxL := 3) (ret := (some (.object "NormalForms$Polynomial"))) (by decide +kernel) rfl ?_
  intro p e s m args below meth c s₁ B hml hv
  obtain ⟨rfl, w0⟩ := hv
  have hx := B.exec
  have hb := B.bytes
  have hr := B.returns
  have hts := atoms_spec (ws := wsX3_leading) B.pre
  have hown : s.vm.findClass RX3 = some m.cls := findClass_of_methodNamed B.named
  have hlocks := B.notSynchronized
  have hC := w0.c
  have hK := hC.1
  have w := WD.start w0
  clear w0
  have hl := lv_entry ([.ref (ι a0), .int a1]) (n := 3) (Nat.le_of_ble_eq_true rfl)
  rw [lg_entry_eq]
  generalize (lg_sl ([.ref (ι a0), .int a1]) ++ List.replicate (3 - (lg_sl ([.ref (ι a0), .int a1])).length) Slot.unset).toArray = ls at hl ⊢
  have hl : lv_has ls 3 [(0, .ref (ι a0)), (1, .int a1)] := hl
  obtain ⟨H, hH⟩ : ∃ H : Heap, H = s.heap := ⟨_, rfl⟩
  obtain ⟨locs, hlo⟩ : ∃ locs : List Loc, locs = [] := ⟨_, rfl⟩
  rw [← hlo]
  have w : WD D dA b0 ι h s.heap H locs := by rw [hH, hlo]; exact w
  refine px_start hH ?_
  refine lv_iconst (v := (1 : Int32)) hx hb dX3_leading_0 (by decide) ?_
  refine lv_iload_n hx hb dX3_leading_1 rfl (lv_at hl 1 rfl) ?_
  refine lv_ishl hx hb dX3_leading_2 ?_
  refine lv_iconst (v := (1 : Int32)) hx hb dX3_leading_3 (by decide) ?_
  refine lv_isub hx hb dX3_leading_4 ?_
  obtain ⟨x1, ex1, hf⟩ := nm_s hf
  refine px_nmI ex1 ?_
  refine lv_istore_n (lv' := [(2, .int x1), (0, .ref (ι a0)), (1, .int a1)]) hx hb dX3_leading_5 rfl hl (by decide) rfl (fun ls hl => ?_)
  refine lv_aload_n hx hb dX3_leading_6 rfl (lv_at hl 1 rfl) ?_
  refine lv_iload_n hx hb dX3_leading_7 rfl (lv_at hl 0 rfl) ?_
  refine lv_iload_n hx hb dX3_leading_8 rfl (lv_at hl 0 rfl) ?_
  obtain ⟨u4, eu4, hf⟩ := ob_s hf
  obtain ⟨⟨v2, h3⟩, eh3, hf⟩ := ob_s hf
  dsimp only at hf
  refine px_callVr (As := [.int x1, .int x1]) (rest := []) ⟨hx, hb, hml, hown, hts⟩ hC w (kX3_of l D dA b0 ι N a0 x1 x1 h v2 h3 eh3) (cwV 2 hts gX3_leading_X3_of rfl rfl rfl (by decide +kernel) ⟨Nat.le_of_ble_eq_true rfl, Nat.le_of_ble_eq_true rfl⟩) eu4 rfl rfl hl.1 rfl (Nat.le_of_ble_eq_true rfl) dX3_leading_9 ⟨Nat.le_of_ble_eq_true rfl, Nat.le_of_ble_eq_true rfl⟩ (fun H locs w => ?_)
  exact W.aret hx hb hr (Or.inl ⟨_, rfl⟩) (Or.inr ⟨_, rfl⟩) (qr_end hf w hC) w.locs_ok dX3_leading_12
abbrev rmX3_lowestIn : Room := { frames := 1, cells := 0, slots := 0, locals := 12 }
set_option maxHeartbeats 4000000 in
set_option maxRecDepth 100000 in
theorem kX3_lowestIn (l : Launch) (D : va_G) (dA : Nat → ClassId) (b0 : Nat) (ι : Nat → Nat) (N : Nat) (a0 : Int32) (h : Hp) (r : Int32) (h' : Hp) (hf : fX3_lowestIn N a0 h = some (r, h')) : Met l yX3_lowestIn wsX3_lowestIn rmX3_lowestIn (PC D dA b0 ι [.int a0] h) (QI D dA b0 ι r h') 0 0 (qA b0) := by
  unfold fX3_lowestIn at hf
  refine Met.ofW (cc := cX3_lowestIn) (maxL := 2) (ret := (some .int)) (by decide +kernel) rfl ?_
  intro p e s m args below meth c s₁ B hml hv
  obtain ⟨rfl, w0⟩ := hv
  have hx := B.exec
  have hb := B.bytes
  have hr := B.returns
  have hts := atoms_spec (ws := wsX3_lowestIn) B.pre
  have hown : s.vm.findClass RX3 = some m.cls := findClass_of_methodNamed B.named
  have hlocks := B.notSynchronized
  have hC := w0.c
  have hK := hC.1
  have w := WD.start w0
  clear w0
  have hl := lv_entry ([.int a0]) (n := 2) (Nat.le_of_ble_eq_true rfl)
  rw [lg_entry_eq]
  generalize (lg_sl ([.int a0]) ++ List.replicate (2 - (lg_sl ([.int a0])).length) Slot.unset).toArray = ls at hl ⊢
  have hl : lv_has ls 2 [(0, .int a0)] := hl
  obtain ⟨H, hH⟩ : ∃ H : Heap, H = s.heap := ⟨_, rfl⟩
  obtain ⟨locs, hlo⟩ : ∃ locs : List Loc, locs = [] := ⟨_, rfl⟩
  rw [← hlo]
  have w : WD D dA b0 ι h s.heap H locs := by rw [hH, hlo]; exact w
  refine px_start hH ?_
  refine lv_iconst (v := (0 : Int32)) hx hb dX3_lowestIn_0 (by decide) ?_
  refine lv_istore_n (lv' := [(1, .int (0 : Int32)), (0, .int a0)]) hx hb dX3_lowestIn_1 rfl hl (by decide) rfl (fun ls hl => ?_)
  have hx2 : ∀ (y1 : Int32) (h2 : Hp) (H : Heap) (locs : List Loc) (ls : Array Slot), (some (y1, h2)) = some (r, h') → lv_has ls 2 [(0, .int a0), (1, .int y1)] → WD D dA b0 ι h2 s.heap H locs → W p l e (headSpec wsX3_lowestIn rmX3_lowestIn).room s m ([.int a0] : List Value).toArray below meth c H locs 0 0 (MQ below (QI D dA b0 ι r h') ([.int a0] : List Value).toArray s 0 0 (qA b0)) (F0 m 21 ls []) := by
    intro y1 h2 H locs ls hf hl w
    refine lv_iload_n hx hb dX3_lowestIn_21 rfl (lv_at hl 1 rfl) ?_
    exact W.iret hx hb hr (qi_end hf w hC) w.locs_ok dX3_lowestIn_22
  obtain ⟨κ2, eκ2⟩ : ∃ k : Int32 → Hp → Option (Int32 × Hp), k = (fun y1 h2 => some (y1, h2)) := ⟨_, rfl⟩
  have hlp2 : ∀ (n : Nat) (z9 : Int32) (h10 : Hp) (H : Heap) (locs : List Loc) (ls : Array Slot), lX3_lowestIn_2 N a0 n z9 h10 κ2 = some (r, h') → lv_has ls 2 [(0, .int a0), (1, .int z9)] → WD D dA b0 ι h10 s.heap H locs → W p l e (headSpec wsX3_lowestIn rmX3_lowestIn).room s m ([.int a0] : List Value).toArray below meth c H locs 0 0 (MQ below (QI D dA b0 ι r h') ([.int a0] : List Value).toArray s 0 0 (qA b0)) (F0 m 2 ls []) := by
    intro n2
    induction n2 with
    | zero => intro z9 h10 H locs ls hf; exact absurd hf (by rw [lX3_lowestIn_2]; exact fun q => nomatch q)
    | succ n2 ih2 =>
      intro z9 h10 H locs ls hf hl w
      rw [lX3_lowestIn_2] at hf
      refine lv_iload_n hx hb dX3_lowestIn_2 rfl (lv_at hl 1 rfl) ?_
      refine lv_iconst (v := (3 : Int32)) hx hb dX3_lowestIn_3 (by decide) ?_
      refine lv_icmp_ge (tgt := 21) hx hb dX3_lowestIn_4 (by decide) (fun c11 => ?_) (fun c11 => ?_)
      · have hf := if_t hf c11
        exact hx2 z9 h10 H locs ls (by rw [eκ2] at hf; exact hf) (lv_sub hl [0, 1] rfl) w
      · have hf := if_f hf c11
        refine lv_iload_n hx hb dX3_lowestIn_7 rfl (lv_at hl 0 rfl) ?_
        refine lv_iload_n hx hb dX3_lowestIn_8 rfl (lv_at hl 1 rfl) ?_
        refine lv_ishr hx hb dX3_lowestIn_9 ?_
        refine lv_iconst (v := (1 : Int32)) hx hb dX3_lowestIn_10 (by decide) ?_
        refine lv_iand hx hb dX3_lowestIn_11 ?_
        refine lv_if_ne (tgt := 21) hx hb dX3_lowestIn_12 (by decide) (fun c12 => ?_) (fun c12 => ?_)
        · have hf := if_f hf c12
          exact hx2 z9 h10 H locs ls (by rw [eκ2] at hf; exact hf) (lv_sub hl [0, 1] rfl) w
        · have hf := if_t hf c12
          obtain ⟨x13, ex13, hf⟩ := nm_s hf
          refine lv_iinc (v := x13) (lv' := [(1, .int x13), (0, .int a0)]) hx hb dX3_lowestIn_15 hl (k := 1) rfl (by rw [ex13]; rfl) (by decide) rfl (fun ls hl => ?_)
          refine lv_goto (tgt := 2) hx hb dX3_lowestIn_18 (by decide) ?_
          exact ih2 x13 h10 H locs ls hf (lv_sub hl [1, 0] rfl) w
  exact hlp2 N (0 : Int32) h H locs ls (by rw [eκ2]; exact hf) (lv_sub hl [1, 0] rfl) w
abbrev rmX3_expand : Room := { frames := 3, cells := 0, slots := 0, locals := 60 }
set_option maxHeartbeats 4000000 in
set_option maxRecDepth 100000 in
theorem kX3_expand (l : Launch) (D : va_G) (dA : Nat → ClassId) (b0 : Nat) (ι : Nat → Nat) (N : Nat) (a0 : Nat) (a1 : Nat) (a2 : Int32) (a3 : Int32) (h : Hp) (h' : Hp) (hf : fX3_expand N a0 a1 a2 a3 h = some h') : Met l yX3_expand wsX3_expand rmX3_expand (PC D dA b0 ι [.ref (ι a0), .ref (ι a1), .int a2, .int a3] h) (QV D dA b0 ι h') 0 0 (qA b0) := by
  unfold fX3_expand at hf
  refine Met.ofW (cc := cX3_expand) (maxL := 9) (ret := none) (by decide +kernel) rfl ?_
  intro p e s m args below meth c s₁ B hml hv
  obtain ⟨rfl, w0⟩ := hv
  have hx := B.exec
  have hb := B.bytes
  have hr := B.returns
  have hts := atoms_spec (ws := wsX3_expand) B.pre
  have hown : s.vm.findClass RX3 = some m.cls := findClass_of_methodNamed B.named
  have hlocks := B.notSynchronized
  have hC := w0.c
  have hK := hC.1
  have w := WD.start w0
  clear w0
  have hl := lv_entry ([.ref (ι a0), .ref (ι a1), .int a2, .int a3]) (n := 9) (Nat.le_of_ble_eq_true rfl)
  rw [lg_entry_eq]
  generalize (lg_sl ([.ref (ι a0), .ref (ι a1), .int a2, .int a3]) ++ List.replicate (9 - (lg_sl ([.ref (ι a0), .ref (ι a1), .int a2, .int a3])).length) Slot.unset).toArray = ls at hl ⊢
  have hl : lv_has ls 9 [(0, .ref (ι a0)), (1, .ref (ι a1)), (2, .int a2), (3, .int a3)] := hl
  obtain ⟨H, hH⟩ : ∃ H : Heap, H = s.heap := ⟨_, rfl⟩
  obtain ⟨locs, hlo⟩ : ∃ locs : List Loc, locs = [] := ⟨_, rfl⟩
  rw [← hlo]
  have w : WD D dA b0 ι h s.heap H locs := by rw [hH, hlo]; exact w
  refine px_start hH ?_
  refine lv_aload_n hx hb dX3_expand_0 rfl (lv_at hl 0 rfl) ?_
  refine lv_iload_n hx hb dX3_expand_1 rfl (lv_at hl 2 rfl) ?_
  refine lv_iload_n hx hb dX3_expand_2 rfl (lv_at hl 3 rfl) ?_
  obtain ⟨u3, eu3, hf⟩ := ob_s hf
  obtain ⟨⟨v1, h2⟩, eh2, hf⟩ := ob_s hf
  dsimp only at hf
  refine px_callVr (As := [.int a2, .int a3]) (rest := []) ⟨hx, hb, hml, hown, hts⟩ hC w (kX3_of l D dA b0 ι N a0 a2 a3 h v1 h2 eh2) (cwV 2 hts gX3_expand_X3_of rfl rfl rfl (by decide +kernel) ⟨Nat.le_of_ble_eq_true rfl, Nat.le_of_ble_eq_true rfl⟩) eu3 rfl rfl hl.1 rfl (Nat.le_of_ble_eq_true rfl) dX3_expand_3 ⟨Nat.le_of_ble_eq_true rfl, Nat.le_of_ble_eq_true rfl⟩ (fun H locs w => ?_)
  refine lv_astore (lv' := [(4, .ref (ι v1)), (0, .ref (ι a0)), (1, .ref (ι a1)), (2, .int a2), (3, .int a3)]) hx hb dX3_expand_6 hl (by decide) rfl (fun ls hl => ?_)
  refine lv_aload hx hb dX3_expand_8 (lv_at hl 0 rfl) ?_
  obtain ⟨u6, eu6, hf⟩ := ob_s hf
  obtain ⟨h5, eh5, hf⟩ := ob_s hf
  refine px_callVv (As := []) (rest := []) ⟨hx, hb, hml, hown, hts⟩ hC w (kX4_clear l D dA b0 ι N v1 h2 h5 eh5) (cwV 0 hts gX3_expand_X4_clear rfl rfl rfl (by decide +kernel) ⟨Nat.le_of_ble_eq_true rfl, Nat.le_of_ble_eq_true rfl⟩) eu6 rfl rfl hl.1 rfl (Nat.le_of_ble_eq_true rfl) dX3_expand_10 ⟨Nat.le_of_ble_eq_true rfl, Nat.le_of_ble_eq_true rfl⟩ (fun H locs w => ?_)
  refine lv_iload_n hx hb dX3_expand_13 rfl (lv_at hl 3 rfl) ?_
  obtain ⟨⟨v7, h8⟩, eh8, hf⟩ := ob_s hf
  dsimp only at hf
  refine px_callSi (As := [.int a2]) (rest := []) ⟨hx, hb, hml, hown, hts⟩ hC w (kX3_lowestIn l D dA b0 ι N a2 h5 v7 h8 eh8) (va_cwS 1 hts gX3_expand_X3_lowestIn rfl rfl rfl (by decide +kernel) ⟨Nat.le_of_ble_eq_true rfl, Nat.le_of_ble_eq_true rfl⟩) rfl hl.1 rfl (Nat.le_of_ble_eq_true rfl) dX3_expand_14 ⟨Nat.le_of_ble_eq_true rfl, Nat.le_of_ble_eq_true rfl⟩ (fun H locs w => ?_)
  refine lv_istore (lv' := [(5, .int v7), (4, .ref (ι v1)), (0, .ref (ι a0)), (1, .ref (ι a1)), (2, .int a2), (3, .int a3)]) hx hb dX3_expand_17 hl (by decide) rfl (fun ls hl => ?_)
  refine lv_iconst (v := (1 : Int32)) hx hb dX3_expand_19 (by decide) ?_
  refine lv_istore (lv' := [(6, .int (1 : Int32)), (5, .int v7), (4, .ref (ι v1)), (0, .ref (ι a0)), (1, .ref (ι a1)), (2, .int a2), (3, .int a3)]) hx hb dX3_expand_20 hl (by decide) rfl (fun ls hl => ?_)
  refine lv_iconst (v := (0 : Int32)) hx hb dX3_expand_22 (by decide) ?_
  refine lv_istore (lv' := [(7, .int (0 : Int32)), (6, .int (1 : Int32)), (5, .int v7), (4, .ref (ι v1)), (0, .ref (ι a0)), (1, .ref (ι a1)), (2, .int a2), (3, .int a3)]) hx hb dX3_expand_23 hl (by decide) rfl (fun ls hl => ?_)
  have hx25 : ∀ (y9 : Int32) (y10 : Int32) (h11 : Hp) (H : Heap) (locs : List Loc) (ls : Array Slot), (some h11) = some h' → lv_has ls 9 [(0, .ref (ι a0)), (1, .ref (ι a1)), (2, .int a2), (3, .int a3), (4, .ref (ι v1)), (5, .int v7), (6, .int y9), (7, .int y10)] → WD D dA b0 ι h11 s.heap H locs → W p l e (headSpec wsX3_expand rmX3_expand).room s m ([.ref (ι a0), .ref (ι a1), .int a2, .int a3] : List Value).toArray below meth c H locs 0 0 (MQ below (QV D dA b0 ι h') ([.ref (ι a0), .ref (ι a1), .int a2, .int a3] : List Value).toArray s 0 0 (qA b0)) (F0 m 94 ls []) := by
    intro y9 y10 h11 H locs ls hf hl w
    exact W.vret hx hb hr (qv_end hf w hC) w.locs_ok dX3_expand_94
  obtain ⟨κ25, eκ25⟩ : ∃ k : Int32 → Int32 → Hp → Option Hp, k = (fun y9 y10 h11 => some h11) := ⟨_, rfl⟩
  have hlp25 : ∀ (n : Nat) (z32 : Int32) (z33 : Int32) (h34 : Hp) (H : Heap) (locs : List Loc) (ls : Array Slot), lX3_expand_25 N a0 a1 a2 a3 v1 v7 n z32 z33 h34 κ25 = some h' → lv_has ls 9 [(0, .ref (ι a0)), (1, .ref (ι a1)), (2, .int a2), (3, .int a3), (4, .ref (ι v1)), (5, .int v7), (6, .int z32), (7, .int z33)] → WD D dA b0 ι h34 s.heap H locs → W p l e (headSpec wsX3_expand rmX3_expand).room s m ([.ref (ι a0), .ref (ι a1), .int a2, .int a3] : List Value).toArray below meth c H locs 0 0 (MQ below (QV D dA b0 ι h') ([.ref (ι a0), .ref (ι a1), .int a2, .int a3] : List Value).toArray s 0 0 (qA b0)) (F0 m 25 ls []) := by
    intro n25
    induction n25 with
    | zero => intro z32 z33 h34 H locs ls hf; exact absurd hf (by rw [lX3_expand_25]; exact fun q => nomatch q)
    | succ n25 ih25 =>
      intro z32 z33 h34 H locs ls hf hl w
      rw [lX3_expand_25] at hf
      refine lv_iload hx hb dX3_expand_25 (lv_at hl 7 rfl) ?_
      refine lv_iconst (v := (4 : Int32)) hx hb dX3_expand_27 (by decide) ?_
      refine lv_icmp_ge (tgt := 94) hx hb dX3_expand_28 (by decide) (fun c35 => ?_) (fun c35 => ?_)
      · have hf := if_t hf c35
        exact hx25 z32 z33 h34 H locs ls (by rw [eκ25] at hf; exact hf) (lv_sub hl [0, 1, 2, 3, 4, 5, 6, 7] rfl) w
      · have hf := if_f hf c35
        refine lv_iload_n hx hb dX3_expand_31 rfl (lv_at hl 3 rfl) ?_
        refine lv_iload hx hb dX3_expand_32 (lv_at hl 7 rfl) ?_
        refine lv_ishr hx hb dX3_expand_34 ?_
        refine lv_iconst (v := (1 : Int32)) hx hb dX3_expand_35 (by decide) ?_
        refine lv_iand hx hb dX3_expand_36 ?_
        refine lv_iconst (v := (1 : Int32)) hx hb dX3_expand_37 (by decide) ?_
        have hj88 : ∀ (y37 : Int32) (h38 : Hp) (H : Heap) (locs : List Loc) (ls : Array Slot), (nm (z33 + (1 : Int32)) fun x39 => lX3_expand_25 N a0 a1 a2 a3 v1 v7 n25 y37 x39 h38 κ25) = some h' → lv_has ls 9 [(0, .ref (ι a0)), (1, .ref (ι a1)), (2, .int a2), (3, .int a3), (4, .ref (ι v1)), (5, .int v7), (6, .int y37), (7, .int z33)] → WD D dA b0 ι h38 s.heap H locs → W p l e (headSpec wsX3_expand rmX3_expand).room s m ([.ref (ι a0), .ref (ι a1), .int a2, .int a3] : List Value).toArray below meth c H locs 0 0 (MQ below (QV D dA b0 ι h') ([.ref (ι a0), .ref (ι a1), .int a2, .int a3] : List Value).toArray s 0 0 (qA b0)) (F0 m 88 ls []) := by
          intro y37 h38 H locs ls hf hl w
          obtain ⟨x39, ex39, hf⟩ := nm_s hf
          refine lv_iinc (v := x39) (lv' := [(7, .int x39), (0, .ref (ι a0)), (1, .ref (ι a1)), (2, .int a2), (3, .int a3), (4, .ref (ι v1)), (5, .int v7), (6, .int y37)]) hx hb dX3_expand_88 hl (k := 7) rfl (by rw [ex39]; rfl) (by decide) rfl (fun ls hl => ?_)
          refine lv_goto (tgt := 25) hx hb dX3_expand_91 (by decide) ?_
          exact ih25 y37 x39 h38 H locs ls hf (lv_sub hl [1, 2, 3, 4, 5, 6, 7, 0] rfl) w
        obtain ⟨j36, ej36, hf⟩ := jn_s hf
        refine lv_icmp_ne (tgt := 88) hx hb dX3_expand_38 (by decide) (fun c40 => ?_) (fun c40 => ?_)
        · have hf := if_f hf c40
          exact hj88 z32 h34 H locs ls (by rw [ej36] at hf; exact hf) (lv_sub hl [0, 1, 2, 3, 4, 5, 6, 7] rfl) w
        · have hf := if_t hf c40
          refine lv_aload_n hx hb dX3_expand_41 rfl (lv_at hl 0 rfl) ?_
          refine lv_iload_n hx hb dX3_expand_42 rfl (lv_at hl 2 rfl) ?_
          refine lv_iconst (v := (1 : Int32)) hx hb dX3_expand_43 (by decide) ?_
          refine lv_iload hx hb dX3_expand_44 (lv_at hl 5 rfl) ?_
          refine lv_ishl hx hb dX3_expand_46 ?_
          refine lv_iconst (v := (-1 : Int32)) hx hb dX3_expand_47 (by decide) ?_
          refine lv_ixor hx hb dX3_expand_48 ?_
          refine lv_iand hx hb dX3_expand_49 ?_
          refine lv_iload_n hx hb dX3_expand_50 rfl (lv_at hl 3 rfl) ?_
          refine lv_iconst (v := (1 : Int32)) hx hb dX3_expand_51 (by decide) ?_
          refine lv_iload hx hb dX3_expand_52 (lv_at hl 7 rfl) ?_
          refine lv_ishl hx hb dX3_expand_54 ?_
          refine lv_iconst (v := (-1 : Int32)) hx hb dX3_expand_55 (by decide) ?_
          refine lv_ixor hx hb dX3_expand_56 ?_
          refine lv_iand hx hb dX3_expand_57 ?_
          obtain ⟨u43, eu43, hf⟩ := ob_s hf
          obtain ⟨⟨v41, h42⟩, eh42, hf⟩ := ob_s hf
          dsimp only at hf
          refine px_callVr (As := [.int (a2 &&& (((1 : Int32) <<< (v7 &&& 31)) ^^^ (-1 : Int32))), .int (a3 &&& (((1 : Int32) <<< (z33 &&& 31)) ^^^ (-1 : Int32)))]) (rest := []) ⟨hx, hb, hml, hown, hts⟩ hC w (kX3_of l D dA b0 ι N a0 (a2 &&& (((1 : Int32) <<< (v7 &&& 31)) ^^^ (-1 : Int32))) (a3 &&& (((1 : Int32) <<< (z33 &&& 31)) ^^^ (-1 : Int32))) h34 v41 h42 eh42) (cwV 2 hts gX3_expand_X3_of rfl rfl rfl (by decide +kernel) ⟨Nat.le_of_ble_eq_true rfl, Nat.le_of_ble_eq_true rfl⟩) eu43 rfl rfl hl.1 rfl (Nat.le_of_ble_eq_true rfl) dX3_expand_58 ⟨Nat.le_of_ble_eq_true rfl, Nat.le_of_ble_eq_true rfl⟩ (fun H locs w => ?_)
          refine lv_astore (lv' := [(8, .ref (ι v41)), (0, .ref (ι a0)), (1, .ref (ι a1)), (2, .int a2), (3, .int a3), (4, .ref (ι v1)), (5, .int v7), (6, .int z32), (7, .int z33)]) hx hb dX3_expand_61 hl (by decide) rfl (fun ls hl => ?_)
          refine lv_aload hx hb dX3_expand_63 (lv_at hl 5 rfl) ?_
          refine lv_iload hx hb dX3_expand_65 (lv_at hl 7 rfl) ?_
          refine lv_aload_n hx hb dX3_expand_67 rfl (lv_at hl 2 rfl) ?_
          refine lv_iload hx hb dX3_expand_68 (lv_at hl 6 rfl) ?_
          refine lv_iload hx hb dX3_expand_70 (lv_at hl 8 rfl) ?_
          obtain ⟨u46, eu46, hf⟩ := ob_s hf
          obtain ⟨⟨v44, h45⟩, eh45, hf⟩ := ob_s hf
          dsimp only at hf
          refine px_callVr (As := [.int v7, .int z33]) (rest := [.int z32, .ref (ι v1)]) ⟨hx, hb, hml, hown, hts⟩ hC w (kX2_cell l D dA b0 ι N a1 v7 z33 h42 v44 h45 eh45) (cwV 2 hts gX3_expand_X2_cell rfl rfl rfl (by decide +kernel) ⟨Nat.le_of_ble_eq_true rfl, Nat.le_of_ble_eq_true rfl⟩) eu46 rfl rfl hl.1 rfl (Nat.le_of_ble_eq_true rfl) dX3_expand_72 ⟨Nat.le_of_ble_eq_true rfl, Nat.le_of_ble_eq_true rfl⟩ (fun H locs w => ?_)
          refine lv_aload hx hb dX3_expand_75 (lv_at hl 0 rfl) ?_
          obtain ⟨u49, eu49, hf⟩ := ob_s hf
          obtain ⟨h48, eh48, hf⟩ := ob_s hf
          refine px_callVv (As := [.int z32, .ref (ι v44), .ref (ι v41)]) (rest := []) ⟨hx, hb, hml, hown, hts⟩ hC w (kX4_addProduct l D dA b0 ι N v1 z32 v44 v41 h45 h48 eh48) (cwV 3 hts gX3_expand_X4_addProduct rfl rfl rfl (by decide +kernel) ⟨Nat.le_of_ble_eq_true rfl, Nat.le_of_ble_eq_true rfl⟩) eu49 rfl rfl hl.1 rfl (Nat.le_of_ble_eq_true rfl) dX3_expand_77 ⟨Nat.le_of_ble_eq_true rfl, Nat.le_of_ble_eq_true rfl⟩ (fun H locs w => ?_)
          refine lv_sipush (v := (32003 : Int32)) hx hb dX3_expand_80 (by decide) ?_
          refine lv_iload hx hb dX3_expand_83 (lv_at hl 7 rfl) ?_
          refine lv_isub hx hb dX3_expand_85 ?_
          obtain ⟨x50, ex50, hf⟩ := nm_s hf
          refine px_nmI ex50 ?_
          refine lv_istore (lv' := [(6, .int x50), (8, .ref (ι v41)), (0, .ref (ι a0)), (1, .ref (ι a1)), (2, .int a2), (3, .int a3), (4, .ref (ι v1)), (5, .int v7), (7, .int z33)]) hx hb dX3_expand_86 hl (by decide) rfl (fun ls hl => ?_)
          exact hj88 x50 h48 H locs ls (by rw [ej36] at hf; exact hf) (lv_sub hl [2, 3, 4, 5, 6, 7, 0, 8] rfl) w
  exact hlp25 N (1 : Int32) (0 : Int32) h8 H locs ls (by rw [eκ25]; exact hf) (lv_sub hl [4, 5, 6, 7, 3, 2, 1, 0] rfl) w
theorem nX3_findInvariants_X3 : ∀ w ∈ wsX30, w ∈ wsX3_findInvariants := by decide +kernel
theorem mX3_findInvariants_39 : Cond.fieldLink RX3 39 "NormalForms$Minors" "order" "I" ∈ wsX3_findInvariants := by decide +kernel
theorem mX3_findInvariants_29 : Cond.fieldLink RX3 29 "NormalForms$Minors" "invariants" "[LNormalForms$Polynomial;" ∈ wsX3_findInvariants := by decide +kernel
theorem mX3_findInvariants_26 : Cond.fieldLink RX3 26 "NormalForms$Minors" "divisors" "[LNormalForms$Polynomial;" ∈ wsX3_findInvariants := by decide +kernel
theorem nX3_findInvariants_X4 : ∀ w ∈ wsX40, w ∈ wsX3_findInvariants := by decide +kernel
theorem mX3_findInvariants_35 : Cond.fieldLink RX3 35 "NormalForms$Minors" "divider" "LNormalForms$Divider;" ∈ wsX3_findInvariants := by decide +kernel
abbrev rmX3_findInvariants : Room := { frames := 4, cells := 0, slots := 0, locals := 86 }
set_option maxHeartbeats 4000000 in
set_option maxRecDepth 100000 in
theorem kX3_findInvariants (l : Launch) (D : va_G) (dA : Nat → ClassId) (b0 : Nat) (ι : Nat → Nat) (N : Nat) (a0 : Nat) (h : Hp) (h' : Hp) (hf : fX3_findInvariants N a0 h = some h') : Met l yX3_findInvariants wsX3_findInvariants rmX3_findInvariants (PC D dA b0 ι [.ref (ι a0)] h) (QV D dA b0 ι h') 0 0 (qA b0) := by
  unfold fX3_findInvariants at hf
  refine Met.ofW (cc := cX3_findInvariants) (maxL := 2) (ret := none) (by decide +kernel) rfl ?_
  intro p e s m args below meth c s₁ B hml hv
  obtain ⟨rfl, w0⟩ := hv
  have hx := B.exec
  have hb := B.bytes
  have hr := B.returns
  have hts := atoms_spec (ws := wsX3_findInvariants) B.pre
  have hown : s.vm.findClass RX3 = some m.cls := findClass_of_methodNamed B.named
  have hlocks := B.notSynchronized
  have hC := w0.c
  have hK := hC.1
  have w := WD.start w0
  clear w0
  have hl := lv_entry ([.ref (ι a0)]) (n := 2) (Nat.le_of_ble_eq_true rfl)
  rw [lg_entry_eq]
  generalize (lg_sl ([.ref (ι a0)]) ++ List.replicate (2 - (lg_sl ([.ref (ι a0)])).length) Slot.unset).toArray = ls at hl ⊢
  have hl : lv_has ls 2 [(0, .ref (ι a0))] := hl
  obtain ⟨H, hH⟩ : ∃ H : Heap, H = s.heap := ⟨_, rfl⟩
  obtain ⟨locs, hlo⟩ : ∃ locs : List Loc, locs = [] := ⟨_, rfl⟩
  rw [← hlo]
  have w : WD D dA b0 ι h s.heap H locs := by rw [hH, hlo]; exact w
  refine px_start hH ?_
  refine lv_aload_n hx hb dX3_findInvariants_0 rfl (lv_at hl 0 rfl) ?_
  refine lv_iconst (v := (0 : Int32)) hx hb dX3_findInvariants_1 (by decide) ?_
  obtain ⟨h1, eh1, hf⟩ := ob_s hf
  refine px_put hx hb hts nX3_findInvariants_X3 tyX3 tyX3_ok nmX3 hown hK w eh1 rfl (by decide) mX3_findInvariants_39 rfl rfl rfl rfl dX3_findInvariants_2 rfl (fun H locs w => ?_)
  refine lv_iconst (v := (0 : Int32)) hx hb dX3_findInvariants_5 (by decide) ?_
  refine lv_istore_n (lv' := [(1, .int (0 : Int32)), (0, .ref (ι a0))]) hx hb dX3_findInvariants_6 rfl hl (by decide) rfl (fun ls hl => ?_)
  have hx7 : ∀ (y2 : Int32) (h3 : Hp) (H : Heap) (locs : List Loc) (ls : Array Slot), (some h3) = some h' → lv_has ls 2 [(0, .ref (ι a0)), (1, .int y2)] → WD D dA b0 ι h3 s.heap H locs → W p l e (headSpec wsX3_findInvariants rmX3_findInvariants).room s m ([.ref (ι a0)] : List Value).toArray below meth c H locs 0 0 (MQ below (QV D dA b0 ι h') ([.ref (ι a0)] : List Value).toArray s 0 0 (qA b0)) (F0 m 75 ls []) := by
    intro y2 h3 H locs ls hf hl w
    exact W.vret hx hb hr (qv_end hf w hC) w.locs_ok dX3_findInvariants_75
  obtain ⟨κ7, eκ7⟩ : ∃ k : Int32 → Hp → Option Hp, k = (fun y2 h3 => some h3) := ⟨_, rfl⟩
  have hlp7 : ∀ (n : Nat) (z31 : Int32) (h32 : Hp) (H : Heap) (locs : List Loc) (ls : Array Slot), lX3_findInvariants_7 N a0 n z31 h32 κ7 = some h' → lv_has ls 2 [(0, .ref (ι a0)), (1, .int z31)] → WD D dA b0 ι h32 s.heap H locs → W p l e (headSpec wsX3_findInvariants rmX3_findInvariants).room s m ([.ref (ι a0)] : List Value).toArray below meth c H locs 0 0 (MQ below (QV D dA b0 ι h') ([.ref (ι a0)] : List Value).toArray s 0 0 (qA b0)) (F0 m 7 ls []) := by
    intro n7
    induction n7 with
    | zero => intro z31 h32 H locs ls hf; exact absurd hf (by rw [lX3_findInvariants_7]; exact fun q => nomatch q)
    | succ n7 ih7 =>
      intro z31 h32 H locs ls hf hl w
      rw [lX3_findInvariants_7] at hf
      refine lv_iload_n hx hb dX3_findInvariants_7 rfl (lv_at hl 1 rfl) ?_
      refine lv_iconst (v := (4 : Int32)) hx hb dX3_findInvariants_8 (by decide) ?_
      refine lv_icmp_ge (tgt := 75) hx hb dX3_findInvariants_9 (by decide) (fun c33 => ?_) (fun c33 => ?_)
      · have hf := if_t hf c33
        exact hx7 z31 h32 H locs ls (by rw [eκ7] at hf; exact hf) (lv_sub hl [0, 1] rfl) w
      · have hf := if_f hf c33
        refine lv_aload_n hx hb dX3_findInvariants_12 rfl (lv_at hl 0 rfl) ?_
        obtain ⟨v34, ev34, hf⟩ := ob_s hf
        refine px_getR hx hb hts nX3_findInvariants_X3 hown hK w ev34 rfl (by decide) mX3_findInvariants_29 rfl dX3_findInvariants_13 ?_
        refine lv_iload_n hx hb dX3_findInvariants_16 rfl (lv_at hl 1 rfl) ?_
        obtain ⟨v35, ev35, hf⟩ := ob_s hf
        refine px_rald hx hb hK w ev35 rfl dX3_findInvariants_17 ?_
        obtain ⟨u38, eu38, hf⟩ := ob_s hf
        obtain ⟨h37, eh37, hf⟩ := ob_s hf
        refine px_callVv (As := []) (rest := []) ⟨hx, hb, hml, hown, hts⟩ hC w (kX4_clear l D dA b0 ι N v35 h32 h37 eh37) (cwV 0 hts gX3_findInvariants_X4_clear rfl rfl rfl (by decide +kernel) ⟨Nat.le_of_ble_eq_true rfl, Nat.le_of_ble_eq_true rfl⟩) eu38 rfl rfl hl.1 rfl (Nat.le_of_ble_eq_true rfl) dX3_findInvariants_18 ⟨Nat.le_of_ble_eq_true rfl, Nat.le_of_ble_eq_true rfl⟩ (fun H locs w => ?_)
        refine lv_aload_n hx hb dX3_findInvariants_21 rfl (lv_at hl 0 rfl) ?_
        obtain ⟨v39, ev39, hf⟩ := ob_s hf
        refine px_getR hx hb hts nX3_findInvariants_X3 hown hK w ev39 rfl (by decide) mX3_findInvariants_26 rfl dX3_findInvariants_22 ?_
        refine lv_iload_n hx hb dX3_findInvariants_25 rfl (lv_at hl 1 rfl) ?_
        refine lv_iconst (v := (1 : Int32)) hx hb dX3_findInvariants_26 (by decide) ?_
        refine lv_iadd hx hb dX3_findInvariants_27 ?_
        obtain ⟨v40, ev40, hf⟩ := ob_s hf
        refine px_rald hx hb hK w ev40 rfl dX3_findInvariants_28 ?_
        obtain ⟨v41, ev41, hf⟩ := ob_s hf
        refine px_getIN hx hb hts nX3_findInvariants_X4 hown hK w ev41 rfl (by decide) (hC.2.1 _ nest_5) rfl dX3_findInvariants_29 ?_
        have hj69 : ∀ (h43 : Hp) (H : Heap) (locs : List Loc) (ls : Array Slot), (nm (z31 + (1 : Int32)) fun x44 => lX3_findInvariants_7 N a0 n7 x44 h43 κ7) = some h' → lv_has ls 2 [(0, .ref (ι a0)), (1, .int z31)] → WD D dA b0 ι h43 s.heap H locs → W p l e (headSpec wsX3_findInvariants rmX3_findInvariants).room s m ([.ref (ι a0)] : List Value).toArray below meth c H locs 0 0 (MQ below (QV D dA b0 ι h') ([.ref (ι a0)] : List Value).toArray s 0 0 (qA b0)) (F0 m 69 ls []) := by
          intro h43 H locs ls hf hl w
          obtain ⟨x44, ex44, hf⟩ := nm_s hf
          refine lv_iinc (v := x44) (lv' := [(1, .int x44), (0, .ref (ι a0))]) hx hb dX3_findInvariants_69 hl (k := 1) rfl (by rw [ex44]; rfl) (by decide) rfl (fun ls hl => ?_)
          refine lv_goto (tgt := 7) hx hb dX3_findInvariants_72 (by decide) ?_
          exact ih7 x44 h43 H locs ls hf (lv_sub hl [1, 0] rfl) w
        obtain ⟨j42, ej42, hf⟩ := jn_s hf
        refine lv_if_lt (tgt := 69) hx hb dX3_findInvariants_32 (by decide) (fun c45 => ?_) (fun c45 => ?_)
        · have hf := if_t hf c45
          exact hj69 h37 H locs ls (by rw [ej42] at hf; exact hf) (lv_sub hl [0, 1] rfl) w
        · have hf := if_f hf c45
          refine lv_aload_n hx hb dX3_findInvariants_35 rfl (lv_at hl 0 rfl) ?_
          obtain ⟨v46, ev46, hf⟩ := ob_s hf
          refine px_getR hx hb hts nX3_findInvariants_X3 hown hK w ev46 rfl (by decide) mX3_findInvariants_35 rfl dX3_findInvariants_36 ?_
          refine lv_aload_n hx hb dX3_findInvariants_39 rfl (lv_at hl 0 rfl) ?_
          obtain ⟨v47, ev47, hf⟩ := ob_s hf
          refine px_getR hx hb hts nX3_findInvariants_X3 hown hK w ev47 rfl (by decide) mX3_findInvariants_29 rfl dX3_findInvariants_40 ?_
          refine lv_iload_n hx hb dX3_findInvariants_43 rfl (lv_at hl 1 rfl) ?_
          obtain ⟨v48, ev48, hf⟩ := ob_s hf
          refine px_rald hx hb hK w ev48 rfl dX3_findInvariants_44 ?_
          refine lv_aload_n hx hb dX3_findInvariants_45 rfl (lv_at hl 0 rfl) ?_
          obtain ⟨v49, ev49, hf⟩ := ob_s hf
          refine px_getR hx hb hts nX3_findInvariants_X3 hown hK w ev49 rfl (by decide) mX3_findInvariants_26 rfl dX3_findInvariants_46 ?_
          refine lv_iload_n hx hb dX3_findInvariants_49 rfl (lv_at hl 1 rfl) ?_
          refine lv_iconst (v := (1 : Int32)) hx hb dX3_findInvariants_50 (by decide) ?_
          refine lv_iadd hx hb dX3_findInvariants_51 ?_
          obtain ⟨v50, ev50, hf⟩ := ob_s hf
          refine px_rald hx hb hK w ev50 rfl dX3_findInvariants_52 ?_
          refine lv_aload_n hx hb dX3_findInvariants_53 rfl (lv_at hl 0 rfl) ?_
          obtain ⟨v51, ev51, hf⟩ := ob_s hf
          refine px_getR hx hb hts nX3_findInvariants_X3 hown hK w ev51 rfl (by decide) mX3_findInvariants_26 rfl dX3_findInvariants_54 ?_
          refine lv_iload_n hx hb dX3_findInvariants_57 rfl (lv_at hl 1 rfl) ?_
          obtain ⟨v52, ev52, hf⟩ := ob_s hf
          refine px_rald hx hb hK w ev52 rfl dX3_findInvariants_58 ?_
          obtain ⟨u55, eu55, hf⟩ := ob_s hf
          obtain ⟨h54, eh54, hf⟩ := ob_s hf
          refine px_callVv (As := [.ref (ι v48), .ref (ι v50), .ref (ι v52)]) (rest := []) ⟨hx, hb, hml, hown, hts⟩ hC w (kX0_writeQuotient l D dA b0 ι N v46 v48 v50 v52 h37 h54 eh54) (cwV 3 hts gX3_findInvariants_X0_writeQuotient rfl rfl rfl (by decide +kernel) ⟨Nat.le_of_ble_eq_true rfl, Nat.le_of_ble_eq_true rfl⟩) eu55 rfl rfl hl.1 rfl (Nat.le_of_ble_eq_true rfl) dX3_findInvariants_59 ⟨Nat.le_of_ble_eq_true rfl, Nat.le_of_ble_eq_true rfl⟩ (fun H locs w => ?_)
          refine lv_aload_n hx hb dX3_findInvariants_62 rfl (lv_at hl 0 rfl) ?_
          refine lv_iload_n hx hb dX3_findInvariants_63 rfl (lv_at hl 1 rfl) ?_
          refine lv_iconst (v := (1 : Int32)) hx hb dX3_findInvariants_64 (by decide) ?_
          refine lv_iadd hx hb dX3_findInvariants_65 ?_
          obtain ⟨h56, eh56, hf⟩ := ob_s hf
          refine px_put hx hb hts nX3_findInvariants_X3 tyX3 tyX3_ok nmX3 hown hK w eh56 rfl (by decide) mX3_findInvariants_39 rfl rfl rfl rfl dX3_findInvariants_66 rfl (fun H locs w => ?_)
          exact hj69 h56 H locs ls (by rw [ej42] at hf; exact hf) (lv_sub hl [0, 1] rfl) w
  exact hlp7 N (0 : Int32) h1 H locs ls (by rw [eκ7]; exact hf) (lv_sub hl [1, 0] rfl) w
theorem nX3_reckon_X3 : ∀ w ∈ wsX30, w ∈ wsX3_reckon := by decide +kernel
theorem mX3_reckon_26 : Cond.fieldLink RX3 26 "NormalForms$Minors" "divisors" "[LNormalForms$Polynomial;" ∈ wsX3_reckon := by decide +kernel
theorem mX3_reckon_35 : Cond.fieldLink RX3 35 "NormalForms$Minors" "divider" "LNormalForms$Divider;" ∈ wsX3_reckon := by decide +kernel
abbrev rmX3_reckon : Room := { frames := 5, cells := 0, slots := 0, locals := 107 }
set_option maxHeartbeats 4000000 in
set_option maxRecDepth 100000 in
theorem kX3_reckon (l : Launch) (D : va_G) (dA : Nat → ClassId) (b0 : Nat) (ι : Nat → Nat) (N : Nat) (a0 : Nat) (a1 : Nat) (h : Hp) (h' : Hp) (hf : fX3_reckon N a0 a1 h = some h') : Met l yX3_reckon wsX3_reckon rmX3_reckon (PC D dA b0 ι [.ref (ι a0), .ref (ι a1)] h) (QV D dA b0 ι h') 0 0 (qA b0) := by
  unfold fX3_reckon at hf
  refine Met.ofW (cc := cX3_reckon) (maxL := 5) (ret := none) (by decide +kernel) rfl ?_
  intro p e s m args below meth c s₁ B hml hv
  obtain ⟨rfl, w0⟩ := hv
  have hx := B.exec
  have hb := B.bytes
  have hr := B.returns
  have hts := atoms_spec (ws := wsX3_reckon) B.pre
  have hown : s.vm.findClass RX3 = some m.cls := findClass_of_methodNamed B.named
  have hlocks := B.notSynchronized
  have hC := w0.c
  have hK := hC.1
  have w := WD.start w0
  clear w0
  have hl := lv_entry ([.ref (ι a0), .ref (ι a1)]) (n := 5) (Nat.le_of_ble_eq_true rfl)
  rw [lg_entry_eq]
  generalize (lg_sl ([.ref (ι a0), .ref (ι a1)]) ++ List.replicate (5 - (lg_sl ([.ref (ι a0), .ref (ι a1)])).length) Slot.unset).toArray = ls at hl ⊢
  have hl : lv_has ls 5 [(0, .ref (ι a0)), (1, .ref (ι a1))] := hl
  obtain ⟨H, hH⟩ : ∃ H : Heap, H = s.heap := ⟨_, rfl⟩
  obtain ⟨locs, hlo⟩ : ∃ locs : List Loc, locs = [] := ⟨_, rfl⟩
  rw [← hlo]
  have w : WD D dA b0 ι h s.heap H locs := by rw [hH, hlo]; exact w
  refine px_start hH ?_
  refine lv_aload_n hx hb dX3_reckon_0 rfl (lv_at hl 0 rfl) ?_
  refine lv_iconst (v := (0 : Int32)) hx hb dX3_reckon_1 (by decide) ?_
  refine lv_iconst (v := (0 : Int32)) hx hb dX3_reckon_2 (by decide) ?_
  obtain ⟨u3, eu3, hf⟩ := ob_s hf
  obtain ⟨⟨v1, h2⟩, eh2, hf⟩ := ob_s hf
  dsimp only at hf
  refine px_callVr (As := [.int (0 : Int32), .int (0 : Int32)]) (rest := []) ⟨hx, hb, hml, hown, hts⟩ hC w (kX3_of l D dA b0 ι N a0 (0 : Int32) (0 : Int32) h v1 h2 eh2) (cwV 2 hts gX3_reckon_X3_of rfl rfl rfl (by decide +kernel) ⟨Nat.le_of_ble_eq_true rfl, Nat.le_of_ble_eq_true rfl⟩) eu3 rfl rfl hl.1 rfl (Nat.le_of_ble_eq_true rfl) dX3_reckon_3 ⟨Nat.le_of_ble_eq_true rfl, Nat.le_of_ble_eq_true rfl⟩ (fun H locs w => ?_)
  refine lv_iconst (v := (0 : Int32)) hx hb dX3_reckon_6 (by decide) ?_
  refine lv_iconst (v := (1 : Int32)) hx hb dX3_reckon_7 (by decide) ?_
  obtain ⟨u6, eu6, hf⟩ := ob_s hf
  obtain ⟨h5, eh5, hf⟩ := ob_s hf
  refine px_callVv (As := [.int (0 : Int32), .int (1 : Int32)]) (rest := []) ⟨hx, hb, hml, hown, hts⟩ hC w (kX4_setNumber l D dA b0 ι N v1 (0 : Int32) (1 : Int32) h2 h5 eh5) (cwV 2 hts gX3_reckon_X4_setNumber rfl rfl rfl (by decide +kernel) ⟨Nat.le_of_ble_eq_true rfl, Nat.le_of_ble_eq_true rfl⟩) eu6 rfl rfl hl.1 rfl (Nat.le_of_ble_eq_true rfl) dX3_reckon_8 ⟨Nat.le_of_ble_eq_true rfl, Nat.le_of_ble_eq_true rfl⟩ (fun H locs w => ?_)
  refine lv_iconst (v := (0 : Int32)) hx hb dX3_reckon_11 (by decide) ?_
  refine lv_istore_n (lv' := [(2, .int (0 : Int32)), (0, .ref (ι a0)), (1, .ref (ι a1))]) hx hb dX3_reckon_12 rfl hl (by decide) rfl (fun ls hl => ?_)
  have hx13 : ∀ (y7 : Int32) (h8 : Hp) (H : Heap) (locs : List Loc) (ls : Array Slot), ((gR h8 a0 5 1).bind fun v9 => (aR h8 v9 4 (0 : Int32)).bind fun v10 => (cK h8 v10 6).bind fun u13 => (fX4_setNumber N v10 (0 : Int32) (1 : Int32) h8).bind fun h12 => lX3_reckon_46 N a0 a1 N (1 : Int32) h12 (fun y14 h15 => (cK h15 a0 5).bind fun u18 => (fX3_findInvariants N a0 h15).bind fun h17 => some h17)) = some h' → lv_has ls 5 [(0, .ref (ι a0)), (1, .ref (ι a1)), (2, .int y7)] → WD D dA b0 ι h8 s.heap H locs → W p l e (headSpec wsX3_reckon rmX3_reckon).room s m ([.ref (ι a0), .ref (ι a1)] : List Value).toArray below meth c H locs 0 0 (MQ below (QV D dA b0 ι h') ([.ref (ι a0), .ref (ι a1)] : List Value).toArray s 0 0 (qA b0)) (F0 m 33 ls []) := by
    intro y7 h8 H locs ls hf hl w
    refine lv_aload_n hx hb dX3_reckon_33 rfl (lv_at hl 0 rfl) ?_
    obtain ⟨v9, ev9, hf⟩ := ob_s hf
    refine px_getR hx hb hts nX3_reckon_X3 hown hK w ev9 rfl (by decide) mX3_reckon_26 rfl dX3_reckon_34 ?_
    refine lv_iconst (v := (0 : Int32)) hx hb dX3_reckon_37 (by decide) ?_
    obtain ⟨v10, ev10, hf⟩ := ob_s hf
    refine px_rald hx hb hK w ev10 rfl dX3_reckon_38 ?_
    refine lv_iconst (v := (0 : Int32)) hx hb dX3_reckon_39 (by decide) ?_
    refine lv_iconst (v := (1 : Int32)) hx hb dX3_reckon_40 (by decide) ?_
    obtain ⟨u13, eu13, hf⟩ := ob_s hf
    obtain ⟨h12, eh12, hf⟩ := ob_s hf
    refine px_callVv (As := [.int (0 : Int32), .int (1 : Int32)]) (rest := []) ⟨hx, hb, hml, hown, hts⟩ hC w (kX4_setNumber l D dA b0 ι N v10 (0 : Int32) (1 : Int32) h8 h12 eh12) (cwV 2 hts gX3_reckon_X4_setNumber rfl rfl rfl (by decide +kernel) ⟨Nat.le_of_ble_eq_true rfl, Nat.le_of_ble_eq_true rfl⟩) eu13 rfl rfl hl.1 rfl (Nat.le_of_ble_eq_true rfl) dX3_reckon_41 ⟨Nat.le_of_ble_eq_true rfl, Nat.le_of_ble_eq_true rfl⟩ (fun H locs w => ?_)
    refine lv_iconst (v := (1 : Int32)) hx hb dX3_reckon_44 (by decide) ?_
    refine lv_istore_n (lv' := [(2, .int (1 : Int32)), (0, .ref (ι a0)), (1, .ref (ι a1))]) hx hb dX3_reckon_45 rfl hl (by decide) rfl (fun ls hl => ?_)
    have hx46 : ∀ (y14 : Int32) (h15 : Hp) (H : Heap) (locs : List Loc) (ls : Array Slot), ((cK h15 a0 5).bind fun u18 => (fX3_findInvariants N a0 h15).bind fun h17 => some h17) = some h' → lv_has ls 5 [(0, .ref (ι a0)), (1, .ref (ι a1)), (2, .int y14)] → WD D dA b0 ι h15 s.heap H locs → W p l e (headSpec wsX3_reckon rmX3_reckon).room s m ([.ref (ι a0), .ref (ι a1)] : List Value).toArray below meth c H locs 0 0 (MQ below (QV D dA b0 ι h') ([.ref (ι a0), .ref (ι a1)] : List Value).toArray s 0 0 (qA b0)) (F0 m 116 ls []) := by
      intro y14 h15 H locs ls hf hl w
      refine lv_aload_n hx hb dX3_reckon_116 rfl (lv_at hl 0 rfl) ?_
      obtain ⟨u18, eu18, hf⟩ := ob_s hf
      obtain ⟨h17, eh17, hf⟩ := ob_s hf
      refine px_callVv (As := []) (rest := []) ⟨hx, hb, hml, hown, hts⟩ hC w (kX3_findInvariants l D dA b0 ι N a0 h15 h17 eh17) (cwV 0 hts gX3_reckon_X3_findInvariants rfl rfl rfl (by decide +kernel) ⟨Nat.le_of_ble_eq_true rfl, Nat.le_of_ble_eq_true rfl⟩) eu18 rfl rfl hl.1 rfl (Nat.le_of_ble_eq_true rfl) dX3_reckon_117 ⟨Nat.le_of_ble_eq_true rfl, Nat.le_of_ble_eq_true rfl⟩ (fun H locs w => ?_)
      exact W.vret hx hb hr (qv_end hf w hC) w.locs_ok dX3_reckon_120
    obtain ⟨κ46, eκ46⟩ : ∃ k : Int32 → Hp → Option Hp, k = (fun y14 h15 => (cK h15 a0 5).bind fun u18 => (fX3_findInvariants N a0 h15).bind fun h17 => some h17) := ⟨_, rfl⟩
    have hlp46 : ∀ (n : Nat) (z71 : Int32) (h72 : Hp) (H : Heap) (locs : List Loc) (ls : Array Slot), lX3_reckon_46 N a0 a1 n z71 h72 κ46 = some h' → lv_has ls 5 [(0, .ref (ι a0)), (1, .ref (ι a1)), (2, .int z71)] → WD D dA b0 ι h72 s.heap H locs → W p l e (headSpec wsX3_reckon rmX3_reckon).room s m ([.ref (ι a0), .ref (ι a1)] : List Value).toArray below meth c H locs 0 0 (MQ below (QV D dA b0 ι h') ([.ref (ι a0), .ref (ι a1)] : List Value).toArray s 0 0 (qA b0)) (F0 m 46 ls []) := by
      intro n46
      induction n46 with
      | zero => intro z71 h72 H locs ls hf; exact absurd hf (by rw [lX3_reckon_46]; exact fun q => nomatch q)
      | succ n46 ih46 =>
        intro z71 h72 H locs ls hf hl w
        rw [lX3_reckon_46] at hf
        refine lv_iload_n hx hb dX3_reckon_46 rfl (lv_at hl 2 rfl) ?_
        refine lv_bipush (v := (15 : Int32)) hx hb dX3_reckon_47 (by decide) ?_
        refine lv_icmp_gt (tgt := 116) hx hb dX3_reckon_49 (by decide) (fun c73 => ?_) (fun c73 => ?_)
        · have hf := if_t hf c73
          exact hx46 z71 h72 H locs ls (by rw [eκ46] at hf; exact hf) (lv_sub hl [0, 1, 2] rfl) w
        · have hf := if_f hf c73
          refine lv_iload_n hx hb dX3_reckon_52 rfl (lv_at hl 2 rfl) ?_
          obtain ⟨⟨v74, h75⟩, eh75, hf⟩ := ob_s hf
          dsimp only at hf
          refine px_callSi (As := [.int z71]) (rest := []) ⟨hx, hb, hml, hown, hts⟩ hC w (kJ6_bitCount_0f7a4 l D dA b0 ι N z71 h72 v74 h75 eh75) (va_cwS 1 hts gX3_reckon_J6_bitCount_0f7a4 rfl rfl rfl (by decide +kernel) ⟨Nat.le_of_ble_eq_true rfl, Nat.le_of_ble_eq_true rfl⟩) rfl hl.1 rfl (Nat.le_of_ble_eq_true rfl) dX3_reckon_53 ⟨Nat.le_of_ble_eq_true rfl, Nat.le_of_ble_eq_true rfl⟩ (fun H locs w => ?_)
          refine lv_istore_n (lv' := [(3, .int v74), (0, .ref (ι a0)), (1, .ref (ι a1)), (2, .int z71)]) hx hb dX3_reckon_56 rfl hl (by decide) rfl (fun ls hl => ?_)
          refine lv_iconst (v := (1 : Int32)) hx hb dX3_reckon_57 (by decide) ?_
          refine lv_istore (lv' := [(4, .int (1 : Int32)), (3, .int v74), (0, .ref (ι a0)), (1, .ref (ι a1)), (2, .int z71)]) hx hb dX3_reckon_58 hl (by decide) rfl (fun ls hl => ?_)
          have hx60 : ∀ (y76 : Int32) (h77 : Hp) (H : Heap) (locs : List Loc) (ls : Array Slot), (nm (z71 + (1 : Int32)) fun x78 => lX3_reckon_46 N a0 a1 n46 x78 h77 κ46) = some h' → lv_has ls 5 [(0, .ref (ι a0)), (1, .ref (ι a1)), (2, .int z71), (3, .int v74), (4, .int y76)] → WD D dA b0 ι h77 s.heap H locs → W p l e (headSpec wsX3_reckon rmX3_reckon).room s m ([.ref (ι a0), .ref (ι a1)] : List Value).toArray below meth c H locs 0 0 (MQ below (QV D dA b0 ι h') ([.ref (ι a0), .ref (ι a1)] : List Value).toArray s 0 0 (qA b0)) (F0 m 110 ls []) := by
            intro y76 h77 H locs ls hf hl w
            obtain ⟨x78, ex78, hf⟩ := nm_s hf
            refine lv_iinc (v := x78) (lv' := [(2, .int x78), (0, .ref (ι a0)), (1, .ref (ι a1)), (3, .int v74), (4, .int y76)]) hx hb dX3_reckon_110 hl (k := 2) rfl (by rw [ex78]; rfl) (by decide) rfl (fun ls hl => ?_)
            refine lv_goto (tgt := 46) hx hb dX3_reckon_113 (by decide) ?_
            exact ih46 x78 h77 H locs ls hf (lv_sub hl [1, 2, 0] rfl) w
          obtain ⟨κ60, eκ60⟩ : ∃ k : Int32 → Hp → Option Hp, k = (fun y76 h77 => nm (z71 + (1 : Int32)) fun x78 => lX3_reckon_46 N a0 a1 n46 x78 h77 κ46) := ⟨_, rfl⟩
          have hlp60 : ∀ (n : Nat) (z101 : Int32) (h102 : Hp) (H : Heap) (locs : List Loc) (ls : Array Slot), lX3_reckon_60 N a0 a1 z71 v74 n z101 h102 κ60 = some h' → lv_has ls 5 [(0, .ref (ι a0)), (1, .ref (ι a1)), (2, .int z71), (3, .int v74), (4, .int z101)] → WD D dA b0 ι h102 s.heap H locs → W p l e (headSpec wsX3_reckon rmX3_reckon).room s m ([.ref (ι a0), .ref (ι a1)] : List Value).toArray below meth c H locs 0 0 (MQ below (QV D dA b0 ι h') ([.ref (ι a0), .ref (ι a1)] : List Value).toArray s 0 0 (qA b0)) (F0 m 60 ls []) := by
            intro n60
            induction n60 with
            | zero => intro z101 h102 H locs ls hf; exact absurd hf (by rw [lX3_reckon_60]; exact fun q => nomatch q)
            | succ n60 ih60 =>
              intro z101 h102 H locs ls hf hl w
              rw [lX3_reckon_60] at hf
              refine lv_iload hx hb dX3_reckon_60 (lv_at hl 4 rfl) ?_
              refine lv_bipush (v := (15 : Int32)) hx hb dX3_reckon_62 (by decide) ?_
              refine lv_icmp_gt (tgt := 110) hx hb dX3_reckon_64 (by decide) (fun c103 => ?_) (fun c103 => ?_)
              · have hf := if_t hf c103
                exact hx60 z101 h102 H locs ls (by rw [eκ60] at hf; exact hf) (lv_sub hl [0, 1, 2, 3, 4] rfl) w
              · have hf := if_f hf c103
                refine lv_iload hx hb dX3_reckon_67 (lv_at hl 4 rfl) ?_
                obtain ⟨⟨v104, h105⟩, eh105, hf⟩ := ob_s hf
                dsimp only at hf
                refine px_callSi (As := [.int z101]) (rest := []) ⟨hx, hb, hml, hown, hts⟩ hC w (kJ6_bitCount_0f7a4 l D dA b0 ι N z101 h102 v104 h105 eh105) (va_cwS 1 hts gX3_reckon_J6_bitCount_0f7a4 rfl rfl rfl (by decide +kernel) ⟨Nat.le_of_ble_eq_true rfl, Nat.le_of_ble_eq_true rfl⟩) rfl hl.1 rfl (Nat.le_of_ble_eq_true rfl) dX3_reckon_69 ⟨Nat.le_of_ble_eq_true rfl, Nat.le_of_ble_eq_true rfl⟩ (fun H locs w => ?_)
                refine lv_iload_n hx hb dX3_reckon_72 rfl (lv_at hl 3 rfl) ?_
                have hj104 : ∀ (h107 : Hp) (H : Heap) (locs : List Loc) (ls : Array Slot), (nm (z101 + (1 : Int32)) fun x108 => lX3_reckon_60 N a0 a1 z71 v74 n60 x108 h107 κ60) = some h' → lv_has ls 5 [(0, .ref (ι a0)), (1, .ref (ι a1)), (2, .int z71), (3, .int v74), (4, .int z101)] → WD D dA b0 ι h107 s.heap H locs → W p l e (headSpec wsX3_reckon rmX3_reckon).room s m ([.ref (ι a0), .ref (ι a1)] : List Value).toArray below meth c H locs 0 0 (MQ below (QV D dA b0 ι h') ([.ref (ι a0), .ref (ι a1)] : List Value).toArray s 0 0 (qA b0)) (F0 m 104 ls []) := by
                  intro h107 H locs ls hf hl w
                  obtain ⟨x108, ex108, hf⟩ := nm_s hf
                  refine lv_iinc (v := x108) (lv' := [(4, .int x108), (0, .ref (ι a0)), (1, .ref (ι a1)), (2, .int z71), (3, .int v74)]) hx hb dX3_reckon_104 hl (k := 4) rfl (by rw [ex108]; rfl) (by decide) rfl (fun ls hl => ?_)
                  refine lv_goto (tgt := 60) hx hb dX3_reckon_107 (by decide) ?_
                  exact ih60 x108 h107 H locs ls hf (lv_sub hl [1, 2, 3, 4, 0] rfl) w
                obtain ⟨j106, ej106, hf⟩ := jn_s hf
                refine lv_icmp_ne (tgt := 104) hx hb dX3_reckon_73 (by decide) (fun c109 => ?_) (fun c109 => ?_)
                · have hf := if_f hf c109
                  exact hj104 h105 H locs ls (by rw [ej106] at hf; exact hf) (lv_sub hl [0, 1, 2, 3, 4] rfl) w
                · have hf := if_t hf c109
                  refine lv_aload_n hx hb dX3_reckon_76 rfl (lv_at hl 0 rfl) ?_
                  refine lv_aload_n hx hb dX3_reckon_77 rfl (lv_at hl 1 rfl) ?_
                  refine lv_iload_n hx hb dX3_reckon_78 rfl (lv_at hl 2 rfl) ?_
                  refine lv_iload hx hb dX3_reckon_79 (lv_at hl 4 rfl) ?_
                  obtain ⟨u112, eu112, hf⟩ := ob_s hf
                  obtain ⟨h111, eh111, hf⟩ := ob_s hf
                  refine px_callVv (As := [.ref (ι a1), .int z71, .int z101]) (rest := []) ⟨hx, hb, hml, hown, hts⟩ hC w (kX3_expand l D dA b0 ι N a0 a1 z71 z101 h105 h111 eh111) (cwV 3 hts gX3_reckon_X3_expand rfl rfl rfl (by decide +kernel) ⟨Nat.le_of_ble_eq_true rfl, Nat.le_of_ble_eq_true rfl⟩) eu112 rfl rfl hl.1 rfl (Nat.le_of_ble_eq_true rfl) dX3_reckon_81 ⟨Nat.le_of_ble_eq_true rfl, Nat.le_of_ble_eq_true rfl⟩ (fun H locs w => ?_)
                  refine lv_aload_n hx hb dX3_reckon_84 rfl (lv_at hl 0 rfl) ?_
                  obtain ⟨v113, ev113, hf⟩ := ob_s hf
                  refine px_getR hx hb hts nX3_reckon_X3 hown hK w ev113 rfl (by decide) mX3_reckon_35 rfl dX3_reckon_85 ?_
                  refine lv_aload_n hx hb dX3_reckon_88 rfl (lv_at hl 0 rfl) ?_
                  obtain ⟨v114, ev114, hf⟩ := ob_s hf
                  refine px_getR hx hb hts nX3_reckon_X3 hown hK w ev114 rfl (by decide) mX3_reckon_26 rfl dX3_reckon_89 ?_
                  refine lv_iload_n hx hb dX3_reckon_92 rfl (lv_at hl 3 rfl) ?_
                  obtain ⟨v115, ev115, hf⟩ := ob_s hf
                  refine px_rald hx hb hK w ev115 rfl dX3_reckon_93 ?_
                  refine lv_aload_n hx hb dX3_reckon_94 rfl (lv_at hl 0 rfl) ?_
                  refine lv_iload_n hx hb dX3_reckon_95 rfl (lv_at hl 2 rfl) ?_
                  refine lv_iload hx hb dX3_reckon_96 (lv_at hl 4 rfl) ?_
                  obtain ⟨u118, eu118, hf⟩ := ob_s hf
                  obtain ⟨⟨v116, h117⟩, eh117, hf⟩ := ob_s hf
                  dsimp only at hf
                  refine px_callVr (As := [.int z71, .int z101]) (rest := [.ref (ι v115), .ref (ι v113)]) ⟨hx, hb, hml, hown, hts⟩ hC w (kX3_of l D dA b0 ι N a0 z71 z101 h111 v116 h117 eh117) (cwV 2 hts gX3_reckon_X3_of rfl rfl rfl (by decide +kernel) ⟨Nat.le_of_ble_eq_true rfl, Nat.le_of_ble_eq_true rfl⟩) eu118 rfl rfl hl.1 rfl (Nat.le_of_ble_eq_true rfl) dX3_reckon_98 ⟨Nat.le_of_ble_eq_true rfl, Nat.le_of_ble_eq_true rfl⟩ (fun H locs w => ?_)
                  obtain ⟨u121, eu121, hf⟩ := ob_s hf
                  obtain ⟨h120, eh120, hf⟩ := ob_s hf
                  refine px_callVv (As := [.ref (ι v115), .ref (ι v116)]) (rest := []) ⟨hx, hb, hml, hown, hts⟩ hC w (kX0_shrinkToCommon l D dA b0 ι N v113 v115 v116 h117 h120 eh120) (cwV 2 hts gX3_reckon_X0_shrinkToCommon rfl rfl rfl (by decide +kernel) ⟨Nat.le_of_ble_eq_true rfl, Nat.le_of_ble_eq_true rfl⟩) eu121 rfl rfl hl.1 rfl (Nat.le_of_ble_eq_true rfl) dX3_reckon_101 ⟨Nat.le_of_ble_eq_true rfl, Nat.le_of_ble_eq_true rfl⟩ (fun H locs w => ?_)
                  exact hj104 h120 H locs ls (by rw [ej106] at hf; exact hf) (lv_sub hl [0, 1, 2, 3, 4] rfl) w
          exact hlp60 N (1 : Int32) h75 H locs ls (by rw [eκ60]; exact hf) (lv_sub hl [2, 3, 4, 1, 0] rfl) w
    exact hlp46 N (1 : Int32) h12 H locs ls (by rw [eκ46]; exact hf) (lv_sub hl [1, 2, 0] rfl) w
  obtain ⟨κ13, eκ13⟩ : ∃ k : Int32 → Hp → Option Hp, k = (fun y7 h8 => (gR h8 a0 5 1).bind fun v9 => (aR h8 v9 4 (0 : Int32)).bind fun v10 => (cK h8 v10 6).bind fun u13 => (fX4_setNumber N v10 (0 : Int32) (1 : Int32) h8).bind fun h12 => lX3_reckon_46 N a0 a1 N (1 : Int32) h12 (fun y14 h15 => (cK h15 a0 5).bind fun u18 => (fX3_findInvariants N a0 h15).bind fun h17 => some h17)) := ⟨_, rfl⟩
  have hlp13 : ∀ (n : Nat) (z132 : Int32) (h133 : Hp) (H : Heap) (locs : List Loc) (ls : Array Slot), lX3_reckon_13 N a0 a1 n z132 h133 κ13 = some h' → lv_has ls 5 [(0, .ref (ι a0)), (1, .ref (ι a1)), (2, .int z132)] → WD D dA b0 ι h133 s.heap H locs → W p l e (headSpec wsX3_reckon rmX3_reckon).room s m ([.ref (ι a0), .ref (ι a1)] : List Value).toArray below meth c H locs 0 0 (MQ below (QV D dA b0 ι h') ([.ref (ι a0), .ref (ι a1)] : List Value).toArray s 0 0 (qA b0)) (F0 m 13 ls []) := by
    intro n13
    induction n13 with
    | zero => intro z132 h133 H locs ls hf; exact absurd hf (by rw [lX3_reckon_13]; exact fun q => nomatch q)
    | succ n13 ih13 =>
      intro z132 h133 H locs ls hf hl w
      rw [lX3_reckon_13] at hf
      refine lv_iload_n hx hb dX3_reckon_13 rfl (lv_at hl 2 rfl) ?_
      refine lv_iconst (v := (4 : Int32)) hx hb dX3_reckon_14 (by decide) ?_
      refine lv_icmp_gt (tgt := 33) hx hb dX3_reckon_15 (by decide) (fun c134 => ?_) (fun c134 => ?_)
      · have hf := if_t hf c134
        exact hx13 z132 h133 H locs ls (by rw [eκ13] at hf; exact hf) (lv_sub hl [0, 1, 2] rfl) w
      · have hf := if_f hf c134
        refine lv_aload_n hx hb dX3_reckon_18 rfl (lv_at hl 0 rfl) ?_
        obtain ⟨v135, ev135, hf⟩ := ob_s hf
        refine px_getR hx hb hts nX3_reckon_X3 hown hK w ev135 rfl (by decide) mX3_reckon_26 rfl dX3_reckon_19 ?_
        refine lv_iload_n hx hb dX3_reckon_22 rfl (lv_at hl 2 rfl) ?_
        obtain ⟨v136, ev136, hf⟩ := ob_s hf
        refine px_rald hx hb hK w ev136 rfl dX3_reckon_23 ?_
        obtain ⟨u139, eu139, hf⟩ := ob_s hf
        obtain ⟨h138, eh138, hf⟩ := ob_s hf
        refine px_callVv (As := []) (rest := []) ⟨hx, hb, hml, hown, hts⟩ hC w (kX4_clear l D dA b0 ι N v136 h133 h138 eh138) (cwV 0 hts gX3_reckon_X4_clear rfl rfl rfl (by decide +kernel) ⟨Nat.le_of_ble_eq_true rfl, Nat.le_of_ble_eq_true rfl⟩) eu139 rfl rfl hl.1 rfl (Nat.le_of_ble_eq_true rfl) dX3_reckon_24 ⟨Nat.le_of_ble_eq_true rfl, Nat.le_of_ble_eq_true rfl⟩ (fun H locs w => ?_)
        obtain ⟨x140, ex140, hf⟩ := nm_s hf
        refine lv_iinc (v := x140) (lv' := [(2, .int x140), (0, .ref (ι a0)), (1, .ref (ι a1))]) hx hb dX3_reckon_27 hl (k := 2) rfl (by rw [ex140]; rfl) (by decide) rfl (fun ls hl => ?_)
        refine lv_goto (tgt := 13) hx hb dX3_reckon_30 (by decide) ?_
        exact ih13 x140 h138 H locs ls hf (lv_sub hl [1, 2, 0] rfl) w
  exact hlp13 N (0 : Int32) h5 H locs ls (by rw [eκ13]; exact hf) (lv_sub hl [1, 2, 0] rfl) w
