abbrev rmL_size : Room := { frames := 7, cells := 1, slots := 6, locals := 112 }
abbrev wtL_size : List Cond := (wsL_size ++ exG) ++ exY
set_option maxHeartbeats 4000000 in
set_option maxRecDepth 100000 in
theorem xL_size (l : Launch) (hl0 : l.stackTraces = false) (D : va_G) (dA : Nat → ClassId) (b0 : Nat) (ι : Nat → Nat) (N : Nat) (a0 : Nat) (a1 : Int32) (a2 : Int32) (h : Hp) (r : Int32) (h' : Hp) (hf : fL_size N a0 a1 a2 h = some (r, h')) : vx_Met l yL_size wtL_size rmL_size (PL D dA b0 ι [.ref (ι a0), .int a1, .int a2] h) (QI D dA b0 ι r h') (XF b0) 1 6 (qA b0) := by
  unfold fL_size at hf
  refine vx_ofWH (cc := cL_size) (maxL := 4) (ret := (some .int)) (hh := [(0, 6, 9, 13), (0, 6, 12, 15)]) (by decide +kernel) rfl ?_
  intro p e s m args below meth c s₁ B hml hv
  obtain ⟨rfl, w0, xl⟩ := hv
  have hx := B.exec
  have hb := B.bytes
  have hr := B.returns
  have htx := atoms_spec (ws := wtL_size) B.pre
  have hts : ∀ w ∈ wsL_size, w.before _ s = true := fun w hw => htx w (List.mem_append_left _ (List.mem_append_left _ hw))
  have htab := vx_table (x := yL_size) B (htx _ List.mem_cons_self)
  have hown : s.vm.findClass RL = some m.cls := findClass_of_methodNamed B.named
  have hlocks := B.notSynchronized
  have hC := w0.c
  have hK := hC.1
  have w := WD.start w0
  clear w0
  have hl := lv_entry ([.ref (ι a0), .int a1, .int a2]) (n := 4) (Nat.le_of_ble_eq_true rfl)
  rw [lg_entry_eq]
  generalize (lg_sl ([.ref (ι a0), .int a1, .int a2]) ++ List.replicate (4 - (lg_sl ([.ref (ι a0), .int a1, .int a2])).length) Slot.unset).toArray = ls at hl ⊢
  have hl : lv_has ls 4 [(0, .ref (ι a0)), (1, .int a1), (2, .int a2)] := hl
  obtain ⟨H, hH⟩ : ∃ H : Heap, H = s.heap := ⟨_, rfl⟩
  obtain ⟨locs, hlo⟩ : ∃ locs : List Loc, locs = [] := ⟨_, rfl⟩
  rw [← hlo]
  have w : WD D dA b0 ι h s.heap H locs := by rw [hH, hlo]; exact w
  refine px_start hH ?_
  refine lv_aload_n hx hb dL_size_0 rfl (lv_at hl 0 rfl) ?_
  refine lv_iload_n hx hb dL_size_1 rfl (lv_at hl 1 rfl) ?_
  refine lv_iload_n hx hb dL_size_2 rfl (lv_at hl 2 rfl) ?_
  obtain ⟨u1, eu1, hf⟩ := ob_s hf
  obtain ⟨⟨q4, h3⟩, eh3, hf⟩ := ob_s hf
  try dsimp only at hf
  rcases q4 with c5 | v2
  · have hf := hnd_l hf
    by_cases hc0 : c5 = 0
    · have hf := if_t hf hc0
      subst hc0
      refine px_tcatch (k := 0) (As := [.int a1, .int a2]) (rest := []) ⟨hx, hb, hml, hown, htx⟩ hC xl.1 w (tX7_size l hl0 D dA b0 ι N a0 a1 a2 h 0 h3 eh3) (cwV 2 htx (gx_0 (gx_V gL_size_X7_size exG_good)) rfl rfl rfl (by decide +kernel) ⟨Nat.le_of_ble_eq_true rfl, Nat.le_of_ble_eq_true rfl⟩) eu1 rfl rfl hl.1 rfl (Nat.le_of_ble_eq_true rfl) dL_size_3 ⟨Nat.le_of_ble_eq_true rfl, Nat.le_of_ble_eq_true rfl⟩ (by decide) [] { startPc := 0, endPc := 6, handlerPc := 9, catchType := 13 } [{ startPc := 0, endPc := 6, handlerPc := 12, catchType := 15 }] (by rw [htab]; rfl) (fun z hz => nomatch hz) (by decide) (by decide) (htx _ (List.mem_append_right _ (List.mem_of_getElem? (i := 0) rfl))) (fun q9 H locs w => ?_)
      refine lv_astore_n (lv' := [(3, .ref q9), (0, .ref (ι a0)), (1, .int a1), (2, .int a2)]) hx hb dL_size_9 rfl hl (by decide) rfl (fun ls hl => ?_)
      refine lv_iconst (v := (1 : Int32)) hx hb dL_size_10 (by decide) ?_
      refine vx_ret ?_
      exact W.iret hx hb hr (qi_end hf w hC) w.locs_ok dL_size_11
    have hf := if_f hf hc0
    by_cases hc1 : c5 = 1
    · have hf := if_t hf hc1
      subst hc1
      refine px_tcatch (k := 1) (As := [.int a1, .int a2]) (rest := []) ⟨hx, hb, hml, hown, htx⟩ hC xl.1 w (tX7_size l hl0 D dA b0 ι N a0 a1 a2 h 1 h3 eh3) (cwV 2 htx (gx_0 (gx_V gL_size_X7_size exG_good)) rfl rfl rfl (by decide +kernel) ⟨Nat.le_of_ble_eq_true rfl, Nat.le_of_ble_eq_true rfl⟩) eu1 rfl rfl hl.1 rfl (Nat.le_of_ble_eq_true rfl) dL_size_3 ⟨Nat.le_of_ble_eq_true rfl, Nat.le_of_ble_eq_true rfl⟩ (by decide) [{ startPc := 0, endPc := 6, handlerPc := 9, catchType := 13 }] { startPc := 0, endPc := 6, handlerPc := 12, catchType := 15 } [] (by rw [htab]; rfl) (List.forall_mem_cons.mpr ⟨Or.inr ⟨by decide, exN 0, htx _ (List.mem_append_right _ (List.mem_of_getElem? (i := 0) rfl)), xl.2 _ (List.mem_of_getElem? (i := 0) rfl)⟩, fun z hz => nomatch hz⟩) (by decide) (by decide) (htx _ (List.mem_append_right _ (List.mem_of_getElem? (i := 1) rfl))) (fun q9 H locs w => ?_)
      refine lv_astore_n (lv' := [(3, .ref q9), (0, .ref (ι a0)), (1, .int a1), (2, .int a2)]) hx hb dL_size_12 rfl hl (by decide) rfl (fun ls hl => ?_)
      refine lv_iconst (v := (2 : Int32)) hx hb dL_size_13 (by decide) ?_
      refine vx_ret ?_
      exact W.iret hx hb hr (qi_end hf w hC) w.locs_ok dL_size_14
    have hf := if_f hf hc1
    cases hf
  have hf := hnd_r hf
  refine px_callVv (As := [.int a1, .int a2]) (rest := []) ⟨hx, hb, hml, hown, hts⟩ hC w (kX7_size l D dA b0 ι N a0 a1 a2 h h3 eh3) (cwV 2 hts gL_size_X7_size rfl rfl rfl (by decide +kernel) ⟨Nat.le_of_ble_eq_true rfl, Nat.le_of_ble_eq_true rfl⟩) eu1 rfl rfl hl.1 rfl (Nat.le_of_ble_eq_true rfl) dL_size_3 ⟨Nat.le_of_ble_eq_true rfl, Nat.le_of_ble_eq_true rfl⟩ (fun H locs w => ?_)
  refine lv_goto (tgt := 15) hx hb dL_size_6 (by decide) ?_
  refine lv_iconst (v := (0 : Int32)) hx hb dL_size_15 (by decide) ?_
  refine vx_ret ?_
  refine W.widen (k := 1) (n := 6) (by decide) (by decide) ?_
  exact W.iret hx hb hr (qi_end hf w hC) w.locs_ok dL_size_16
abbrev rmL_put : Room := { frames := 10, cells := 1, slots := 6, locals := 174 }
abbrev wtL_put : List Cond := (wsL_put ++ exG) ++ exY
set_option maxHeartbeats 4000000 in
set_option maxRecDepth 100000 in
theorem xL_put (l : Launch) (hl0 : l.stackTraces = false) (D : va_G) (dA : Nat → ClassId) (b0 : Nat) (ι : Nat → Nat) (N : Nat) (a0 : Nat) (a1 : Int32) (a2 : Int32) (a3 : Int32) (a4 : Int32) (a5 : Nat) (h : Hp) (r : Int32) (h' : Hp) (hf : fL_put N a0 a1 a2 a3 a4 a5 h = some (r, h')) : vx_Met l yL_put wtL_put rmL_put (PL D dA b0 ι [.ref (ι a0), .int a1, .int a2, .int a3, .int a4, .ref (ι a5)] h) (QI D dA b0 ι r h') (XF b0) 1 6 (qA b0) := by
  unfold fL_put at hf
  refine vx_ofWH (cc := cL_put) (maxL := 7) (ret := (some .int)) (hh := [(0, 21, 24, 21)]) (by decide +kernel) rfl ?_
  intro p e s m args below meth c s₁ B hml hv
  obtain ⟨rfl, w0, xl⟩ := hv
  have hx := B.exec
  have hb := B.bytes
  have hr := B.returns
  have htx := atoms_spec (ws := wtL_put) B.pre
  have hts : ∀ w ∈ wsL_put, w.before _ s = true := fun w hw => htx w (List.mem_append_left _ (List.mem_append_left _ hw))
  have htab := vx_table (x := yL_put) B (htx _ List.mem_cons_self)
  have hown : s.vm.findClass RL = some m.cls := findClass_of_methodNamed B.named
  have hlocks := B.notSynchronized
  have hC := w0.c
  have hK := hC.1
  have w := WD.start w0
  clear w0
  have hl := lv_entry ([.ref (ι a0), .int a1, .int a2, .int a3, .int a4, .ref (ι a5)]) (n := 7) (Nat.le_of_ble_eq_true rfl)
  rw [lg_entry_eq]
  generalize (lg_sl ([.ref (ι a0), .int a1, .int a2, .int a3, .int a4, .ref (ι a5)]) ++ List.replicate (7 - (lg_sl ([.ref (ι a0), .int a1, .int a2, .int a3, .int a4, .ref (ι a5)])).length) Slot.unset).toArray = ls at hl ⊢
  have hl : lv_has ls 7 [(0, .ref (ι a0)), (1, .int a1), (2, .int a2), (3, .int a3), (4, .int a4), (5, .ref (ι a5))] := hl
  obtain ⟨H, hH⟩ : ∃ H : Heap, H = s.heap := ⟨_, rfl⟩
  obtain ⟨locs, hlo⟩ : ∃ locs : List Loc, locs = [] := ⟨_, rfl⟩
  rw [← hlo]
  have w : WD D dA b0 ι h s.heap H locs := by rw [hH, hlo]; exact w
  refine px_start hH ?_
  refine lv_aload hx hb dL_put_0 (lv_at hl 5 rfl) ?_
  refine lv_iconst (v := (0 : Int32)) hx hb dL_put_2 (by decide) ?_
  refine lv_aload_n hx hb dL_put_3 rfl (lv_at hl 0 rfl) ?_
  refine lv_iload_n hx hb dL_put_4 rfl (lv_at hl 1 rfl) ?_
  refine lv_iload_n hx hb dL_put_5 rfl (lv_at hl 2 rfl) ?_
  refine lv_iload_n hx hb dL_put_6 rfl (lv_at hl 3 rfl) ?_
  refine lv_iload hx hb dL_put_7 (lv_at hl 4 rfl) ?_
  obtain ⟨u1, eu1, hf⟩ := ob_s hf
  obtain ⟨⟨q4, h3⟩, eh3, hf⟩ := ob_s hf
  try dsimp only at hf
  rcases q4 with c5 | v2
  · have hf := hnd_l hf
    by_cases hc3 : c5 = 3
    · have hf := if_t hf hc3
      subst hc3
      refine px_tcatch (k := 3) (As := [.int a1, .int a2, .int a3, .int a4]) (rest := [.int (0 : Int32), .ref (ι a5)]) ⟨hx, hb, hml, hown, htx⟩ hC xl.1 w (tX7_put l hl0 D dA b0 ι N a0 a1 a2 a3 a4 h 3 h3 eh3) (cwV 4 htx (gx_0 (gx_V gL_put_X7_put exG_good)) rfl rfl rfl (by decide +kernel) ⟨Nat.le_of_ble_eq_true rfl, Nat.le_of_ble_eq_true rfl⟩) eu1 rfl rfl hl.1 rfl (Nat.le_of_ble_eq_true rfl) dL_put_9 ⟨Nat.le_of_ble_eq_true rfl, Nat.le_of_ble_eq_true rfl⟩ (by decide) [] { startPc := 0, endPc := 21, handlerPc := 24, catchType := 21 } [] (by rw [htab]; rfl) (fun z hz => nomatch hz) (by decide) (by decide) (htx _ (List.mem_append_right _ (List.mem_of_getElem? (i := 3) rfl))) (fun q9 H locs w => ?_)
      refine lv_astore (lv' := [(6, .ref q9), (0, .ref (ι a0)), (1, .int a1), (2, .int a2), (3, .int a3), (4, .int a4), (5, .ref (ι a5))]) hx hb dL_put_24 hl (by decide) rfl (fun ls hl => ?_)
      refine lv_iconst (v := (1 : Int32)) hx hb dL_put_26 (by decide) ?_
      refine vx_ret ?_
      exact W.iret hx hb hr (qi_end hf w hC) w.locs_ok dL_put_27
    have hf := if_f hf hc3
    cases hf
  have hf := hnd_r hf
  refine px_callVi (As := [.int a1, .int a2, .int a3, .int a4]) (rest := [.int (0 : Int32), .ref (ι a5)]) ⟨hx, hb, hml, hown, hts⟩ hC w (kX7_put l D dA b0 ι N a0 a1 a2 a3 a4 h v2 h3 eh3) (cwV 4 hts gL_put_X7_put rfl rfl rfl (by decide +kernel) ⟨Nat.le_of_ble_eq_true rfl, Nat.le_of_ble_eq_true rfl⟩) eu1 rfl rfl hl.1 rfl (Nat.le_of_ble_eq_true rfl) dL_put_9 ⟨Nat.le_of_ble_eq_true rfl, Nat.le_of_ble_eq_true rfl⟩ (fun H locs w => ?_)
  have hj20 : ∀ (t8 : Int64) (h7 : Hp) (H : Heap) (locs : List Loc) (ls : Array Slot), ((aJs h7 a5 (0 : Int32) t8).bind fun h9 => some ((0 : Int32), h9)) = some (r, h') → lv_has ls 7 [(0, .ref (ι a0)), (1, .int a1), (2, .int a2), (3, .int a3), (4, .int a4), (5, .ref (ι a5))] → WD D dA b0 ι h7 s.heap H locs → W p l e (headSpec wtL_put rmL_put).room s m ([.ref (ι a0), .int a1, .int a2, .int a3, .int a4, .ref (ι a5)] : List Value).toArray below meth c H locs 0 0 (vx_MQ below (QI D dA b0 ι r h') (XF b0) ([.ref (ι a0), .int a1, .int a2, .int a3, .int a4, .ref (ι a5)] : List Value).toArray s 1 6 (qA b0)) (F0 m 20 ls [.long t8, .int (0 : Int32), .ref (ι a5)]) := by
    intro t8 h7 H locs ls hf hl w
    obtain ⟨h9, eh9, hf⟩ := ob_s hf
    refine px_jast hx hb hK w eh9 dL_put_20 (fun H locs w => ?_)
    refine lv_goto (tgt := 28) hx hb dL_put_21 (by decide) ?_
    refine lv_iconst (v := (0 : Int32)) hx hb dL_put_28 (by decide) ?_
    refine vx_ret ?_
    refine W.widen (k := 1) (n := 6) (by decide) (by decide) ?_
    exact W.iret hx hb hr (qi_end hf w hC) w.locs_ok dL_put_29
  obtain ⟨j6, ej6, hf⟩ := jn_s hf
  refine lv_if_eq (tgt := 19) hx hb dL_put_12 (by decide) (fun c10 => ?_) (fun c10 => ?_)
  · have hf := if_t hf c10
    refine lv_lconst (v := 0) hx hb dL_put_19 (by decide) ?_
    exact hj20 (0 : Int64) h3 H locs ls (by rw [ej6] at hf; exact hf) (lv_sub hl [0, 1, 2, 3, 4, 5] rfl) w
  · have hf := if_f hf c10
    refine lv_lconst (v := 1) hx hb dL_put_15 (by decide) ?_
    refine lv_goto (tgt := 20) hx hb dL_put_16 (by decide) ?_
    exact hj20 (1 : Int64) h3 H locs ls (by rw [ej6] at hf; exact hf) (lv_sub hl [0, 1, 2, 3, 4, 5] rfl) w
abbrev rmL_entry : Room := { frames := 10, cells := 1, slots := 6, locals := 171 }
abbrev wtL_entry : List Cond := (wsL_entry ++ exG) ++ exY
set_option maxHeartbeats 4000000 in
set_option maxRecDepth 100000 in
theorem xL_entry (l : Launch) (hl0 : l.stackTraces = false) (D : va_G) (dA : Nat → ClassId) (b0 : Nat) (ι : Nat → Nat) (N : Nat) (a0 : Nat) (a1 : Int32) (a2 : Int32) (a3 : Int32) (a4 : Nat) (h : Hp) (r : Int32) (h' : Hp) (hf : fL_entry N a0 a1 a2 a3 a4 h = some (r, h')) : vx_Met l yL_entry wtL_entry rmL_entry (PL D dA b0 ι [.ref (ι a0), .int a1, .int a2, .int a3, .ref (ι a4)] h) (QI D dA b0 ι r h') (XF b0) 1 6 (qA b0) := by
  unfold fL_entry at hf
  refine vx_ofWH (cc := cL_entry) (maxL := 6) (ret := (some .int)) (hh := [(0, 12, 15, 21)]) (by decide +kernel) rfl ?_
  intro p e s m args below meth c s₁ B hml hv
  obtain ⟨rfl, w0, xl⟩ := hv
  have hx := B.exec
  have hb := B.bytes
  have hr := B.returns
  have htx := atoms_spec (ws := wtL_entry) B.pre
  have hts : ∀ w ∈ wsL_entry, w.before _ s = true := fun w hw => htx w (List.mem_append_left _ (List.mem_append_left _ hw))
  have htab := vx_table (x := yL_entry) B (htx _ List.mem_cons_self)
  have hown : s.vm.findClass RL = some m.cls := findClass_of_methodNamed B.named
  have hlocks := B.notSynchronized
  have hC := w0.c
  have hK := hC.1
  have w := WD.start w0
  clear w0
  have hl := lv_entry ([.ref (ι a0), .int a1, .int a2, .int a3, .ref (ι a4)]) (n := 6) (Nat.le_of_ble_eq_true rfl)
  rw [lg_entry_eq]
  generalize (lg_sl ([.ref (ι a0), .int a1, .int a2, .int a3, .ref (ι a4)]) ++ List.replicate (6 - (lg_sl ([.ref (ι a0), .int a1, .int a2, .int a3, .ref (ι a4)])).length) Slot.unset).toArray = ls at hl ⊢
  have hl : lv_has ls 6 [(0, .ref (ι a0)), (1, .int a1), (2, .int a2), (3, .int a3), (4, .ref (ι a4))] := hl
  obtain ⟨H, hH⟩ : ∃ H : Heap, H = s.heap := ⟨_, rfl⟩
  obtain ⟨locs, hlo⟩ : ∃ locs : List Loc, locs = [] := ⟨_, rfl⟩
  rw [← hlo]
  have w : WD D dA b0 ι h s.heap H locs := by rw [hH, hlo]; exact w
  refine px_start hH ?_
  refine lv_aload hx hb dL_entry_0 (lv_at hl 4 rfl) ?_
  refine lv_iconst (v := (0 : Int32)) hx hb dL_entry_2 (by decide) ?_
  refine lv_aload_n hx hb dL_entry_3 rfl (lv_at hl 0 rfl) ?_
  refine lv_iload_n hx hb dL_entry_4 rfl (lv_at hl 1 rfl) ?_
  refine lv_iload_n hx hb dL_entry_5 rfl (lv_at hl 2 rfl) ?_
  refine lv_iload_n hx hb dL_entry_6 rfl (lv_at hl 3 rfl) ?_
  obtain ⟨u1, eu1, hf⟩ := ob_s hf
  obtain ⟨⟨q4, h3⟩, eh3, hf⟩ := ob_s hf
  try dsimp only at hf
  rcases q4 with c5 | v2
  · have hf := hnd_l hf
    by_cases hc3 : c5 = 3
    · have hf := if_t hf hc3
      subst hc3
      refine px_tcatch (k := 3) (As := [.int a1, .int a2, .int a3]) (rest := [.int (0 : Int32), .ref (ι a4)]) ⟨hx, hb, hml, hown, htx⟩ hC xl.1 w (tX7_entry l hl0 D dA b0 ι N a0 a1 a2 a3 h 3 h3 eh3) (cwV 3 htx (gx_0 (gx_V gL_entry_X7_entry exG_good)) rfl rfl rfl (by decide +kernel) ⟨Nat.le_of_ble_eq_true rfl, Nat.le_of_ble_eq_true rfl⟩) eu1 rfl rfl hl.1 rfl (Nat.le_of_ble_eq_true rfl) dL_entry_7 ⟨Nat.le_of_ble_eq_true rfl, Nat.le_of_ble_eq_true rfl⟩ (by decide) [] { startPc := 0, endPc := 12, handlerPc := 15, catchType := 21 } [] (by rw [htab]; rfl) (fun z hz => nomatch hz) (by decide) (by decide) (htx _ (List.mem_append_right _ (List.mem_of_getElem? (i := 3) rfl))) (fun q9 H locs w => ?_)
      refine lv_astore (lv' := [(5, .ref q9), (0, .ref (ι a0)), (1, .int a1), (2, .int a2), (3, .int a3), (4, .ref (ι a4))]) hx hb dL_entry_15 hl (by decide) rfl (fun ls hl => ?_)
      refine lv_iconst (v := (1 : Int32)) hx hb dL_entry_17 (by decide) ?_
      refine vx_ret ?_
      exact W.iret hx hb hr (qi_end hf w hC) w.locs_ok dL_entry_18
    have hf := if_f hf hc3
    cases hf
  have hf := hnd_r hf
  refine px_callVi (As := [.int a1, .int a2, .int a3]) (rest := [.int (0 : Int32), .ref (ι a4)]) ⟨hx, hb, hml, hown, hts⟩ hC w (kX7_entry l D dA b0 ι N a0 a1 a2 a3 h v2 h3 eh3) (cwV 3 hts gL_entry_X7_entry rfl rfl rfl (by decide +kernel) ⟨Nat.le_of_ble_eq_true rfl, Nat.le_of_ble_eq_true rfl⟩) eu1 rfl rfl hl.1 rfl (Nat.le_of_ble_eq_true rfl) dL_entry_7 ⟨Nat.le_of_ble_eq_true rfl, Nat.le_of_ble_eq_true rfl⟩ (fun H locs w => ?_)
  refine lv_i2l hx hb dL_entry_10 rfl ?_
  obtain ⟨h6, eh6, hf⟩ := ob_s hf
  refine px_jast hx hb hK w eh6 dL_entry_11 (fun H locs w => ?_)
  refine lv_goto (tgt := 19) hx hb dL_entry_12 (by decide) ?_
  refine lv_iconst (v := (0 : Int32)) hx hb dL_entry_19 (by decide) ?_
  refine vx_ret ?_
  refine W.widen (k := 1) (n := 6) (by decide) (by decide) ?_
  exact W.iret hx hb hr (qi_end hf w hC) w.locs_ok dL_entry_20
abbrev rmL_make : Room := { frames := 8, cells := 1, slots := 6, locals := 172 }
abbrev wtL_make : List Cond := (wsL_make ++ exG) ++ exY
set_option maxHeartbeats 4000000 in
set_option maxRecDepth 100000 in
theorem xL_make (l : Launch) (hl0 : l.stackTraces = false) (D : va_G) (dA : Nat → ClassId) (b0 : Nat) (ι : Nat → Nat) (N : Nat) (a0 : Nat) (a1 : Int32) (a2 : Nat) (h : Hp) (r : Int32) (h' : Hp) (hf : fL_make N a0 a1 a2 h = some (r, h')) : vx_Met l yL_make wtL_make rmL_make (PL D dA b0 ι [.ref (ι a0), .int a1, .ref (ι a2)] h) (QI D dA b0 ι r h') (XF b0) 1 6 (qA b0) := by
  unfold fL_make at hf
  refine vx_ofWH (cc := cL_make) (maxL := 4) (ret := (some .int)) (hh := [(0, 9, 12, 15)]) (by decide +kernel) rfl ?_
  intro p e s m args below meth c s₁ B hml hv
  obtain ⟨rfl, w0, xl⟩ := hv
  have hx := B.exec
  have hb := B.bytes
  have hr := B.returns
  have htx := atoms_spec (ws := wtL_make) B.pre
  have hts : ∀ w ∈ wsL_make, w.before _ s = true := fun w hw => htx w (List.mem_append_left _ (List.mem_append_left _ hw))
  have htab := vx_table (x := yL_make) B (htx _ List.mem_cons_self)
  have hown : s.vm.findClass RL = some m.cls := findClass_of_methodNamed B.named
  have hlocks := B.notSynchronized
  have hC := w0.c
  have hK := hC.1
  have w := WD.start w0
  clear w0
  have hl := lv_entry ([.ref (ι a0), .int a1, .ref (ι a2)]) (n := 4) (Nat.le_of_ble_eq_true rfl)
  rw [lg_entry_eq]
  generalize (lg_sl ([.ref (ι a0), .int a1, .ref (ι a2)]) ++ List.replicate (4 - (lg_sl ([.ref (ι a0), .int a1, .ref (ι a2)])).length) Slot.unset).toArray = ls at hl ⊢
  have hl : lv_has ls 4 [(0, .ref (ι a0)), (1, .int a1), (2, .ref (ι a2))] := hl
  obtain ⟨H, hH⟩ : ∃ H : Heap, H = s.heap := ⟨_, rfl⟩
  obtain ⟨locs, hlo⟩ : ∃ locs : List Loc, locs = [] := ⟨_, rfl⟩
  rw [← hlo]
  have w : WD D dA b0 ι h s.heap H locs := by rw [hH, hlo]; exact w
  refine px_start hH ?_
  refine lv_aload_n hx hb dL_make_0 rfl (lv_at hl 2 rfl) ?_
  refine lv_iconst (v := (0 : Int32)) hx hb dL_make_1 (by decide) ?_
  refine lv_aload_n hx hb dL_make_2 rfl (lv_at hl 0 rfl) ?_
  refine lv_iload_n hx hb dL_make_3 rfl (lv_at hl 1 rfl) ?_
  obtain ⟨u1, eu1, hf⟩ := ob_s hf
  obtain ⟨⟨q4, h3⟩, eh3, hf⟩ := ob_s hf
  try dsimp only at hf
  rcases q4 with c5 | v2
  · have hf := hnd_l hf
    by_cases hc1 : c5 = 1
    · have hf := if_t hf hc1
      subst hc1
      refine px_tcatch (k := 1) (As := [.int a1]) (rest := [.int (0 : Int32), .ref (ι a2)]) ⟨hx, hb, hml, hown, htx⟩ hC xl.1 w (tX7_make l hl0 D dA b0 ι N a0 a1 h 1 h3 eh3) (cwV 1 htx (gx_0 (gx_V gL_make_X7_make exG_good)) rfl rfl rfl (by decide +kernel) ⟨Nat.le_of_ble_eq_true rfl, Nat.le_of_ble_eq_true rfl⟩) eu1 rfl rfl hl.1 rfl (Nat.le_of_ble_eq_true rfl) dL_make_4 ⟨Nat.le_of_ble_eq_true rfl, Nat.le_of_ble_eq_true rfl⟩ (by decide) [] { startPc := 0, endPc := 9, handlerPc := 12, catchType := 15 } [] (by rw [htab]; rfl) (fun z hz => nomatch hz) (by decide) (by decide) (htx _ (List.mem_append_right _ (List.mem_of_getElem? (i := 1) rfl))) (fun q9 H locs w => ?_)
      refine lv_astore_n (lv' := [(3, .ref q9), (0, .ref (ι a0)), (1, .int a1), (2, .ref (ι a2))]) hx hb dL_make_12 rfl hl (by decide) rfl (fun ls hl => ?_)
      refine lv_iconst (v := (1 : Int32)) hx hb dL_make_13 (by decide) ?_
      refine vx_ret ?_
      exact W.iret hx hb hr (qi_end hf w hC) w.locs_ok dL_make_14
    have hf := if_f hf hc1
    cases hf
  have hf := hnd_r hf
  refine px_callVi (As := [.int a1]) (rest := [.int (0 : Int32), .ref (ι a2)]) ⟨hx, hb, hml, hown, hts⟩ hC w (kX7_make l D dA b0 ι N a0 a1 h v2 h3 eh3) (cwV 1 hts gL_make_X7_make rfl rfl rfl (by decide +kernel) ⟨Nat.le_of_ble_eq_true rfl, Nat.le_of_ble_eq_true rfl⟩) eu1 rfl rfl hl.1 rfl (Nat.le_of_ble_eq_true rfl) dL_make_4 ⟨Nat.le_of_ble_eq_true rfl, Nat.le_of_ble_eq_true rfl⟩ (fun H locs w => ?_)
  refine lv_i2l hx hb dL_make_7 rfl ?_
  obtain ⟨h6, eh6, hf⟩ := ob_s hf
  refine px_jast hx hb hK w eh6 dL_make_8 (fun H locs w => ?_)
  refine lv_goto (tgt := 15) hx hb dL_make_9 (by decide) ?_
  refine lv_iconst (v := (0 : Int32)) hx hb dL_make_15 (by decide) ?_
  refine vx_ret ?_
  refine W.widen (k := 1) (n := 6) (by decide) (by decide) ?_
  exact W.iret hx hb hr (qi_end hf w hC) w.locs_ok dL_make_16
abbrev rmL_degree : Room := { frames := 10, cells := 1, slots := 6, locals := 171 }
abbrev wtL_degree : List Cond := (wsL_degree ++ exG) ++ exY
set_option maxHeartbeats 4000000 in
set_option maxRecDepth 100000 in
theorem xL_degree (l : Launch) (hl0 : l.stackTraces = false) (D : va_G) (dA : Nat → ClassId) (b0 : Nat) (ι : Nat → Nat) (N : Nat) (a0 : Nat) (a1 : Int32) (a2 : Int32) (a3 : Int32) (a4 : Nat) (h : Hp) (r : Int32) (h' : Hp) (hf : fL_degree N a0 a1 a2 a3 a4 h = some (r, h')) : vx_Met l yL_degree wtL_degree rmL_degree (PL D dA b0 ι [.ref (ι a0), .int a1, .int a2, .int a3, .ref (ι a4)] h) (QI D dA b0 ι r h') (XF b0) 1 6 (qA b0) := by
  unfold fL_degree at hf
  refine vx_ofWH (cc := cL_degree) (maxL := 6) (ret := (some .int)) (hh := [(0, 12, 15, 15), (0, 12, 19, 34), (0, 12, 23, 21)]) (by decide +kernel) rfl ?_
  intro p e s m args below meth c s₁ B hml hv
  obtain ⟨rfl, w0, xl⟩ := hv
  have hx := B.exec
  have hb := B.bytes
  have hr := B.returns
  have htx := atoms_spec (ws := wtL_degree) B.pre
  have hts : ∀ w ∈ wsL_degree, w.before _ s = true := fun w hw => htx w (List.mem_append_left _ (List.mem_append_left _ hw))
  have htab := vx_table (x := yL_degree) B (htx _ List.mem_cons_self)
  have hown : s.vm.findClass RL = some m.cls := findClass_of_methodNamed B.named
  have hlocks := B.notSynchronized
  have hC := w0.c
  have hK := hC.1
  have w := WD.start w0
  clear w0
  have hl := lv_entry ([.ref (ι a0), .int a1, .int a2, .int a3, .ref (ι a4)]) (n := 6) (Nat.le_of_ble_eq_true rfl)
  rw [lg_entry_eq]
  generalize (lg_sl ([.ref (ι a0), .int a1, .int a2, .int a3, .ref (ι a4)]) ++ List.replicate (6 - (lg_sl ([.ref (ι a0), .int a1, .int a2, .int a3, .ref (ι a4)])).length) Slot.unset).toArray = ls at hl ⊢
  have hl : lv_has ls 6 [(0, .ref (ι a0)), (1, .int a1), (2, .int a2), (3, .int a3), (4, .ref (ι a4))] := hl
  obtain ⟨H, hH⟩ : ∃ H : Heap, H = s.heap := ⟨_, rfl⟩
  obtain ⟨locs, hlo⟩ : ∃ locs : List Loc, locs = [] := ⟨_, rfl⟩
  rw [← hlo]
  have w : WD D dA b0 ι h s.heap H locs := by rw [hH, hlo]; exact w
  refine px_start hH ?_
  refine lv_aload hx hb dL_degree_0 (lv_at hl 4 rfl) ?_
  refine lv_iconst (v := (0 : Int32)) hx hb dL_degree_2 (by decide) ?_
  refine lv_aload_n hx hb dL_degree_3 rfl (lv_at hl 0 rfl) ?_
  refine lv_iload_n hx hb dL_degree_4 rfl (lv_at hl 1 rfl) ?_
  refine lv_iload_n hx hb dL_degree_5 rfl (lv_at hl 2 rfl) ?_
  refine lv_iload_n hx hb dL_degree_6 rfl (lv_at hl 3 rfl) ?_
  obtain ⟨u1, eu1, hf⟩ := ob_s hf
  obtain ⟨⟨q4, h3⟩, eh3, hf⟩ := ob_s hf
  try dsimp only at hf
  rcases q4 with c5 | v2
  · have hf := hnd_l hf
    by_cases hc1 : c5 = 1
    · have hf := if_t hf hc1
      subst hc1
      refine px_tcatch (k := 1) (As := [.int a1, .int a2, .int a3]) (rest := [.int (0 : Int32), .ref (ι a4)]) ⟨hx, hb, hml, hown, htx⟩ hC xl.1 w (tX7_degree l hl0 D dA b0 ι N a0 a1 a2 a3 h 1 h3 eh3) (cwV 3 htx (gx_0 (gx_V gL_degree_X7_degree exG_good)) rfl rfl rfl (by decide +kernel) ⟨Nat.le_of_ble_eq_true rfl, Nat.le_of_ble_eq_true rfl⟩) eu1 rfl rfl hl.1 rfl (Nat.le_of_ble_eq_true rfl) dL_degree_7 ⟨Nat.le_of_ble_eq_true rfl, Nat.le_of_ble_eq_true rfl⟩ (by decide) [] { startPc := 0, endPc := 12, handlerPc := 15, catchType := 15 } [{ startPc := 0, endPc := 12, handlerPc := 19, catchType := 34 }, { startPc := 0, endPc := 12, handlerPc := 23, catchType := 21 }] (by rw [htab]; rfl) (fun z hz => nomatch hz) (by decide) (by decide) (htx _ (List.mem_append_right _ (List.mem_of_getElem? (i := 1) rfl))) (fun q9 H locs w => ?_)
      refine lv_astore (lv' := [(5, .ref q9), (0, .ref (ι a0)), (1, .int a1), (2, .int a2), (3, .int a3), (4, .ref (ι a4))]) hx hb dL_degree_15 hl (by decide) rfl (fun ls hl => ?_)
      refine lv_iconst (v := (1 : Int32)) hx hb dL_degree_17 (by decide) ?_
      refine vx_ret ?_
      exact W.iret hx hb hr (qi_end hf w hC) w.locs_ok dL_degree_18
    have hf := if_f hf hc1
    by_cases hc2 : c5 = 2
    · have hf := if_t hf hc2
      subst hc2
      refine px_tcatch (k := 2) (As := [.int a1, .int a2, .int a3]) (rest := [.int (0 : Int32), .ref (ι a4)]) ⟨hx, hb, hml, hown, htx⟩ hC xl.1 w (tX7_degree l hl0 D dA b0 ι N a0 a1 a2 a3 h 2 h3 eh3) (cwV 3 htx (gx_0 (gx_V gL_degree_X7_degree exG_good)) rfl rfl rfl (by decide +kernel) ⟨Nat.le_of_ble_eq_true rfl, Nat.le_of_ble_eq_true rfl⟩) eu1 rfl rfl hl.1 rfl (Nat.le_of_ble_eq_true rfl) dL_degree_7 ⟨Nat.le_of_ble_eq_true rfl, Nat.le_of_ble_eq_true rfl⟩ (by decide) [{ startPc := 0, endPc := 12, handlerPc := 15, catchType := 15 }] { startPc := 0, endPc := 12, handlerPc := 19, catchType := 34 } [{ startPc := 0, endPc := 12, handlerPc := 23, catchType := 21 }] (by rw [htab]; rfl) (List.forall_mem_cons.mpr ⟨Or.inr ⟨by decide, exN 1, htx _ (List.mem_append_right _ (List.mem_of_getElem? (i := 1) rfl)), xl.2 _ (List.mem_of_getElem? (i := 1) rfl)⟩, fun z hz => nomatch hz⟩) (by decide) (by decide) (htx _ (List.mem_append_right _ (List.mem_of_getElem? (i := 2) rfl))) (fun q9 H locs w => ?_)
      refine lv_astore (lv' := [(5, .ref q9), (0, .ref (ι a0)), (1, .int a1), (2, .int a2), (3, .int a3), (4, .ref (ι a4))]) hx hb dL_degree_19 hl (by decide) rfl (fun ls hl => ?_)
      refine lv_iconst (v := (2 : Int32)) hx hb dL_degree_21 (by decide) ?_
      refine vx_ret ?_
      exact W.iret hx hb hr (qi_end hf w hC) w.locs_ok dL_degree_22
    have hf := if_f hf hc2
    by_cases hc3 : c5 = 3
    · have hf := if_t hf hc3
      subst hc3
      refine px_tcatch (k := 3) (As := [.int a1, .int a2, .int a3]) (rest := [.int (0 : Int32), .ref (ι a4)]) ⟨hx, hb, hml, hown, htx⟩ hC xl.1 w (tX7_degree l hl0 D dA b0 ι N a0 a1 a2 a3 h 3 h3 eh3) (cwV 3 htx (gx_0 (gx_V gL_degree_X7_degree exG_good)) rfl rfl rfl (by decide +kernel) ⟨Nat.le_of_ble_eq_true rfl, Nat.le_of_ble_eq_true rfl⟩) eu1 rfl rfl hl.1 rfl (Nat.le_of_ble_eq_true rfl) dL_degree_7 ⟨Nat.le_of_ble_eq_true rfl, Nat.le_of_ble_eq_true rfl⟩ (by decide) [{ startPc := 0, endPc := 12, handlerPc := 15, catchType := 15 }, { startPc := 0, endPc := 12, handlerPc := 19, catchType := 34 }] { startPc := 0, endPc := 12, handlerPc := 23, catchType := 21 } [] (by rw [htab]; rfl) (List.forall_mem_cons.mpr ⟨Or.inr ⟨by decide, exN 1, htx _ (List.mem_append_right _ (List.mem_of_getElem? (i := 1) rfl)), xl.2 _ (List.mem_of_getElem? (i := 2) rfl)⟩, List.forall_mem_cons.mpr ⟨Or.inr ⟨by decide, exN 2, htx _ (List.mem_append_right _ (List.mem_of_getElem? (i := 2) rfl)), xl.2 _ (List.mem_of_getElem? (i := 3) rfl)⟩, fun z hz => nomatch hz⟩⟩) (by decide) (by decide) (htx _ (List.mem_append_right _ (List.mem_of_getElem? (i := 3) rfl))) (fun q9 H locs w => ?_)
      refine lv_astore (lv' := [(5, .ref q9), (0, .ref (ι a0)), (1, .int a1), (2, .int a2), (3, .int a3), (4, .ref (ι a4))]) hx hb dL_degree_23 hl (by decide) rfl (fun ls hl => ?_)
      refine lv_iconst (v := (3 : Int32)) hx hb dL_degree_25 (by decide) ?_
      refine vx_ret ?_
      exact W.iret hx hb hr (qi_end hf w hC) w.locs_ok dL_degree_26
    have hf := if_f hf hc3
    cases hf
  have hf := hnd_r hf
  refine px_callVi (As := [.int a1, .int a2, .int a3]) (rest := [.int (0 : Int32), .ref (ι a4)]) ⟨hx, hb, hml, hown, hts⟩ hC w (kX7_degree l D dA b0 ι N a0 a1 a2 a3 h v2 h3 eh3) (cwV 3 hts gL_degree_X7_degree rfl rfl rfl (by decide +kernel) ⟨Nat.le_of_ble_eq_true rfl, Nat.le_of_ble_eq_true rfl⟩) eu1 rfl rfl hl.1 rfl (Nat.le_of_ble_eq_true rfl) dL_degree_7 ⟨Nat.le_of_ble_eq_true rfl, Nat.le_of_ble_eq_true rfl⟩ (fun H locs w => ?_)
  refine lv_i2l hx hb dL_degree_10 rfl ?_
  obtain ⟨h6, eh6, hf⟩ := ob_s hf
  refine px_jast hx hb hK w eh6 dL_degree_11 (fun H locs w => ?_)
  refine lv_goto (tgt := 27) hx hb dL_degree_12 (by decide) ?_
  refine lv_iconst (v := (0 : Int32)) hx hb dL_degree_27 (by decide) ?_
  refine vx_ret ?_
  refine W.widen (k := 1) (n := 6) (by decide) (by decide) ?_
  exact W.iret hx hb hr (qi_end hf w hC) w.locs_ok dL_degree_28
abbrev rmL_at : Room := { frames := 10, cells := 1, slots := 6, locals := 172 }
abbrev wtL_at : List Cond := (wsL_at ++ exG) ++ exY
set_option maxHeartbeats 4000000 in
set_option maxRecDepth 100000 in
theorem xL_at (l : Launch) (hl0 : l.stackTraces = false) (D : va_G) (dA : Nat → ClassId) (b0 : Nat) (ι : Nat → Nat) (N : Nat) (a0 : Nat) (a1 : Int32) (a2 : Int32) (a3 : Int32) (a4 : Int32) (a5 : Nat) (h : Hp) (r : Int32) (h' : Hp) (hf : fL_at N a0 a1 a2 a3 a4 a5 h = some (r, h')) : vx_Met l yL_at wtL_at rmL_at (PL D dA b0 ι [.ref (ι a0), .int a1, .int a2, .int a3, .int a4, .ref (ι a5)] h) (QI D dA b0 ι r h') (XF b0) 1 6 (qA b0) := by
  unfold fL_at at hf
  refine vx_ofWH (cc := cL_at) (maxL := 7) (ret := (some .int)) (hh := [(0, 14, 17, 15), (0, 14, 21, 34), (0, 14, 25, 21)]) (by decide +kernel) rfl ?_
  intro p e s m args below meth c s₁ B hml hv
  obtain ⟨rfl, w0, xl⟩ := hv
  have hx := B.exec
  have hb := B.bytes
  have hr := B.returns
  have htx := atoms_spec (ws := wtL_at) B.pre
  have hts : ∀ w ∈ wsL_at, w.before _ s = true := fun w hw => htx w (List.mem_append_left _ (List.mem_append_left _ hw))
  have htab := vx_table (x := yL_at) B (htx _ List.mem_cons_self)
  have hown : s.vm.findClass RL = some m.cls := findClass_of_methodNamed B.named
  have hlocks := B.notSynchronized
  have hC := w0.c
  have hK := hC.1
  have w := WD.start w0
  clear w0
  have hl := lv_entry ([.ref (ι a0), .int a1, .int a2, .int a3, .int a4, .ref (ι a5)]) (n := 7) (Nat.le_of_ble_eq_true rfl)
  rw [lg_entry_eq]
  generalize (lg_sl ([.ref (ι a0), .int a1, .int a2, .int a3, .int a4, .ref (ι a5)]) ++ List.replicate (7 - (lg_sl ([.ref (ι a0), .int a1, .int a2, .int a3, .int a4, .ref (ι a5)])).length) Slot.unset).toArray = ls at hl ⊢
  have hl : lv_has ls 7 [(0, .ref (ι a0)), (1, .int a1), (2, .int a2), (3, .int a3), (4, .int a4), (5, .ref (ι a5))] := hl
  obtain ⟨H, hH⟩ : ∃ H : Heap, H = s.heap := ⟨_, rfl⟩
  obtain ⟨locs, hlo⟩ : ∃ locs : List Loc, locs = [] := ⟨_, rfl⟩
  rw [← hlo]
  have w : WD D dA b0 ι h s.heap H locs := by rw [hH, hlo]; exact w
  refine px_start hH ?_
  refine lv_aload hx hb dL_at_0 (lv_at hl 5 rfl) ?_
  refine lv_iconst (v := (0 : Int32)) hx hb dL_at_2 (by decide) ?_
  refine lv_aload_n hx hb dL_at_3 rfl (lv_at hl 0 rfl) ?_
  refine lv_iload_n hx hb dL_at_4 rfl (lv_at hl 1 rfl) ?_
  refine lv_iload_n hx hb dL_at_5 rfl (lv_at hl 2 rfl) ?_
  refine lv_iload_n hx hb dL_at_6 rfl (lv_at hl 3 rfl) ?_
  refine lv_iload hx hb dL_at_7 (lv_at hl 4 rfl) ?_
  obtain ⟨u1, eu1, hf⟩ := ob_s hf
  obtain ⟨⟨q4, h3⟩, eh3, hf⟩ := ob_s hf
  try dsimp only at hf
  rcases q4 with c5 | v2
  · have hf := hnd_l hf
    by_cases hc1 : c5 = 1
    · have hf := if_t hf hc1
      subst hc1
      refine px_tcatch (k := 1) (As := [.int a1, .int a2, .int a3, .int a4]) (rest := [.int (0 : Int32), .ref (ι a5)]) ⟨hx, hb, hml, hown, htx⟩ hC xl.1 w (tX7_at l hl0 D dA b0 ι N a0 a1 a2 a3 a4 h 1 h3 eh3) (cwV 4 htx (gx_0 (gx_V gL_at_X7_at exG_good)) rfl rfl rfl (by decide +kernel) ⟨Nat.le_of_ble_eq_true rfl, Nat.le_of_ble_eq_true rfl⟩) eu1 rfl rfl hl.1 rfl (Nat.le_of_ble_eq_true rfl) dL_at_9 ⟨Nat.le_of_ble_eq_true rfl, Nat.le_of_ble_eq_true rfl⟩ (by decide) [] { startPc := 0, endPc := 14, handlerPc := 17, catchType := 15 } [{ startPc := 0, endPc := 14, handlerPc := 21, catchType := 34 }, { startPc := 0, endPc := 14, handlerPc := 25, catchType := 21 }] (by rw [htab]; rfl) (fun z hz => nomatch hz) (by decide) (by decide) (htx _ (List.mem_append_right _ (List.mem_of_getElem? (i := 1) rfl))) (fun q9 H locs w => ?_)
      refine lv_astore (lv' := [(6, .ref q9), (0, .ref (ι a0)), (1, .int a1), (2, .int a2), (3, .int a3), (4, .int a4), (5, .ref (ι a5))]) hx hb dL_at_17 hl (by decide) rfl (fun ls hl => ?_)
      refine lv_iconst (v := (1 : Int32)) hx hb dL_at_19 (by decide) ?_
      refine vx_ret ?_
      exact W.iret hx hb hr (qi_end hf w hC) w.locs_ok dL_at_20
    have hf := if_f hf hc1
    by_cases hc2 : c5 = 2
    · have hf := if_t hf hc2
      subst hc2
      refine px_tcatch (k := 2) (As := [.int a1, .int a2, .int a3, .int a4]) (rest := [.int (0 : Int32), .ref (ι a5)]) ⟨hx, hb, hml, hown, htx⟩ hC xl.1 w (tX7_at l hl0 D dA b0 ι N a0 a1 a2 a3 a4 h 2 h3 eh3) (cwV 4 htx (gx_0 (gx_V gL_at_X7_at exG_good)) rfl rfl rfl (by decide +kernel) ⟨Nat.le_of_ble_eq_true rfl, Nat.le_of_ble_eq_true rfl⟩) eu1 rfl rfl hl.1 rfl (Nat.le_of_ble_eq_true rfl) dL_at_9 ⟨Nat.le_of_ble_eq_true rfl, Nat.le_of_ble_eq_true rfl⟩ (by decide) [{ startPc := 0, endPc := 14, handlerPc := 17, catchType := 15 }] { startPc := 0, endPc := 14, handlerPc := 21, catchType := 34 } [{ startPc := 0, endPc := 14, handlerPc := 25, catchType := 21 }] (by rw [htab]; rfl) (List.forall_mem_cons.mpr ⟨Or.inr ⟨by decide, exN 1, htx _ (List.mem_append_right _ (List.mem_of_getElem? (i := 1) rfl)), xl.2 _ (List.mem_of_getElem? (i := 1) rfl)⟩, fun z hz => nomatch hz⟩) (by decide) (by decide) (htx _ (List.mem_append_right _ (List.mem_of_getElem? (i := 2) rfl))) (fun q9 H locs w => ?_)
      refine lv_astore (lv' := [(6, .ref q9), (0, .ref (ι a0)), (1, .int a1), (2, .int a2), (3, .int a3), (4, .int a4), (5, .ref (ι a5))]) hx hb dL_at_21 hl (by decide) rfl (fun ls hl => ?_)
      refine lv_iconst (v := (2 : Int32)) hx hb dL_at_23 (by decide) ?_
      refine vx_ret ?_
      exact W.iret hx hb hr (qi_end hf w hC) w.locs_ok dL_at_24
    have hf := if_f hf hc2
    by_cases hc3 : c5 = 3
    · have hf := if_t hf hc3
      subst hc3
      refine px_tcatch (k := 3) (As := [.int a1, .int a2, .int a3, .int a4]) (rest := [.int (0 : Int32), .ref (ι a5)]) ⟨hx, hb, hml, hown, htx⟩ hC xl.1 w (tX7_at l hl0 D dA b0 ι N a0 a1 a2 a3 a4 h 3 h3 eh3) (cwV 4 htx (gx_0 (gx_V gL_at_X7_at exG_good)) rfl rfl rfl (by decide +kernel) ⟨Nat.le_of_ble_eq_true rfl, Nat.le_of_ble_eq_true rfl⟩) eu1 rfl rfl hl.1 rfl (Nat.le_of_ble_eq_true rfl) dL_at_9 ⟨Nat.le_of_ble_eq_true rfl, Nat.le_of_ble_eq_true rfl⟩ (by decide) [{ startPc := 0, endPc := 14, handlerPc := 17, catchType := 15 }, { startPc := 0, endPc := 14, handlerPc := 21, catchType := 34 }] { startPc := 0, endPc := 14, handlerPc := 25, catchType := 21 } [] (by rw [htab]; rfl) (List.forall_mem_cons.mpr ⟨Or.inr ⟨by decide, exN 1, htx _ (List.mem_append_right _ (List.mem_of_getElem? (i := 1) rfl)), xl.2 _ (List.mem_of_getElem? (i := 2) rfl)⟩, List.forall_mem_cons.mpr ⟨Or.inr ⟨by decide, exN 2, htx _ (List.mem_append_right _ (List.mem_of_getElem? (i := 2) rfl)), xl.2 _ (List.mem_of_getElem? (i := 3) rfl)⟩, fun z hz => nomatch hz⟩⟩) (by decide) (by decide) (htx _ (List.mem_append_right _ (List.mem_of_getElem? (i := 3) rfl))) (fun q9 H locs w => ?_)
      refine lv_astore (lv' := [(6, .ref q9), (0, .ref (ι a0)), (1, .int a1), (2, .int a2), (3, .int a3), (4, .int a4), (5, .ref (ι a5))]) hx hb dL_at_25 hl (by decide) rfl (fun ls hl => ?_)
      refine lv_iconst (v := (3 : Int32)) hx hb dL_at_27 (by decide) ?_
      refine vx_ret ?_
      exact W.iret hx hb hr (qi_end hf w hC) w.locs_ok dL_at_28
    have hf := if_f hf hc3
    cases hf
  have hf := hnd_r hf
  refine px_callVi (As := [.int a1, .int a2, .int a3, .int a4]) (rest := [.int (0 : Int32), .ref (ι a5)]) ⟨hx, hb, hml, hown, hts⟩ hC w (kX7_at l D dA b0 ι N a0 a1 a2 a3 a4 h v2 h3 eh3) (cwV 4 hts gL_at_X7_at rfl rfl rfl (by decide +kernel) ⟨Nat.le_of_ble_eq_true rfl, Nat.le_of_ble_eq_true rfl⟩) eu1 rfl rfl hl.1 rfl (Nat.le_of_ble_eq_true rfl) dL_at_9 ⟨Nat.le_of_ble_eq_true rfl, Nat.le_of_ble_eq_true rfl⟩ (fun H locs w => ?_)
  refine lv_i2l hx hb dL_at_12 rfl ?_
  obtain ⟨h6, eh6, hf⟩ := ob_s hf
  refine px_jast hx hb hK w eh6 dL_at_13 (fun H locs w => ?_)
  refine lv_goto (tgt := 29) hx hb dL_at_14 (by decide) ?_
  refine lv_iconst (v := (0 : Int32)) hx hb dL_at_29 (by decide) ?_
  refine vx_ret ?_
  refine W.widen (k := 1) (n := 6) (by decide) (by decide) ?_
  exact W.iret hx hb hr (qi_end hf w hC) w.locs_ok dL_at_30
abbrev rmL_determinant : Room := { frames := 8, cells := 1, slots := 6, locals := 172 }
abbrev wtL_determinant : List Cond := (wsL_determinant ++ exG) ++ exY
set_option maxHeartbeats 4000000 in
set_option maxRecDepth 100000 in
theorem xL_determinant (l : Launch) (hl0 : l.stackTraces = false) (D : va_G) (dA : Nat → ClassId) (b0 : Nat) (ι : Nat → Nat) (N : Nat) (a0 : Nat) (a1 : Int32) (a2 : Nat) (h : Hp) (r : Int32) (h' : Hp) (hf : fL_determinant N a0 a1 a2 h = some (r, h')) : vx_Met l yL_determinant wtL_determinant rmL_determinant (PL D dA b0 ι [.ref (ι a0), .int a1, .ref (ι a2)] h) (QI D dA b0 ι r h') (XF b0) 1 6 (qA b0) := by
  unfold fL_determinant at hf
  refine vx_ofWH (cc := cL_determinant) (maxL := 4) (ret := (some .int)) (hh := [(0, 9, 12, 34)]) (by decide +kernel) rfl ?_
  intro p e s m args below meth c s₁ B hml hv
  obtain ⟨rfl, w0, xl⟩ := hv
  have hx := B.exec
  have hb := B.bytes
  have hr := B.returns
  have htx := atoms_spec (ws := wtL_determinant) B.pre
  have hts : ∀ w ∈ wsL_determinant, w.before _ s = true := fun w hw => htx w (List.mem_append_left _ (List.mem_append_left _ hw))
  have htab := vx_table (x := yL_determinant) B (htx _ List.mem_cons_self)
  have hown : s.vm.findClass RL = some m.cls := findClass_of_methodNamed B.named
  have hlocks := B.notSynchronized
  have hC := w0.c
  have hK := hC.1
  have w := WD.start w0
  clear w0
  have hl := lv_entry ([.ref (ι a0), .int a1, .ref (ι a2)]) (n := 4) (Nat.le_of_ble_eq_true rfl)
  rw [lg_entry_eq]
  generalize (lg_sl ([.ref (ι a0), .int a1, .ref (ι a2)]) ++ List.replicate (4 - (lg_sl ([.ref (ι a0), .int a1, .ref (ι a2)])).length) Slot.unset).toArray = ls at hl ⊢
  have hl : lv_has ls 4 [(0, .ref (ι a0)), (1, .int a1), (2, .ref (ι a2))] := hl
  obtain ⟨H, hH⟩ : ∃ H : Heap, H = s.heap := ⟨_, rfl⟩
  obtain ⟨locs, hlo⟩ : ∃ locs : List Loc, locs = [] := ⟨_, rfl⟩
  rw [← hlo]
  have w : WD D dA b0 ι h s.heap H locs := by rw [hH, hlo]; exact w
  refine px_start hH ?_
  refine lv_aload_n hx hb dL_determinant_0 rfl (lv_at hl 2 rfl) ?_
  refine lv_iconst (v := (0 : Int32)) hx hb dL_determinant_1 (by decide) ?_
  refine lv_aload_n hx hb dL_determinant_2 rfl (lv_at hl 0 rfl) ?_
  refine lv_iload_n hx hb dL_determinant_3 rfl (lv_at hl 1 rfl) ?_
  obtain ⟨u1, eu1, hf⟩ := ob_s hf
  obtain ⟨⟨q4, h3⟩, eh3, hf⟩ := ob_s hf
  try dsimp only at hf
  rcases q4 with c5 | v2
  · have hf := hnd_l hf
    by_cases hc2 : c5 = 2
    · have hf := if_t hf hc2
      subst hc2
      refine px_tcatch (k := 2) (As := [.int a1]) (rest := [.int (0 : Int32), .ref (ι a2)]) ⟨hx, hb, hml, hown, htx⟩ hC xl.1 w (tX7_determinant l hl0 D dA b0 ι N a0 a1 h 2 h3 eh3) (cwV 1 htx (gx_0 (gx_V gL_determinant_X7_determinant exG_good)) rfl rfl rfl (by decide +kernel) ⟨Nat.le_of_ble_eq_true rfl, Nat.le_of_ble_eq_true rfl⟩) eu1 rfl rfl hl.1 rfl (Nat.le_of_ble_eq_true rfl) dL_determinant_4 ⟨Nat.le_of_ble_eq_true rfl, Nat.le_of_ble_eq_true rfl⟩ (by decide) [] { startPc := 0, endPc := 9, handlerPc := 12, catchType := 34 } [] (by rw [htab]; rfl) (fun z hz => nomatch hz) (by decide) (by decide) (htx _ (List.mem_append_right _ (List.mem_of_getElem? (i := 2) rfl))) (fun q9 H locs w => ?_)
      refine lv_astore_n (lv' := [(3, .ref q9), (0, .ref (ι a0)), (1, .int a1), (2, .ref (ι a2))]) hx hb dL_determinant_12 rfl hl (by decide) rfl (fun ls hl => ?_)
      refine lv_iconst (v := (1 : Int32)) hx hb dL_determinant_13 (by decide) ?_
      refine vx_ret ?_
      exact W.iret hx hb hr (qi_end hf w hC) w.locs_ok dL_determinant_14
    have hf := if_f hf hc2
    cases hf
  have hf := hnd_r hf
  refine px_callVi (As := [.int a1]) (rest := [.int (0 : Int32), .ref (ι a2)]) ⟨hx, hb, hml, hown, hts⟩ hC w (kX7_determinant l D dA b0 ι N a0 a1 h v2 h3 eh3) (cwV 1 hts gL_determinant_X7_determinant rfl rfl rfl (by decide +kernel) ⟨Nat.le_of_ble_eq_true rfl, Nat.le_of_ble_eq_true rfl⟩) eu1 rfl rfl hl.1 rfl (Nat.le_of_ble_eq_true rfl) dL_determinant_4 ⟨Nat.le_of_ble_eq_true rfl, Nat.le_of_ble_eq_true rfl⟩ (fun H locs w => ?_)
  refine lv_i2l hx hb dL_determinant_7 rfl ?_
  obtain ⟨h6, eh6, hf⟩ := ob_s hf
  refine px_jast hx hb hK w eh6 dL_determinant_8 (fun H locs w => ?_)
  refine lv_goto (tgt := 15) hx hb dL_determinant_9 (by decide) ?_
  refine lv_iconst (v := (0 : Int32)) hx hb dL_determinant_15 (by decide) ?_
  refine vx_ret ?_
  refine W.widen (k := 1) (n := 6) (by decide) (by decide) ?_
  exact W.iret hx hb hr (qi_end hf w hC) w.locs_ok dL_determinant_16
abbrev rmL_characteristic : Room := { frames := 8, cells := 1, slots := 6, locals := 174 }
abbrev wtL_characteristic : List Cond := (wsL_characteristic ++ exG) ++ exY
set_option maxHeartbeats 4000000 in
set_option maxRecDepth 100000 in
theorem xL_characteristic (l : Launch) (hl0 : l.stackTraces = false) (D : va_G) (dA : Nat → ClassId) (b0 : Nat) (ι : Nat → Nat) (N : Nat) (a0 : Nat) (a1 : Int32) (a2 : Nat) (h : Hp) (r : Int32) (h' : Hp) (hf : fL_characteristic N a0 a1 a2 h = some (r, h')) : vx_Met l yL_characteristic wtL_characteristic rmL_characteristic (PL D dA b0 ι [.ref (ι a0), .int a1, .ref (ι a2)] h) (QI D dA b0 ι r h') (XF b0) 1 6 (qA b0) := by
  unfold fL_characteristic at hf
  refine vx_ofWH (cc := cL_characteristic) (maxL := 4) (ret := (some .int)) (hh := [(0, 9, 12, 34)]) (by decide +kernel) rfl ?_
  intro p e s m args below meth c s₁ B hml hv
  obtain ⟨rfl, w0, xl⟩ := hv
  have hx := B.exec
  have hb := B.bytes
  have hr := B.returns
  have htx := atoms_spec (ws := wtL_characteristic) B.pre
  have hts : ∀ w ∈ wsL_characteristic, w.before _ s = true := fun w hw => htx w (List.mem_append_left _ (List.mem_append_left _ hw))
  have htab := vx_table (x := yL_characteristic) B (htx _ List.mem_cons_self)
  have hown : s.vm.findClass RL = some m.cls := findClass_of_methodNamed B.named
  have hlocks := B.notSynchronized
  have hC := w0.c
  have hK := hC.1
  have w := WD.start w0
  clear w0
  have hl := lv_entry ([.ref (ι a0), .int a1, .ref (ι a2)]) (n := 4) (Nat.le_of_ble_eq_true rfl)
  rw [lg_entry_eq]
  generalize (lg_sl ([.ref (ι a0), .int a1, .ref (ι a2)]) ++ List.replicate (4 - (lg_sl ([.ref (ι a0), .int a1, .ref (ι a2)])).length) Slot.unset).toArray = ls at hl ⊢
  have hl : lv_has ls 4 [(0, .ref (ι a0)), (1, .int a1), (2, .ref (ι a2))] := hl
  obtain ⟨H, hH⟩ : ∃ H : Heap, H = s.heap := ⟨_, rfl⟩
  obtain ⟨locs, hlo⟩ : ∃ locs : List Loc, locs = [] := ⟨_, rfl⟩
  rw [← hlo]
  have w : WD D dA b0 ι h s.heap H locs := by rw [hH, hlo]; exact w
  refine px_start hH ?_
  refine lv_aload_n hx hb dL_characteristic_0 rfl (lv_at hl 2 rfl) ?_
  refine lv_iconst (v := (0 : Int32)) hx hb dL_characteristic_1 (by decide) ?_
  refine lv_aload_n hx hb dL_characteristic_2 rfl (lv_at hl 0 rfl) ?_
  refine lv_iload_n hx hb dL_characteristic_3 rfl (lv_at hl 1 rfl) ?_
  obtain ⟨u1, eu1, hf⟩ := ob_s hf
  obtain ⟨⟨q4, h3⟩, eh3, hf⟩ := ob_s hf
  try dsimp only at hf
  rcases q4 with c5 | v2
  · have hf := hnd_l hf
    by_cases hc2 : c5 = 2
    · have hf := if_t hf hc2
      subst hc2
      refine px_tcatch (k := 2) (As := [.int a1]) (rest := [.int (0 : Int32), .ref (ι a2)]) ⟨hx, hb, hml, hown, htx⟩ hC xl.1 w (tX7_characteristic l hl0 D dA b0 ι N a0 a1 h 2 h3 eh3) (cwV 1 htx (gx_0 (gx_V gL_characteristic_X7_characteristic exG_good)) rfl rfl rfl (by decide +kernel) ⟨Nat.le_of_ble_eq_true rfl, Nat.le_of_ble_eq_true rfl⟩) eu1 rfl rfl hl.1 rfl (Nat.le_of_ble_eq_true rfl) dL_characteristic_4 ⟨Nat.le_of_ble_eq_true rfl, Nat.le_of_ble_eq_true rfl⟩ (by decide) [] { startPc := 0, endPc := 9, handlerPc := 12, catchType := 34 } [] (by rw [htab]; rfl) (fun z hz => nomatch hz) (by decide) (by decide) (htx _ (List.mem_append_right _ (List.mem_of_getElem? (i := 2) rfl))) (fun q9 H locs w => ?_)
      refine lv_astore_n (lv' := [(3, .ref q9), (0, .ref (ι a0)), (1, .int a1), (2, .ref (ι a2))]) hx hb dL_characteristic_12 rfl hl (by decide) rfl (fun ls hl => ?_)
      refine lv_iconst (v := (1 : Int32)) hx hb dL_characteristic_13 (by decide) ?_
      refine vx_ret ?_
      exact W.iret hx hb hr (qi_end hf w hC) w.locs_ok dL_characteristic_14
    have hf := if_f hf hc2
    cases hf
  have hf := hnd_r hf
  refine px_callVi (As := [.int a1]) (rest := [.int (0 : Int32), .ref (ι a2)]) ⟨hx, hb, hml, hown, hts⟩ hC w (kX7_characteristic l D dA b0 ι N a0 a1 h v2 h3 eh3) (cwV 1 hts gL_characteristic_X7_characteristic rfl rfl rfl (by decide +kernel) ⟨Nat.le_of_ble_eq_true rfl, Nat.le_of_ble_eq_true rfl⟩) eu1 rfl rfl hl.1 rfl (Nat.le_of_ble_eq_true rfl) dL_characteristic_4 ⟨Nat.le_of_ble_eq_true rfl, Nat.le_of_ble_eq_true rfl⟩ (fun H locs w => ?_)
  refine lv_i2l hx hb dL_characteristic_7 rfl ?_
  obtain ⟨h6, eh6, hf⟩ := ob_s hf
  refine px_jast hx hb hK w eh6 dL_characteristic_8 (fun H locs w => ?_)
  refine lv_goto (tgt := 15) hx hb dL_characteristic_9 (by decide) ?_
  refine lv_iconst (v := (0 : Int32)) hx hb dL_characteristic_15 (by decide) ?_
  refine vx_ret ?_
  refine W.widen (k := 1) (n := 6) (by decide) (by decide) ?_
  exact W.iret hx hb hr (qi_end hf w hC) w.locs_ok dL_characteristic_16
abbrev rmL_minimal : Room := { frames := 8, cells := 1, slots := 6, locals := 174 }
abbrev wtL_minimal : List Cond := (wsL_minimal ++ exG) ++ exY
set_option maxHeartbeats 4000000 in
set_option maxRecDepth 100000 in
theorem xL_minimal (l : Launch) (hl0 : l.stackTraces = false) (D : va_G) (dA : Nat → ClassId) (b0 : Nat) (ι : Nat → Nat) (N : Nat) (a0 : Nat) (a1 : Int32) (a2 : Nat) (h : Hp) (r : Int32) (h' : Hp) (hf : fL_minimal N a0 a1 a2 h = some (r, h')) : vx_Met l yL_minimal wtL_minimal rmL_minimal (PL D dA b0 ι [.ref (ι a0), .int a1, .ref (ι a2)] h) (QI D dA b0 ι r h') (XF b0) 1 6 (qA b0) := by
  unfold fL_minimal at hf
  refine vx_ofWH (cc := cL_minimal) (maxL := 4) (ret := (some .int)) (hh := [(0, 9, 12, 34)]) (by decide +kernel) rfl ?_
  intro p e s m args below meth c s₁ B hml hv
  obtain ⟨rfl, w0, xl⟩ := hv
  have hx := B.exec
  have hb := B.bytes
  have hr := B.returns
  have htx := atoms_spec (ws := wtL_minimal) B.pre
  have hts : ∀ w ∈ wsL_minimal, w.before _ s = true := fun w hw => htx w (List.mem_append_left _ (List.mem_append_left _ hw))
  have htab := vx_table (x := yL_minimal) B (htx _ List.mem_cons_self)
  have hown : s.vm.findClass RL = some m.cls := findClass_of_methodNamed B.named
  have hlocks := B.notSynchronized
  have hC := w0.c
  have hK := hC.1
  have w := WD.start w0
  clear w0
  have hl := lv_entry ([.ref (ι a0), .int a1, .ref (ι a2)]) (n := 4) (Nat.le_of_ble_eq_true rfl)
  rw [lg_entry_eq]
  generalize (lg_sl ([.ref (ι a0), .int a1, .ref (ι a2)]) ++ List.replicate (4 - (lg_sl ([.ref (ι a0), .int a1, .ref (ι a2)])).length) Slot.unset).toArray = ls at hl ⊢
  have hl : lv_has ls 4 [(0, .ref (ι a0)), (1, .int a1), (2, .ref (ι a2))] := hl
  obtain ⟨H, hH⟩ : ∃ H : Heap, H = s.heap := ⟨_, rfl⟩
  obtain ⟨locs, hlo⟩ : ∃ locs : List Loc, locs = [] := ⟨_, rfl⟩
  rw [← hlo]
  have w : WD D dA b0 ι h s.heap H locs := by rw [hH, hlo]; exact w
  refine px_start hH ?_
  refine lv_aload_n hx hb dL_minimal_0 rfl (lv_at hl 2 rfl) ?_
  refine lv_iconst (v := (0 : Int32)) hx hb dL_minimal_1 (by decide) ?_
  refine lv_aload_n hx hb dL_minimal_2 rfl (lv_at hl 0 rfl) ?_
  refine lv_iload_n hx hb dL_minimal_3 rfl (lv_at hl 1 rfl) ?_
  obtain ⟨u1, eu1, hf⟩ := ob_s hf
  obtain ⟨⟨q4, h3⟩, eh3, hf⟩ := ob_s hf
  try dsimp only at hf
  rcases q4 with c5 | v2
  · have hf := hnd_l hf
    by_cases hc2 : c5 = 2
    · have hf := if_t hf hc2
      subst hc2
      refine px_tcatch (k := 2) (As := [.int a1]) (rest := [.int (0 : Int32), .ref (ι a2)]) ⟨hx, hb, hml, hown, htx⟩ hC xl.1 w (tX7_minimal l hl0 D dA b0 ι N a0 a1 h 2 h3 eh3) (cwV 1 htx (gx_0 (gx_V gL_minimal_X7_minimal exG_good)) rfl rfl rfl (by decide +kernel) ⟨Nat.le_of_ble_eq_true rfl, Nat.le_of_ble_eq_true rfl⟩) eu1 rfl rfl hl.1 rfl (Nat.le_of_ble_eq_true rfl) dL_minimal_4 ⟨Nat.le_of_ble_eq_true rfl, Nat.le_of_ble_eq_true rfl⟩ (by decide) [] { startPc := 0, endPc := 9, handlerPc := 12, catchType := 34 } [] (by rw [htab]; rfl) (fun z hz => nomatch hz) (by decide) (by decide) (htx _ (List.mem_append_right _ (List.mem_of_getElem? (i := 2) rfl))) (fun q9 H locs w => ?_)
      refine lv_astore_n (lv' := [(3, .ref q9), (0, .ref (ι a0)), (1, .int a1), (2, .ref (ι a2))]) hx hb dL_minimal_12 rfl hl (by decide) rfl (fun ls hl => ?_)
      refine lv_iconst (v := (1 : Int32)) hx hb dL_minimal_13 (by decide) ?_
      refine vx_ret ?_
      exact W.iret hx hb hr (qi_end hf w hC) w.locs_ok dL_minimal_14
    have hf := if_f hf hc2
    cases hf
  have hf := hnd_r hf
  refine px_callVi (As := [.int a1]) (rest := [.int (0 : Int32), .ref (ι a2)]) ⟨hx, hb, hml, hown, hts⟩ hC w (kX7_minimal l D dA b0 ι N a0 a1 h v2 h3 eh3) (cwV 1 hts gL_minimal_X7_minimal rfl rfl rfl (by decide +kernel) ⟨Nat.le_of_ble_eq_true rfl, Nat.le_of_ble_eq_true rfl⟩) eu1 rfl rfl hl.1 rfl (Nat.le_of_ble_eq_true rfl) dL_minimal_4 ⟨Nat.le_of_ble_eq_true rfl, Nat.le_of_ble_eq_true rfl⟩ (fun H locs w => ?_)
  refine lv_i2l hx hb dL_minimal_7 rfl ?_
  obtain ⟨h6, eh6, hf⟩ := ob_s hf
  refine px_jast hx hb hK w eh6 dL_minimal_8 (fun H locs w => ?_)
  refine lv_goto (tgt := 15) hx hb dL_minimal_9 (by decide) ?_
  refine lv_iconst (v := (0 : Int32)) hx hb dL_minimal_15 (by decide) ?_
  refine vx_ret ?_
  refine W.widen (k := 1) (n := 6) (by decide) (by decide) ?_
  exact W.iret hx hb hr (qi_end hf w hC) w.locs_ok dL_minimal_16
abbrev rmL_root : Room := { frames := 9, cells := 1, slots := 6, locals := 194 }
abbrev wtL_root : List Cond := (wsL_root ++ exG) ++ exY
set_option maxHeartbeats 4000000 in
set_option maxRecDepth 100000 in
theorem xL_root (l : Launch) (hl0 : l.stackTraces = false) (D : va_G) (dA : Nat → ClassId) (b0 : Nat) (ι : Nat → Nat) (N : Nat) (a0 : Nat) (a1 : Int32) (a2 : Nat) (h : Hp) (r : Int32) (h' : Hp) (hf : fL_root N a0 a1 a2 h = some (r, h')) : vx_Met l yL_root wtL_root rmL_root (PL D dA b0 ι [.ref (ι a0), .int a1, .ref (ι a2)] h) (QI D dA b0 ι r h') (XF b0) 1 6 (qA b0) := by
  unfold fL_root at hf
  refine vx_ofWH (cc := cL_root) (maxL := 4) (ret := (some .int)) (hh := [(0, 9, 12, 34)]) (by decide +kernel) rfl ?_
  intro p e s m args below meth c s₁ B hml hv
  obtain ⟨rfl, w0, xl⟩ := hv
  have hx := B.exec
  have hb := B.bytes
  have hr := B.returns
  have htx := atoms_spec (ws := wtL_root) B.pre
  have hts : ∀ w ∈ wsL_root, w.before _ s = true := fun w hw => htx w (List.mem_append_left _ (List.mem_append_left _ hw))
  have htab := vx_table (x := yL_root) B (htx _ List.mem_cons_self)
  have hown : s.vm.findClass RL = some m.cls := findClass_of_methodNamed B.named
  have hlocks := B.notSynchronized
  have hC := w0.c
  have hK := hC.1
  have w := WD.start w0
  clear w0
  have hl := lv_entry ([.ref (ι a0), .int a1, .ref (ι a2)]) (n := 4) (Nat.le_of_ble_eq_true rfl)
  rw [lg_entry_eq]
  generalize (lg_sl ([.ref (ι a0), .int a1, .ref (ι a2)]) ++ List.replicate (4 - (lg_sl ([.ref (ι a0), .int a1, .ref (ι a2)])).length) Slot.unset).toArray = ls at hl ⊢
  have hl : lv_has ls 4 [(0, .ref (ι a0)), (1, .int a1), (2, .ref (ι a2))] := hl
  obtain ⟨H, hH⟩ : ∃ H : Heap, H = s.heap := ⟨_, rfl⟩
  obtain ⟨locs, hlo⟩ : ∃ locs : List Loc, locs = [] := ⟨_, rfl⟩
  rw [← hlo]
  have w : WD D dA b0 ι h s.heap H locs := by rw [hH, hlo]; exact w
  refine px_start hH ?_
  refine lv_aload_n hx hb dL_root_0 rfl (lv_at hl 2 rfl) ?_
  refine lv_iconst (v := (0 : Int32)) hx hb dL_root_1 (by decide) ?_
  refine lv_aload_n hx hb dL_root_2 rfl (lv_at hl 0 rfl) ?_
  refine lv_iload_n hx hb dL_root_3 rfl (lv_at hl 1 rfl) ?_
  obtain ⟨u1, eu1, hf⟩ := ob_s hf
  obtain ⟨⟨q4, h3⟩, eh3, hf⟩ := ob_s hf
  try dsimp only at hf
  rcases q4 with c5 | v2
  · have hf := hnd_l hf
    by_cases hc2 : c5 = 2
    · have hf := if_t hf hc2
      subst hc2
      refine px_tcatch (k := 2) (As := [.int a1]) (rest := [.int (0 : Int32), .ref (ι a2)]) ⟨hx, hb, hml, hown, htx⟩ hC xl.1 w (tX7_root l hl0 D dA b0 ι N a0 a1 h 2 h3 eh3) (cwV 1 htx (gx_0 (gx_V gL_root_X7_root exG_good)) rfl rfl rfl (by decide +kernel) ⟨Nat.le_of_ble_eq_true rfl, Nat.le_of_ble_eq_true rfl⟩) eu1 rfl rfl hl.1 rfl (Nat.le_of_ble_eq_true rfl) dL_root_4 ⟨Nat.le_of_ble_eq_true rfl, Nat.le_of_ble_eq_true rfl⟩ (by decide) [] { startPc := 0, endPc := 9, handlerPc := 12, catchType := 34 } [] (by rw [htab]; rfl) (fun z hz => nomatch hz) (by decide) (by decide) (htx _ (List.mem_append_right _ (List.mem_of_getElem? (i := 2) rfl))) (fun q9 H locs w => ?_)
      refine lv_astore_n (lv' := [(3, .ref q9), (0, .ref (ι a0)), (1, .int a1), (2, .ref (ι a2))]) hx hb dL_root_12 rfl hl (by decide) rfl (fun ls hl => ?_)
      refine lv_iconst (v := (1 : Int32)) hx hb dL_root_13 (by decide) ?_
      refine vx_ret ?_
      exact W.iret hx hb hr (qi_end hf w hC) w.locs_ok dL_root_14
    have hf := if_f hf hc2
    cases hf
  have hf := hnd_r hf
  refine px_callVi (As := [.int a1]) (rest := [.int (0 : Int32), .ref (ι a2)]) ⟨hx, hb, hml, hown, hts⟩ hC w (kX7_root l D dA b0 ι N a0 a1 h v2 h3 eh3) (cwV 1 hts gL_root_X7_root rfl rfl rfl (by decide +kernel) ⟨Nat.le_of_ble_eq_true rfl, Nat.le_of_ble_eq_true rfl⟩) eu1 rfl rfl hl.1 rfl (Nat.le_of_ble_eq_true rfl) dL_root_4 ⟨Nat.le_of_ble_eq_true rfl, Nat.le_of_ble_eq_true rfl⟩ (fun H locs w => ?_)
  refine lv_i2l hx hb dL_root_7 rfl ?_
  obtain ⟨h6, eh6, hf⟩ := ob_s hf
  refine px_jast hx hb hK w eh6 dL_root_8 (fun H locs w => ?_)
  refine lv_goto (tgt := 15) hx hb dL_root_9 (by decide) ?_
  refine lv_iconst (v := (0 : Int32)) hx hb dL_root_15 (by decide) ?_
  refine vx_ret ?_
  refine W.widen (k := 1) (n := 6) (by decide) (by decide) ?_
  exact W.iret hx hb hr (qi_end hf w hC) w.locs_ok dL_root_16
abbrev rmL_blocks : Room := { frames := 9, cells := 1, slots := 6, locals := 197 }
abbrev wtL_blocks : List Cond := (wsL_blocks ++ exG) ++ exY
set_option maxHeartbeats 4000000 in
set_option maxRecDepth 100000 in
theorem xL_blocks (l : Launch) (hl0 : l.stackTraces = false) (D : va_G) (dA : Nat → ClassId) (b0 : Nat) (ι : Nat → Nat) (N : Nat) (a0 : Nat) (a1 : Int32) (a2 : Int32) (a3 : Nat) (h : Hp) (r : Int32) (h' : Hp) (hf : fL_blocks N a0 a1 a2 a3 h = some (r, h')) : vx_Met l yL_blocks wtL_blocks rmL_blocks (PL D dA b0 ι [.ref (ι a0), .int a1, .int a2, .ref (ι a3)] h) (QI D dA b0 ι r h') (XF b0) 1 6 (qA b0) := by
  unfold fL_blocks at hf
  refine vx_ofWH (cc := cL_blocks) (maxL := 5) (ret := (some .int)) (hh := [(0, 10, 13, 34), (0, 10, 17, 15)]) (by decide +kernel) rfl ?_
  intro p e s m args below meth c s₁ B hml hv
  obtain ⟨rfl, w0, xl⟩ := hv
  have hx := B.exec
  have hb := B.bytes
  have hr := B.returns
  have htx := atoms_spec (ws := wtL_blocks) B.pre
  have hts : ∀ w ∈ wsL_blocks, w.before _ s = true := fun w hw => htx w (List.mem_append_left _ (List.mem_append_left _ hw))
  have htab := vx_table (x := yL_blocks) B (htx _ List.mem_cons_self)
  have hown : s.vm.findClass RL = some m.cls := findClass_of_methodNamed B.named
  have hlocks := B.notSynchronized
  have hC := w0.c
  have hK := hC.1
  have w := WD.start w0
  clear w0
  have hl := lv_entry ([.ref (ι a0), .int a1, .int a2, .ref (ι a3)]) (n := 5) (Nat.le_of_ble_eq_true rfl)
  rw [lg_entry_eq]
  generalize (lg_sl ([.ref (ι a0), .int a1, .int a2, .ref (ι a3)]) ++ List.replicate (5 - (lg_sl ([.ref (ι a0), .int a1, .int a2, .ref (ι a3)])).length) Slot.unset).toArray = ls at hl ⊢
  have hl : lv_has ls 5 [(0, .ref (ι a0)), (1, .int a1), (2, .int a2), (3, .ref (ι a3))] := hl
  obtain ⟨H, hH⟩ : ∃ H : Heap, H = s.heap := ⟨_, rfl⟩
  obtain ⟨locs, hlo⟩ : ∃ locs : List Loc, locs = [] := ⟨_, rfl⟩
  rw [← hlo]
  have w : WD D dA b0 ι h s.heap H locs := by rw [hH, hlo]; exact w
  refine px_start hH ?_
  refine lv_aload_n hx hb dL_blocks_0 rfl (lv_at hl 3 rfl) ?_
  refine lv_iconst (v := (0 : Int32)) hx hb dL_blocks_1 (by decide) ?_
  refine lv_aload_n hx hb dL_blocks_2 rfl (lv_at hl 0 rfl) ?_
  refine lv_iload_n hx hb dL_blocks_3 rfl (lv_at hl 1 rfl) ?_
  refine lv_iload_n hx hb dL_blocks_4 rfl (lv_at hl 2 rfl) ?_
  obtain ⟨u1, eu1, hf⟩ := ob_s hf
  obtain ⟨⟨q4, h3⟩, eh3, hf⟩ := ob_s hf
  try dsimp only at hf
  rcases q4 with c5 | v2
  · have hf := hnd_l hf
    by_cases hc2 : c5 = 2
    · have hf := if_t hf hc2
      subst hc2
      refine px_tcatch (k := 2) (As := [.int a1, .int a2]) (rest := [.int (0 : Int32), .ref (ι a3)]) ⟨hx, hb, hml, hown, htx⟩ hC xl.1 w (tX7_blocks l hl0 D dA b0 ι N a0 a1 a2 h 2 h3 eh3) (cwV 2 htx (gx_0 (gx_V gL_blocks_X7_blocks exG_good)) rfl rfl rfl (by decide +kernel) ⟨Nat.le_of_ble_eq_true rfl, Nat.le_of_ble_eq_true rfl⟩) eu1 rfl rfl hl.1 rfl (Nat.le_of_ble_eq_true rfl) dL_blocks_5 ⟨Nat.le_of_ble_eq_true rfl, Nat.le_of_ble_eq_true rfl⟩ (by decide) [] { startPc := 0, endPc := 10, handlerPc := 13, catchType := 34 } [{ startPc := 0, endPc := 10, handlerPc := 17, catchType := 15 }] (by rw [htab]; rfl) (fun z hz => nomatch hz) (by decide) (by decide) (htx _ (List.mem_append_right _ (List.mem_of_getElem? (i := 2) rfl))) (fun q9 H locs w => ?_)
      refine lv_astore (lv' := [(4, .ref q9), (0, .ref (ι a0)), (1, .int a1), (2, .int a2), (3, .ref (ι a3))]) hx hb dL_blocks_13 hl (by decide) rfl (fun ls hl => ?_)
      refine lv_iconst (v := (1 : Int32)) hx hb dL_blocks_15 (by decide) ?_
      refine vx_ret ?_
      exact W.iret hx hb hr (qi_end hf w hC) w.locs_ok dL_blocks_16
    have hf := if_f hf hc2
    by_cases hc1 : c5 = 1
    · have hf := if_t hf hc1
      subst hc1
      refine px_tcatch (k := 1) (As := [.int a1, .int a2]) (rest := [.int (0 : Int32), .ref (ι a3)]) ⟨hx, hb, hml, hown, htx⟩ hC xl.1 w (tX7_blocks l hl0 D dA b0 ι N a0 a1 a2 h 1 h3 eh3) (cwV 2 htx (gx_0 (gx_V gL_blocks_X7_blocks exG_good)) rfl rfl rfl (by decide +kernel) ⟨Nat.le_of_ble_eq_true rfl, Nat.le_of_ble_eq_true rfl⟩) eu1 rfl rfl hl.1 rfl (Nat.le_of_ble_eq_true rfl) dL_blocks_5 ⟨Nat.le_of_ble_eq_true rfl, Nat.le_of_ble_eq_true rfl⟩ (by decide) [{ startPc := 0, endPc := 10, handlerPc := 13, catchType := 34 }] { startPc := 0, endPc := 10, handlerPc := 17, catchType := 15 } [] (by rw [htab]; rfl) (List.forall_mem_cons.mpr ⟨Or.inr ⟨by decide, exN 2, htx _ (List.mem_append_right _ (List.mem_of_getElem? (i := 2) rfl)), xl.2 _ (List.mem_of_getElem? (i := 4) rfl)⟩, fun z hz => nomatch hz⟩) (by decide) (by decide) (htx _ (List.mem_append_right _ (List.mem_of_getElem? (i := 1) rfl))) (fun q9 H locs w => ?_)
      refine lv_astore (lv' := [(4, .ref q9), (0, .ref (ι a0)), (1, .int a1), (2, .int a2), (3, .ref (ι a3))]) hx hb dL_blocks_17 hl (by decide) rfl (fun ls hl => ?_)
      refine lv_iconst (v := (2 : Int32)) hx hb dL_blocks_19 (by decide) ?_
      refine vx_ret ?_
      exact W.iret hx hb hr (qi_end hf w hC) w.locs_ok dL_blocks_20
    have hf := if_f hf hc1
    cases hf
  have hf := hnd_r hf
  refine px_callVi (As := [.int a1, .int a2]) (rest := [.int (0 : Int32), .ref (ι a3)]) ⟨hx, hb, hml, hown, hts⟩ hC w (kX7_blocks l D dA b0 ι N a0 a1 a2 h v2 h3 eh3) (cwV 2 hts gL_blocks_X7_blocks rfl rfl rfl (by decide +kernel) ⟨Nat.le_of_ble_eq_true rfl, Nat.le_of_ble_eq_true rfl⟩) eu1 rfl rfl hl.1 rfl (Nat.le_of_ble_eq_true rfl) dL_blocks_5 ⟨Nat.le_of_ble_eq_true rfl, Nat.le_of_ble_eq_true rfl⟩ (fun H locs w => ?_)
  refine lv_i2l hx hb dL_blocks_8 rfl ?_
  obtain ⟨h6, eh6, hf⟩ := ob_s hf
  refine px_jast hx hb hK w eh6 dL_blocks_9 (fun H locs w => ?_)
  refine lv_goto (tgt := 21) hx hb dL_blocks_10 (by decide) ?_
  refine lv_iconst (v := (0 : Int32)) hx hb dL_blocks_21 (by decide) ?_
  refine vx_ret ?_
  refine W.widen (k := 1) (n := 6) (by decide) (by decide) ?_
  exact W.iret hx hb hr (qi_end hf w hC) w.locs_ok dL_blocks_22
