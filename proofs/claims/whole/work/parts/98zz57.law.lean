set_option maxHeartbeats 8000000 in
set_option maxRecDepth 100000 in
theorem law_loop {p : Program} {e : Env} {s : State} {m : MethodId} {below : List Frame} {meth : Method} {c : Code} (l : Launch) (hl0 : l.stackTraces = false) {b L : Nat} {xs : Nat → Int32} (C0 : lw_At p s m meth c b L xs) (D : va_G) (dA : Nat → ClassId) (b0 : Nat) (hb0 : b0 = s.heap.size) (ι : Nat → Nat) (hC : CF D dA s) (xl : XL b0 s) (N p1_ p2_ p3_ : Nat) : ∀ (n : Nat) (z4 : Int32) (h0 : Hp) (kc0 ks0 cells slots : Nat) (H : Heap) (locs : List Loc) (ls : Array Slot), lL_law N xs L p1_ p2_ p3_ n z4 h0 kc0 ks0 = some (1 : Int32) → lv_has ls 7 [(0, .ref b), (1, .ref (ι p1_)), (2, .ref (ι p2_)), (3, .ref (ι p3_)), (4, .int z4)] → WD D dA b0 ι h0 s.heap H locs → cells + kc0 ≤ room_1.cells → slots + ks0 ≤ room_1.slots → W p l e room_1 s m #[Value.ref b] below meth c H locs cells slots (lw_Z below #[Value.ref b] s) (F0 m 23 ls []) := by
  obtain ⟨hx, hb, hr, hml, hown, hts0, hX, hbl, hlocks, hgv⟩ := id C0
  have hts := hts0
  have hK := hC.1
  intro n
  induction n with
  | zero => intro z4 h0 kc0 ks0 cells slots H locs ls hf; exact absurd hf (by rw [lL_law]; exact fun q => nomatch q)
  | succ n ih =>
    intro z4 h0 kc0 ks0 cells slots H locs ls hf hl w hcl hsl
    rw [lL_law] at hf
    refine lv_iload hx hb dL_law_23 (lv_at hl 4 rfl) ?_
    refine lv_aload_n hx hb dL_law_25 rfl (lv_at hl 0 rfl) ?_
    refine px_slen hx hb hX hbl w hb0 dL_law_26 ?_
    refine lv_iconst (v := (5 : Int32)) hx hb dL_law_27 (by decide) ?_
    refine lv_isub hx hb dL_law_28 ?_
    refine lv_icmp_gt (tgt := 895) hx hb dL_law_29 (by decide) (fun c1 => ?_) (fun c1 => ?_)
    · have hf := if_t hf c1
      refine lv_iconst (v := (1 : Int32)) hx hb dL_law_895 (by decide) ?_
      refine va_forget (fun q hq => by have := w.locs_ok q hq; rw [hb0] at this; exact this) ?_
      refine W.widen (k := 601024) (n := 7293034) (Nat.le_trans (Nat.le_add_right _ _) hcl) (Nat.le_trans (Nat.le_add_right _ _) hsl) ?_
      exact lw_ret hx hb hr hlocks dL_law_896
    · have hf := if_f hf c1
      refine lv_aload_n hx hb dL_law_32 rfl (lv_at hl 0 rfl) ?_
      refine lv_iload hx hb dL_law_33 (lv_at hl 4 rfl) ?_
      obtain ⟨v2, ev2, hf⟩ := ob_s hf
      refine px_sld hx hb hX hbl w hb0 ev2 dL_law_35 ?_
      refine lv_bipush (v := (15 : Int32)) hx hb dL_law_36 (by decide) ?_
      refine lv_iand hx hb dL_law_38 ?_
      have hj889 : ∀ (h4 : Hp) (kc5 ks5 cells slots : Nat) (H : Heap) (locs : List Loc) (ls : Array Slot), (nm (z4 + (5 : Int32)) fun x6 => lL_law N xs L p1_ p2_ p3_ n x6 h4 kc5 ks5) = some (1 : Int32) → lv_has ls 7 [(0, .ref b), (1, .ref (ι p1_)), (2, .ref (ι p2_)), (3, .ref (ι p3_)), (4, .int z4)] → WD D dA b0 ι h4 s.heap H locs → cells + kc5 ≤ room_1.cells → slots + ks5 ≤ room_1.slots → W p l e room_1 s m #[Value.ref b] below meth c H locs cells slots (lw_Z below #[Value.ref b] s) (F0 m 889 ls []) := by
        intro h4 kc5 ks5 cells slots H locs ls hf hl w hcl hsl
        obtain ⟨x6, ex6, hf⟩ := nm_s hf
        refine lv_iinc (v := x6) (lv' := [(4, .int x6), (0, .ref b), (1, .ref (ι p1_)), (2, .ref (ι p2_)), (3, .ref (ι p3_))]) hx hb dL_law_889 hl (k := 4) rfl (by rw [ex6]; rfl) (by decide) rfl (fun ls hl => ?_)
        refine lv_goto (tgt := 23) hx hb dL_law_892 (by decide) ?_
        exact ih x6 h4 kc5 ks5 _ _ H locs ls hf (lv_sub hl [1, 2, 3, 4, 0] rfl) w hcl hsl
      obtain ⟨j3, ej3, hf⟩ := jn_s hf
      obtain ⟨x7, ex7, hf⟩ := nm_s hf
      refine px_nmI ex7 ?_
      by_cases hs0 : x7 = 0
      · have hf := if_t hf hs0
        rw [hs0]
        refine lv_tableIn (tgt := 104) hx hb dL_law_39 (by decide) (by decide) rfl (by decide) ?_
        refine lv_aload_n hx hb dL_law_104 rfl (lv_at hl 1 rfl) ?_
        refine lv_aload_n hx hb dL_law_105 rfl (lv_at hl 0 rfl) ?_
        refine lv_iload hx hb dL_law_106 (lv_at hl 4 rfl) ?_
        refine lv_iconst (v := (1 : Int32)) hx hb dL_law_108 (by decide) ?_
        refine lv_iadd hx hb dL_law_109 ?_
        obtain ⟨v8, ev8, hf⟩ := ob_s hf
        refine px_sld hx hb hX hbl w hb0 ev8 dL_law_110 ?_
        refine lv_aload_n hx hb dL_law_111 rfl (lv_at hl 0 rfl) ?_
        refine lv_iload hx hb dL_law_112 (lv_at hl 4 rfl) ?_
        refine lv_iconst (v := (2 : Int32)) hx hb dL_law_114 (by decide) ?_
        refine lv_iadd hx hb dL_law_115 ?_
        obtain ⟨v9, ev9, hf⟩ := ob_s hf
        refine px_sld hx hb hX hbl w hb0 ev9 dL_law_116 ?_
        obtain ⟨⟨kc12, ks12⟩, ebh11, hf⟩ := ob_s hf
        try dsimp only at hf
        obtain ⟨⟨v10, h11⟩, eh11, hf⟩ := ob_s hf
        try dsimp only at hf
        refine px_callSX (As := [.ref (ι p1_), .int v8, .int v9]) (rest := []) ⟨hx, hb, hml, hown, hts⟩ hC xl w (xL_size l hl0 D dA b0 ι N p1_ v8 v9 h0 v10 h11 eh11) (vx_cwSW 3 hts gq_L_size rfl rfl rfl (by decide +kernel) ⟨Nat.le_of_ble_eq_true rfl, Nat.le_of_ble_eq_true rfl⟩) ebh11 hcl hsl rfl hl.1 rfl (Nat.le_of_ble_eq_true rfl) dL_law_117 (fun H locs cells slots w hcl hsl => ?_)
        refine lv_istore (lv' := [(5, .int v10), (0, .ref b), (1, .ref (ι p1_)), (2, .ref (ι p2_)), (3, .ref (ι p3_)), (4, .int z4)]) hx hb dL_law_120 hl (by decide) rfl (fun ls hl => ?_)
        refine lv_aload_n hx hb dL_law_122 rfl (lv_at hl 3 rfl) ?_
        refine lv_aload_n hx hb dL_law_123 rfl (lv_at hl 1 rfl) ?_
        refine lv_iload hx hb dL_law_124 (lv_at hl 5 rfl) ?_
        refine lv_iconst (v := (1 : Int32)) hx hb dL_law_126 (by decide) ?_
        refine lv_iadd hx hb dL_law_127 ?_
        obtain ⟨v13, ev13, hf⟩ := ob_s hf
        refine px_sld hx hb hX hbl w hb0 ev13 dL_law_128 ?_
        refine lv_aload_n hx hb dL_law_129 rfl (lv_at hl 1 rfl) ?_
        refine lv_iload hx hb dL_law_130 (lv_at hl 5 rfl) ?_
        refine lv_iconst (v := (2 : Int32)) hx hb dL_law_132 (by decide) ?_
        refine lv_iadd hx hb dL_law_133 ?_
        obtain ⟨v14, ev14, hf⟩ := ob_s hf
        refine px_sld hx hb hX hbl w hb0 ev14 dL_law_134 ?_
        obtain ⟨u15, eu15, hf⟩ := ob_s hf
        obtain ⟨h17, eh17, hf⟩ := ob_s hf
        refine px_callVv (As := [.int v13, .int v14]) (rest := []) ⟨hx, hb, hml, hown, hts⟩ hC w (kX8_size l D dA b0 ι N p2_ v13 v14 h11 h17 eh17) (cwV 2 hts gq_X8_size rfl rfl rfl (by decide +kernel) ⟨Nat.le_of_ble_eq_true rfl, Nat.le_of_ble_eq_true rfl⟩) eu15 rfl rfl hl.1 rfl (Nat.le_of_ble_eq_true rfl) dL_law_135 ⟨Nat.le_trans (Nat.le_add_right _ _) hcl, Nat.le_trans (Nat.le_add_right _ _) hsl⟩ (fun H locs w => ?_)
        refine lv_aload_n hx hb dL_law_138 rfl (lv_at hl 3 rfl) ?_
        obtain ⟨u18, eu18, hf⟩ := ob_s hf
        obtain ⟨⟨v19, h20⟩, eh20, hf⟩ := ob_s hf
        try dsimp only at hf
        refine px_callVi (As := []) (rest := []) ⟨hx, hb, hml, hown, hts⟩ hC w (kX8_thrown l D dA b0 ι N p2_ h17 v19 h20 eh20) (cwV 0 hts gq_X8_thrown rfl rfl rfl (by decide +kernel) ⟨Nat.le_of_ble_eq_true rfl, Nat.le_of_ble_eq_true rfl⟩) eu18 rfl rfl hl.1 rfl (Nat.le_of_ble_eq_true rfl) dL_law_139 ⟨Nat.le_trans (Nat.le_add_right _ _) hcl, Nat.le_trans (Nat.le_add_right _ _) hsl⟩ (fun H locs w => ?_)
        refine lv_iload hx hb dL_law_142 (lv_at hl 0 rfl) ?_
        refine lv_icmp_eq (tgt := 149) hx hb dL_law_144 (by decide) (fun c21 => ?_) (fun c21 => ?_)
        · have hf := if_t hf c21
          refine lv_goto (tgt := 889) hx hb dL_law_149 (by decide) ?_
          exact hj889 h20 kc12 ks12 _ _ H locs ls (by rw [ej3] at hf; exact hf) (lv_sub hl [1, 2, 3, 4, 5] rfl) w hcl hsl
        · have hf := if_f hf c21
          refine lv_iconst (v := (0 : Int32)) hx hb dL_law_147 (by decide) ?_
          exact absurd (Option.some.inj hf) (by decide)
      have hf := if_f hf hs0
      by_cases hs1 : x7 = 1
      · have hf := if_t hf hs1
        rw [hs1]
        refine lv_tableIn (tgt := 152) hx hb dL_law_39 (by decide) (by decide) rfl (by decide) ?_
        refine lv_aload_n hx hb dL_law_152 rfl (lv_at hl 1 rfl) ?_
        refine lv_aload_n hx hb dL_law_153 rfl (lv_at hl 0 rfl) ?_
        refine lv_iload hx hb dL_law_154 (lv_at hl 4 rfl) ?_
        refine lv_iconst (v := (1 : Int32)) hx hb dL_law_156 (by decide) ?_
        refine lv_iadd hx hb dL_law_157 ?_
        obtain ⟨v22, ev22, hf⟩ := ob_s hf
        refine px_sld hx hb hX hbl w hb0 ev22 dL_law_158 ?_
        refine lv_aload_n hx hb dL_law_159 rfl (lv_at hl 0 rfl) ?_
        refine lv_iload hx hb dL_law_160 (lv_at hl 4 rfl) ?_
        refine lv_iconst (v := (2 : Int32)) hx hb dL_law_162 (by decide) ?_
        refine lv_iadd hx hb dL_law_163 ?_
        obtain ⟨v23, ev23, hf⟩ := ob_s hf
        refine px_sld hx hb hX hbl w hb0 ev23 dL_law_164 ?_
        refine lv_aload_n hx hb dL_law_165 rfl (lv_at hl 0 rfl) ?_
        refine lv_iload hx hb dL_law_166 (lv_at hl 4 rfl) ?_
        refine lv_iconst (v := (3 : Int32)) hx hb dL_law_168 (by decide) ?_
        refine lv_iadd hx hb dL_law_169 ?_
        obtain ⟨v24, ev24, hf⟩ := ob_s hf
        refine px_sld hx hb hX hbl w hb0 ev24 dL_law_170 ?_
        refine lv_aload_n hx hb dL_law_171 rfl (lv_at hl 0 rfl) ?_
        refine lv_iload hx hb dL_law_172 (lv_at hl 4 rfl) ?_
        refine lv_iconst (v := (4 : Int32)) hx hb dL_law_174 (by decide) ?_
        refine lv_iadd hx hb dL_law_175 ?_
        obtain ⟨v25, ev25, hf⟩ := ob_s hf
        refine px_sld hx hb hX hbl w hb0 ev25 dL_law_176 ?_
        refine lv_aload_n hx hb dL_law_177 rfl (lv_at hl 3 rfl) ?_
        obtain ⟨⟨kc28, ks28⟩, ebh27, hf⟩ := ob_s hf
        try dsimp only at hf
        obtain ⟨⟨v26, h27⟩, eh27, hf⟩ := ob_s hf
        try dsimp only at hf
        refine px_callSX (As := [.ref (ι p1_), .int v22, .int v23, .int v24, .int v25, .ref (ι p3_)]) (rest := []) ⟨hx, hb, hml, hown, hts⟩ hC xl w (xL_put l hl0 D dA b0 ι N p1_ v22 v23 v24 v25 p3_ h0 v26 h27 eh27) (vx_cwSW 6 hts gq_L_put rfl rfl rfl (by decide +kernel) ⟨Nat.le_of_ble_eq_true rfl, Nat.le_of_ble_eq_true rfl⟩) ebh27 hcl hsl rfl hl.1 rfl (Nat.le_of_ble_eq_true rfl) dL_law_178 (fun H locs cells slots w hcl hsl => ?_)
        refine lv_istore (lv' := [(5, .int v26), (0, .ref b), (1, .ref (ι p1_)), (2, .ref (ι p2_)), (3, .ref (ι p3_)), (4, .int z4)]) hx hb dL_law_181 hl (by decide) rfl (fun ls hl => ?_)
        refine lv_aload_n hx hb dL_law_183 rfl (lv_at hl 3 rfl) ?_
        refine lv_aload_n hx hb dL_law_184 rfl (lv_at hl 1 rfl) ?_
        refine lv_iload hx hb dL_law_185 (lv_at hl 5 rfl) ?_
        refine lv_iconst (v := (1 : Int32)) hx hb dL_law_187 (by decide) ?_
        refine lv_iadd hx hb dL_law_188 ?_
        obtain ⟨v29, ev29, hf⟩ := ob_s hf
        refine px_sld hx hb hX hbl w hb0 ev29 dL_law_189 ?_
        refine lv_aload_n hx hb dL_law_190 rfl (lv_at hl 1 rfl) ?_
        refine lv_iload hx hb dL_law_191 (lv_at hl 5 rfl) ?_
        refine lv_iconst (v := (2 : Int32)) hx hb dL_law_193 (by decide) ?_
        refine lv_iadd hx hb dL_law_194 ?_
        obtain ⟨v30, ev30, hf⟩ := ob_s hf
        refine px_sld hx hb hX hbl w hb0 ev30 dL_law_195 ?_
        refine lv_aload_n hx hb dL_law_196 rfl (lv_at hl 1 rfl) ?_
        refine lv_iload hx hb dL_law_197 (lv_at hl 5 rfl) ?_
        refine lv_iconst (v := (3 : Int32)) hx hb dL_law_199 (by decide) ?_
        refine lv_iadd hx hb dL_law_200 ?_
        obtain ⟨v31, ev31, hf⟩ := ob_s hf
        refine px_sld hx hb hX hbl w hb0 ev31 dL_law_201 ?_
        refine lv_aload_n hx hb dL_law_202 rfl (lv_at hl 1 rfl) ?_
        refine lv_iload hx hb dL_law_203 (lv_at hl 5 rfl) ?_
        refine lv_iconst (v := (4 : Int32)) hx hb dL_law_205 (by decide) ?_
        refine lv_iadd hx hb dL_law_206 ?_
        obtain ⟨v32, ev32, hf⟩ := ob_s hf
        refine px_sld hx hb hX hbl w hb0 ev32 dL_law_207 ?_
        obtain ⟨u33, eu33, hf⟩ := ob_s hf
        obtain ⟨⟨v34, h35⟩, eh35, hf⟩ := ob_s hf
        try dsimp only at hf
        refine px_callVi (As := [.int v29, .int v30, .int v31, .int v32]) (rest := []) ⟨hx, hb, hml, hown, hts⟩ hC w (kX8_put l D dA b0 ι N p2_ v29 v30 v31 v32 h27 v34 h35 eh35) (cwV 4 hts gq_X8_put rfl rfl rfl (by decide +kernel) ⟨Nat.le_of_ble_eq_true rfl, Nat.le_of_ble_eq_true rfl⟩) eu33 rfl rfl hl.1 rfl (Nat.le_of_ble_eq_true rfl) dL_law_208 ⟨Nat.le_trans (Nat.le_add_right _ _) hcl, Nat.le_trans (Nat.le_add_right _ _) hsl⟩ (fun H locs w => ?_)
        refine lv_istore (lv' := [(6, .int v34), (5, .int v26), (0, .ref b), (1, .ref (ι p1_)), (2, .ref (ι p2_)), (3, .ref (ι p3_)), (4, .int z4)]) hx hb dL_law_211 hl (by decide) rfl (fun ls hl => ?_)
        refine lv_aload_n hx hb dL_law_213 rfl (lv_at hl 4 rfl) ?_
        obtain ⟨u36, eu36, hf⟩ := ob_s hf
        obtain ⟨⟨v37, h38⟩, eh38, hf⟩ := ob_s hf
        try dsimp only at hf
        refine px_callVi (As := []) (rest := []) ⟨hx, hb, hml, hown, hts⟩ hC w (kX8_thrown l D dA b0 ι N p2_ h35 v37 h38 eh38) (cwV 0 hts gq_X8_thrown rfl rfl rfl (by decide +kernel) ⟨Nat.le_of_ble_eq_true rfl, Nat.le_of_ble_eq_true rfl⟩) eu36 rfl rfl hl.1 rfl (Nat.le_of_ble_eq_true rfl) dL_law_214 ⟨Nat.le_trans (Nat.le_add_right _ _) hcl, Nat.le_trans (Nat.le_add_right _ _) hsl⟩ (fun H locs w => ?_)
        refine lv_iload hx hb dL_law_217 (lv_at hl 1 rfl) ?_
        refine lv_icmp_eq (tgt := 224) hx hb dL_law_219 (by decide) (fun c39 => ?_) (fun c39 => ?_)
        · have hf := if_t hf c39
          refine lv_iload hx hb dL_law_224 (lv_at hl 1 rfl) ?_
          have hj248 : ∀ (h41 : Hp) (kc42 ks42 cells slots : Nat) (H : Heap) (locs : List Loc) (ls : Array Slot), (j3 h41 kc42 ks42) = some (1 : Int32) → lv_has ls 7 [(0, .ref b), (1, .ref (ι p1_)), (2, .ref (ι p2_)), (3, .ref (ι p3_)), (4, .int z4), (5, .int v26), (6, .int v34)] → WD D dA b0 ι h41 s.heap H locs → cells + kc42 ≤ room_1.cells → slots + ks42 ≤ room_1.slots → W p l e room_1 s m #[Value.ref b] below meth c H locs cells slots (lw_Z below #[Value.ref b] s) (F0 m 248 ls []) := by
            intro h41 kc42 ks42 cells slots H locs ls hf hl w hcl hsl
            refine lv_goto (tgt := 889) hx hb dL_law_248 (by decide) ?_
            exact hj889 h41 kc42 ks42 _ _ H locs ls (by rw [ej3] at hf; exact hf) (lv_sub hl [0, 1, 2, 3, 4] rfl) w hcl hsl
          obtain ⟨j40, ej40, hf⟩ := jn_s hf
          refine lv_if_ne (tgt := 248) hx hb dL_law_226 (by decide) (fun c43 => ?_) (fun c43 => ?_)
          · have hf := if_f hf c43
            exact hj248 h38 kc28 ks28 _ _ H locs ls (by rw [ej40] at hf; exact hf) (lv_sub hl [2, 3, 4, 5, 6, 1, 0] rfl) w hcl hsl
          · have hf := if_t hf c43
            refine lv_aload_n hx hb dL_law_229 rfl (lv_at hl 5 rfl) ?_
            refine lv_iconst (v := (0 : Int32)) hx hb dL_law_230 (by decide) ?_
            obtain ⟨v44, ev44, hf⟩ := ob_s hf
            refine px_jald hx hb hK w ev44 dL_law_231 ?_
            refine lv_iload hx hb dL_law_232 (lv_at hl 0 rfl) ?_
            have hj242 : ∀ (t47 : Int64) (h46 : Hp) (kc48 ks48 cells slots : Nat) (H : Heap) (locs : List Loc) (ls : Array Slot), (if (lg_cmp v44 t47) = 0 then j40 h46 kc48 ks48 else some (0 : Int32)) = some (1 : Int32) → lv_has ls 7 [(0, .ref b), (1, .ref (ι p1_)), (2, .ref (ι p2_)), (3, .ref (ι p3_)), (4, .int z4), (5, .int v26), (6, .int v34)] → WD D dA b0 ι h46 s.heap H locs → cells + kc48 ≤ room_1.cells → slots + ks48 ≤ room_1.slots → W p l e room_1 s m #[Value.ref b] below meth c H locs cells slots (lw_Z below #[Value.ref b] s) (F0 m 242 ls [.long t47, .long v44]) := by
              intro t47 h46 kc48 ks48 cells slots H locs ls hf hl w hcl hsl
              refine W.lcmp hx hb dL_law_242 ?_
              refine lv_if_eq (tgt := 248) hx hb dL_law_243 (by decide) (fun c49 => ?_) (fun c49 => ?_)
              · have hf := if_t hf c49
                exact hj248 h46 kc48 ks48 _ _ H locs ls (by rw [ej40] at hf; exact hf) (lv_sub hl [0, 1, 2, 3, 4, 5, 6] rfl) w hcl hsl
              · have hf := if_f hf c49
                refine lv_iconst (v := (0 : Int32)) hx hb dL_law_246 (by decide) ?_
                exact absurd (Option.some.inj hf) (by decide)
            obtain ⟨j45, ej45, hf⟩ := jn_s hf
            refine lv_if_eq (tgt := 241) hx hb dL_law_234 (by decide) (fun c50 => ?_) (fun c50 => ?_)
            · have hf := if_t hf c50
              refine lv_lconst (v := 0) hx hb dL_law_241 (by decide) ?_
              exact hj242 (0 : Int64) h38 kc28 ks28 _ _ H locs ls (by rw [ej45] at hf; exact hf) (lv_sub hl [2, 3, 4, 5, 6, 1, 0] rfl) w hcl hsl
            · have hf := if_f hf c50
              refine lv_lconst (v := 1) hx hb dL_law_237 (by decide) ?_
              refine lv_goto (tgt := 242) hx hb dL_law_238 (by decide) ?_
              exact hj242 (1 : Int64) h38 kc28 ks28 _ _ H locs ls (by rw [ej45] at hf; exact hf) (lv_sub hl [2, 3, 4, 5, 6, 1, 0] rfl) w hcl hsl
        · have hf := if_f hf c39
          refine lv_iconst (v := (0 : Int32)) hx hb dL_law_222 (by decide) ?_
          exact absurd (Option.some.inj hf) (by decide)
      have hf := if_f hf hs1
      by_cases hs2 : x7 = 2
      · have hf := if_t hf hs2
        rw [hs2]
        refine lv_tableIn (tgt := 251) hx hb dL_law_39 (by decide) (by decide) rfl (by decide) ?_
        refine lv_aload_n hx hb dL_law_251 rfl (lv_at hl 1 rfl) ?_
        refine lv_aload_n hx hb dL_law_252 rfl (lv_at hl 0 rfl) ?_
        refine lv_iload hx hb dL_law_253 (lv_at hl 4 rfl) ?_
        refine lv_iconst (v := (1 : Int32)) hx hb dL_law_255 (by decide) ?_
        refine lv_iadd hx hb dL_law_256 ?_
        obtain ⟨v51, ev51, hf⟩ := ob_s hf
        refine px_sld hx hb hX hbl w hb0 ev51 dL_law_257 ?_
        refine lv_aload_n hx hb dL_law_258 rfl (lv_at hl 0 rfl) ?_
        refine lv_iload hx hb dL_law_259 (lv_at hl 4 rfl) ?_
        refine lv_iconst (v := (2 : Int32)) hx hb dL_law_261 (by decide) ?_
        refine lv_iadd hx hb dL_law_262 ?_
        obtain ⟨v52, ev52, hf⟩ := ob_s hf
        refine px_sld hx hb hX hbl w hb0 ev52 dL_law_263 ?_
        refine lv_aload_n hx hb dL_law_264 rfl (lv_at hl 0 rfl) ?_
        refine lv_iload hx hb dL_law_265 (lv_at hl 4 rfl) ?_
        refine lv_iconst (v := (3 : Int32)) hx hb dL_law_267 (by decide) ?_
        refine lv_iadd hx hb dL_law_268 ?_
        obtain ⟨v53, ev53, hf⟩ := ob_s hf
        refine px_sld hx hb hX hbl w hb0 ev53 dL_law_269 ?_
        refine lv_aload_n hx hb dL_law_270 rfl (lv_at hl 3 rfl) ?_
        obtain ⟨⟨kc56, ks56⟩, ebh55, hf⟩ := ob_s hf
        try dsimp only at hf
        obtain ⟨⟨v54, h55⟩, eh55, hf⟩ := ob_s hf
        try dsimp only at hf
        refine px_callSX (As := [.ref (ι p1_), .int v51, .int v52, .int v53, .ref (ι p3_)]) (rest := []) ⟨hx, hb, hml, hown, hts⟩ hC xl w (xL_entry l hl0 D dA b0 ι N p1_ v51 v52 v53 p3_ h0 v54 h55 eh55) (vx_cwSW 5 hts gq_L_entry rfl rfl rfl (by decide +kernel) ⟨Nat.le_of_ble_eq_true rfl, Nat.le_of_ble_eq_true rfl⟩) ebh55 hcl hsl rfl hl.1 rfl (Nat.le_of_ble_eq_true rfl) dL_law_271 (fun H locs cells slots w hcl hsl => ?_)
        refine lv_istore (lv' := [(5, .int v54), (0, .ref b), (1, .ref (ι p1_)), (2, .ref (ι p2_)), (3, .ref (ι p3_)), (4, .int z4)]) hx hb dL_law_274 hl (by decide) rfl (fun ls hl => ?_)
        refine lv_aload_n hx hb dL_law_276 rfl (lv_at hl 3 rfl) ?_
        refine lv_aload_n hx hb dL_law_277 rfl (lv_at hl 1 rfl) ?_
        refine lv_iload hx hb dL_law_278 (lv_at hl 5 rfl) ?_
        refine lv_iconst (v := (1 : Int32)) hx hb dL_law_280 (by decide) ?_
        refine lv_iadd hx hb dL_law_281 ?_
        obtain ⟨v57, ev57, hf⟩ := ob_s hf
        refine px_sld hx hb hX hbl w hb0 ev57 dL_law_282 ?_
        refine lv_aload_n hx hb dL_law_283 rfl (lv_at hl 1 rfl) ?_
        refine lv_iload hx hb dL_law_284 (lv_at hl 5 rfl) ?_
        refine lv_iconst (v := (2 : Int32)) hx hb dL_law_286 (by decide) ?_
        refine lv_iadd hx hb dL_law_287 ?_
        obtain ⟨v58, ev58, hf⟩ := ob_s hf
        refine px_sld hx hb hX hbl w hb0 ev58 dL_law_288 ?_
        refine lv_aload_n hx hb dL_law_289 rfl (lv_at hl 1 rfl) ?_
        refine lv_iload hx hb dL_law_290 (lv_at hl 5 rfl) ?_
        refine lv_iconst (v := (3 : Int32)) hx hb dL_law_292 (by decide) ?_
        refine lv_iadd hx hb dL_law_293 ?_
        obtain ⟨v59, ev59, hf⟩ := ob_s hf
        refine px_sld hx hb hX hbl w hb0 ev59 dL_law_294 ?_
        obtain ⟨u60, eu60, hf⟩ := ob_s hf
        obtain ⟨⟨v61, h62⟩, eh62, hf⟩ := ob_s hf
        try dsimp only at hf
        refine px_callVi (As := [.int v57, .int v58, .int v59]) (rest := []) ⟨hx, hb, hml, hown, hts⟩ hC w (kX8_entry l D dA b0 ι N p2_ v57 v58 v59 h55 v61 h62 eh62) (cwV 3 hts gq_X8_entry rfl rfl rfl (by decide +kernel) ⟨Nat.le_of_ble_eq_true rfl, Nat.le_of_ble_eq_true rfl⟩) eu60 rfl rfl hl.1 rfl (Nat.le_of_ble_eq_true rfl) dL_law_295 ⟨Nat.le_trans (Nat.le_add_right _ _) hcl, Nat.le_trans (Nat.le_add_right _ _) hsl⟩ (fun H locs w => ?_)
        refine lv_istore (lv' := [(6, .int v61), (5, .int v54), (0, .ref b), (1, .ref (ι p1_)), (2, .ref (ι p2_)), (3, .ref (ι p3_)), (4, .int z4)]) hx hb dL_law_298 hl (by decide) rfl (fun ls hl => ?_)
        refine lv_aload_n hx hb dL_law_300 rfl (lv_at hl 4 rfl) ?_
        obtain ⟨u63, eu63, hf⟩ := ob_s hf
        obtain ⟨⟨v64, h65⟩, eh65, hf⟩ := ob_s hf
        try dsimp only at hf
        refine px_callVi (As := []) (rest := []) ⟨hx, hb, hml, hown, hts⟩ hC w (kX8_thrown l D dA b0 ι N p2_ h62 v64 h65 eh65) (cwV 0 hts gq_X8_thrown rfl rfl rfl (by decide +kernel) ⟨Nat.le_of_ble_eq_true rfl, Nat.le_of_ble_eq_true rfl⟩) eu63 rfl rfl hl.1 rfl (Nat.le_of_ble_eq_true rfl) dL_law_301 ⟨Nat.le_trans (Nat.le_add_right _ _) hcl, Nat.le_trans (Nat.le_add_right _ _) hsl⟩ (fun H locs w => ?_)
        refine lv_iload hx hb dL_law_304 (lv_at hl 1 rfl) ?_
        refine lv_icmp_eq (tgt := 311) hx hb dL_law_306 (by decide) (fun c66 => ?_) (fun c66 => ?_)
        · have hf := if_t hf c66
          refine lv_iload hx hb dL_law_311 (lv_at hl 1 rfl) ?_
          have hj328 : ∀ (h68 : Hp) (kc69 ks69 cells slots : Nat) (H : Heap) (locs : List Loc) (ls : Array Slot), (j3 h68 kc69 ks69) = some (1 : Int32) → lv_has ls 7 [(0, .ref b), (1, .ref (ι p1_)), (2, .ref (ι p2_)), (3, .ref (ι p3_)), (4, .int z4), (5, .int v54), (6, .int v61)] → WD D dA b0 ι h68 s.heap H locs → cells + kc69 ≤ room_1.cells → slots + ks69 ≤ room_1.slots → W p l e room_1 s m #[Value.ref b] below meth c H locs cells slots (lw_Z below #[Value.ref b] s) (F0 m 328 ls []) := by
            intro h68 kc69 ks69 cells slots H locs ls hf hl w hcl hsl
            refine lv_goto (tgt := 889) hx hb dL_law_328 (by decide) ?_
            exact hj889 h68 kc69 ks69 _ _ H locs ls (by rw [ej3] at hf; exact hf) (lv_sub hl [0, 1, 2, 3, 4] rfl) w hcl hsl
          obtain ⟨j67, ej67, hf⟩ := jn_s hf
          refine lv_if_ne (tgt := 328) hx hb dL_law_313 (by decide) (fun c70 => ?_) (fun c70 => ?_)
          · have hf := if_f hf c70
            exact hj328 h65 kc56 ks56 _ _ H locs ls (by rw [ej67] at hf; exact hf) (lv_sub hl [2, 3, 4, 5, 6, 1, 0] rfl) w hcl hsl
          · have hf := if_t hf c70
            refine lv_aload_n hx hb dL_law_316 rfl (lv_at hl 5 rfl) ?_
            refine lv_iconst (v := (0 : Int32)) hx hb dL_law_317 (by decide) ?_
            obtain ⟨v71, ev71, hf⟩ := ob_s hf
            refine px_jald hx hb hK w ev71 dL_law_318 ?_
            refine lv_iload hx hb dL_law_319 (lv_at hl 0 rfl) ?_
            refine lv_i2l hx hb dL_law_321 rfl ?_
            refine W.lcmp hx hb dL_law_322 ?_
            refine lv_if_eq (tgt := 328) hx hb dL_law_323 (by decide) (fun c72 => ?_) (fun c72 => ?_)
            · have hf := if_t hf c72
              exact hj328 h65 kc56 ks56 _ _ H locs ls (by rw [ej67] at hf; exact hf) (lv_sub hl [2, 3, 4, 5, 6, 1, 0] rfl) w hcl hsl
            · have hf := if_f hf c72
              refine lv_iconst (v := (0 : Int32)) hx hb dL_law_326 (by decide) ?_
              exact absurd (Option.some.inj hf) (by decide)
        · have hf := if_f hf c66
          refine lv_iconst (v := (0 : Int32)) hx hb dL_law_309 (by decide) ?_
          exact absurd (Option.some.inj hf) (by decide)
      have hf := if_f hf hs2
      by_cases hs3 : x7 = 3
      · have hf := if_t hf hs3
        rw [hs3]
        refine lv_tableIn (tgt := 331) hx hb dL_law_39 (by decide) (by decide) rfl (by decide) ?_
        refine lv_aload_n hx hb dL_law_331 rfl (lv_at hl 1 rfl) ?_
        refine lv_aload_n hx hb dL_law_332 rfl (lv_at hl 0 rfl) ?_
        refine lv_iload hx hb dL_law_333 (lv_at hl 4 rfl) ?_
        refine lv_iconst (v := (1 : Int32)) hx hb dL_law_335 (by decide) ?_
        refine lv_iadd hx hb dL_law_336 ?_
        obtain ⟨v73, ev73, hf⟩ := ob_s hf
        refine px_sld hx hb hX hbl w hb0 ev73 dL_law_337 ?_
        refine lv_aload_n hx hb dL_law_338 rfl (lv_at hl 3 rfl) ?_
        obtain ⟨⟨kc76, ks76⟩, ebh75, hf⟩ := ob_s hf
        try dsimp only at hf
        obtain ⟨⟨v74, h75⟩, eh75, hf⟩ := ob_s hf
        try dsimp only at hf
        refine px_callSX (As := [.ref (ι p1_), .int v73, .ref (ι p3_)]) (rest := []) ⟨hx, hb, hml, hown, hts⟩ hC xl w (xL_make l hl0 D dA b0 ι N p1_ v73 p3_ h0 v74 h75 eh75) (vx_cwSW 3 hts gq_L_make rfl rfl rfl (by decide +kernel) ⟨Nat.le_of_ble_eq_true rfl, Nat.le_of_ble_eq_true rfl⟩) ebh75 hcl hsl rfl hl.1 rfl (Nat.le_of_ble_eq_true rfl) dL_law_339 (fun H locs cells slots w hcl hsl => ?_)
        refine lv_istore (lv' := [(5, .int v74), (0, .ref b), (1, .ref (ι p1_)), (2, .ref (ι p2_)), (3, .ref (ι p3_)), (4, .int z4)]) hx hb dL_law_342 hl (by decide) rfl (fun ls hl => ?_)
        refine lv_aload_n hx hb dL_law_344 rfl (lv_at hl 3 rfl) ?_
        refine lv_aload_n hx hb dL_law_345 rfl (lv_at hl 1 rfl) ?_
        refine lv_iload hx hb dL_law_346 (lv_at hl 5 rfl) ?_
        refine lv_iconst (v := (1 : Int32)) hx hb dL_law_348 (by decide) ?_
        refine lv_iadd hx hb dL_law_349 ?_
        obtain ⟨v77, ev77, hf⟩ := ob_s hf
        refine px_sld hx hb hX hbl w hb0 ev77 dL_law_350 ?_
        obtain ⟨u78, eu78, hf⟩ := ob_s hf
        obtain ⟨⟨v79, h80⟩, eh80, hf⟩ := ob_s hf
        try dsimp only at hf
        refine px_callVi (As := [.int v77]) (rest := []) ⟨hx, hb, hml, hown, hts⟩ hC w (kX8_make l D dA b0 ι N p2_ v77 h75 v79 h80 eh80) (cwV 1 hts gq_X8_make rfl rfl rfl (by decide +kernel) ⟨Nat.le_of_ble_eq_true rfl, Nat.le_of_ble_eq_true rfl⟩) eu78 rfl rfl hl.1 rfl (Nat.le_of_ble_eq_true rfl) dL_law_351 ⟨Nat.le_trans (Nat.le_add_right _ _) hcl, Nat.le_trans (Nat.le_add_right _ _) hsl⟩ (fun H locs w => ?_)
        refine lv_istore (lv' := [(6, .int v79), (5, .int v74), (0, .ref b), (1, .ref (ι p1_)), (2, .ref (ι p2_)), (3, .ref (ι p3_)), (4, .int z4)]) hx hb dL_law_354 hl (by decide) rfl (fun ls hl => ?_)
        refine lv_aload_n hx hb dL_law_356 rfl (lv_at hl 4 rfl) ?_
        obtain ⟨u81, eu81, hf⟩ := ob_s hf
        obtain ⟨⟨v82, h83⟩, eh83, hf⟩ := ob_s hf
        try dsimp only at hf
        refine px_callVi (As := []) (rest := []) ⟨hx, hb, hml, hown, hts⟩ hC w (kX8_thrown l D dA b0 ι N p2_ h80 v82 h83 eh83) (cwV 0 hts gq_X8_thrown rfl rfl rfl (by decide +kernel) ⟨Nat.le_of_ble_eq_true rfl, Nat.le_of_ble_eq_true rfl⟩) eu81 rfl rfl hl.1 rfl (Nat.le_of_ble_eq_true rfl) dL_law_357 ⟨Nat.le_trans (Nat.le_add_right _ _) hcl, Nat.le_trans (Nat.le_add_right _ _) hsl⟩ (fun H locs w => ?_)
        refine lv_iload hx hb dL_law_360 (lv_at hl 1 rfl) ?_
        refine lv_icmp_eq (tgt := 367) hx hb dL_law_362 (by decide) (fun c84 => ?_) (fun c84 => ?_)
        · have hf := if_t hf c84
          refine lv_iload hx hb dL_law_367 (lv_at hl 1 rfl) ?_
          have hj384 : ∀ (h86 : Hp) (kc87 ks87 cells slots : Nat) (H : Heap) (locs : List Loc) (ls : Array Slot), (j3 h86 kc87 ks87) = some (1 : Int32) → lv_has ls 7 [(0, .ref b), (1, .ref (ι p1_)), (2, .ref (ι p2_)), (3, .ref (ι p3_)), (4, .int z4), (5, .int v74), (6, .int v79)] → WD D dA b0 ι h86 s.heap H locs → cells + kc87 ≤ room_1.cells → slots + ks87 ≤ room_1.slots → W p l e room_1 s m #[Value.ref b] below meth c H locs cells slots (lw_Z below #[Value.ref b] s) (F0 m 384 ls []) := by
            intro h86 kc87 ks87 cells slots H locs ls hf hl w hcl hsl
            refine lv_goto (tgt := 889) hx hb dL_law_384 (by decide) ?_
            exact hj889 h86 kc87 ks87 _ _ H locs ls (by rw [ej3] at hf; exact hf) (lv_sub hl [0, 1, 2, 3, 4] rfl) w hcl hsl
          obtain ⟨j85, ej85, hf⟩ := jn_s hf
          refine lv_if_ne (tgt := 384) hx hb dL_law_369 (by decide) (fun c88 => ?_) (fun c88 => ?_)
          · have hf := if_f hf c88
            exact hj384 h83 kc76 ks76 _ _ H locs ls (by rw [ej85] at hf; exact hf) (lv_sub hl [2, 3, 4, 5, 6, 1, 0] rfl) w hcl hsl
          · have hf := if_t hf c88
            refine lv_aload_n hx hb dL_law_372 rfl (lv_at hl 5 rfl) ?_
            refine lv_iconst (v := (0 : Int32)) hx hb dL_law_373 (by decide) ?_
            obtain ⟨v89, ev89, hf⟩ := ob_s hf
            refine px_jald hx hb hK w ev89 dL_law_374 ?_
            refine lv_iload hx hb dL_law_375 (lv_at hl 0 rfl) ?_
            refine lv_i2l hx hb dL_law_377 rfl ?_
            refine W.lcmp hx hb dL_law_378 ?_
            refine lv_if_eq (tgt := 384) hx hb dL_law_379 (by decide) (fun c90 => ?_) (fun c90 => ?_)
            · have hf := if_t hf c90
              exact hj384 h83 kc76 ks76 _ _ H locs ls (by rw [ej85] at hf; exact hf) (lv_sub hl [2, 3, 4, 5, 6, 1, 0] rfl) w hcl hsl
            · have hf := if_f hf c90
              refine lv_iconst (v := (0 : Int32)) hx hb dL_law_382 (by decide) ?_
              exact absurd (Option.some.inj hf) (by decide)
        · have hf := if_f hf c84
          refine lv_iconst (v := (0 : Int32)) hx hb dL_law_365 (by decide) ?_
          exact absurd (Option.some.inj hf) (by decide)
      have hf := if_f hf hs3
      by_cases hs4 : x7 = 4
      · have hf := if_t hf hs4
        rw [hs4]
        refine lv_tableIn (tgt := 387) hx hb dL_law_39 (by decide) (by decide) rfl (by decide) ?_
        refine lv_aload_n hx hb dL_law_387 rfl (lv_at hl 1 rfl) ?_
        refine lv_aload_n hx hb dL_law_388 rfl (lv_at hl 0 rfl) ?_
        refine lv_iload hx hb dL_law_389 (lv_at hl 4 rfl) ?_
        refine lv_iconst (v := (1 : Int32)) hx hb dL_law_391 (by decide) ?_
        refine lv_iadd hx hb dL_law_392 ?_
        obtain ⟨v91, ev91, hf⟩ := ob_s hf
        refine px_sld hx hb hX hbl w hb0 ev91 dL_law_393 ?_
        refine lv_aload_n hx hb dL_law_394 rfl (lv_at hl 0 rfl) ?_
        refine lv_iload hx hb dL_law_395 (lv_at hl 4 rfl) ?_
        refine lv_iconst (v := (2 : Int32)) hx hb dL_law_397 (by decide) ?_
        refine lv_iadd hx hb dL_law_398 ?_
        obtain ⟨v92, ev92, hf⟩ := ob_s hf
        refine px_sld hx hb hX hbl w hb0 ev92 dL_law_399 ?_
        refine lv_aload_n hx hb dL_law_400 rfl (lv_at hl 0 rfl) ?_
        refine lv_iload hx hb dL_law_401 (lv_at hl 4 rfl) ?_
        refine lv_iconst (v := (3 : Int32)) hx hb dL_law_403 (by decide) ?_
        refine lv_iadd hx hb dL_law_404 ?_
        obtain ⟨v93, ev93, hf⟩ := ob_s hf
        refine px_sld hx hb hX hbl w hb0 ev93 dL_law_405 ?_
        refine lv_aload_n hx hb dL_law_406 rfl (lv_at hl 3 rfl) ?_
        obtain ⟨⟨kc96, ks96⟩, ebh95, hf⟩ := ob_s hf
        try dsimp only at hf
        obtain ⟨⟨v94, h95⟩, eh95, hf⟩ := ob_s hf
        try dsimp only at hf
        refine px_callSX (As := [.ref (ι p1_), .int v91, .int v92, .int v93, .ref (ι p3_)]) (rest := []) ⟨hx, hb, hml, hown, hts⟩ hC xl w (xL_degree l hl0 D dA b0 ι N p1_ v91 v92 v93 p3_ h0 v94 h95 eh95) (vx_cwSW 5 hts gq_L_degree rfl rfl rfl (by decide +kernel) ⟨Nat.le_of_ble_eq_true rfl, Nat.le_of_ble_eq_true rfl⟩) ebh95 hcl hsl rfl hl.1 rfl (Nat.le_of_ble_eq_true rfl) dL_law_407 (fun H locs cells slots w hcl hsl => ?_)
        refine lv_istore (lv' := [(5, .int v94), (0, .ref b), (1, .ref (ι p1_)), (2, .ref (ι p2_)), (3, .ref (ι p3_)), (4, .int z4)]) hx hb dL_law_410 hl (by decide) rfl (fun ls hl => ?_)
        refine lv_aload_n hx hb dL_law_412 rfl (lv_at hl 3 rfl) ?_
        refine lv_aload_n hx hb dL_law_413 rfl (lv_at hl 1 rfl) ?_
        refine lv_iload hx hb dL_law_414 (lv_at hl 5 rfl) ?_
        refine lv_iconst (v := (1 : Int32)) hx hb dL_law_416 (by decide) ?_
        refine lv_iadd hx hb dL_law_417 ?_
        obtain ⟨v97, ev97, hf⟩ := ob_s hf
        refine px_sld hx hb hX hbl w hb0 ev97 dL_law_418 ?_
        refine lv_aload_n hx hb dL_law_419 rfl (lv_at hl 1 rfl) ?_
        refine lv_iload hx hb dL_law_420 (lv_at hl 5 rfl) ?_
        refine lv_iconst (v := (2 : Int32)) hx hb dL_law_422 (by decide) ?_
        refine lv_iadd hx hb dL_law_423 ?_
        obtain ⟨v98, ev98, hf⟩ := ob_s hf
        refine px_sld hx hb hX hbl w hb0 ev98 dL_law_424 ?_
        refine lv_aload_n hx hb dL_law_425 rfl (lv_at hl 1 rfl) ?_
        refine lv_iload hx hb dL_law_426 (lv_at hl 5 rfl) ?_
        refine lv_iconst (v := (3 : Int32)) hx hb dL_law_428 (by decide) ?_
        refine lv_iadd hx hb dL_law_429 ?_
        obtain ⟨v99, ev99, hf⟩ := ob_s hf
        refine px_sld hx hb hX hbl w hb0 ev99 dL_law_430 ?_
        obtain ⟨u100, eu100, hf⟩ := ob_s hf
        obtain ⟨⟨v101, h102⟩, eh102, hf⟩ := ob_s hf
        try dsimp only at hf
        refine px_callVi (As := [.int v97, .int v98, .int v99]) (rest := []) ⟨hx, hb, hml, hown, hts⟩ hC w (kX8_degree l D dA b0 ι N p2_ v97 v98 v99 h95 v101 h102 eh102) (cwV 3 hts gq_X8_degree rfl rfl rfl (by decide +kernel) ⟨Nat.le_of_ble_eq_true rfl, Nat.le_of_ble_eq_true rfl⟩) eu100 rfl rfl hl.1 rfl (Nat.le_of_ble_eq_true rfl) dL_law_431 ⟨Nat.le_trans (Nat.le_add_right _ _) hcl, Nat.le_trans (Nat.le_add_right _ _) hsl⟩ (fun H locs w => ?_)
        refine lv_istore (lv' := [(6, .int v101), (5, .int v94), (0, .ref b), (1, .ref (ι p1_)), (2, .ref (ι p2_)), (3, .ref (ι p3_)), (4, .int z4)]) hx hb dL_law_434 hl (by decide) rfl (fun ls hl => ?_)
        refine lv_aload_n hx hb dL_law_436 rfl (lv_at hl 4 rfl) ?_
        obtain ⟨u103, eu103, hf⟩ := ob_s hf
        obtain ⟨⟨v104, h105⟩, eh105, hf⟩ := ob_s hf
        try dsimp only at hf
        refine px_callVi (As := []) (rest := []) ⟨hx, hb, hml, hown, hts⟩ hC w (kX8_thrown l D dA b0 ι N p2_ h102 v104 h105 eh105) (cwV 0 hts gq_X8_thrown rfl rfl rfl (by decide +kernel) ⟨Nat.le_of_ble_eq_true rfl, Nat.le_of_ble_eq_true rfl⟩) eu103 rfl rfl hl.1 rfl (Nat.le_of_ble_eq_true rfl) dL_law_437 ⟨Nat.le_trans (Nat.le_add_right _ _) hcl, Nat.le_trans (Nat.le_add_right _ _) hsl⟩ (fun H locs w => ?_)
        refine lv_iload hx hb dL_law_440 (lv_at hl 1 rfl) ?_
        refine lv_icmp_eq (tgt := 447) hx hb dL_law_442 (by decide) (fun c106 => ?_) (fun c106 => ?_)
        · have hf := if_t hf c106
          refine lv_iload hx hb dL_law_447 (lv_at hl 1 rfl) ?_
          have hj464 : ∀ (h108 : Hp) (kc109 ks109 cells slots : Nat) (H : Heap) (locs : List Loc) (ls : Array Slot), (j3 h108 kc109 ks109) = some (1 : Int32) → lv_has ls 7 [(0, .ref b), (1, .ref (ι p1_)), (2, .ref (ι p2_)), (3, .ref (ι p3_)), (4, .int z4), (5, .int v94), (6, .int v101)] → WD D dA b0 ι h108 s.heap H locs → cells + kc109 ≤ room_1.cells → slots + ks109 ≤ room_1.slots → W p l e room_1 s m #[Value.ref b] below meth c H locs cells slots (lw_Z below #[Value.ref b] s) (F0 m 464 ls []) := by
            intro h108 kc109 ks109 cells slots H locs ls hf hl w hcl hsl
            refine lv_goto (tgt := 889) hx hb dL_law_464 (by decide) ?_
            exact hj889 h108 kc109 ks109 _ _ H locs ls (by rw [ej3] at hf; exact hf) (lv_sub hl [0, 1, 2, 3, 4] rfl) w hcl hsl
          obtain ⟨j107, ej107, hf⟩ := jn_s hf
          refine lv_if_ne (tgt := 464) hx hb dL_law_449 (by decide) (fun c110 => ?_) (fun c110 => ?_)
          · have hf := if_f hf c110
            exact hj464 h105 kc96 ks96 _ _ H locs ls (by rw [ej107] at hf; exact hf) (lv_sub hl [2, 3, 4, 5, 6, 1, 0] rfl) w hcl hsl
          · have hf := if_t hf c110
            refine lv_aload_n hx hb dL_law_452 rfl (lv_at hl 5 rfl) ?_
            refine lv_iconst (v := (0 : Int32)) hx hb dL_law_453 (by decide) ?_
            obtain ⟨v111, ev111, hf⟩ := ob_s hf
            refine px_jald hx hb hK w ev111 dL_law_454 ?_
            refine lv_iload hx hb dL_law_455 (lv_at hl 0 rfl) ?_
            refine lv_i2l hx hb dL_law_457 rfl ?_
            refine W.lcmp hx hb dL_law_458 ?_
            refine lv_if_eq (tgt := 464) hx hb dL_law_459 (by decide) (fun c112 => ?_) (fun c112 => ?_)
            · have hf := if_t hf c112
              exact hj464 h105 kc96 ks96 _ _ H locs ls (by rw [ej107] at hf; exact hf) (lv_sub hl [2, 3, 4, 5, 6, 1, 0] rfl) w hcl hsl
            · have hf := if_f hf c112
              refine lv_iconst (v := (0 : Int32)) hx hb dL_law_462 (by decide) ?_
              exact absurd (Option.some.inj hf) (by decide)
        · have hf := if_f hf c106
          refine lv_iconst (v := (0 : Int32)) hx hb dL_law_445 (by decide) ?_
          exact absurd (Option.some.inj hf) (by decide)
      have hf := if_f hf hs4
      by_cases hs5 : x7 = 5
      · have hf := if_t hf hs5
        rw [hs5]
        refine lv_tableIn (tgt := 467) hx hb dL_law_39 (by decide) (by decide) rfl (by decide) ?_
        refine lv_aload_n hx hb dL_law_467 rfl (lv_at hl 1 rfl) ?_
        refine lv_aload_n hx hb dL_law_468 rfl (lv_at hl 0 rfl) ?_
        refine lv_iload hx hb dL_law_469 (lv_at hl 4 rfl) ?_
        refine lv_iconst (v := (1 : Int32)) hx hb dL_law_471 (by decide) ?_
        refine lv_iadd hx hb dL_law_472 ?_
        obtain ⟨v113, ev113, hf⟩ := ob_s hf
        refine px_sld hx hb hX hbl w hb0 ev113 dL_law_473 ?_
        refine lv_aload_n hx hb dL_law_474 rfl (lv_at hl 0 rfl) ?_
        refine lv_iload hx hb dL_law_475 (lv_at hl 4 rfl) ?_
        refine lv_iconst (v := (2 : Int32)) hx hb dL_law_477 (by decide) ?_
        refine lv_iadd hx hb dL_law_478 ?_
        obtain ⟨v114, ev114, hf⟩ := ob_s hf
        refine px_sld hx hb hX hbl w hb0 ev114 dL_law_479 ?_
        refine lv_aload_n hx hb dL_law_480 rfl (lv_at hl 0 rfl) ?_
        refine lv_iload hx hb dL_law_481 (lv_at hl 4 rfl) ?_
        refine lv_iconst (v := (3 : Int32)) hx hb dL_law_483 (by decide) ?_
        refine lv_iadd hx hb dL_law_484 ?_
        obtain ⟨v115, ev115, hf⟩ := ob_s hf
        refine px_sld hx hb hX hbl w hb0 ev115 dL_law_485 ?_
        refine lv_aload_n hx hb dL_law_486 rfl (lv_at hl 0 rfl) ?_
        refine lv_iload hx hb dL_law_487 (lv_at hl 4 rfl) ?_
        refine lv_iconst (v := (4 : Int32)) hx hb dL_law_489 (by decide) ?_
        refine lv_iadd hx hb dL_law_490 ?_
        obtain ⟨v116, ev116, hf⟩ := ob_s hf
        refine px_sld hx hb hX hbl w hb0 ev116 dL_law_491 ?_
        refine lv_aload_n hx hb dL_law_492 rfl (lv_at hl 3 rfl) ?_
        obtain ⟨⟨kc119, ks119⟩, ebh118, hf⟩ := ob_s hf
        try dsimp only at hf
        obtain ⟨⟨v117, h118⟩, eh118, hf⟩ := ob_s hf
        try dsimp only at hf
        refine px_callSX (As := [.ref (ι p1_), .int v113, .int v114, .int v115, .int v116, .ref (ι p3_)]) (rest := []) ⟨hx, hb, hml, hown, hts⟩ hC xl w (xL_at l hl0 D dA b0 ι N p1_ v113 v114 v115 v116 p3_ h0 v117 h118 eh118) (vx_cwSW 6 hts gq_L_at rfl rfl rfl (by decide +kernel) ⟨Nat.le_of_ble_eq_true rfl, Nat.le_of_ble_eq_true rfl⟩) ebh118 hcl hsl rfl hl.1 rfl (Nat.le_of_ble_eq_true rfl) dL_law_493 (fun H locs cells slots w hcl hsl => ?_)
        refine lv_istore (lv' := [(5, .int v117), (0, .ref b), (1, .ref (ι p1_)), (2, .ref (ι p2_)), (3, .ref (ι p3_)), (4, .int z4)]) hx hb dL_law_496 hl (by decide) rfl (fun ls hl => ?_)
        refine lv_aload_n hx hb dL_law_498 rfl (lv_at hl 3 rfl) ?_
        refine lv_aload_n hx hb dL_law_499 rfl (lv_at hl 1 rfl) ?_
        refine lv_iload hx hb dL_law_500 (lv_at hl 5 rfl) ?_
        refine lv_iconst (v := (1 : Int32)) hx hb dL_law_502 (by decide) ?_
        refine lv_iadd hx hb dL_law_503 ?_
        obtain ⟨v120, ev120, hf⟩ := ob_s hf
        refine px_sld hx hb hX hbl w hb0 ev120 dL_law_504 ?_
        refine lv_aload_n hx hb dL_law_505 rfl (lv_at hl 1 rfl) ?_
        refine lv_iload hx hb dL_law_506 (lv_at hl 5 rfl) ?_
        refine lv_iconst (v := (2 : Int32)) hx hb dL_law_508 (by decide) ?_
        refine lv_iadd hx hb dL_law_509 ?_
        obtain ⟨v121, ev121, hf⟩ := ob_s hf
        refine px_sld hx hb hX hbl w hb0 ev121 dL_law_510 ?_
        refine lv_aload_n hx hb dL_law_511 rfl (lv_at hl 1 rfl) ?_
        refine lv_iload hx hb dL_law_512 (lv_at hl 5 rfl) ?_
        refine lv_iconst (v := (3 : Int32)) hx hb dL_law_514 (by decide) ?_
        refine lv_iadd hx hb dL_law_515 ?_
        obtain ⟨v122, ev122, hf⟩ := ob_s hf
        refine px_sld hx hb hX hbl w hb0 ev122 dL_law_516 ?_
        refine lv_aload_n hx hb dL_law_517 rfl (lv_at hl 1 rfl) ?_
        refine lv_iload hx hb dL_law_518 (lv_at hl 5 rfl) ?_
        refine lv_iconst (v := (4 : Int32)) hx hb dL_law_520 (by decide) ?_
        refine lv_iadd hx hb dL_law_521 ?_
        obtain ⟨v123, ev123, hf⟩ := ob_s hf
        refine px_sld hx hb hX hbl w hb0 ev123 dL_law_522 ?_
        obtain ⟨u124, eu124, hf⟩ := ob_s hf
        obtain ⟨⟨v125, h126⟩, eh126, hf⟩ := ob_s hf
        try dsimp only at hf
        refine px_callVi (As := [.int v120, .int v121, .int v122, .int v123]) (rest := []) ⟨hx, hb, hml, hown, hts⟩ hC w (kX8_at l D dA b0 ι N p2_ v120 v121 v122 v123 h118 v125 h126 eh126) (cwV 4 hts gq_X8_at rfl rfl rfl (by decide +kernel) ⟨Nat.le_of_ble_eq_true rfl, Nat.le_of_ble_eq_true rfl⟩) eu124 rfl rfl hl.1 rfl (Nat.le_of_ble_eq_true rfl) dL_law_523 ⟨Nat.le_trans (Nat.le_add_right _ _) hcl, Nat.le_trans (Nat.le_add_right _ _) hsl⟩ (fun H locs w => ?_)
        refine lv_istore (lv' := [(6, .int v125), (5, .int v117), (0, .ref b), (1, .ref (ι p1_)), (2, .ref (ι p2_)), (3, .ref (ι p3_)), (4, .int z4)]) hx hb dL_law_526 hl (by decide) rfl (fun ls hl => ?_)
        refine lv_aload_n hx hb dL_law_528 rfl (lv_at hl 4 rfl) ?_
        obtain ⟨u127, eu127, hf⟩ := ob_s hf
        obtain ⟨⟨v128, h129⟩, eh129, hf⟩ := ob_s hf
        try dsimp only at hf
        refine px_callVi (As := []) (rest := []) ⟨hx, hb, hml, hown, hts⟩ hC w (kX8_thrown l D dA b0 ι N p2_ h126 v128 h129 eh129) (cwV 0 hts gq_X8_thrown rfl rfl rfl (by decide +kernel) ⟨Nat.le_of_ble_eq_true rfl, Nat.le_of_ble_eq_true rfl⟩) eu127 rfl rfl hl.1 rfl (Nat.le_of_ble_eq_true rfl) dL_law_529 ⟨Nat.le_trans (Nat.le_add_right _ _) hcl, Nat.le_trans (Nat.le_add_right _ _) hsl⟩ (fun H locs w => ?_)
        refine lv_iload hx hb dL_law_532 (lv_at hl 1 rfl) ?_
        refine lv_icmp_eq (tgt := 539) hx hb dL_law_534 (by decide) (fun c130 => ?_) (fun c130 => ?_)
        · have hf := if_t hf c130
          refine lv_iload hx hb dL_law_539 (lv_at hl 1 rfl) ?_
          have hj556 : ∀ (h132 : Hp) (kc133 ks133 cells slots : Nat) (H : Heap) (locs : List Loc) (ls : Array Slot), (j3 h132 kc133 ks133) = some (1 : Int32) → lv_has ls 7 [(0, .ref b), (1, .ref (ι p1_)), (2, .ref (ι p2_)), (3, .ref (ι p3_)), (4, .int z4), (5, .int v117), (6, .int v125)] → WD D dA b0 ι h132 s.heap H locs → cells + kc133 ≤ room_1.cells → slots + ks133 ≤ room_1.slots → W p l e room_1 s m #[Value.ref b] below meth c H locs cells slots (lw_Z below #[Value.ref b] s) (F0 m 556 ls []) := by
            intro h132 kc133 ks133 cells slots H locs ls hf hl w hcl hsl
            refine lv_goto (tgt := 889) hx hb dL_law_556 (by decide) ?_
            exact hj889 h132 kc133 ks133 _ _ H locs ls (by rw [ej3] at hf; exact hf) (lv_sub hl [0, 1, 2, 3, 4] rfl) w hcl hsl
          obtain ⟨j131, ej131, hf⟩ := jn_s hf
          refine lv_if_ne (tgt := 556) hx hb dL_law_541 (by decide) (fun c134 => ?_) (fun c134 => ?_)
          · have hf := if_f hf c134
            exact hj556 h129 kc119 ks119 _ _ H locs ls (by rw [ej131] at hf; exact hf) (lv_sub hl [2, 3, 4, 5, 6, 1, 0] rfl) w hcl hsl
          · have hf := if_t hf c134
            refine lv_aload_n hx hb dL_law_544 rfl (lv_at hl 5 rfl) ?_
            refine lv_iconst (v := (0 : Int32)) hx hb dL_law_545 (by decide) ?_
            obtain ⟨v135, ev135, hf⟩ := ob_s hf
            refine px_jald hx hb hK w ev135 dL_law_546 ?_
            refine lv_iload hx hb dL_law_547 (lv_at hl 0 rfl) ?_
            refine lv_i2l hx hb dL_law_549 rfl ?_
            refine W.lcmp hx hb dL_law_550 ?_
            refine lv_if_eq (tgt := 556) hx hb dL_law_551 (by decide) (fun c136 => ?_) (fun c136 => ?_)
            · have hf := if_t hf c136
              exact hj556 h129 kc119 ks119 _ _ H locs ls (by rw [ej131] at hf; exact hf) (lv_sub hl [2, 3, 4, 5, 6, 1, 0] rfl) w hcl hsl
            · have hf := if_f hf c136
              refine lv_iconst (v := (0 : Int32)) hx hb dL_law_554 (by decide) ?_
              exact absurd (Option.some.inj hf) (by decide)
        · have hf := if_f hf c130
          refine lv_iconst (v := (0 : Int32)) hx hb dL_law_537 (by decide) ?_
          exact absurd (Option.some.inj hf) (by decide)
      have hf := if_f hf hs5
      by_cases hs6 : x7 = 6
      · have hf := if_t hf hs6
        rw [hs6]
        refine lv_tableIn (tgt := 559) hx hb dL_law_39 (by decide) (by decide) rfl (by decide) ?_
        refine lv_aload_n hx hb dL_law_559 rfl (lv_at hl 1 rfl) ?_
        obtain ⟨u137, eu137, hf⟩ := ob_s hf
        obtain ⟨⟨v138, h139⟩, eh139, hf⟩ := ob_s hf
        try dsimp only at hf
        refine px_callVi (As := []) (rest := []) ⟨hx, hb, hml, hown, hts⟩ hC w (kX7_rank l D dA b0 ι N p1_ h0 v138 h139 eh139) (cwV 0 hts gq_X7_rank rfl rfl rfl (by decide +kernel) ⟨Nat.le_of_ble_eq_true rfl, Nat.le_of_ble_eq_true rfl⟩) eu137 rfl rfl hl.1 rfl (Nat.le_of_ble_eq_true rfl) dL_law_560 ⟨Nat.le_trans (Nat.le_add_right _ _) hcl, Nat.le_trans (Nat.le_add_right _ _) hsl⟩ (fun H locs w => ?_)
        refine lv_aload_n hx hb dL_law_563 rfl (lv_at hl 2 rfl) ?_
        obtain ⟨u140, eu140, hf⟩ := ob_s hf
        obtain ⟨⟨v141, h142⟩, eh142, hf⟩ := ob_s hf
        try dsimp only at hf
        refine px_callVi (As := []) (rest := [.int v138]) ⟨hx, hb, hml, hown, hts⟩ hC w (kX8_rank l D dA b0 ι N p2_ h139 v141 h142 eh142) (cwV 0 hts gq_X8_rank rfl rfl rfl (by decide +kernel) ⟨Nat.le_of_ble_eq_true rfl, Nat.le_of_ble_eq_true rfl⟩) eu140 rfl rfl hl.1 rfl (Nat.le_of_ble_eq_true rfl) dL_law_564 ⟨Nat.le_trans (Nat.le_add_right _ _) hcl, Nat.le_trans (Nat.le_add_right _ _) hsl⟩ (fun H locs w => ?_)
        refine lv_icmp_eq (tgt := 889) hx hb dL_law_567 (by decide) (fun c143 => ?_) (fun c143 => ?_)
        · have hf := if_t hf c143
          exact hj889 h142 kc0 ks0 _ _ H locs ls (by rw [ej3] at hf; exact hf) (lv_sub hl [0, 1, 2, 3, 4] rfl) w hcl hsl
        · have hf := if_f hf c143
          refine lv_iconst (v := (0 : Int32)) hx hb dL_law_570 (by decide) ?_
          exact absurd (Option.some.inj hf) (by decide)
      have hf := if_f hf hs6
      by_cases hs7 : x7 = 7
      · have hf := if_t hf hs7
        rw [hs7]
        refine lv_tableIn (tgt := 572) hx hb dL_law_39 (by decide) (by decide) rfl (by decide) ?_
        refine lv_aload_n hx hb dL_law_572 rfl (lv_at hl 1 rfl) ?_
        refine lv_aload_n hx hb dL_law_573 rfl (lv_at hl 0 rfl) ?_
        refine lv_iload hx hb dL_law_574 (lv_at hl 4 rfl) ?_
        refine lv_iconst (v := (1 : Int32)) hx hb dL_law_576 (by decide) ?_
        refine lv_iadd hx hb dL_law_577 ?_
        obtain ⟨v144, ev144, hf⟩ := ob_s hf
        refine px_sld hx hb hX hbl w hb0 ev144 dL_law_578 ?_
        refine lv_aload_n hx hb dL_law_579 rfl (lv_at hl 3 rfl) ?_
        obtain ⟨⟨kc147, ks147⟩, ebh146, hf⟩ := ob_s hf
        try dsimp only at hf
        obtain ⟨⟨v145, h146⟩, eh146, hf⟩ := ob_s hf
        try dsimp only at hf
        refine px_callSX (As := [.ref (ι p1_), .int v144, .ref (ι p3_)]) (rest := []) ⟨hx, hb, hml, hown, hts⟩ hC xl w (xL_determinant l hl0 D dA b0 ι N p1_ v144 p3_ h0 v145 h146 eh146) (vx_cwSW 3 hts gq_L_determinant rfl rfl rfl (by decide +kernel) ⟨Nat.le_of_ble_eq_true rfl, Nat.le_of_ble_eq_true rfl⟩) ebh146 hcl hsl rfl hl.1 rfl (Nat.le_of_ble_eq_true rfl) dL_law_580 (fun H locs cells slots w hcl hsl => ?_)
        refine lv_istore (lv' := [(5, .int v145), (0, .ref b), (1, .ref (ι p1_)), (2, .ref (ι p2_)), (3, .ref (ι p3_)), (4, .int z4)]) hx hb dL_law_583 hl (by decide) rfl (fun ls hl => ?_)
        refine lv_aload_n hx hb dL_law_585 rfl (lv_at hl 3 rfl) ?_
        refine lv_aload_n hx hb dL_law_586 rfl (lv_at hl 1 rfl) ?_
        refine lv_iload hx hb dL_law_587 (lv_at hl 5 rfl) ?_
        refine lv_iconst (v := (1 : Int32)) hx hb dL_law_589 (by decide) ?_
        refine lv_iadd hx hb dL_law_590 ?_
        obtain ⟨v148, ev148, hf⟩ := ob_s hf
        refine px_sld hx hb hX hbl w hb0 ev148 dL_law_591 ?_
        obtain ⟨u149, eu149, hf⟩ := ob_s hf
        obtain ⟨⟨v150, h151⟩, eh151, hf⟩ := ob_s hf
        try dsimp only at hf
        refine px_callVi (As := [.int v148]) (rest := []) ⟨hx, hb, hml, hown, hts⟩ hC w (kX8_determinant l D dA b0 ι N p2_ v148 h146 v150 h151 eh151) (cwV 1 hts gq_X8_determinant rfl rfl rfl (by decide +kernel) ⟨Nat.le_of_ble_eq_true rfl, Nat.le_of_ble_eq_true rfl⟩) eu149 rfl rfl hl.1 rfl (Nat.le_of_ble_eq_true rfl) dL_law_592 ⟨Nat.le_trans (Nat.le_add_right _ _) hcl, Nat.le_trans (Nat.le_add_right _ _) hsl⟩ (fun H locs w => ?_)
        refine lv_istore (lv' := [(6, .int v150), (5, .int v145), (0, .ref b), (1, .ref (ι p1_)), (2, .ref (ι p2_)), (3, .ref (ι p3_)), (4, .int z4)]) hx hb dL_law_595 hl (by decide) rfl (fun ls hl => ?_)
        refine lv_aload_n hx hb dL_law_597 rfl (lv_at hl 4 rfl) ?_
        obtain ⟨u152, eu152, hf⟩ := ob_s hf
        obtain ⟨⟨v153, h154⟩, eh154, hf⟩ := ob_s hf
        try dsimp only at hf
        refine px_callVi (As := []) (rest := []) ⟨hx, hb, hml, hown, hts⟩ hC w (kX8_thrown l D dA b0 ι N p2_ h151 v153 h154 eh154) (cwV 0 hts gq_X8_thrown rfl rfl rfl (by decide +kernel) ⟨Nat.le_of_ble_eq_true rfl, Nat.le_of_ble_eq_true rfl⟩) eu152 rfl rfl hl.1 rfl (Nat.le_of_ble_eq_true rfl) dL_law_598 ⟨Nat.le_trans (Nat.le_add_right _ _) hcl, Nat.le_trans (Nat.le_add_right _ _) hsl⟩ (fun H locs w => ?_)
        refine lv_iload hx hb dL_law_601 (lv_at hl 1 rfl) ?_
        refine lv_icmp_eq (tgt := 608) hx hb dL_law_603 (by decide) (fun c155 => ?_) (fun c155 => ?_)
        · have hf := if_t hf c155
          refine lv_iload hx hb dL_law_608 (lv_at hl 1 rfl) ?_
          have hj625 : ∀ (h157 : Hp) (kc158 ks158 cells slots : Nat) (H : Heap) (locs : List Loc) (ls : Array Slot), (j3 h157 kc158 ks158) = some (1 : Int32) → lv_has ls 7 [(0, .ref b), (1, .ref (ι p1_)), (2, .ref (ι p2_)), (3, .ref (ι p3_)), (4, .int z4), (5, .int v145), (6, .int v150)] → WD D dA b0 ι h157 s.heap H locs → cells + kc158 ≤ room_1.cells → slots + ks158 ≤ room_1.slots → W p l e room_1 s m #[Value.ref b] below meth c H locs cells slots (lw_Z below #[Value.ref b] s) (F0 m 625 ls []) := by
            intro h157 kc158 ks158 cells slots H locs ls hf hl w hcl hsl
            refine lv_goto (tgt := 889) hx hb dL_law_625 (by decide) ?_
            exact hj889 h157 kc158 ks158 _ _ H locs ls (by rw [ej3] at hf; exact hf) (lv_sub hl [0, 1, 2, 3, 4] rfl) w hcl hsl
          obtain ⟨j156, ej156, hf⟩ := jn_s hf
          refine lv_if_ne (tgt := 625) hx hb dL_law_610 (by decide) (fun c159 => ?_) (fun c159 => ?_)
          · have hf := if_f hf c159
            exact hj625 h154 kc147 ks147 _ _ H locs ls (by rw [ej156] at hf; exact hf) (lv_sub hl [2, 3, 4, 5, 6, 1, 0] rfl) w hcl hsl
          · have hf := if_t hf c159
            refine lv_aload_n hx hb dL_law_613 rfl (lv_at hl 5 rfl) ?_
            refine lv_iconst (v := (0 : Int32)) hx hb dL_law_614 (by decide) ?_
            obtain ⟨v160, ev160, hf⟩ := ob_s hf
            refine px_jald hx hb hK w ev160 dL_law_615 ?_
            refine lv_iload hx hb dL_law_616 (lv_at hl 0 rfl) ?_
            refine lv_i2l hx hb dL_law_618 rfl ?_
            refine W.lcmp hx hb dL_law_619 ?_
            refine lv_if_eq (tgt := 625) hx hb dL_law_620 (by decide) (fun c161 => ?_) (fun c161 => ?_)
            · have hf := if_t hf c161
              exact hj625 h154 kc147 ks147 _ _ H locs ls (by rw [ej156] at hf; exact hf) (lv_sub hl [2, 3, 4, 5, 6, 1, 0] rfl) w hcl hsl
            · have hf := if_f hf c161
              refine lv_iconst (v := (0 : Int32)) hx hb dL_law_623 (by decide) ?_
              exact absurd (Option.some.inj hf) (by decide)
        · have hf := if_f hf c155
          refine lv_iconst (v := (0 : Int32)) hx hb dL_law_606 (by decide) ?_
          exact absurd (Option.some.inj hf) (by decide)
      have hf := if_f hf hs7
      by_cases hs8 : x7 = 8
      · have hf := if_t hf hs8
        rw [hs8]
        refine lv_tableIn (tgt := 628) hx hb dL_law_39 (by decide) (by decide) rfl (by decide) ?_
        refine lv_aload_n hx hb dL_law_628 rfl (lv_at hl 1 rfl) ?_
        refine lv_aload_n hx hb dL_law_629 rfl (lv_at hl 0 rfl) ?_
        refine lv_iload hx hb dL_law_630 (lv_at hl 4 rfl) ?_
        refine lv_iconst (v := (1 : Int32)) hx hb dL_law_632 (by decide) ?_
        refine lv_iadd hx hb dL_law_633 ?_
        obtain ⟨v162, ev162, hf⟩ := ob_s hf
        refine px_sld hx hb hX hbl w hb0 ev162 dL_law_634 ?_
        refine lv_aload_n hx hb dL_law_635 rfl (lv_at hl 3 rfl) ?_
        obtain ⟨⟨kc165, ks165⟩, ebh164, hf⟩ := ob_s hf
        try dsimp only at hf
        obtain ⟨⟨v163, h164⟩, eh164, hf⟩ := ob_s hf
        try dsimp only at hf
        refine px_callSX (As := [.ref (ι p1_), .int v162, .ref (ι p3_)]) (rest := []) ⟨hx, hb, hml, hown, hts⟩ hC xl w (xL_characteristic l hl0 D dA b0 ι N p1_ v162 p3_ h0 v163 h164 eh164) (vx_cwSW 3 hts gq_L_characteristic rfl rfl rfl (by decide +kernel) ⟨Nat.le_of_ble_eq_true rfl, Nat.le_of_ble_eq_true rfl⟩) ebh164 hcl hsl rfl hl.1 rfl (Nat.le_of_ble_eq_true rfl) dL_law_636 (fun H locs cells slots w hcl hsl => ?_)
        refine lv_istore (lv' := [(5, .int v163), (0, .ref b), (1, .ref (ι p1_)), (2, .ref (ι p2_)), (3, .ref (ι p3_)), (4, .int z4)]) hx hb dL_law_639 hl (by decide) rfl (fun ls hl => ?_)
        refine lv_aload_n hx hb dL_law_641 rfl (lv_at hl 3 rfl) ?_
        refine lv_aload_n hx hb dL_law_642 rfl (lv_at hl 1 rfl) ?_
        refine lv_iload hx hb dL_law_643 (lv_at hl 5 rfl) ?_
        refine lv_iconst (v := (1 : Int32)) hx hb dL_law_645 (by decide) ?_
        refine lv_iadd hx hb dL_law_646 ?_
        obtain ⟨v166, ev166, hf⟩ := ob_s hf
        refine px_sld hx hb hX hbl w hb0 ev166 dL_law_647 ?_
        obtain ⟨u167, eu167, hf⟩ := ob_s hf
        obtain ⟨⟨v168, h169⟩, eh169, hf⟩ := ob_s hf
        try dsimp only at hf
        refine px_callVi (As := [.int v166]) (rest := []) ⟨hx, hb, hml, hown, hts⟩ hC w (kX8_characteristic l D dA b0 ι N p2_ v166 h164 v168 h169 eh169) (cwV 1 hts gq_X8_characteristic rfl rfl rfl (by decide +kernel) ⟨Nat.le_of_ble_eq_true rfl, Nat.le_of_ble_eq_true rfl⟩) eu167 rfl rfl hl.1 rfl (Nat.le_of_ble_eq_true rfl) dL_law_648 ⟨Nat.le_trans (Nat.le_add_right _ _) hcl, Nat.le_trans (Nat.le_add_right _ _) hsl⟩ (fun H locs w => ?_)
        refine lv_istore (lv' := [(6, .int v168), (5, .int v163), (0, .ref b), (1, .ref (ι p1_)), (2, .ref (ι p2_)), (3, .ref (ι p3_)), (4, .int z4)]) hx hb dL_law_651 hl (by decide) rfl (fun ls hl => ?_)
        refine lv_aload_n hx hb dL_law_653 rfl (lv_at hl 4 rfl) ?_
        obtain ⟨u170, eu170, hf⟩ := ob_s hf
        obtain ⟨⟨v171, h172⟩, eh172, hf⟩ := ob_s hf
        try dsimp only at hf
        refine px_callVi (As := []) (rest := []) ⟨hx, hb, hml, hown, hts⟩ hC w (kX8_thrown l D dA b0 ι N p2_ h169 v171 h172 eh172) (cwV 0 hts gq_X8_thrown rfl rfl rfl (by decide +kernel) ⟨Nat.le_of_ble_eq_true rfl, Nat.le_of_ble_eq_true rfl⟩) eu170 rfl rfl hl.1 rfl (Nat.le_of_ble_eq_true rfl) dL_law_654 ⟨Nat.le_trans (Nat.le_add_right _ _) hcl, Nat.le_trans (Nat.le_add_right _ _) hsl⟩ (fun H locs w => ?_)
        refine lv_iload hx hb dL_law_657 (lv_at hl 1 rfl) ?_
        refine lv_icmp_eq (tgt := 664) hx hb dL_law_659 (by decide) (fun c173 => ?_) (fun c173 => ?_)
        · have hf := if_t hf c173
          refine lv_iload hx hb dL_law_664 (lv_at hl 1 rfl) ?_
          have hj681 : ∀ (h175 : Hp) (kc176 ks176 cells slots : Nat) (H : Heap) (locs : List Loc) (ls : Array Slot), (j3 h175 kc176 ks176) = some (1 : Int32) → lv_has ls 7 [(0, .ref b), (1, .ref (ι p1_)), (2, .ref (ι p2_)), (3, .ref (ι p3_)), (4, .int z4), (5, .int v163), (6, .int v168)] → WD D dA b0 ι h175 s.heap H locs → cells + kc176 ≤ room_1.cells → slots + ks176 ≤ room_1.slots → W p l e room_1 s m #[Value.ref b] below meth c H locs cells slots (lw_Z below #[Value.ref b] s) (F0 m 681 ls []) := by
            intro h175 kc176 ks176 cells slots H locs ls hf hl w hcl hsl
            refine lv_goto (tgt := 889) hx hb dL_law_681 (by decide) ?_
            exact hj889 h175 kc176 ks176 _ _ H locs ls (by rw [ej3] at hf; exact hf) (lv_sub hl [0, 1, 2, 3, 4] rfl) w hcl hsl
          obtain ⟨j174, ej174, hf⟩ := jn_s hf
          refine lv_if_ne (tgt := 681) hx hb dL_law_666 (by decide) (fun c177 => ?_) (fun c177 => ?_)
          · have hf := if_f hf c177
            exact hj681 h172 kc165 ks165 _ _ H locs ls (by rw [ej174] at hf; exact hf) (lv_sub hl [2, 3, 4, 5, 6, 1, 0] rfl) w hcl hsl
          · have hf := if_t hf c177
            refine lv_aload_n hx hb dL_law_669 rfl (lv_at hl 5 rfl) ?_
            refine lv_iconst (v := (0 : Int32)) hx hb dL_law_670 (by decide) ?_
            obtain ⟨v178, ev178, hf⟩ := ob_s hf
            refine px_jald hx hb hK w ev178 dL_law_671 ?_
            refine lv_iload hx hb dL_law_672 (lv_at hl 0 rfl) ?_
            refine lv_i2l hx hb dL_law_674 rfl ?_
            refine W.lcmp hx hb dL_law_675 ?_
            refine lv_if_eq (tgt := 681) hx hb dL_law_676 (by decide) (fun c179 => ?_) (fun c179 => ?_)
            · have hf := if_t hf c179
              exact hj681 h172 kc165 ks165 _ _ H locs ls (by rw [ej174] at hf; exact hf) (lv_sub hl [2, 3, 4, 5, 6, 1, 0] rfl) w hcl hsl
            · have hf := if_f hf c179
              refine lv_iconst (v := (0 : Int32)) hx hb dL_law_679 (by decide) ?_
              exact absurd (Option.some.inj hf) (by decide)
        · have hf := if_f hf c173
          refine lv_iconst (v := (0 : Int32)) hx hb dL_law_662 (by decide) ?_
          exact absurd (Option.some.inj hf) (by decide)
      have hf := if_f hf hs8
      by_cases hs9 : x7 = 9
      · have hf := if_t hf hs9
        rw [hs9]
        refine lv_tableIn (tgt := 684) hx hb dL_law_39 (by decide) (by decide) rfl (by decide) ?_
        refine lv_aload_n hx hb dL_law_684 rfl (lv_at hl 1 rfl) ?_
        refine lv_aload_n hx hb dL_law_685 rfl (lv_at hl 0 rfl) ?_
        refine lv_iload hx hb dL_law_686 (lv_at hl 4 rfl) ?_
        refine lv_iconst (v := (1 : Int32)) hx hb dL_law_688 (by decide) ?_
        refine lv_iadd hx hb dL_law_689 ?_
        obtain ⟨v180, ev180, hf⟩ := ob_s hf
        refine px_sld hx hb hX hbl w hb0 ev180 dL_law_690 ?_
        refine lv_aload_n hx hb dL_law_691 rfl (lv_at hl 3 rfl) ?_
        obtain ⟨⟨kc183, ks183⟩, ebh182, hf⟩ := ob_s hf
        try dsimp only at hf
        obtain ⟨⟨v181, h182⟩, eh182, hf⟩ := ob_s hf
        try dsimp only at hf
        refine px_callSX (As := [.ref (ι p1_), .int v180, .ref (ι p3_)]) (rest := []) ⟨hx, hb, hml, hown, hts⟩ hC xl w (xL_minimal l hl0 D dA b0 ι N p1_ v180 p3_ h0 v181 h182 eh182) (vx_cwSW 3 hts gq_L_minimal rfl rfl rfl (by decide +kernel) ⟨Nat.le_of_ble_eq_true rfl, Nat.le_of_ble_eq_true rfl⟩) ebh182 hcl hsl rfl hl.1 rfl (Nat.le_of_ble_eq_true rfl) dL_law_692 (fun H locs cells slots w hcl hsl => ?_)
        refine lv_istore (lv' := [(5, .int v181), (0, .ref b), (1, .ref (ι p1_)), (2, .ref (ι p2_)), (3, .ref (ι p3_)), (4, .int z4)]) hx hb dL_law_695 hl (by decide) rfl (fun ls hl => ?_)
        refine lv_aload_n hx hb dL_law_697 rfl (lv_at hl 3 rfl) ?_
        refine lv_aload_n hx hb dL_law_698 rfl (lv_at hl 1 rfl) ?_
        refine lv_iload hx hb dL_law_699 (lv_at hl 5 rfl) ?_
        refine lv_iconst (v := (1 : Int32)) hx hb dL_law_701 (by decide) ?_
        refine lv_iadd hx hb dL_law_702 ?_
        obtain ⟨v184, ev184, hf⟩ := ob_s hf
        refine px_sld hx hb hX hbl w hb0 ev184 dL_law_703 ?_
        obtain ⟨u185, eu185, hf⟩ := ob_s hf
        obtain ⟨⟨v186, h187⟩, eh187, hf⟩ := ob_s hf
        try dsimp only at hf
        refine px_callVi (As := [.int v184]) (rest := []) ⟨hx, hb, hml, hown, hts⟩ hC w (kX8_minimal l D dA b0 ι N p2_ v184 h182 v186 h187 eh187) (cwV 1 hts gq_X8_minimal rfl rfl rfl (by decide +kernel) ⟨Nat.le_of_ble_eq_true rfl, Nat.le_of_ble_eq_true rfl⟩) eu185 rfl rfl hl.1 rfl (Nat.le_of_ble_eq_true rfl) dL_law_704 ⟨Nat.le_trans (Nat.le_add_right _ _) hcl, Nat.le_trans (Nat.le_add_right _ _) hsl⟩ (fun H locs w => ?_)
        refine lv_istore (lv' := [(6, .int v186), (5, .int v181), (0, .ref b), (1, .ref (ι p1_)), (2, .ref (ι p2_)), (3, .ref (ι p3_)), (4, .int z4)]) hx hb dL_law_707 hl (by decide) rfl (fun ls hl => ?_)
        refine lv_aload_n hx hb dL_law_709 rfl (lv_at hl 4 rfl) ?_
        obtain ⟨u188, eu188, hf⟩ := ob_s hf
        obtain ⟨⟨v189, h190⟩, eh190, hf⟩ := ob_s hf
        try dsimp only at hf
        refine px_callVi (As := []) (rest := []) ⟨hx, hb, hml, hown, hts⟩ hC w (kX8_thrown l D dA b0 ι N p2_ h187 v189 h190 eh190) (cwV 0 hts gq_X8_thrown rfl rfl rfl (by decide +kernel) ⟨Nat.le_of_ble_eq_true rfl, Nat.le_of_ble_eq_true rfl⟩) eu188 rfl rfl hl.1 rfl (Nat.le_of_ble_eq_true rfl) dL_law_710 ⟨Nat.le_trans (Nat.le_add_right _ _) hcl, Nat.le_trans (Nat.le_add_right _ _) hsl⟩ (fun H locs w => ?_)
        refine lv_iload hx hb dL_law_713 (lv_at hl 1 rfl) ?_
        refine lv_icmp_eq (tgt := 720) hx hb dL_law_715 (by decide) (fun c191 => ?_) (fun c191 => ?_)
        · have hf := if_t hf c191
          refine lv_iload hx hb dL_law_720 (lv_at hl 1 rfl) ?_
          have hj737 : ∀ (h193 : Hp) (kc194 ks194 cells slots : Nat) (H : Heap) (locs : List Loc) (ls : Array Slot), (j3 h193 kc194 ks194) = some (1 : Int32) → lv_has ls 7 [(0, .ref b), (1, .ref (ι p1_)), (2, .ref (ι p2_)), (3, .ref (ι p3_)), (4, .int z4), (5, .int v181), (6, .int v186)] → WD D dA b0 ι h193 s.heap H locs → cells + kc194 ≤ room_1.cells → slots + ks194 ≤ room_1.slots → W p l e room_1 s m #[Value.ref b] below meth c H locs cells slots (lw_Z below #[Value.ref b] s) (F0 m 737 ls []) := by
            intro h193 kc194 ks194 cells slots H locs ls hf hl w hcl hsl
            refine lv_goto (tgt := 889) hx hb dL_law_737 (by decide) ?_
            exact hj889 h193 kc194 ks194 _ _ H locs ls (by rw [ej3] at hf; exact hf) (lv_sub hl [0, 1, 2, 3, 4] rfl) w hcl hsl
          obtain ⟨j192, ej192, hf⟩ := jn_s hf
          refine lv_if_ne (tgt := 737) hx hb dL_law_722 (by decide) (fun c195 => ?_) (fun c195 => ?_)
          · have hf := if_f hf c195
            exact hj737 h190 kc183 ks183 _ _ H locs ls (by rw [ej192] at hf; exact hf) (lv_sub hl [2, 3, 4, 5, 6, 1, 0] rfl) w hcl hsl
          · have hf := if_t hf c195
            refine lv_aload_n hx hb dL_law_725 rfl (lv_at hl 5 rfl) ?_
            refine lv_iconst (v := (0 : Int32)) hx hb dL_law_726 (by decide) ?_
            obtain ⟨v196, ev196, hf⟩ := ob_s hf
            refine px_jald hx hb hK w ev196 dL_law_727 ?_
            refine lv_iload hx hb dL_law_728 (lv_at hl 0 rfl) ?_
            refine lv_i2l hx hb dL_law_730 rfl ?_
            refine W.lcmp hx hb dL_law_731 ?_
            refine lv_if_eq (tgt := 737) hx hb dL_law_732 (by decide) (fun c197 => ?_) (fun c197 => ?_)
            · have hf := if_t hf c197
              exact hj737 h190 kc183 ks183 _ _ H locs ls (by rw [ej192] at hf; exact hf) (lv_sub hl [2, 3, 4, 5, 6, 1, 0] rfl) w hcl hsl
            · have hf := if_f hf c197
              refine lv_iconst (v := (0 : Int32)) hx hb dL_law_735 (by decide) ?_
              exact absurd (Option.some.inj hf) (by decide)
        · have hf := if_f hf c191
          refine lv_iconst (v := (0 : Int32)) hx hb dL_law_718 (by decide) ?_
          exact absurd (Option.some.inj hf) (by decide)
      have hf := if_f hf hs9
      by_cases hs10 : x7 = 10
      · have hf := if_t hf hs10
        rw [hs10]
        refine lv_tableIn (tgt := 740) hx hb dL_law_39 (by decide) (by decide) rfl (by decide) ?_
        refine lv_aload_n hx hb dL_law_740 rfl (lv_at hl 1 rfl) ?_
        refine lv_aload_n hx hb dL_law_741 rfl (lv_at hl 0 rfl) ?_
        refine lv_iload hx hb dL_law_742 (lv_at hl 4 rfl) ?_
        refine lv_iconst (v := (1 : Int32)) hx hb dL_law_744 (by decide) ?_
        refine lv_iadd hx hb dL_law_745 ?_
        obtain ⟨v198, ev198, hf⟩ := ob_s hf
        refine px_sld hx hb hX hbl w hb0 ev198 dL_law_746 ?_
        refine lv_aload_n hx hb dL_law_747 rfl (lv_at hl 3 rfl) ?_
        obtain ⟨⟨kc201, ks201⟩, ebh200, hf⟩ := ob_s hf
        try dsimp only at hf
        obtain ⟨⟨v199, h200⟩, eh200, hf⟩ := ob_s hf
        try dsimp only at hf
        refine px_callSX (As := [.ref (ι p1_), .int v198, .ref (ι p3_)]) (rest := []) ⟨hx, hb, hml, hown, hts⟩ hC xl w (xL_root l hl0 D dA b0 ι N p1_ v198 p3_ h0 v199 h200 eh200) (vx_cwSW 3 hts gq_L_root rfl rfl rfl (by decide +kernel) ⟨Nat.le_of_ble_eq_true rfl, Nat.le_of_ble_eq_true rfl⟩) ebh200 hcl hsl rfl hl.1 rfl (Nat.le_of_ble_eq_true rfl) dL_law_748 (fun H locs cells slots w hcl hsl => ?_)
        refine lv_istore (lv' := [(5, .int v199), (0, .ref b), (1, .ref (ι p1_)), (2, .ref (ι p2_)), (3, .ref (ι p3_)), (4, .int z4)]) hx hb dL_law_751 hl (by decide) rfl (fun ls hl => ?_)
        refine lv_aload_n hx hb dL_law_753 rfl (lv_at hl 3 rfl) ?_
        refine lv_aload_n hx hb dL_law_754 rfl (lv_at hl 1 rfl) ?_
        refine lv_iload hx hb dL_law_755 (lv_at hl 5 rfl) ?_
        refine lv_iconst (v := (1 : Int32)) hx hb dL_law_757 (by decide) ?_
        refine lv_iadd hx hb dL_law_758 ?_
        obtain ⟨v202, ev202, hf⟩ := ob_s hf
        refine px_sld hx hb hX hbl w hb0 ev202 dL_law_759 ?_
        obtain ⟨u203, eu203, hf⟩ := ob_s hf
        obtain ⟨⟨v204, h205⟩, eh205, hf⟩ := ob_s hf
        try dsimp only at hf
        refine px_callVi (As := [.int v202]) (rest := []) ⟨hx, hb, hml, hown, hts⟩ hC w (kX8_root l D dA b0 ι N p2_ v202 h200 v204 h205 eh205) (cwV 1 hts gq_X8_root rfl rfl rfl (by decide +kernel) ⟨Nat.le_of_ble_eq_true rfl, Nat.le_of_ble_eq_true rfl⟩) eu203 rfl rfl hl.1 rfl (Nat.le_of_ble_eq_true rfl) dL_law_760 ⟨Nat.le_trans (Nat.le_add_right _ _) hcl, Nat.le_trans (Nat.le_add_right _ _) hsl⟩ (fun H locs w => ?_)
        refine lv_istore (lv' := [(6, .int v204), (5, .int v199), (0, .ref b), (1, .ref (ι p1_)), (2, .ref (ι p2_)), (3, .ref (ι p3_)), (4, .int z4)]) hx hb dL_law_763 hl (by decide) rfl (fun ls hl => ?_)
        refine lv_aload_n hx hb dL_law_765 rfl (lv_at hl 4 rfl) ?_
        obtain ⟨u206, eu206, hf⟩ := ob_s hf
        obtain ⟨⟨v207, h208⟩, eh208, hf⟩ := ob_s hf
        try dsimp only at hf
        refine px_callVi (As := []) (rest := []) ⟨hx, hb, hml, hown, hts⟩ hC w (kX8_thrown l D dA b0 ι N p2_ h205 v207 h208 eh208) (cwV 0 hts gq_X8_thrown rfl rfl rfl (by decide +kernel) ⟨Nat.le_of_ble_eq_true rfl, Nat.le_of_ble_eq_true rfl⟩) eu206 rfl rfl hl.1 rfl (Nat.le_of_ble_eq_true rfl) dL_law_766 ⟨Nat.le_trans (Nat.le_add_right _ _) hcl, Nat.le_trans (Nat.le_add_right _ _) hsl⟩ (fun H locs w => ?_)
        refine lv_iload hx hb dL_law_769 (lv_at hl 1 rfl) ?_
        refine lv_icmp_eq (tgt := 776) hx hb dL_law_771 (by decide) (fun c209 => ?_) (fun c209 => ?_)
        · have hf := if_t hf c209
          refine lv_iload hx hb dL_law_776 (lv_at hl 1 rfl) ?_
          have hj793 : ∀ (h211 : Hp) (kc212 ks212 cells slots : Nat) (H : Heap) (locs : List Loc) (ls : Array Slot), (j3 h211 kc212 ks212) = some (1 : Int32) → lv_has ls 7 [(0, .ref b), (1, .ref (ι p1_)), (2, .ref (ι p2_)), (3, .ref (ι p3_)), (4, .int z4), (5, .int v199), (6, .int v204)] → WD D dA b0 ι h211 s.heap H locs → cells + kc212 ≤ room_1.cells → slots + ks212 ≤ room_1.slots → W p l e room_1 s m #[Value.ref b] below meth c H locs cells slots (lw_Z below #[Value.ref b] s) (F0 m 793 ls []) := by
            intro h211 kc212 ks212 cells slots H locs ls hf hl w hcl hsl
            refine lv_goto (tgt := 889) hx hb dL_law_793 (by decide) ?_
            exact hj889 h211 kc212 ks212 _ _ H locs ls (by rw [ej3] at hf; exact hf) (lv_sub hl [0, 1, 2, 3, 4] rfl) w hcl hsl
          obtain ⟨j210, ej210, hf⟩ := jn_s hf
          refine lv_if_ne (tgt := 793) hx hb dL_law_778 (by decide) (fun c213 => ?_) (fun c213 => ?_)
          · have hf := if_f hf c213
            exact hj793 h208 kc201 ks201 _ _ H locs ls (by rw [ej210] at hf; exact hf) (lv_sub hl [2, 3, 4, 5, 6, 1, 0] rfl) w hcl hsl
          · have hf := if_t hf c213
            refine lv_aload_n hx hb dL_law_781 rfl (lv_at hl 5 rfl) ?_
            refine lv_iconst (v := (0 : Int32)) hx hb dL_law_782 (by decide) ?_
            obtain ⟨v214, ev214, hf⟩ := ob_s hf
            refine px_jald hx hb hK w ev214 dL_law_783 ?_
            refine lv_iload hx hb dL_law_784 (lv_at hl 0 rfl) ?_
            refine lv_i2l hx hb dL_law_786 rfl ?_
            refine W.lcmp hx hb dL_law_787 ?_
            refine lv_if_eq (tgt := 793) hx hb dL_law_788 (by decide) (fun c215 => ?_) (fun c215 => ?_)
            · have hf := if_t hf c215
              exact hj793 h208 kc201 ks201 _ _ H locs ls (by rw [ej210] at hf; exact hf) (lv_sub hl [2, 3, 4, 5, 6, 1, 0] rfl) w hcl hsl
            · have hf := if_f hf c215
              refine lv_iconst (v := (0 : Int32)) hx hb dL_law_791 (by decide) ?_
              exact absurd (Option.some.inj hf) (by decide)
        · have hf := if_f hf c209
          refine lv_iconst (v := (0 : Int32)) hx hb dL_law_774 (by decide) ?_
          exact absurd (Option.some.inj hf) (by decide)
      have hf := if_f hf hs10
      by_cases hs11 : x7 = 11
      · have hf := if_t hf hs11
        rw [hs11]
        refine lv_tableIn (tgt := 796) hx hb dL_law_39 (by decide) (by decide) rfl (by decide) ?_
        refine lv_aload_n hx hb dL_law_796 rfl (lv_at hl 1 rfl) ?_
        refine lv_aload_n hx hb dL_law_797 rfl (lv_at hl 0 rfl) ?_
        refine lv_iload hx hb dL_law_798 (lv_at hl 4 rfl) ?_
        refine lv_iconst (v := (1 : Int32)) hx hb dL_law_800 (by decide) ?_
        refine lv_iadd hx hb dL_law_801 ?_
        obtain ⟨v216, ev216, hf⟩ := ob_s hf
        refine px_sld hx hb hX hbl w hb0 ev216 dL_law_802 ?_
        refine lv_aload_n hx hb dL_law_803 rfl (lv_at hl 0 rfl) ?_
        refine lv_iload hx hb dL_law_804 (lv_at hl 4 rfl) ?_
        refine lv_iconst (v := (2 : Int32)) hx hb dL_law_806 (by decide) ?_
        refine lv_iadd hx hb dL_law_807 ?_
        obtain ⟨v217, ev217, hf⟩ := ob_s hf
        refine px_sld hx hb hX hbl w hb0 ev217 dL_law_808 ?_
        refine lv_aload_n hx hb dL_law_809 rfl (lv_at hl 3 rfl) ?_
        obtain ⟨⟨kc220, ks220⟩, ebh219, hf⟩ := ob_s hf
        try dsimp only at hf
        obtain ⟨⟨v218, h219⟩, eh219, hf⟩ := ob_s hf
        try dsimp only at hf
        refine px_callSX (As := [.ref (ι p1_), .int v216, .int v217, .ref (ι p3_)]) (rest := []) ⟨hx, hb, hml, hown, hts⟩ hC xl w (xL_blocks l hl0 D dA b0 ι N p1_ v216 v217 p3_ h0 v218 h219 eh219) (vx_cwSW 4 hts gq_L_blocks rfl rfl rfl (by decide +kernel) ⟨Nat.le_of_ble_eq_true rfl, Nat.le_of_ble_eq_true rfl⟩) ebh219 hcl hsl rfl hl.1 rfl (Nat.le_of_ble_eq_true rfl) dL_law_810 (fun H locs cells slots w hcl hsl => ?_)
        refine lv_istore (lv' := [(5, .int v218), (0, .ref b), (1, .ref (ι p1_)), (2, .ref (ι p2_)), (3, .ref (ι p3_)), (4, .int z4)]) hx hb dL_law_813 hl (by decide) rfl (fun ls hl => ?_)
        refine lv_aload_n hx hb dL_law_815 rfl (lv_at hl 3 rfl) ?_
        refine lv_aload_n hx hb dL_law_816 rfl (lv_at hl 1 rfl) ?_
        refine lv_iload hx hb dL_law_817 (lv_at hl 5 rfl) ?_
        refine lv_iconst (v := (1 : Int32)) hx hb dL_law_819 (by decide) ?_
        refine lv_iadd hx hb dL_law_820 ?_
        obtain ⟨v221, ev221, hf⟩ := ob_s hf
        refine px_sld hx hb hX hbl w hb0 ev221 dL_law_821 ?_
        refine lv_aload_n hx hb dL_law_822 rfl (lv_at hl 1 rfl) ?_
        refine lv_iload hx hb dL_law_823 (lv_at hl 5 rfl) ?_
        refine lv_iconst (v := (2 : Int32)) hx hb dL_law_825 (by decide) ?_
        refine lv_iadd hx hb dL_law_826 ?_
        obtain ⟨v222, ev222, hf⟩ := ob_s hf
        refine px_sld hx hb hX hbl w hb0 ev222 dL_law_827 ?_
        obtain ⟨u223, eu223, hf⟩ := ob_s hf
        obtain ⟨⟨v224, h225⟩, eh225, hf⟩ := ob_s hf
        try dsimp only at hf
        refine px_callVi (As := [.int v221, .int v222]) (rest := []) ⟨hx, hb, hml, hown, hts⟩ hC w (kX8_blocks l D dA b0 ι N p2_ v221 v222 h219 v224 h225 eh225) (cwV 2 hts gq_X8_blocks rfl rfl rfl (by decide +kernel) ⟨Nat.le_of_ble_eq_true rfl, Nat.le_of_ble_eq_true rfl⟩) eu223 rfl rfl hl.1 rfl (Nat.le_of_ble_eq_true rfl) dL_law_828 ⟨Nat.le_trans (Nat.le_add_right _ _) hcl, Nat.le_trans (Nat.le_add_right _ _) hsl⟩ (fun H locs w => ?_)
        refine lv_istore (lv' := [(6, .int v224), (5, .int v218), (0, .ref b), (1, .ref (ι p1_)), (2, .ref (ι p2_)), (3, .ref (ι p3_)), (4, .int z4)]) hx hb dL_law_831 hl (by decide) rfl (fun ls hl => ?_)
        refine lv_aload_n hx hb dL_law_833 rfl (lv_at hl 4 rfl) ?_
        obtain ⟨u226, eu226, hf⟩ := ob_s hf
        obtain ⟨⟨v227, h228⟩, eh228, hf⟩ := ob_s hf
        try dsimp only at hf
        refine px_callVi (As := []) (rest := []) ⟨hx, hb, hml, hown, hts⟩ hC w (kX8_thrown l D dA b0 ι N p2_ h225 v227 h228 eh228) (cwV 0 hts gq_X8_thrown rfl rfl rfl (by decide +kernel) ⟨Nat.le_of_ble_eq_true rfl, Nat.le_of_ble_eq_true rfl⟩) eu226 rfl rfl hl.1 rfl (Nat.le_of_ble_eq_true rfl) dL_law_834 ⟨Nat.le_trans (Nat.le_add_right _ _) hcl, Nat.le_trans (Nat.le_add_right _ _) hsl⟩ (fun H locs w => ?_)
        refine lv_iload hx hb dL_law_837 (lv_at hl 1 rfl) ?_
        refine lv_icmp_eq (tgt := 844) hx hb dL_law_839 (by decide) (fun c229 => ?_) (fun c229 => ?_)
        · have hf := if_t hf c229
          refine lv_iload hx hb dL_law_844 (lv_at hl 1 rfl) ?_
          have hj861 : ∀ (h231 : Hp) (kc232 ks232 cells slots : Nat) (H : Heap) (locs : List Loc) (ls : Array Slot), (j3 h231 kc232 ks232) = some (1 : Int32) → lv_has ls 7 [(0, .ref b), (1, .ref (ι p1_)), (2, .ref (ι p2_)), (3, .ref (ι p3_)), (4, .int z4), (5, .int v218), (6, .int v224)] → WD D dA b0 ι h231 s.heap H locs → cells + kc232 ≤ room_1.cells → slots + ks232 ≤ room_1.slots → W p l e room_1 s m #[Value.ref b] below meth c H locs cells slots (lw_Z below #[Value.ref b] s) (F0 m 861 ls []) := by
            intro h231 kc232 ks232 cells slots H locs ls hf hl w hcl hsl
            refine lv_goto (tgt := 889) hx hb dL_law_861 (by decide) ?_
            exact hj889 h231 kc232 ks232 _ _ H locs ls (by rw [ej3] at hf; exact hf) (lv_sub hl [0, 1, 2, 3, 4] rfl) w hcl hsl
          obtain ⟨j230, ej230, hf⟩ := jn_s hf
          refine lv_if_ne (tgt := 861) hx hb dL_law_846 (by decide) (fun c233 => ?_) (fun c233 => ?_)
          · have hf := if_f hf c233
            exact hj861 h228 kc220 ks220 _ _ H locs ls (by rw [ej230] at hf; exact hf) (lv_sub hl [2, 3, 4, 5, 6, 1, 0] rfl) w hcl hsl
          · have hf := if_t hf c233
            refine lv_aload_n hx hb dL_law_849 rfl (lv_at hl 5 rfl) ?_
            refine lv_iconst (v := (0 : Int32)) hx hb dL_law_850 (by decide) ?_
            obtain ⟨v234, ev234, hf⟩ := ob_s hf
            refine px_jald hx hb hK w ev234 dL_law_851 ?_
            refine lv_iload hx hb dL_law_852 (lv_at hl 0 rfl) ?_
            refine lv_i2l hx hb dL_law_854 rfl ?_
            refine W.lcmp hx hb dL_law_855 ?_
            refine lv_if_eq (tgt := 861) hx hb dL_law_856 (by decide) (fun c235 => ?_) (fun c235 => ?_)
            · have hf := if_t hf c235
              exact hj861 h228 kc220 ks220 _ _ H locs ls (by rw [ej230] at hf; exact hf) (lv_sub hl [2, 3, 4, 5, 6, 1, 0] rfl) w hcl hsl
            · have hf := if_f hf c235
              refine lv_iconst (v := (0 : Int32)) hx hb dL_law_859 (by decide) ?_
              exact absurd (Option.some.inj hf) (by decide)
        · have hf := if_f hf c229
          refine lv_iconst (v := (0 : Int32)) hx hb dL_law_842 (by decide) ?_
          exact absurd (Option.some.inj hf) (by decide)
      have hf := if_f hf hs11
      by_cases hs12 : x7 = 12
      · have hf := if_t hf hs12
        rw [hs12]
        refine lv_tableIn (tgt := 864) hx hb dL_law_39 (by decide) (by decide) rfl (by decide) ?_
        refine lv_aload_n hx hb dL_law_864 rfl (lv_at hl 1 rfl) ?_
        refine lv_aload_n hx hb dL_law_865 rfl (lv_at hl 0 rfl) ?_
        refine lv_iload hx hb dL_law_866 (lv_at hl 4 rfl) ?_
        refine lv_iconst (v := (1 : Int32)) hx hb dL_law_868 (by decide) ?_
        refine lv_iadd hx hb dL_law_869 ?_
        obtain ⟨v236, ev236, hf⟩ := ob_s hf
        refine px_sld hx hb hX hbl w hb0 ev236 dL_law_870 ?_
        obtain ⟨u237, eu237, hf⟩ := ob_s hf
        obtain ⟨⟨v238, h239⟩, eh239, hf⟩ := ob_s hf
        try dsimp only at hf
        refine px_callVi (As := [.int v236]) (rest := []) ⟨hx, hb, hml, hown, hts⟩ hC w (kX7_count l D dA b0 ι N p1_ v236 h0 v238 h239 eh239) (cwV 1 hts gq_X7_count rfl rfl rfl (by decide +kernel) ⟨Nat.le_of_ble_eq_true rfl, Nat.le_of_ble_eq_true rfl⟩) eu237 rfl rfl hl.1 rfl (Nat.le_of_ble_eq_true rfl) dL_law_871 ⟨Nat.le_trans (Nat.le_add_right _ _) hcl, Nat.le_trans (Nat.le_add_right _ _) hsl⟩ (fun H locs w => ?_)
        refine lv_aload_n hx hb dL_law_874 rfl (lv_at hl 2 rfl) ?_
        refine lv_aload_n hx hb dL_law_875 rfl (lv_at hl 0 rfl) ?_
        refine lv_iload hx hb dL_law_876 (lv_at hl 4 rfl) ?_
        refine lv_iconst (v := (1 : Int32)) hx hb dL_law_878 (by decide) ?_
        refine lv_iadd hx hb dL_law_879 ?_
        obtain ⟨v240, ev240, hf⟩ := ob_s hf
        refine px_sld hx hb hX hbl w hb0 ev240 dL_law_880 ?_
        obtain ⟨u241, eu241, hf⟩ := ob_s hf
        obtain ⟨⟨v242, h243⟩, eh243, hf⟩ := ob_s hf
        try dsimp only at hf
        refine px_callVi (As := [.int v240]) (rest := [.int v238]) ⟨hx, hb, hml, hown, hts⟩ hC w (kX8_count l D dA b0 ι N p2_ v240 h239 v242 h243 eh243) (cwV 1 hts gq_X8_count rfl rfl rfl (by decide +kernel) ⟨Nat.le_of_ble_eq_true rfl, Nat.le_of_ble_eq_true rfl⟩) eu241 rfl rfl hl.1 rfl (Nat.le_of_ble_eq_true rfl) dL_law_881 ⟨Nat.le_trans (Nat.le_add_right _ _) hcl, Nat.le_trans (Nat.le_add_right _ _) hsl⟩ (fun H locs w => ?_)
        refine lv_icmp_eq (tgt := 889) hx hb dL_law_884 (by decide) (fun c244 => ?_) (fun c244 => ?_)
        · have hf := if_t hf c244
          exact hj889 h243 kc0 ks0 _ _ H locs ls (by rw [ej3] at hf; exact hf) (lv_sub hl [0, 1, 2, 3, 4] rfl) w hcl hsl
        · have hf := if_f hf c244
          refine lv_iconst (v := (0 : Int32)) hx hb dL_law_887 (by decide) ?_
          exact absurd (Option.some.inj hf) (by decide)
      have hf := if_f hf hs12
      refine lv_tableOut (tgt := 889) hx hb dL_law_39 (sw_out hs0 hs1 hs2 hs3 hs4 hs5 hs6 hs7 hs8 hs9 hs10 hs11 hs12) (by decide) ?_
      exact hj889 h0 kc0 ks0 _ _ H locs ls (by rw [ej3] at hf; exact hf) (lv_sub hl [0, 1, 2, 3, 4] rfl) w hcl hsl
