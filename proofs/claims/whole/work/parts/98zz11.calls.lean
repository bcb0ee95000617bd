theorem qv_end {D : va_G} {dA : Nat → ClassId} {b0 : Nat} {ι : Nat → Nat} {h h' : Hp} {s : State} {H : Heap} {locs : List Loc} {a : Array Value} (he : some h = some h') (w : WD D dA b0 ι h s.heap H locs) (hC : CF D dA s) : ∀ t : State, t.heap = H → s.WarmedH t.vm → QV D dA b0 ι h' a s (.returned none) t := by
  cases he
  intro t ht hW
  obtain ⟨h1, h2⟩ := w.done hC ht hW
  exact ⟨⟨(), rfl, trivial, h1⟩, h2⟩
theorem qi_end {D : va_G} {dA : Nat → ClassId} {b0 : Nat} {ι : Nat → Nat} {h h' : Hp} {v r : Int32} {s : State} {H : Heap} {locs : List Loc} {a : Array Value} (he : some (v, h) = some (r, h')) (w : WD D dA b0 ι h s.heap H locs) (hC : CF D dA s) : ∀ t : State, t.heap = H → s.WarmedH t.vm → QI D dA b0 ι r h' a s (.returned (some (.int v))) t := by
  cases he
  intro t ht hW
  obtain ⟨h1, h2⟩ := w.done hC ht hW
  exact ⟨⟨v, (), rfl, rfl, h1⟩, h2⟩
theorem qr_end {D : va_G} {dA : Nat → ClassId} {b0 : Nat} {ι : Nat → Nat} {h h' : Hp} {v r : Nat} {s : State} {H : Heap} {locs : List Loc} {a : Array Value} (he : some (v, h) = some (r, h')) (w : WD D dA b0 ι h s.heap H locs) (hC : CF D dA s) : ∀ t : State, t.heap = H → s.WarmedH t.vm → QR D dA b0 ι r h' a s (.returned (some (.ref (ι v)))) t := by
  cases he
  intro t ht hW
  obtain ⟨h1, h2⟩ := w.done hC ht hW
  exact ⟨⟨(), ι v, rfl, trivial, rfl, h1⟩, h2⟩
theorem nar01 {v : Int32} (h : v = 0 ∨ v = 1) : narrow .boolean (.int v) = .int v := by
  rcases h with rfl | rfl <;> rfl
theorem ob_s {α β : Type} {a : Option α} {f : α → Option β} {r : β} (h : a.bind f = some r) : ∃ v, a = some v ∧ f v = some r := by
  cases a with
  | none => cases h
  | some v => exact ⟨v, rfl, h⟩
theorem if_t {α : Type} {c : Prop} [Decidable c] {a b r : α} (h : (if c then a else b) = r) (hc : c) : a = r := by rw [if_pos hc] at h; exact h
theorem if_f {α : Type} {c : Prop} [Decidable c] {a b r : α} (h : (if c then a else b) = r) (hc : ¬ c) : b = r := by rw [if_neg hc] at h; exact h
theorem if_s {α : Type} {c : Prop} [Decidable c] {a : Option α} {r : α} (h : (if c then a else none) = some r) : c ∧ a = some r := by
  by_cases hc : c
  · rw [if_pos hc] at h; exact ⟨hc, h⟩
  · rw [if_neg hc] at h; cases h
section PXC
variable {p : Program} {l : Launch} {e : Env} {R : Room} {s : State} {m : MethodId} {args : Array Value} {below : List Frame} {meth : Method} {c : Code} {H H0 : Heap} {locs : List Loc} {cells slots : Nat} {Q : State → Prop} {D : va_G} {dA : Nat → ClassId} {b0 : Nat} {ι : Nat → Nat} {h h' : Hp} {cc : ByteArray} {pc : Nat} {ls : Array Slot} {rest st0 : List Value} {y : MethodName} {ws : List Cond} {rm : Room} {bytes : ByteArray} {maxL nL n index : Nat} {ret : Option FieldType} {Ts : List Cond} {own C : String} {As : List Value} {b ci : Nat} {TT : u_T} {N : Nat}
theorem px_recv (hK : va_K D vwCl (tysA dA) s) (w : WD D dA b0 ι h H0 H locs) {u : Unit} (hob : cK h b ci = some u) (hc : vwCl[ci]? = some (C, TT, N)) : ∃ cell : Cell, H[ι b]? = some cell ∧ cell.vm.isStatics = false ∧ s.vm.findClass C = some cell.cls := by
  obtain ⟨L, g, hP, hD, hS, hm, hz⟩ := w
  obtain ⟨fs, he⟩ := cK_spec hob
  obtain ⟨hL, hge⟩ := hm.1 b _ he
  obtain ⟨q, hq⟩ := va_pl_get (X := []) (f := g) hL
  exact va_recv (q := (C, TT, N)) hK hP hc (q0 := q) (fs := fs.map (cvV ι)) (by rw [hge] at hq; exact hq)
theorem px_callVv (S : CallFix p m c cc nL s args Ts own) (hC : CF D dA s) (w : WD D dA b0 ι h s.heap H locs) (hM : Met l y ws rm (PC D dA b0 ι (.ref (ι b) :: As) h) (QV D dA b0 ι h') 0 0 (qA b0)) (cw : CallW R s args own C index y bytes maxL ret ws rm 0 0 n) {u : Unit} (hob : cK h b ci = some u) (hc : vwCl[ci]? = some (C, TT, N)) (hn : As.length = n) (hsize : ls.size = nL) (hst : st0 = As.reverse ++ .ref (ι b) :: rest) (hW : (rest.map fun v => v.category).sum ≤ 8) (hdg : decode cc pc = .ok (.invokevirtual index, 3)) (hf : cells + 0 ≤ R.cells ∧ slots + 0 ≤ R.slots)
    (kk : ∀ (H1 : Heap) (locs1 : List Loc), WD D dA b0 ι h' s.heap H1 locs1 → W p l e R s m args below meth c H1 locs1 cells slots Q (F0 m (pc + 3) ls rest)) : W p l e R s m args below meth c H locs cells slots Q (F0 m pc ls st0) := by
  have hw := id w
  obtain ⟨L, g, hP, hD, hS, hm, hz⟩ := hw
  refine va_callv (va_runV (g := F0 m pc ls st0) (As := As) (rest := rest) S hM cw ⟨PC_blind, px_recv hC.1 w hob hc, PC_pre w hC⟩ rfl hn hsize hst (lv_room (m := m) (pc := pc) (ls := ls) (rest := st0) hW) hdg hf) hS (fun q _ h => h) (fun q h => h) (fun u t H1 locs1 ht hvm hw hB hz1 hk1 hS1 => ?_)
  exact kk H1 locs1 (PC_after hz hS1 ht hB)
theorem px_callVi {r : Int32} (S : CallFix p m c cc nL s args Ts own) (hC : CF D dA s) (w : WD D dA b0 ι h s.heap H locs) (hM : Met l y ws rm (PC D dA b0 ι (.ref (ι b) :: As) h) (QI D dA b0 ι r h') 0 0 (qA b0)) (cw : CallW R s args own C index y bytes maxL ret ws rm 0 0 n) {u : Unit} (hob : cK h b ci = some u) (hc : vwCl[ci]? = some (C, TT, N)) (hn : As.length = n) (hsize : ls.size = nL) (hst : st0 = As.reverse ++ .ref (ι b) :: rest) (hW : (rest.map fun v => v.category).sum ≤ 8) (hdg : decode cc pc = .ok (.invokevirtual index, 3)) (hf : cells + 0 ≤ R.cells ∧ slots + 0 ≤ R.slots)
    (kk : ∀ (H1 : Heap) (locs1 : List Loc), WD D dA b0 ι h' s.heap H1 locs1 → W p l e R s m args below meth c H1 locs1 cells slots Q (F0 m (pc + 3) ls (.int r :: rest))) : W p l e R s m args below meth c H locs cells slots Q (F0 m pc ls st0) := by
  have hw := id w
  obtain ⟨L, g, hP, hD, hS, hm, hz⟩ := hw
  refine va_calli (va_runV (g := F0 m pc ls st0) (As := As) (rest := rest) S hM cw ⟨PC_blind, px_recv hC.1 w hob hc, PC_pre w hC⟩ rfl hn hsize hst (lv_room (m := m) (pc := pc) (ls := ls) (rest := st0) hW) hdg hf) hS (fun q _ h => h) (fun q h => h) (fun r1 u t H1 locs1 ht hvm hw hB hz1 hk1 hS1 => ?_)
  subst hw
  exact kk H1 locs1 (PC_after hz hS1 ht hB)
theorem px_callVr {r : Nat} (S : CallFix p m c cc nL s args Ts own) (hC : CF D dA s) (w : WD D dA b0 ι h s.heap H locs) (hM : Met l y ws rm (PC D dA b0 ι (.ref (ι b) :: As) h) (QR D dA b0 ι r h') 0 0 (qA b0)) (cw : CallW R s args own C index y bytes maxL ret ws rm 0 0 n) {u : Unit} (hob : cK h b ci = some u) (hc : vwCl[ci]? = some (C, TT, N)) (hn : As.length = n) (hsize : ls.size = nL) (hst : st0 = As.reverse ++ .ref (ι b) :: rest) (hW : (rest.map fun v => v.category).sum ≤ 8) (hdg : decode cc pc = .ok (.invokevirtual index, 3)) (hf : cells + 0 ≤ R.cells ∧ slots + 0 ≤ R.slots)
    (kk : ∀ (H1 : Heap) (locs1 : List Loc), WD D dA b0 ι h' s.heap H1 locs1 → W p l e R s m args below meth c H1 locs1 cells slots Q (F0 m (pc + 3) ls (.ref (ι r) :: rest))) : W p l e R s m args below meth c H locs cells slots Q (F0 m pc ls st0) := by
  have hw := id w
  obtain ⟨L, g, hP, hD, hS, hm, hz⟩ := hw
  refine va_callr (va_runV (g := F0 m pc ls st0) (As := As) (rest := rest) S hM cw ⟨PC_blind, px_recv hC.1 w hob hc, PC_pre w hC⟩ rfl hn hsize hst (lv_room (m := m) (pc := pc) (ls := ls) (rest := st0) hW) hdg hf) hS (fun q _ h => h) (fun q h => h) (fun u ra t H1 locs1 ht hvm hw hB hz1 hk1 hS1 => ?_)
  obtain ⟨hra, hB⟩ := hB
  subst hra
  exact kk H1 locs1 (PC_after hz hS1 ht hB)
theorem px_callSv (S : CallFix p m c cc nL s args Ts own) (hC : CF D dA s) (w : WD D dA b0 ι h s.heap H locs) (hM : Met l y ws rm (PC D dA b0 ι As h) (QV D dA b0 ι h') 0 0 (qA b0)) (cw : CallB R s args own index y bytes maxL ret ws rm 0 0 n ∧ (Cond.static y).before args s = true) (hn : As.length = n) (hsize : ls.size = nL) (hst : st0 = As.reverse ++ rest) (hW : (rest.map fun v => v.category).sum ≤ 8) (hdg : decode cc pc = .ok (.invokestatic index, 3)) (hf : cells + 0 ≤ R.cells ∧ slots + 0 ≤ R.slots)
    (kk : ∀ (H1 : Heap) (locs1 : List Loc), WD D dA b0 ι h' s.heap H1 locs1 → W p l e R s m args below meth c H1 locs1 cells slots Q (F0 m (pc + 3) ls rest)) : W p l e R s m args below meth c H locs cells slots Q (F0 m pc ls st0) := by
  have hw := id w
  obtain ⟨L, g, hP, hD, hS, hm, hz⟩ := hw
  refine va_callv (va_runS (g := F0 m pc ls st0) (As := As) (rest := rest) S hM cw ⟨PC_blind, PC_pre w hC⟩ rfl hn hsize hst (lv_room (m := m) (pc := pc) (ls := ls) (rest := st0) hW) hdg hf) hS (fun q _ h => h) (fun q h => h) (fun u t H1 locs1 ht hvm hw hB hz1 hk1 hS1 => ?_)
  exact kk H1 locs1 (PC_after hz hS1 ht hB)
theorem px_callSi {r : Int32} (S : CallFix p m c cc nL s args Ts own) (hC : CF D dA s) (w : WD D dA b0 ι h s.heap H locs) (hM : Met l y ws rm (PC D dA b0 ι As h) (QI D dA b0 ι r h') 0 0 (qA b0)) (cw : CallB R s args own index y bytes maxL ret ws rm 0 0 n ∧ (Cond.static y).before args s = true) (hn : As.length = n) (hsize : ls.size = nL) (hst : st0 = As.reverse ++ rest) (hW : (rest.map fun v => v.category).sum ≤ 8) (hdg : decode cc pc = .ok (.invokestatic index, 3)) (hf : cells + 0 ≤ R.cells ∧ slots + 0 ≤ R.slots)
    (kk : ∀ (H1 : Heap) (locs1 : List Loc), WD D dA b0 ι h' s.heap H1 locs1 → W p l e R s m args below meth c H1 locs1 cells slots Q (F0 m (pc + 3) ls (.int r :: rest))) : W p l e R s m args below meth c H locs cells slots Q (F0 m pc ls st0) := by
  have hw := id w
  obtain ⟨L, g, hP, hD, hS, hm, hz⟩ := hw
  refine va_calli (va_runS (g := F0 m pc ls st0) (As := As) (rest := rest) S hM cw ⟨PC_blind, PC_pre w hC⟩ rfl hn hsize hst (lv_room (m := m) (pc := pc) (ls := ls) (rest := st0) hW) hdg hf) hS (fun q _ h => h) (fun q h => h) (fun r1 u t H1 locs1 ht hvm hw hB hz1 hk1 hS1 => ?_)
  subst hw
  exact kk H1 locs1 (PC_after hz hS1 ht hB)
theorem px_callSNi {host : String} {r : Int32} (S : CallFix p m c cc nL s args Ts own) (hC : CF D dA s) (w : WD D dA b0 ι h s.heap H locs) (hM : Met l y ws rm (PC D dA b0 ι As h) (QI D dA b0 ι r h') 0 0 (qA b0)) (cw : va_CN R s args own index y host bytes maxL ret ws rm 0 0 n ∧ (Cond.static y).before args s = true ∧ True) (hn : As.length = n) (hsize : ls.size = nL) (hst : st0 = As.reverse ++ rest) (hW : (rest.map fun v => v.category).sum ≤ 8) (hdg : decode cc pc = .ok (.invokestatic index, 3)) (hf : cells + 0 ≤ R.cells ∧ slots + 0 ≤ R.slots)
    (kk : ∀ (H1 : Heap) (locs1 : List Loc), WD D dA b0 ι h' s.heap H1 locs1 → W p l e R s m args below meth c H1 locs1 cells slots Q (F0 m (pc + 3) ls (.int r :: rest))) : W p l e R s m args below meth c H locs cells slots Q (F0 m pc ls st0) := by
  have hw := id w
  obtain ⟨L, g, hP, hD, hS, hm, hz⟩ := hw
  refine va_calli (va_runSN (g := F0 m pc ls st0) (As := As) (rest := rest) S hM cw ⟨PC_blind, PC_pre w hC⟩ rfl hn hsize hst (lv_room (m := m) (pc := pc) (ls := ls) (rest := st0) hW) hdg hf) hS (fun q _ h => h) (fun q h => h) (fun r1 u t H1 locs1 ht hvm hw hB hz1 hk1 hS1 => ?_)
  subst hw
  exact kk H1 locs1 (PC_after hz hS1 ht hB)
end PXC
theorem nm_s {α β : Type} {a : α} {f : α → β} {r : β} (h : nm a f = r) : ∃ x, x = a ∧ f x = r := ⟨a, rfl, h⟩
theorem jn_s {α ρ : Type} {k : α} {f : α → ρ} {r : ρ} (h : jn k f = r) : ∃ j, j = k ∧ f j = r := ⟨k, rfl, h⟩
section PXD
variable {p : Program} {l : Launch} {e : Env} {R : Room} {s : State} {m : MethodId} {args : Array Value} {below : List Frame} {meth : Method} {c : Code} {H : Heap} {locs : List Loc} {cells slots : Nat} {Q : State → Prop} {cc : ByteArray} {pc : Nat} {ls : Array Slot} {rest : List Value}
theorem px_start {H : Heap} {g : JFrame} (hH : H = s.heap) (k : W p l e R s m args below meth c H locs cells slots Q g) : W p l e R s m args below meth c s.heap locs cells slots Q g := hH ▸ k
theorem px_nmI {x y : Int32} (he : y = x) (k : W p l e R s m args below meth c H locs cells slots Q (F0 m pc ls (.int y :: rest))) : W p l e R s m args below meth c H locs cells slots Q (F0 m pc ls (.int x :: rest)) := he ▸ k
theorem px_nmJ {x y : Int64} (he : y = x) (k : W p l e R s m args below meth c H locs cells slots Q (F0 m pc ls (.long y :: rest))) : W p l e R s m args below meth c H locs cells slots Q (F0 m pc ls (.long x :: rest)) := he ▸ k
theorem px_idiv (hexec : p.tables.exec = Jvm.exec) (hb : c.code = cc) {x y : Int32} (hdg : decode cc pc = .ok (.idiv, 1)) (hne : ¬ y = 0) (k : W p l e R s m args below meth c H locs cells slots Q (F0 m (pc + 1) ls (.int (x / y) :: rest))) : W p l e R s m args below meth c H locs cells slots Q (F0 m pc ls (.int y :: .int x :: rest)) := lv_idiv hexec hb hdg hne k
theorem px_irem (hexec : p.tables.exec = Jvm.exec) (hb : c.code = cc) {x y : Int32} (hdg : decode cc pc = .ok (.irem, 1)) (hne : ¬ y = 0) (k : W p l e R s m args below meth c H locs cells slots Q (F0 m (pc + 1) ls (.int (irm x y) :: rest))) : W p l e R s m args below meth c H locs cells slots Q (F0 m pc ls (.int y :: .int x :: rest)) := lv_irem hexec hb hdg hne k
theorem px_lrem (hexec : p.tables.exec = Jvm.exec) (hb : c.code = cc) {x y : Int64} (hdg : decode cc pc = .ok (.lrem, 1)) (hne : ¬ y = 0) (k : W p l e R s m args below meth c H locs cells slots Q (F0 m (pc + 1) ls (.long (lrm x y) :: rest))) : W p l e R s m args below meth c H locs cells slots Q (F0 m pc ls (.long y :: .long x :: rest)) := lv_lrem hexec hb hdg hne k
theorem px_mmax (hexec : p.tables.exec = Jvm.exec) (hb : c.code = cc) (hml : c.maxLocals = ls.size) {own : String} {index : Nat} (hown : s.vm.findClass own = some m.cls) (hlink : (Cond.methodLink own index Lib.Math.max.name).before args s = true) (hstat : (Cond.static Lib.Math.max.name).before args s = true) (hini : (Cond.initialized "java/lang/Math").before args s = true) (hcode : (Cond.code Lib.Math.max.name Lib.Math.max.code 2 (some .int)).before args s = true)
    (hframes : 1 ≤ R.frames) (hlocals : (rest.map fun v => v.category).sum + 13 ≤ R.locals) (hc : cells ≤ R.cells) (hs : slots ≤ R.slots) {x y : Int32} (hdg : decode cc pc = .ok (.invokestatic index, 3)) (k : W p l e R s m args below meth c H locs cells slots Q (F0 m (pc + 3) ls (.int (imx x y) :: rest))) : W p l e R s m args below meth c H locs cells slots Q (F0 m pc ls (.int y :: .int x :: rest)) := va_mmax hexec hb hml hown hlink hstat hini hcode hframes hlocals hc hs hdg k
theorem px_mmin (hexec : p.tables.exec = Jvm.exec) (hb : c.code = cc) (hml : c.maxLocals = ls.size) {own : String} {index : Nat} (hown : s.vm.findClass own = some m.cls) (hlink : (Cond.methodLink own index Lib.Math.min.name).before args s = true) (hstat : (Cond.static Lib.Math.min.name).before args s = true) (hini : (Cond.initialized "java/lang/Math").before args s = true) (hcode : (Cond.code Lib.Math.min.name Lib.Math.min.code 2 (some .int)).before args s = true)
    (hframes : 1 ≤ R.frames) (hlocals : (rest.map fun v => v.category).sum + 13 ≤ R.locals) (hc : cells ≤ R.cells) (hs : slots ≤ R.slots) {x y : Int32} (hdg : decode cc pc = .ok (.invokestatic index, 3)) (k : W p l e R s m args below meth c H locs cells slots Q (F0 m (pc + 3) ls (.int (imn x y) :: rest))) : W p l e R s m args below meth c H locs cells slots Q (F0 m pc ls (.int y :: .int x :: rest)) := va_mmin hexec hb hml hown hlink hstat hini hcode hframes hlocals hc hs hdg k
end PXD
