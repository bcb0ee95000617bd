/-! the law's helpers: a call of the class in a try, its exceptions caught -/
def ncP : List (String × String) := [(exN 1, exN 0), (exN 2, exN 1), (exN 3, exN 1), (exN 3, exN 2), (exN 1, exN 2)]
def XL (b0 : Nat) (U : State) : Prop := XT b0 U ∧ ∀ q ∈ ncP, va_Nc q.1 q.2 U
theorem XL.at {b0 : Nat} {s U : State} {locs : List Loc} (h : XL b0 s) (hS : va_S (qA b0) s.heap U.heap locs) (hW : s.WarmedH U.vm) : XL b0 U := ⟨h.1.at hS hW, fun q hq => va_Nc.moved hW.alike (h.2 q hq)⟩
theorem XL.calling {b0 : Nat} {U : State} (g : JFrame) (mk : MethodId) (a : Array Value) (h : XL b0 U) : XL b0 (U.calling g mk a) := ⟨h.1.calling g mk a, fun q hq => va_Nc.moved (u := U) (U := U.calling g mk a) (Vm.Alike.refl U.vm) (h.2 q hq)⟩
abbrev PL (D : va_G) (dA : Nat → ClassId) (b0 : Nat) (ι : Nat → Nat) (av : List Value) (h : Hp) : Array Value → State → Prop := va_Pc av (fun U => WP D dA b0 ι h U ∧ XL b0 U)
theorem PL_blind {D : va_G} {dA : Nat → ClassId} {b0 : Nat} {ι : Nat → Nat} {av : List Value} {h : Hp} : FrameBlind (PL D dA b0 ι av h) := fun a U g mk q => ⟨q.1, WP.calling g mk a q.2.1, XL.calling g mk a q.2.2⟩
theorem PL_pre {D : va_G} {dA : Nat → ClassId} {b0 : Nat} {ι : Nat → Nat} {av : List Value} {h : Hp} {s : State} {H : Heap} {locs : List Loc} (w : WD D dA b0 ι h s.heap H locs) (hC : CF D dA s) (xl : XL b0 s) : ∀ U : State, U.heap = H → s.WarmedH U.vm → PL D dA b0 ι av h av.toArray U := fun U hU hW => by
  obtain ⟨h1, h2⟩ := PC_pre (av := av) w hC U hU hW
  obtain ⟨L, gg, g1, g2, g3, g4, g5⟩ := w
  subst hU
  exact ⟨h1, h2, xl.at g3 hW⟩
abbrev XF (b0 : Nat) : String → State → State → Prop := vx_X (fun _ : Unit => False) (fun _ _ _ => True) (qA b0)
theorem cast_in {k : Nat} (hk : k < 4) : Cond.castable (exN k) (exN k) ∈ exB := by
  rcases (show k = 0 ∨ k = 1 ∨ k = 2 ∨ k = 3 by omega) with rfl | rfl | rfl | rfl <;> decide +kernel
section PH
variable {p : Program} {l : Launch} {e : Env} {R : Room} {s : State} {m : MethodId} {args : Array Value} {below : List Frame} {meth : Method} {c : Code} {H : Heap} {locs : List Loc} {Q : State → Prop} {D : va_G} {dA : Nat → ClassId} {b0 : Nat} {ι : Nat → Nat} {h h' : Hp} {cc : ByteArray} {pc : Nat} {ls : Array Slot} {rest : List Value}
theorem px_tcatch {y : MethodName} {ws : List Cond} {rm : Room} {bytes : ByteArray} {maxL nL n index b ci N : Nat} {TT : u_T} {ret : Option FieldType} {Ts : List Cond} {own C : String} {As st0 : List Value} {k : Nat} {h2 : Hp} (S : CallFix p m c cc nL s args Ts own) (hC : CF D dA s) (xt : XT b0 s) (w : WD D dA b0 ι h s.heap H locs) (hM : vx_Met l y ws rm (PX D dA b0 ι (.ref (ι b) :: As) h) QF (XQ D dA b0 ι k h2) 1 6 (qA b0)) (cw : CallW R s args own C index y bytes maxL ret ws rm 1 6 n) {u : Unit} (hob : cK h b ci = some u) (hc : vwCl[ci]? = some (C, TT, N)) (hn : As.length = n) (hsize : ls.size = nL) (hst : st0 = As.reverse ++ .ref (ι b) :: rest) (hW : (rest.map fun v => v.category).sum ≤ 8) (hdg : decode cc pc = .ok (.invokevirtual index, 3)) (hf : 0 + 1 ≤ R.cells ∧ 0 + 6 ≤ R.slots) (hk : k < 4)
    (pre : List ExceptionTableEntry) (x : ExceptionTableEntry) (suf : List ExceptionTableEntry) (hsplit : c.exceptionTable.toList = pre ++ x :: suf) (hpass : ∀ z ∈ pre, covers z pc = false ∨ (z.catchType ≠ 0 ∧ ∃ nm : String, (Cond.classLink own z.catchType nm).before args s = true ∧ va_Nc (exN k) nm s)) (hx : covers x pc = true) (h0 : x.catchType ≠ 0) (hlink : (Cond.classLink own x.catchType (exN k)).before args s = true)
    (kk : ∀ (q : Nat) (H1 : Heap) (locs1 : List Loc), WD D dA b0 ι h2 s.heap H1 locs1 → W p l e R s m args below meth c H1 locs1 1 6 Q (F0 m x.handlerPc ls [.ref q])) : W p l e R s m args below meth c H locs 0 0 Q (F0 m pc ls st0) := by
  have hw := id w
  obtain ⟨L, g, hP, hD, hS, hm, hz⟩ := hw
  have hown : s.vm.findClass own = some m.cls := S.2.2.2.1
  have hr := vx_runV (cells := 0) (slots := 0) (locs := locs) (e := e) (below := below) (meth := meth) (g := F0 m pc ls st0) (As := As) (rest := rest) S hM cw ⟨PX_blind, px_recv hC.1 w hob hc, PX_pre w hC xt⟩ rfl hn hsize hst (lv_room (m := m) (pc := pc) (ls := ls) (rest := st0) hW) hdg hf
  intro T hT X
  rcases hr T hT X with ⟨v, st₀, t, T', L', h0', X', hL, e1, e2, hq, st⟩ | ⟨q, st₀, t, T', L', E, ce, h0', X', hL, e1, e2, ⟨u, hp, hb, hF⟩, hce, hcv, hcl, st⟩
  · exact hq.elim
  · obtain ⟨rfl, hB⟩ := hb
    obtain ⟨k1, k2, k3⟩ := vx_keep h0' e1 hS (fun q _ h => h) (fun q h => h) hL hF
    have wd : WD D dA b0 ι h2 s.heap T'.heap (locs ++ L') := WQ_after hz k3 e1.symm hB
    obtain ⟨t2, a1, b1⟩ := vx_catch (own := own) (name := exN k) (E := exN k) (ce := ce) (q := q) (pc := pc) (ls := ls) (rest := rest) hown pre x suf hsplit hpass hx h0 hlink (va_Nw.use rfl (xt.2.2.2 _ (cast_in hk))) (by rw [e1]; exact hce) hcv hcl (kk q T'.heap (locs ++ L') wd) T' rfl X'
    exact ⟨t2, st.trans a1, b1⟩
theorem px_callSX {y : MethodName} {ws : List Cond} {rm : Room} {bytes : ByteArray} {maxL nL n index kc ks kc' ks' cells slots : Nat} {ret : Option FieldType} {hh : List (Nat × Nat × Nat × Nat)} {Ts : List Cond} {own : String} {As st0 : List Value} {r : Int32} (S : CallFix p m c cc nL s args Ts own) (hC : CF D dA s) (xl : XL b0 s) (w : WD D dA b0 ι h s.heap H locs) (hM : vx_Met l y ws rm (PL D dA b0 ι As h) (QI D dA b0 ι r h') (XF b0) 1 6 (qA b0)) (cw : vx_CSW R s args own index y bytes maxL ret hh ws rm 1 6 n) (hbc : bC kc ks 1 6 = some (kc', ks')) (hcl : cells + kc ≤ R.cells) (hsl : slots + ks ≤ R.slots) (hn : As.length = n) (hsize : ls.size = nL) (hst : st0 = As.reverse ++ rest) (hW : (rest.map fun v => v.category).sum ≤ 8) (hdg : decode cc pc = .ok (.invokestatic index, 3))
    (kk : ∀ (H1 : Heap) (locs1 : List Loc) (cells1 slots1 : Nat), WD D dA b0 ι h' s.heap H1 locs1 → cells1 + kc' ≤ R.cells → slots1 + ks' ≤ R.slots → W p l e R s m args below meth c H1 locs1 cells1 slots1 Q (F0 m (pc + 3) ls (.int r :: rest))) : W p l e R s m args below meth c H locs cells slots Q (F0 m pc ls st0) := by
  obtain ⟨⟨b1, b2⟩, rfl, rfl⟩ := bC_spec hbc
  have hw := id w
  obtain ⟨L, g, hP, hD, hS, hm, hz⟩ := hw
  refine vx_calli (vx_runSX (g := F0 m pc ls st0) (As := As) (rest := rest) S hM cw ⟨PL_blind, PL_pre w hC xl⟩ rfl hn hsize hst (lv_room (m := m) (pc := pc) (ls := ls) (rest := st0) hW) hdg ⟨by omega, by omega⟩) hS (fun q _ h => h) (fun q h => h) (fun q _ h => h) (fun E ce q9 u t H1 locs1 ht hvm hp hB hz1 hk1 hS1 hce hcv hcl => hp.elim) (fun r1 u t H1 locs1 ht hvm hw hB hz1 hk1 hS1 => ?_)
  subst hw
  exact kk H1 locs1 (cells + 1) (slots + 6) (PC_after hz hS1 ht hB) (by omega) (by omega)
end PH
theorem hnd_l {α β : Type} {c : Nat} {f : Nat → Option β} {g : α → Option β} {r : Option β} (e : hnd (.inl c) f g = r) : f c = r := e
theorem hnd_r {α β : Type} {v : α} {f : Nat → Option β} {g : α → Option β} {r : Option β} (e : hnd (.inr v) f g = r) : g v = r := e
def exY : List Cond := [Cond.classLink RL 13 (exN 0), Cond.classLink RL 15 (exN 1), Cond.classLink RL 34 (exN 2), Cond.classLink RL 21 (exN 3)]
