/-! throws: four classes of exceptions, thrown by NormalForms alone; what the tables must say of them, the row of a throw, the row of a call that throws -/
def exN (k : Nat) : String := if k = 0 then "java/lang/NegativeArraySizeException" else if k = 1 then "java/lang/IllegalArgumentException" else if k = 2 then "java/lang/IllegalStateException" else "java/lang/ArrayIndexOutOfBoundsException"
def exU (k : Nat) : List String := if k = 3 then ["java/lang/IndexOutOfBoundsException", "java/lang/RuntimeException", "java/lang/Exception"] else ["java/lang/RuntimeException", "java/lang/Exception"]
def exK (k : Nat) : Nat := if k = 0 then 67 else if k = 1 then 74 else if k = 2 then 194 else 185
def exC (k : Nat) : Nat := if k = 0 then 71 else if k = 1 then 78 else if k = 2 then 198 else 189
def exS : List (Nat × String) := [(69, "a size is below 0"), (76, "a size is above 4"), (171, "there is no such root"), (173, "a block's size is below 1"), (187, "there is no such power"), (190, "there is no such row or column"), (192, "there is no such form"), (196, "there are not as many rows as columns"), (199, "that form isn't there")]
def exA (k : Nat) : List Cond := Cond.classLink RX7 (exK k) (exN k) :: Cond.initialized (exN k) :: vx_atS RX7 (exC k) (exN k) (exU k)
def exAll : List Cond := exA 0 ++ exA 1 ++ exA 2 ++ exA 3
def exG : List Cond := exAll.filter goodWord
def exB : List Cond := exAll.filter (fun w => !goodWord w)
def exKind (w : Cond) : Bool := match w with | .castable _ _ => true | .declares _ => true | _ => false
theorem exB_kind : ∀ w ∈ exB, exKind w = true := by decide +kernel
theorem exA_ot : ∀ w ∈ exAll, vx_ot w = true := by decide +kernel
theorem exKind_warm {w : Cond} {s U : State} (hk : exKind w = true) (hW : s.WarmedH U.vm) (h : va_Nw w s) : va_Nw w U := by
  unfold exKind at hk
  split at hk
  · exact va_Nw.warmC hW h
  · exact va_Nw.warmD hW h
  · cases hk
theorem exKind_tab {w : Cond} (hk : exKind w = true) : w.onTables = true := by
  unfold exKind at hk
  split at hk
  · rfl
  · rfl
  · cases hk
theorem exA_in {k : Nat} (hk : k < 4) : ∀ w ∈ exA k, w ∈ exAll := by
  intro w hw
  unfold exAll
  rcases (show k = 0 ∨ k = 1 ∨ k = 2 ∨ k = 3 by omega) with rfl | rfl | rfl | rfl
  · exact List.mem_append_left _ (List.mem_append_left _ (List.mem_append_left _ hw))
  · exact List.mem_append_left _ (List.mem_append_left _ (List.mem_append_right _ hw))
  · exact List.mem_append_left _ (List.mem_append_right _ hw)
  · exact List.mem_append_right _ hw
def XT (b0 : Nat) (U : State) : Prop := vx_Zq Bundle.tN "UNASSIGNED_STACK" Bundle.steD (qA b0) U U.heap ∧ vx_Zq Bundle.tN "SUPPRESSED_SENTINEL" Bundle.listD (qA b0) U U.heap ∧ (∀ q ∈ exS, ∃ sa, vk_R RX7 q.1 q.2 sa U) ∧ ∀ w ∈ exB, va_Nw w U
theorem XT.at {b0 : Nat} {s U : State} {locs : List Loc} (h : XT b0 s) (hS : va_S (qA b0) s.heap U.heap locs) (hW : s.WarmedH U.vm) : XT b0 U :=
  ⟨vx_Zq.kept (vx_Zq.moved hW.alike h.1) (fun a h1 h2 => hS.2.1 a h1 h2), vx_Zq.kept (vx_Zq.moved hW.alike h.2.1) (fun a h1 h2 => hS.2.1 a h1 h2), fun q hq => by obtain ⟨sa, hs⟩ := h.2.2.1 q hq; exact ⟨sa, vk_R.warm hW hs⟩, fun w hw => exKind_warm (exB_kind w hw) hW (h.2.2.2 w hw)⟩
theorem XT.calling {b0 : Nat} {U : State} (g : JFrame) (mk : MethodId) (a : Array Value) (h : XT b0 U) : XT b0 (U.calling g mk a) :=
  ⟨vx_Zq.moved (u := U) (U := U.calling g mk a) (Vm.Alike.refl U.vm) h.1, vx_Zq.moved (u := U) (U := U.calling g mk a) (Vm.Alike.refl U.vm) h.2.1, fun q hq => by obtain ⟨sa, hs⟩ := h.2.2.1 q hq; exact ⟨sa, vk_R.same (u := U) (U := U.calling g mk a) rfl hs⟩, fun w hw => va_Nw.same (u := U) (U := U.calling g mk a) (exKind_tab (exB_kind w hw)) rfl (h.2.2.2 w hw)⟩
abbrev PX (D : va_G) (dA : Nat → ClassId) (b0 : Nat) (ι : Nat → Nat) (av : List Value) (h : Hp) : Array Value → State → Prop := va_Pc av (fun U => WP D dA b0 ι h U ∧ XT b0 U)
theorem PX_blind {D : va_G} {dA : Nat → ClassId} {b0 : Nat} {ι : Nat → Nat} {av : List Value} {h : Hp} : FrameBlind (PX D dA b0 ι av h) := fun a U g mk q => ⟨q.1, WP.calling g mk a q.2.1, XT.calling g mk a q.2.2⟩
theorem PX_pre {D : va_G} {dA : Nat → ClassId} {b0 : Nat} {ι : Nat → Nat} {av : List Value} {h : Hp} {s : State} {H : Heap} {locs : List Loc} (w : WD D dA b0 ι h s.heap H locs) (hC : CF D dA s) (xt : XT b0 s) : ∀ U : State, U.heap = H → s.WarmedH U.vm → PX D dA b0 ι av h av.toArray U := fun U hU hW => by
  obtain ⟨h1, h2⟩ := PC_pre (av := av) w hC U hU hW
  obtain ⟨L, gg, g1, g2, g3, g4, g5⟩ := w
  subst hU
  exact ⟨h1, h2, xt.at g3 hW⟩
/-- the world without the tables' facts -/
def WQ (D : va_G) (dA : Nat → ClassId) (b0 : Nat) (ι : Nat → Nat) (h : Hp) (U : State) : Prop := ∃ (L : List Nat) (g : Nat → va_E), va_P D vwCl (va_pl L g) U.heap ∧ va_D (fun q => b0 ≤ q) (va_pl L g) ∧ wM dA ι h L g
abbrev XQ (D : va_G) (dA : Nat → ClassId) (b0 : Nat) (ι : Nat → Nat) (k : Nat) (h : Hp) : String → State → State → Prop := vx_X (fun _ : Unit => True) (fun E _ t => E = exN k ∧ WQ D dA b0 ι h t) (qA b0)
abbrev QF : Array Value → State → Outcome → State → Prop := fun _ _ _ _ => False
theorem WQ_after {D : va_G} {dA : Nat → ClassId} {b0 : Nat} {ι : Nat → Nat} {h : Hp} {t : State} {H0 H1 : Heap} {locs : List Loc} (hz : b0 ≤ H0.size) (hS : va_S (qA b0) H0 H1 locs) (ht : t.heap = H1) (w : WQ D dA b0 ι h t) : WD D dA b0 ι h H0 H1 locs := by
  obtain ⟨L, gg, h1, h2, h3⟩ := w
  subst ht
  exact ⟨L, gg, h1, h2, hS, h3, hz⟩
theorem gx_V {A X B : List Cond} {own C : String} {i : Nat} {y : MethodName} (hg : GoodIn A (wsV own i C y B)) (hX : ∀ w ∈ X, goodWord w = true) : GoodIn (A ++ X) (wsV own i C y (B ++ X)) := by
  intro w hw
  unfold wsV at hw hg
  rw [← List.append_assoc] at hw
  rcases List.mem_append.mp hw with h | h
  · exact ⟨List.mem_append_left _ (hg w h).1, (hg w h).2⟩
  · exact ⟨List.mem_append_right _ h, good_of_word (hX w h)⟩
theorem gx_0 {A X B : List Cond} (hg : GoodIn A B) : GoodIn (A ++ X) B := fun w hw => ⟨List.mem_append_left _ (hg w hw).1, (hg w hw).2⟩
theorem exG_good : ∀ w ∈ exG, goodWord w = true := fun w hw => (List.mem_filter.mp hw).2
section PT
variable {p : Program} {l : Launch} {e : Env} {R : Room} {s : State} {m : MethodId} {args : Array Value} {below : List Frame} {meth : Method} {c : Code} {H : Heap} {locs : List Loc} {D : va_G} {dA : Nat → ClassId} {b0 : Nat} {ι : Nat → Nat} {h h' : Hp} {cc : ByteArray} {pc : Nat} {ls : Array Slot} {rest : List Value}
theorem px_throw (hexec : p.tables.exec = Jvm.exec) (hb : c.code = cc) (hl0 : l.stackTraces = false) {Ts : List Cond} (hts : ∀ w ∈ Ts, w.before args s = true) (hG : ∀ w ∈ exG, w ∈ Ts) (hown : s.vm.findClass RX7 = some m.cls) (w : WD D dA b0 ι h s.heap H locs) (xt : XT b0 s) (k : Nat) (hk : k < 4) (hfit : Bundle.fit (exN k) = true) (hfu : ∀ n ∈ exU k, Bundle.fit n = true) {is : Nat} {text : String} (hstr : (is, text) ∈ exS) (hml : ls.size = c.maxLocals)
    (d0 : decode cc pc = .ok (.new (exK k), 3)) (d3 : decode cc (pc + 3) = .ok (.dup, 1)) (d4 : decode cc (pc + 4) = .ok (.ldc is, 2)) (d6 : decode cc (pc + 6) = .ok (.invokespecial (exC k), 3)) (d9 : decode cc (pc + 9) = .ok (.athrow, 1)) (hnoh : ∀ x ∈ c.exceptionTable.toList, False) (hRf : (exU k).length + 3 < R.frames) (hRl : (rest.map fun v => v.category).sum + (13 * ((exU k).length + 1) + 43) ≤ R.locals) (hRc : 1 ≤ R.cells) (hRs : 6 ≤ R.slots) (hlocks : meth.locks = false) {k' : Nat} {α : Type} (hh : (some (Sum.inl k, h) : Option ((Nat ⊕ α) × Hp)) = some (Sum.inl k', h')) : W p l e R s m args below meth c H locs 0 0 (vx_MQ below QF (XQ D dA b0 ι k' h') args s 1 6 (qA b0)) (F0 m pc ls rest) := by
  obtain ⟨rfl, rfl⟩ : k = k' ∧ h = h' := by cases hh; exact ⟨rfl, rfl⟩
  obtain ⟨L, gg, g1, g2, g3, g4, g5⟩ := w
  obtain ⟨sa, hsa⟩ := xt.2.2.1 _ hstr
  have hall : ∀ w ∈ exA k, w.before args s = true := fun w hw => by
    have hw' := exA_in hk w hw
    by_cases hg : goodWord w = true
    · exact hts w (hG w (List.mem_filter.mpr ⟨hw', hg⟩))
    · have hwB : w ∈ exB := List.mem_filter.mpr ⟨hw', by simpa using hg⟩
      exact va_Nw.use (exKind_tab (exB_kind w hwB)) (xt.2.2.2 w hwB)
  refine vx_throwS hexec hb hl0 hown hfit hfu (hall _ List.mem_cons_self) (hall _ (List.mem_cons_of_mem _ List.mem_cons_self)) hsa (fun w hw => hall w (List.mem_cons_of_mem _ (List.mem_cons_of_mem _ hw))) (fun w hw => exA_ot w (exA_in hk w hw)) xt.1 xt.2.1 g3 hml d0 d3 d4 d6 d9 (fun x hx => (hnoh x hx).elim) hRf hRl (by omega) (by omega) hlocks (fun t hvm hz ho => ?_) g3.2.2 (Nat.le_refl _) (Nat.le_refl _)
  have hk2 : ∀ (i : Nat) (x : Nat × va_E), (va_pl L gg)[i]? = some x → t.heap[x.1]? = H[x.1]? := fun i x hx => ho x.1 ((g1 i x hx).lt)
  exact ⟨(), trivial, ⟨rfl, L, gg, va_P.kept g1 hk2, g2, g4⟩, Nat.le_trans g3.1 hz, fun q h1 h2 => (ho q (Nat.lt_of_lt_of_le h1 g3.1)).trans (g3.2.1 q h1 h2)⟩
theorem px_tcall {y : MethodName} {ws : List Cond} {rm : Room} {bytes : ByteArray} {maxL nL n index b ci N : Nat} {TT : u_T} {ret : Option FieldType} {Ts : List Cond} {own C : String} {As st0 : List Value} {k k' : Nat} {h2 : Hp} (S : CallFix p m c cc nL s args Ts own) (hC : CF D dA s) (xt : XT b0 s) (w : WD D dA b0 ι h s.heap H locs) (hM : vx_Met l y ws rm (PX D dA b0 ι (.ref (ι b) :: As) h) QF (XQ D dA b0 ι k h2) 1 6 (qA b0)) (cw : CallW R s args own C index y bytes maxL ret ws rm 1 6 n) {u : Unit} (hob : cK h b ci = some u) (hc : vwCl[ci]? = some (C, TT, N)) (hn : As.length = n) (hsize : ls.size = nL) (hst : st0 = As.reverse ++ .ref (ι b) :: rest) (hW : (rest.map fun v => v.category).sum ≤ 8) (hdg : decode cc pc = .ok (.invokevirtual index, 3)) (hf : 0 + 1 ≤ R.cells ∧ 0 + 6 ≤ R.slots) (hnoh : ∀ x ∈ c.exceptionTable.toList, False) (hlocks : meth.locks = false) (hk : k = k' ∧ h2 = h') : W p l e R s m args below meth c H locs 0 0 (vx_MQ below QF (XQ D dA b0 ι k' h') args s 1 6 (qA b0)) (F0 m pc ls st0) := by
  obtain ⟨rfl, rfl⟩ := hk
  have hw := id w
  obtain ⟨L, g, hP, hD, hS, hm, hz⟩ := hw
  have hr := vx_runV (cells := 0) (slots := 0) (locs := locs) (e := e) (below := below) (meth := meth) (g := F0 m pc ls st0) (As := As) (rest := rest) S hM cw ⟨PX_blind, px_recv hC.1 w hob hc, PX_pre w hC xt⟩ rfl hn hsize hst (lv_room (m := m) (pc := pc) (ls := ls) (rest := st0) hW) hdg hf
  intro T hT X
  rcases hr T hT X with ⟨v, st₀, t, T', L', h0, X', hL, e1, e2, hq, st⟩ | ⟨q, st₀, t, T', L', E, ce, h0, X', hL, e1, e2, ⟨u, hp, hb, hF⟩, hce, hcv, hcl, st⟩
  · exact hq.elim
  · obtain ⟨hE, hB⟩ := hb
    obtain ⟨k1, k2, k3⟩ := vx_keep h0 e1 hS (fun q _ h => h) (fun q h => h) hL hF
    obtain ⟨t2, a1, b1⟩ := vx_out (Qc := QF) (XC := XQ D dA b0 ι k h2) (mc := 1) (ms := 6) (free := qA b0) (pc := pc) (ls := ls) (rest := rest) (E := E) (q := q) (fun x hx => (hnoh x hx).elim) hlocks (by rw [e1]; exact hce) hcv hcl (fun t' ht' hv' => by
      obtain ⟨L2, g2, f1, f2, f3⟩ := hB
      refine ⟨(), trivial, ⟨hE, L2, g2, by rw [ht', e1]; exact f1, f2, f3⟩, ?_, ?_⟩
      · rw [ht']; exact k3.1
      · intro q' h1' h2'; rw [ht']; exact k3.2.1 q' h1' h2') k3.2.2 (Nat.le_refl _) (Nat.le_refl _) T' rfl X'
    exact ⟨t2, st.trans a1, b1⟩
end PT
theorem thr_l {α β : Type} {c : Nat} {h : Hp} {k : α → Option ((Nat ⊕ β) × Hp)} {r : Option ((Nat ⊕ β) × Hp)} (e : thr (.inl c) h k = r) : some (.inl c, h) = r := e
theorem thr_r {α β : Type} {v : α} {h : Hp} {k : α → Option ((Nat ⊕ β) × Hp)} {r : Option ((Nat ⊕ β) × Hp)} (e : thr (.inr v) h k = r) : k v = r := e
theorem inl_s {β : Type} {c k : Nat} {h h' : Hp} (e : (some (Sum.inl c, h) : Option ((Nat ⊕ β) × Hp)) = some (Sum.inl k, h')) : c = k ∧ h = h' := by cases e; exact ⟨rfl, rfl⟩
theorem inr_s {β : Type} {v r : β} {h h' : Hp} (e : (some (Sum.inr v, h) : Option ((Nat ⊕ β) × Hp)) = some (Sum.inr r, h')) : some (v, h) = some (r, h') := by cases e; rfl
theorem inr_v {u r : Unit} {h h' : Hp} (e : (some (Sum.inr u, h) : Option ((Nat ⊕ Unit) × Hp)) = some (Sum.inr r, h')) : some h = some h' := by cases e; rfl
