/-! MY BASE: a pure heap of the cells that the law makes, by their numbers from the law's first heap size on; rows of the machine over it -/
def cvV (ι : Nat → Nat) (v : Value) : Value := match v with | .ref a => .ref (ι a) | v => v
def cvA (ι : Nat → Nat) (x : vp_A) : vp_A := match x with | (n, .inr (.inr (.inr (.inr f)))) => (n, .inr (.inr (.inr (.inr (fun i => (f i).map ι))))) | x => x
def cvE (ι : Nat → Nat) (dA : Nat → ClassId) (e : hE) : va_E := match e with | .inl (k, x) => .inl (dA k, cvA ι x) | .inr (ci, fs) => .inr (ci, fs.map (cvV ι))
abbrev tysA (dA : Nat → ClassId) : List (ClassId × FieldType) := [(dA 0, .int), (dA 1, .long), (dA 2, .boolean), (dA 3, .object RX2), (dA 4, .object RX4), (dA 5, .object RX6)]
-- reading and writing of the pure heap
-- what they say
theorem gI_spec {h : Hp} {a ci k : Nat} {v : Int32} (e : gI h a ci k = some v) : ∃ fs, h a = some (.inr (ci, fs)) ∧ fs[k]? = some (.int v) := by
  unfold gI at e
  split at e
  · rename_i c fs hh
    split at e
    · rename_i hc
      split at e
      · rename_i v' hv
        cases e
        exact ⟨fs, by rw [hh, hc], hv⟩
      · cases e
    · cases e
  · cases e
theorem gR_spec {h : Hp} {a ci k : Nat} {v : Nat} (e : gR h a ci k = some v) : ∃ fs, h a = some (.inr (ci, fs)) ∧ fs[k]? = some (.ref v) := by
  unfold gR at e
  split at e
  · rename_i c fs hh
    split at e
    · rename_i hc
      split at e
      · rename_i v' hv
        cases e
        exact ⟨fs, by rw [hh, hc], hv⟩
      · cases e
    · cases e
  · cases e
theorem pV_spec {h h' : Hp} {a ci k : Nat} {v : Value} (e : pV h a ci k v = some h') : ∃ fs, h a = some (.inr (ci, fs)) ∧ k < fs.length ∧ h' = hset h a (.inr (ci, fs.set k v)) := by
  unfold pV at e
  split at e
  · rename_i c fs hh
    split at e
    · rename_i hc
      cases e
      exact ⟨fs, by rw [hh, hc.1], hc.2, rfl⟩
    · cases e
  · cases e
theorem cK_spec {h : Hp} {a ci : Nat} {u : Unit} (e : cK h a ci = some u) : ∃ fs, h a = some (.inr (ci, fs)) := by
  unfold cK at e
  split at e
  · rename_i c fs hh
    split at e
    · rename_i hc
      exact ⟨fs, by rw [hh, hc]⟩
    · cases e
  · cases e
theorem aI_spec {h : Hp} {a : Nat} {i v : Int32} (e : aI h a i = some v) : ∃ n f, h a = some (.inl (0, n, .inl f)) ∧ vp_in i n ∧ v = f i.toNatClampNeg := by
  unfold aI at e
  split at e
  · rename_i k n f hh
    split at e
    · rename_i hc
      cases e
      exact ⟨n, f, by rw [hh, hc.1], hc.2, rfl⟩
    · cases e
  · cases e
theorem aIs_spec {h h' : Hp} {a : Nat} {i x : Int32} (e : aIs h a i x = some h') : ∃ n f, h a = some (.inl (0, n, .inl f)) ∧ vp_in i n ∧ h' = hset h a (.inl (0, n, .inl (upd f i.toNatClampNeg x))) := by
  unfold aIs at e
  split at e
  · rename_i k n f hh
    split at e
    · rename_i hc
      cases e
      exact ⟨n, f, by rw [hh, hc.1], hc.2, rfl⟩
    · cases e
  · cases e
theorem aZ_spec {h : Hp} {a : Nat} {i v : Int32} (e : aZ h a i = some v) : ∃ n f, h a = some (.inl (2, n, .inl f)) ∧ vp_in i n ∧ v = f i.toNatClampNeg := by
  unfold aZ at e
  split at e
  · rename_i k n f hh
    split at e
    · rename_i hc
      cases e
      exact ⟨n, f, by rw [hh, hc.1], hc.2, rfl⟩
    · cases e
  · cases e
theorem aZs_spec {h h' : Hp} {a : Nat} {i x : Int32} (e : aZs h a i x = some h') : ∃ n f, h a = some (.inl (2, n, .inl f)) ∧ vp_in i n ∧ h' = hset h a (.inl (2, n, .inl (upd f i.toNatClampNeg (vp_nar .boolean x)))) := by
  unfold aZs at e
  split at e
  · rename_i k n f hh
    split at e
    · rename_i hc
      cases e
      exact ⟨n, f, by rw [hh, hc.1], hc.2, rfl⟩
    · cases e
  · cases e
theorem aJ_spec {h : Hp} {a : Nat} {i : Int32} {v : Int64} (e : aJ h a i = some v) : ∃ n f, h a = some (.inl (1, n, .inr (.inl f))) ∧ vp_in i n ∧ v = f i.toNatClampNeg := by
  unfold aJ at e
  split at e
  · rename_i k n f hh
    split at e
    · rename_i hc
      cases e
      exact ⟨n, f, by rw [hh, hc.1], hc.2, rfl⟩
    · cases e
  · cases e
theorem aJs_spec {h h' : Hp} {a : Nat} {i : Int32} {x : Int64} (e : aJs h a i x = some h') : ∃ n f, h a = some (.inl (1, n, .inr (.inl f))) ∧ vp_in i n ∧ h' = hset h a (.inl (1, n, .inr (.inl (vp_updL f i.toNatClampNeg x)))) := by
  unfold aJs at e
  split at e
  · rename_i k n f hh
    split at e
    · rename_i hc
      cases e
      exact ⟨n, f, by rw [hh, hc.1], hc.2, rfl⟩
    · cases e
  · cases e
theorem aR_spec {h : Hp} {a t : Nat} {i : Int32} {v : Nat} (e : aR h a t i = some v) : ∃ n f, h a = some (.inl (t, n, .inr (.inr (.inr (.inr f))))) ∧ vp_in i n ∧ f i.toNatClampNeg = some v := by
  unfold aR at e
  split at e
  · rename_i k n f hh
    split at e
    · rename_i hc
      exact ⟨n, f, by rw [hh, hc.1], hc.2, e⟩
    · cases e
  · cases e
theorem aRs_spec {h h' : Hp} {a t ci : Nat} {i : Int32} {v : Nat} (e : aRs h a t ci i v = some h') : ∃ n f fs, h a = some (.inl (t, n, .inr (.inr (.inr (.inr f))))) ∧ h v = some (.inr (ci, fs)) ∧ vp_in i n ∧ h' = hset h a (.inl (t, n, .inr (.inr (.inr (.inr (va_up f i.toNatClampNeg (some v))))))) := by
  unfold aRs at e
  split at e
  · rename_i k n f c fs hh hv
    split at e
    · rename_i hc
      cases e
      exact ⟨n, f, fs, by rw [hh, hc.1.1], by rw [hv, hc.1.2], hc.2, rfl⟩
    · cases e
  · cases e
theorem aLen_spec {h : Hp} {a t : Nat} {v : Int32} (e : aLen h a t = some v) : ∃ x, h a = some (.inl (t, x)) ∧ Int32.ofNat x.1 = v := by
  unfold aLen at e
  split at e
  · rename_i k x hh
    split at e
    · rename_i hc
      cases e
      exact ⟨x, by rw [hh, hc], rfl⟩
    · cases e
  · cases e
-- facts of the tables that don't change
def aoF (U : State) : Prop := va_AO RX2 U ∧ va_AO RX4 U ∧ va_AO RX6 U
def CF (D : va_G) (dA : Nat → ClassId) (U : State) : Prop := va_K D vwCl (tysA dA) U ∧ (∀ w ∈ nestL, va_Nw w U) ∧ aoF U
theorem CF.warm {D : va_G} {dA : Nat → ClassId} {s U : State} (hW : s.WarmedH U.vm) (h : CF D dA s) : CF D dA U :=
  ⟨va_K.moved hW.alike h.1, fun w hw => nest_warm hW w hw (h.2.1 w hw), va_AO.moved hW.alike h.2.2.1, va_AO.moved hW.alike h.2.2.2.1, va_AO.moved hW.alike h.2.2.2.2⟩
theorem CF.calling {D : va_G} {dA : Nat → ClassId} {U : State} (g : JFrame) (mk : MethodId) (a : Array Value) (h : CF D dA U) : CF D dA (U.calling g mk a) :=
  ⟨va_K.moved (u := U) (U := U.calling g mk a) (Vm.Alike.refl U.vm) h.1, fun w hw => va_Nw.same (u := U) (U := U.calling g mk a) (nest_tab w hw) rfl (h.2.1 w hw), va_AO.moved (u := U) (U := U.calling g mk a) (Vm.Alike.refl U.vm) h.2.2.1, va_AO.moved (u := U) (U := U.calling g mk a) (Vm.Alike.refl U.vm) h.2.2.2.1, va_AO.moved (u := U) (U := U.calling g mk a) (Vm.Alike.refl U.vm) h.2.2.2.2⟩
-- the world that a heap of the machine holds
def wM (dA : Nat → ClassId) (ι : Nat → Nat) (h : Hp) (L : List Nat) (g : Nat → va_E) : Prop := (∀ (a : Nat) (e : hE), h a = some e → (ι a) ∈ L ∧ g (ι a) = cvE ι dA e) ∧ ∀ (a b : Nat) (e f : hE), h a = some e → h b = some f → ι a = ι b → a = b
def WD (D : va_G) (dA : Nat → ClassId) (b0 : Nat) (ι : Nat → Nat) (h : Hp) (H0 H : Heap) (locs : List Loc) : Prop := ∃ (L : List Nat) (g : Nat → va_E), va_P D vwCl (va_pl L g) H ∧ va_D (fun q => b0 ≤ q) (va_pl L g) ∧ va_S (fun q => b0 ≤ q) H0 H locs ∧ wM dA ι h L g ∧ b0 ≤ H0.size
def WP (D : va_G) (dA : Nat → ClassId) (b0 : Nat) (ι : Nat → Nat) (h : Hp) (U : State) : Prop := ∃ (L : List Nat) (g : Nat → va_E), va_P D vwCl (va_pl L g) U.heap ∧ va_D (fun q => b0 ≤ q) (va_pl L g) ∧ wM dA ι h L g ∧ b0 ≤ U.heap.size ∧ CF D dA U
theorem wM_set {dA : Nat → ClassId} {ι : Nat → Nat} {h : Hp} {L : List Nat} {g : Nat → va_E} {a : Nat} {e0 : hE} (hm : wM dA ι h L g) (ha : h a = some e0) (e : hE) : wM dA ι (hset h a e) L (va_up g (ι a) (cvE ι dA e)) := by
  have dom : ∀ (x : Nat) (e' : hE), hset h a e x = some e' → ∃ e1, h x = some e1 := fun x e' hx => by
    by_cases hxa : x = a
    · subst hxa
      exact ⟨e0, ha⟩
    · rw [hset_ne _ _ hxa] at hx
      exact ⟨e', hx⟩
  refine ⟨fun x e' hx => ?_, fun x y e1 e2 h1 h2 hxy => ?_⟩
  · by_cases hxa : x = a
    · subst hxa
      rw [hset_self] at hx
      cases hx
      exact ⟨(hm.1 x e0 ha).1, va_up_self _ _ _⟩
    · rw [hset_ne _ _ hxa] at hx
      obtain ⟨h1, h2⟩ := hm.1 x e' hx
      exact ⟨h1, by rw [va_up_ne _ _ (fun q => hxa (hm.2 x a e' e0 hx ha q))]; exact h2⟩
  · obtain ⟨f1, hf1⟩ := dom x e1 h1
    obtain ⟨f2, hf2⟩ := dom y e2 h2
    exact hm.2 x y f1 f2 hf1 hf2 hxy
theorem WP.calling {D : va_G} {dA : Nat → ClassId} {b0 : Nat} {ι : Nat → Nat} {h : Hp} {U : State} (g : JFrame) (mk : MethodId) (a : Array Value) (w : WP D dA b0 ι h U) : WP D dA b0 ι h (U.calling g mk a) := by
  obtain ⟨L, gg, h1, h2, h3, h4, h5⟩ := w
  exact ⟨L, gg, h1, h2, h3, h4, CF.calling g mk a h5⟩
theorem WD.start {D : va_G} {dA : Nat → ClassId} {b0 : Nat} {ι : Nat → Nat} {h : Hp} {U : State} (w : WP D dA b0 ι h U) : WD D dA b0 ι h U.heap U.heap [] := by
  obtain ⟨L, gg, h1, h2, h3, h4, h5⟩ := w
  exact ⟨L, gg, h1, h2, va_S.rf, h3, h4⟩
theorem WP.c {D : va_G} {dA : Nat → ClassId} {b0 : Nat} {ι : Nat → Nat} {h : Hp} {U : State} (w : WP D dA b0 ι h U) : CF D dA U := by
  obtain ⟨L, gg, h1, h2, h3, h4, h5⟩ := w
  exact h5
theorem WD.locs_ok {D : va_G} {dA : Nat → ClassId} {b0 : Nat} {ι : Nat → Nat} {h : Hp} {H0 H : Heap} {locs : List Loc} (w : WD D dA b0 ι h H0 H locs) : ∀ q ∈ locs, b0 ≤ q.base := by
  obtain ⟨L, gg, h1, h2, h3, h4, h5⟩ := w
  exact h3.2.2
theorem WD.done {D : va_G} {dA : Nat → ClassId} {b0 : Nat} {ι : Nat → Nat} {h : Hp} {s t : State} {H : Heap} {locs : List Loc} (w : WD D dA b0 ι h s.heap H locs) (hC : CF D dA s) (ht : t.heap = H) (hW : s.WarmedH t.vm) : WP D dA b0 ι h t ∧ va_F (fun q => b0 ≤ q) s t := by
  obtain ⟨L, gg, h1, h2, h3, h4, h5⟩ := w
  subst ht
  exact ⟨⟨L, gg, h1, h2, h4, Nat.le_trans h5 h3.1, CF.warm hW hC⟩, h3.1, h3.2.1⟩
-- what a method promises
abbrev qA (b0 : Nat) : Nat → Prop := fun q => b0 ≤ q
abbrev QV (D : va_G) (dA : Nat → ClassId) (b0 : Nat) (ι : Nat → Nat) (h' : Hp) : Array Value → State → Outcome → State → Prop := va_Qv (fun _ : Unit => True) (fun _ t => WP D dA b0 ι h' t) (qA b0)
abbrev QI (D : va_G) (dA : Nat → ClassId) (b0 : Nat) (ι : Nat → Nat) (r : Int32) (h' : Hp) : Array Value → State → Outcome → State → Prop := va_Qi (fun x (_ : Unit) => x = r) (fun _ t => WP D dA b0 ι h' t) (qA b0)
abbrev QR (D : va_G) (dA : Nat → ClassId) (b0 : Nat) (ι : Nat → Nat) (r : Nat) (h' : Hp) : Array Value → State → Outcome → State → Prop := va_Qr (fun _ : Unit => True) (fun _ a t => a = ι r ∧ WP D dA b0 ι h' t) (qA b0)
abbrev PC (D : va_G) (dA : Nat → ClassId) (b0 : Nat) (ι : Nat → Nat) (av : List Value) (h : Hp) : Array Value → State → Prop := va_Pc av (WP D dA b0 ι h)
theorem PC_blind {D : va_G} {dA : Nat → ClassId} {b0 : Nat} {ι : Nat → Nat} {av : List Value} {h : Hp} : FrameBlind (PC D dA b0 ι av h) := fun a U g mk q => ⟨q.1, WP.calling g mk a q.2⟩
theorem PC_pre {D : va_G} {dA : Nat → ClassId} {b0 : Nat} {ι : Nat → Nat} {av : List Value} {h : Hp} {s : State} {H0 H : Heap} {locs : List Loc} (w : WD D dA b0 ι h H0 H locs) (hC : CF D dA s) : ∀ U : State, U.heap = H → s.WarmedH U.vm → PC D dA b0 ι av h av.toArray U := fun U hU hW => by
  obtain ⟨L, gg, h1, h2, h3, h4, h5⟩ := w
  subst hU
  exact ⟨rfl, L, gg, h1, h2, h4, Nat.le_trans h5 h3.1, CF.warm hW hC⟩
theorem PC_after {D : va_G} {dA : Nat → ClassId} {b0 : Nat} {ι : Nat → Nat} {h : Hp} {t : State} {H0 H1 : Heap} {locs : List Loc} (hz : b0 ≤ H0.size) (hS : va_S (qA b0) H0 H1 locs) (ht : t.heap = H1) (w : WP D dA b0 ι h t) : WD D dA b0 ι h H0 H1 locs := by
  obtain ⟨L, gg, h1, h2, h3, h4, h5⟩ := w
  subst ht
  exact ⟨L, gg, h1, h2, hS, h3, hz⟩
section PX
variable {p : Program} {l : Launch} {e : Env} {R : Room} {s : State} {m : MethodId} {args : Array Value} {below : List Frame} {meth : Method} {c : Code} {H H0 : Heap} {locs : List Loc} {cells slots : Nat} {Q : State → Prop} {D : va_G} {dA : Nat → ClassId} {b0 : Nat} {ι : Nat → Nat} {h h' : Hp} {cc : ByteArray} {pc : Nat} {ls : Array Slot} {rest : List Value}
theorem px_getI (hexec : p.tables.exec = Jvm.exec) (hb : c.code = cc) {own ref C : String} {T : u_T} {N ci index : Nat} {Ts : List Cond} (hts : ∀ w ∈ Ts, w.before args s = true) (hin : ∀ w ∈ u_ws C T N, w ∈ Ts) (hown : s.vm.findClass own = some m.cls) (hK : va_K D vwCl (tysA dA) s) (w : WD D dA b0 ι h H0 H locs) {a k : Nat} {v : Int32} (hg : gI h a ci k = some v) (hc : vwCl[ci]? = some (C, T, N)) (hk : k < N) (hlink : Cond.fieldLink own index ref (T k).2.1 (T k).2.2.1 ∈ Ts) (hsame : ref = (T k).1) (hdg : decode cc pc = .ok (.getfield index, 3))
    (kk : W p l e R s m args below meth c H locs cells slots Q (F0 m (pc + 3) ls (.int v :: rest))) : W p l e R s m args below meth c H locs cells slots Q (F0 m pc ls (.ref (ι a) :: rest)) := by
  obtain ⟨L, g, hP, hD, hS, hm, hz⟩ := w
  obtain ⟨fs, he, hv⟩ := gI_spec hg
  obtain ⟨hL, hge⟩ := hm.1 a _ he
  obtain ⟨q, hq⟩ := va_pl_get (X := []) (f := g) hL
  subst hsame
  exact va_get hexec hb hts hin hown hK hP q (fs := fs.map (cvV ι)) (by rw [hge] at hq; exact hq) hc k hk (hts _ hlink) (fun _ h => h) (v := .int v) (by simp [List.getElem?_map, hv, cvV]) hdg kk
theorem px_getR (hexec : p.tables.exec = Jvm.exec) (hb : c.code = cc) {own ref C : String} {T : u_T} {N ci index : Nat} {Ts : List Cond} (hts : ∀ w ∈ Ts, w.before args s = true) (hin : ∀ w ∈ u_ws C T N, w ∈ Ts) (hown : s.vm.findClass own = some m.cls) (hK : va_K D vwCl (tysA dA) s) (w : WD D dA b0 ι h H0 H locs) {a k : Nat} {v : Nat} (hg : gR h a ci k = some v) (hc : vwCl[ci]? = some (C, T, N)) (hk : k < N) (hlink : Cond.fieldLink own index ref (T k).2.1 (T k).2.2.1 ∈ Ts) (hsame : ref = (T k).1) (hdg : decode cc pc = .ok (.getfield index, 3))
    (kk : W p l e R s m args below meth c H locs cells slots Q (F0 m (pc + 3) ls (.ref (ι v) :: rest))) : W p l e R s m args below meth c H locs cells slots Q (F0 m pc ls (.ref (ι a) :: rest)) := by
  obtain ⟨L, g, hP, hD, hS, hm, hz⟩ := w
  obtain ⟨fs, he, hv⟩ := gR_spec hg
  obtain ⟨hL, hge⟩ := hm.1 a _ he
  obtain ⟨q, hq⟩ := va_pl_get (X := []) (f := g) hL
  subst hsame
  exact va_get hexec hb hts hin hown hK hP q (fs := fs.map (cvV ι)) (by rw [hge] at hq; exact hq) hc k hk (hts _ hlink) (fun _ h => h) (v := .ref (ι v)) (by simp [List.getElem?_map, hv, cvV]) hdg kk
theorem px_put (hexec : p.tables.exec = Jvm.exec) (hb : c.code = cc) {own ref C : String} {T : u_T} {N ci index : Nat} {Ts : List Cond} (hts : ∀ w ∈ Ts, w.before args s = true) (hin : ∀ w ∈ u_ws C T N, w ∈ Ts) (ty0 : Nat → FieldType) (hty : ∀ k, k < N → parseFieldDescriptor (T k).2.2.1 = some (ty0 k)) (hnm : ∀ a, a < N → ∀ b, b < N → a ≠ b → (T a).2.1 ≠ (T b).2.1) (hown : s.vm.findClass own = some m.cls) (hK : va_K D vwCl (tysA dA) s) (w : WD D dA b0 ι h H0 H locs) {a k : Nat} {v : Value} (hg : pV h a ci k v = some h') (hc : vwCl[ci]? = some (C, T, N)) (hk : k < N) (hlink : Cond.fieldLink own index ref (T k).2.1 (T k).2.2.1 ∈ Ts) (hsame : ref = (T k).1) (hfin : (T k).2.2.2 = false) (hn : narrow (ty0 k) (cvV ι v) = cvV ι v) (hfit : fits (ty0 k) (cvV ι v) = true) (hdg : decode cc pc = .ok (.putfield index, 3)) {vv : Value} (hvv : vv = cvV ι v)
    (kk : ∀ (H1 : Heap) (locs1 : List Loc), WD D dA b0 ι h' H0 H1 locs1 → W p l e R s m args below meth c H1 locs1 cells slots Q (F0 m (pc + 3) ls rest)) : W p l e R s m args below meth c H locs cells slots Q (F0 m pc ls (vv :: .ref (ι a) :: rest)) := by
  obtain ⟨L, g, hP, hD, hS, hm, hz⟩ := w
  obtain ⟨fs, he, hl, rfl⟩ := pV_spec hg
  obtain ⟨hL, hge⟩ := hm.1 a _ he
  obtain ⟨q, hq⟩ := va_pl_get (X := []) (f := g) hL
  subst hsame
  subst hvv
  refine va_put hexec hb hts hin ty0 hty hnm hown hK hP hD hS q (fs := fs.map (cvV ι)) (by rw [hge] at hq; exact hq) hc k hk (hts _ hlink) (fun _ h => h) hfin (hty k hk) hn hfit (by rw [List.length_map]; exact hl) hdg (fun H1 locs1 hP1 hD1 hS1 => ?_)
  have hset := va_pl_set (X := []) (e := .inr (ci, (fs.map (cvV ι)).set k (cvV ι v))) hD hL hq
  simp only [List.nil_append] at hset
  rw [hset] at hP1 hD1
  refine kk H1 locs1 ⟨L, _, hP1, hD1, hS1, ?_, hz⟩
  have hx := wM_set hm he (.inr (ci, fs.set k v))
  have hy : cvE ι dA (.inr (ci, fs.set k v)) = .inr (ci, (fs.map (cvV ι)).set k (cvV ι v)) := by simp [cvE, List.map_set]
  rw [hy] at hx
  exact hx
theorem px_getIN (hexec : p.tables.exec = Jvm.exec) (hb : c.code = cc) {own ref C host : String} {T : u_T} {N ci index : Nat} {Ts : List Cond} (hts : ∀ w ∈ Ts, w.before args s = true) (hin : ∀ w ∈ u_ws C T N, w ∈ Ts) (hown : s.vm.findClass own = some m.cls) (hK : va_K D vwCl (tysA dA) s) (w : WD D dA b0 ι h H0 H locs) {a k : Nat} {v : Int32} (hg : gI h a ci k = some v) (hc : vwCl[ci]? = some (C, T, N)) (hk : k < N) (hlink : va_Nw (.fieldLinkNest own index ref (T k).2.1 (T k).2.2.1 host) s) (hsame : ref = (T k).1) (hdg : decode cc pc = .ok (.getfield index, 3))
    (kk : W p l e R s m args below meth c H locs cells slots Q (F0 m (pc + 3) ls (.int v :: rest))) : W p l e R s m args below meth c H locs cells slots Q (F0 m pc ls (.ref (ι a) :: rest)) := by
  obtain ⟨L, g, hP, hD, hS, hm, hz⟩ := w
  obtain ⟨fs, he, hv⟩ := gI_spec hg
  obtain ⟨hL, hge⟩ := hm.1 a _ he
  obtain ⟨q, hq⟩ := va_pl_get (X := []) (f := g) hL
  subst hsame
  exact va_getN hexec hb hts hin hown hK hP q (fs := fs.map (cvV ι)) (by rw [hge] at hq; exact hq) hc k hk (va_Nw.use rfl hlink) (fun _ h => h) (v := .int v) (by simp [List.getElem?_map, hv, cvV]) hdg kk
theorem px_getRN (hexec : p.tables.exec = Jvm.exec) (hb : c.code = cc) {own ref C host : String} {T : u_T} {N ci index : Nat} {Ts : List Cond} (hts : ∀ w ∈ Ts, w.before args s = true) (hin : ∀ w ∈ u_ws C T N, w ∈ Ts) (hown : s.vm.findClass own = some m.cls) (hK : va_K D vwCl (tysA dA) s) (w : WD D dA b0 ι h H0 H locs) {a k : Nat} {v : Nat} (hg : gR h a ci k = some v) (hc : vwCl[ci]? = some (C, T, N)) (hk : k < N) (hlink : va_Nw (.fieldLinkNest own index ref (T k).2.1 (T k).2.2.1 host) s) (hsame : ref = (T k).1) (hdg : decode cc pc = .ok (.getfield index, 3))
    (kk : W p l e R s m args below meth c H locs cells slots Q (F0 m (pc + 3) ls (.ref (ι v) :: rest))) : W p l e R s m args below meth c H locs cells slots Q (F0 m pc ls (.ref (ι a) :: rest)) := by
  obtain ⟨L, g, hP, hD, hS, hm, hz⟩ := w
  obtain ⟨fs, he, hv⟩ := gR_spec hg
  obtain ⟨hL, hge⟩ := hm.1 a _ he
  obtain ⟨q, hq⟩ := va_pl_get (X := []) (f := g) hL
  subst hsame
  exact va_getN hexec hb hts hin hown hK hP q (fs := fs.map (cvV ι)) (by rw [hge] at hq; exact hq) hc k hk (va_Nw.use rfl hlink) (fun _ h => h) (v := .ref (ι v)) (by simp [List.getElem?_map, hv, cvV]) hdg kk
theorem px_putN (hexec : p.tables.exec = Jvm.exec) (hb : c.code = cc) {own ref C host : String} {T : u_T} {N ci index : Nat} {Ts : List Cond} (hts : ∀ w ∈ Ts, w.before args s = true) (hin : ∀ w ∈ u_ws C T N, w ∈ Ts) (ty0 : Nat → FieldType) (hty : ∀ k, k < N → parseFieldDescriptor (T k).2.2.1 = some (ty0 k)) (hnm : ∀ a, a < N → ∀ b, b < N → a ≠ b → (T a).2.1 ≠ (T b).2.1) (hown : s.vm.findClass own = some m.cls) (hK : va_K D vwCl (tysA dA) s) (w : WD D dA b0 ι h H0 H locs) {a k : Nat} {v : Value} (hg : pV h a ci k v = some h') (hc : vwCl[ci]? = some (C, T, N)) (hk : k < N) (hlink : va_Nw (.fieldLinkNest own index ref (T k).2.1 (T k).2.2.1 host) s) (hsame : ref = (T k).1) (hfin : (T k).2.2.2 = false) (hn : narrow (ty0 k) (cvV ι v) = cvV ι v) (hfit : fits (ty0 k) (cvV ι v) = true) (hdg : decode cc pc = .ok (.putfield index, 3)) {vv : Value} (hvv : vv = cvV ι v)
    (kk : ∀ (H1 : Heap) (locs1 : List Loc), WD D dA b0 ι h' H0 H1 locs1 → W p l e R s m args below meth c H1 locs1 cells slots Q (F0 m (pc + 3) ls rest)) : W p l e R s m args below meth c H locs cells slots Q (F0 m pc ls (vv :: .ref (ι a) :: rest)) := by
  obtain ⟨L, g, hP, hD, hS, hm, hz⟩ := w
  obtain ⟨fs, he, hl, rfl⟩ := pV_spec hg
  obtain ⟨hL, hge⟩ := hm.1 a _ he
  obtain ⟨q, hq⟩ := va_pl_get (X := []) (f := g) hL
  subst hsame
  subst hvv
  refine va_putN hexec hb hts hin ty0 hty hnm hown hK hP hD hS q (fs := fs.map (cvV ι)) (by rw [hge] at hq; exact hq) hc k hk (va_Nw.use rfl hlink) (fun _ h => h) hfin (hty k hk) hn hfit (by rw [List.length_map]; exact hl) hdg (fun H1 locs1 hP1 hD1 hS1 => ?_)
  have hset := va_pl_set (X := []) (e := .inr (ci, (fs.map (cvV ι)).set k (cvV ι v))) hD hL hq
  simp only [List.nil_append] at hset
  rw [hset] at hP1 hD1
  refine kk H1 locs1 ⟨L, _, hP1, hD1, hS1, ?_, hz⟩
  have hx := wM_set hm he (.inr (ci, fs.set k v))
  have hy : cvE ι dA (.inr (ci, fs.set k v)) = .inr (ci, (fs.map (cvV ι)).set k (cvV ι v)) := by simp [cvE, List.map_set]
  rw [hy] at hx
  exact hx
theorem px_iald (hexec : p.tables.exec = Jvm.exec) (hb : c.code = cc) (hK : va_K D vwCl (tysA dA) s) (w : WD D dA b0 ι h H0 H locs) {a : Nat} {i v : Int32} (hg : aI h a i = some v) (hdg : decode cc pc = .ok (.iaload, 1))
    (kk : W p l e R s m args below meth c H locs cells slots Q (F0 m (pc + 1) ls (.int v :: rest))) : W p l e R s m args below meth c H locs cells slots Q (F0 m pc ls (.int i :: .ref (ι a) :: rest)) := by
  obtain ⟨L, g, hP, hD, hS, hm, hz⟩ := w
  obtain ⟨n, f, he, hi, rfl⟩ := aI_spec hg
  obtain ⟨hL, hge⟩ := hm.1 a _ he
  obtain ⟨q, hq⟩ := va_pl_get (X := []) (f := g) hL
  exact va_iald hexec hb hK hP q 0 (cA := dA 0) (n := n) (f := f) (by rw [hge] at hq; exact hq) rfl hi hdg kk
theorem px_zald (hexec : p.tables.exec = Jvm.exec) (hb : c.code = cc) (hK : va_K D vwCl (tysA dA) s) (w : WD D dA b0 ι h H0 H locs) {a : Nat} {i v : Int32} (hg : aZ h a i = some v) (hdg : decode cc pc = .ok (.baload, 1))
    (kk : W p l e R s m args below meth c H locs cells slots Q (F0 m (pc + 1) ls (.int v :: rest))) : W p l e R s m args below meth c H locs cells slots Q (F0 m pc ls (.int i :: .ref (ι a) :: rest)) := by
  obtain ⟨L, g, hP, hD, hS, hm, hz⟩ := w
  obtain ⟨n, f, he, hi, rfl⟩ := aZ_spec hg
  obtain ⟨hL, hge⟩ := hm.1 a _ he
  obtain ⟨q, hq⟩ := va_pl_get (X := []) (f := g) hL
  exact va_zald hexec hb hK hP q 2 (cA := dA 2) (n := n) (f := f) (by rw [hge] at hq; exact hq) rfl hi hdg kk
theorem px_jald (hexec : p.tables.exec = Jvm.exec) (hb : c.code = cc) (hK : va_K D vwCl (tysA dA) s) (w : WD D dA b0 ι h H0 H locs) {a : Nat} {i : Int32} {v : Int64} (hg : aJ h a i = some v) (hdg : decode cc pc = .ok (.laload, 1))
    (kk : W p l e R s m args below meth c H locs cells slots Q (F0 m (pc + 1) ls (.long v :: rest))) : W p l e R s m args below meth c H locs cells slots Q (F0 m pc ls (.int i :: .ref (ι a) :: rest)) := by
  obtain ⟨L, g, hP, hD, hS, hm, hz⟩ := w
  obtain ⟨n, f, he, hi, rfl⟩ := aJ_spec hg
  obtain ⟨hL, hge⟩ := hm.1 a _ he
  obtain ⟨q, hq⟩ := va_pl_get (X := []) (f := g) hL
  exact va_lald hexec hb hK hP q 1 (cA := dA 1) (n := n) (f := f) (by rw [hge] at hq; exact hq) rfl hi hdg kk
theorem px_rald (hexec : p.tables.exec = Jvm.exec) (hb : c.code = cc) (hK : va_K D vwCl (tysA dA) s) (w : WD D dA b0 ι h H0 H locs) {a t v : Nat} {i : Int32} {C : String} (hg : aR h a t i = some v) (ht : (tysA dA)[t]? = some (dA t, .object C)) (hdg : decode cc pc = .ok (.aaload, 1))
    (kk : W p l e R s m args below meth c H locs cells slots Q (F0 m (pc + 1) ls (.ref (ι v) :: rest))) : W p l e R s m args below meth c H locs cells slots Q (F0 m pc ls (.int i :: .ref (ι a) :: rest)) := by
  obtain ⟨L, g, hP, hD, hS, hm, hz⟩ := w
  obtain ⟨n, f, he, hi, hv⟩ := aR_spec hg
  obtain ⟨hL, hge⟩ := hm.1 a _ he
  obtain ⟨q, hq⟩ := va_pl_get (X := []) (f := g) hL
  refine va_aldq hexec hb hK hP q t (cA := dA t) (n := n) (f := fun i => (f i).map ι) (by rw [hge] at hq; exact hq) ht hi hdg ?_
  rw [hv]
  exact kk
theorem px_alen (hexec : p.tables.exec = Jvm.exec) (hb : c.code = cc) (hK : va_K D vwCl (tysA dA) s) (w : WD D dA b0 ι h H0 H locs) {a t : Nat} {v : Int32} {ty : FieldType} (hg : aLen h a t = some v) (ht : (tysA dA)[t]? = some (dA t, ty)) (hdg : decode cc pc = .ok (.arraylength, 1))
    (kk : W p l e R s m args below meth c H locs cells slots Q (F0 m (pc + 1) ls (.int v :: rest))) : W p l e R s m args below meth c H locs cells slots Q (F0 m pc ls (.ref (ι a) :: rest)) := by
  obtain ⟨L, g, hP, hD, hS, hm, hz⟩ := w
  obtain ⟨x, he, hv⟩ := aLen_spec hg
  obtain ⟨hL, hge⟩ := hm.1 a _ he
  obtain ⟨q, hq⟩ := va_pl_get (X := []) (f := g) hL
  refine va_alen hexec hb hK hP q t (cA := dA t) (x := cvA ι x) (by rw [hge] at hq; exact hq) ht ?_ hdg kk
  rw [← hv]
  congr 1
  unfold cvA
  split <;> rfl
theorem px_iast (hexec : p.tables.exec = Jvm.exec) (hb : c.code = cc) (hK : va_K D vwCl (tysA dA) s) (w : WD D dA b0 ι h H0 H locs) {a : Nat} {i x : Int32} (hg : aIs h a i x = some h') (hdg : decode cc pc = .ok (.iastore, 1))
    (kk : ∀ (H1 : Heap) (locs1 : List Loc), WD D dA b0 ι h' H0 H1 locs1 → W p l e R s m args below meth c H1 locs1 cells slots Q (F0 m (pc + 1) ls rest)) : W p l e R s m args below meth c H locs cells slots Q (F0 m pc ls (.int x :: .int i :: .ref (ι a) :: rest)) := by
  obtain ⟨L, g, hP, hD, hS, hm, hz⟩ := w
  obtain ⟨n, f, he, hi, rfl⟩ := aIs_spec hg
  obtain ⟨hL, hge⟩ := hm.1 a _ he
  obtain ⟨q, hq⟩ := va_pl_get (X := []) (f := g) hL
  refine va_iast hexec hb hK hP hD hS q 0 (cA := dA 0) (n := n) (f := f) (by rw [hge] at hq; exact hq) rfl hi hdg (fun H1 locs1 hP1 hD1 hS1 => ?_)
  have hset := va_pl_set (X := []) (e := .inl (dA 0, n, .inl (upd f i.toNatClampNeg x))) hD hL hq
  simp only [List.nil_append] at hset
  rw [hset] at hP1 hD1
  exact kk H1 locs1 ⟨L, _, hP1, hD1, hS1, wM_set hm he (.inl (0, n, .inl (upd f i.toNatClampNeg x))), hz⟩
theorem px_zast (hexec : p.tables.exec = Jvm.exec) (hb : c.code = cc) (hK : va_K D vwCl (tysA dA) s) (w : WD D dA b0 ι h H0 H locs) {a : Nat} {i x : Int32} (hg : aZs h a i x = some h') (hdg : decode cc pc = .ok (.bastore, 1))
    (kk : ∀ (H1 : Heap) (locs1 : List Loc), WD D dA b0 ι h' H0 H1 locs1 → W p l e R s m args below meth c H1 locs1 cells slots Q (F0 m (pc + 1) ls rest)) : W p l e R s m args below meth c H locs cells slots Q (F0 m pc ls (.int x :: .int i :: .ref (ι a) :: rest)) := by
  obtain ⟨L, g, hP, hD, hS, hm, hz⟩ := w
  obtain ⟨n, f, he, hi, rfl⟩ := aZs_spec hg
  obtain ⟨hL, hge⟩ := hm.1 a _ he
  obtain ⟨q, hq⟩ := va_pl_get (X := []) (f := g) hL
  refine va_zast hexec hb hK hP hD hS q 2 (cA := dA 2) (n := n) (f := f) (by rw [hge] at hq; exact hq) rfl hi hdg (fun H1 locs1 hP1 hD1 hS1 => ?_)
  have hset := va_pl_set (X := []) (e := .inl (dA 2, n, .inl (upd f i.toNatClampNeg (vp_nar .boolean x)))) hD hL hq
  simp only [List.nil_append] at hset
  rw [hset] at hP1 hD1
  exact kk H1 locs1 ⟨L, _, hP1, hD1, hS1, wM_set hm he (.inl (2, n, .inl (upd f i.toNatClampNeg (vp_nar .boolean x)))), hz⟩
theorem px_jast (hexec : p.tables.exec = Jvm.exec) (hb : c.code = cc) (hK : va_K D vwCl (tysA dA) s) (w : WD D dA b0 ι h H0 H locs) {a : Nat} {i : Int32} {x : Int64} (hg : aJs h a i x = some h') (hdg : decode cc pc = .ok (.lastore, 1))
    (kk : ∀ (H1 : Heap) (locs1 : List Loc), WD D dA b0 ι h' H0 H1 locs1 → W p l e R s m args below meth c H1 locs1 cells slots Q (F0 m (pc + 1) ls rest)) : W p l e R s m args below meth c H locs cells slots Q (F0 m pc ls (.long x :: .int i :: .ref (ι a) :: rest)) := by
  obtain ⟨L, g, hP, hD, hS, hm, hz⟩ := w
  obtain ⟨n, f, he, hi, rfl⟩ := aJs_spec hg
  obtain ⟨hL, hge⟩ := hm.1 a _ he
  obtain ⟨q, hq⟩ := va_pl_get (X := []) (f := g) hL
  refine va_last hexec hb hK hP hD hS q 1 (cA := dA 1) (n := n) (f := f) (by rw [hge] at hq; exact hq) rfl hi hdg (fun H1 locs1 hP1 hD1 hS1 => ?_)
  have hset := va_pl_set (X := []) (e := .inl (dA 1, n, .inr (.inl (vp_updL f i.toNatClampNeg x)))) hD hL hq
  simp only [List.nil_append] at hset
  rw [hset] at hP1 hD1
  exact kk H1 locs1 ⟨L, _, hP1, hD1, hS1, wM_set hm he (.inl (1, n, .inr (.inl (vp_updL f i.toNatClampNeg x)))), hz⟩
theorem px_rast (hexec : p.tables.exec = Jvm.exec) (hb : c.code = cc) (hK : va_K D vwCl (tysA dA) s) (w : WD D dA b0 ι h H0 H locs) {a t ci v : Nat} {i : Int32} {r : vw_C} (hg : aRs h a t ci i v = some h') (ht : (tysA dA)[t]? = some (dA t, .object r.1)) (hc : vwCl[ci]? = some r) (hdg : decode cc pc = .ok (.aastore, 1))
    (kk : ∀ (H1 : Heap) (locs1 : List Loc), WD D dA b0 ι h' H0 H1 locs1 → W p l e R s m args below meth c H1 locs1 cells slots Q (F0 m (pc + 1) ls rest)) : W p l e R s m args below meth c H locs cells slots Q (F0 m pc ls (.ref (ι v) :: .int i :: .ref (ι a) :: rest)) := by
  obtain ⟨L, g, hP, hD, hS, hm, hz⟩ := w
  obtain ⟨n, f, fs, he, hev, hi, rfl⟩ := aRs_spec hg
  obtain ⟨hL, hge⟩ := hm.1 a _ he
  obtain ⟨hLv, hgv⟩ := hm.1 v _ hev
  obtain ⟨q, hq⟩ := va_pl_get (X := []) (f := g) hL
  obtain ⟨qv, hqv⟩ := va_pl_get (X := []) (f := g) hLv
  refine va_astq hexec hb hK hP hD hS q t qv ci (cA := dA t) (r := r) (n := n) (v := ι v) (vs := fs.map (cvV ι)) (f := fun i => (f i).map ι) (by rw [hge] at hq; exact hq) ht (by rw [hgv] at hqv; exact hqv) hc hi hdg (fun H1 locs1 hP1 hD1 hS1 => ?_)
  have hset := va_pl_set (X := []) (e := .inl (dA t, n, .inr (.inr (.inr (.inr (va_up (fun i => (f i).map ι) i.toNatClampNeg (some (ι v)))))))) hD hL hq
  simp only [List.nil_append] at hset
  rw [hset] at hP1 hD1
  have hx := wM_set hm he (.inl (t, n, .inr (.inr (.inr (.inr (va_up f i.toNatClampNeg (some v)))))))
  have hy : cvE ι dA (.inl (t, n, .inr (.inr (.inr (.inr (va_up f i.toNatClampNeg (some v))))))) = .inl (dA t, n, .inr (.inr (.inr (.inr (va_up (fun i => (f i).map ι) i.toNatClampNeg (some (ι v))))))) := by
    show (Sum.inl (dA t, n, _) : va_E) = _
    congr 4
    simp only [Sum.inr.injEq]
    funext j
    unfold va_up
    split <;> rfl
  rw [hy] at hx
  exact kk H1 locs1 ⟨L, _, hP1, hD1, hS1, hx, hz⟩
end PX
