/-! new cells: the pure heap grows at its next number sz; the machine's address of it is whatever the machine says (ι) -/
def rbV (n : Nat) (v : Value) : Prop := match v with | .ref x => x < n | _ => True
def rbE (n : Nat) (e : hE) : Prop := match e with
  | .inl (_, _, .inr (.inr (.inr (.inr f)))) => ∀ i x, f i = some x → x < n
  | .inl _ => True
  | .inr (_, fs) => ∀ v ∈ fs, rbV n v
def wf (h : Hp) (sz : Nat) : Prop := (∀ a, sz ≤ a → h a = none) ∧ ∀ a e, h a = some e → rbE sz e
theorem rbV_mono {n m : Nat} (h : n ≤ m) {v : Value} (r : rbV n v) : rbV m v := by
  unfold rbV at *
  split at r
  · exact Nat.lt_of_lt_of_le r h
  · trivial
theorem rbE_mono {n m : Nat} (h : n ≤ m) {e : hE} (r : rbE n e) : rbE m e := by
  unfold rbE at *
  split at r
  · exact fun i x q => Nat.lt_of_lt_of_le (r i x q) h
  · trivial
  · exact fun v q => rbV_mono h (r v q)
theorem cvV_up {ι ι' : Nat → Nat} {n : Nat} (hi : ∀ x, x < n → ι' x = ι x) {v : Value} (r : rbV n v) : cvV ι' v = cvV ι v := by
  unfold rbV at r
  split at r
  · simp [cvV, hi _ r]
  · rename_i hx
    unfold cvV
    split
    · exact absurd rfl (hx _)
    · rfl
theorem cvE_up {ι ι' : Nat → Nat} {dA : Nat → ClassId} {n : Nat} (hi : ∀ x, x < n → ι' x = ι x) {e : hE} (r : rbE n e) : cvE ι' dA e = cvE ι dA e := by
  match e, r with
  | .inr (ci, fs), r =>
    show (Sum.inr (ci, fs.map (cvV ι')) : va_E) = .inr (ci, fs.map (cvV ι))
    congr 2
    exact List.map_congr_left (fun v hv => cvV_up hi (r v hv))
  | .inl (k, n', .inr (.inr (.inr (.inr f)))), r =>
    show (Sum.inl (dA k, n', .inr (.inr (.inr (.inr (fun i => (f i).map ι'))))) : va_E) = .inl (dA k, n', .inr (.inr (.inr (.inr (fun i => (f i).map ι)))))
    have : (fun i => (f i).map ι') = (fun i => (f i).map ι) := by
      funext i
      cases hf : f i with
      | none => rfl
      | some x => exact congrArg some (hi x (r i x hf))
    rw [this]
  | .inl (k, n', .inl f), _ => rfl
  | .inl (k, n', .inr (.inl f)), _ => rfl
  | .inl (k, n', .inr (.inr (.inl f))), _ => rfl
  | .inl (k, n', .inr (.inr (.inr (.inl f)))), _ => rfl
theorem wf_set {h : Hp} {sz a : Nat} {e0 e : hE} (w : wf h sz) (ha : h a = some e0) (r : rbE sz e) : wf (hset h a e) sz := by
  refine ⟨fun x hx => ?_, fun x e' hx => ?_⟩
  · have : x ≠ a := fun q => by subst q; rw [w.1 x hx] at ha; cases ha
    rw [hset_ne _ _ this]; exact w.1 x hx
  · by_cases q : x = a
    · subst q; rw [hset_self] at hx; cases hx; exact r
    · rw [hset_ne _ _ q] at hx; exact w.2 x e' hx
theorem wf_new {h : Hp} {sz : Nat} {e : hE} (w : wf h sz) (r : rbE (sz + 1) e) : wf (hset h sz e) (sz + 1) := by
  refine ⟨fun x hx => ?_, fun x e' hx => ?_⟩
  · rw [hset_ne _ _ (by omega)]; exact w.1 x (by omega)
  · by_cases q : x = sz
    · subst q; rw [hset_self] at hx; cases hx; exact r
    · rw [hset_ne _ _ q] at hx; exact rbE_mono (Nat.le_succ sz) (w.2 x e' hx)
theorem wM_new {dA : Nat → ClassId} {ι : Nat → Nat} {h : Hp} {L : List Nat} {g : Nat → va_E} {sz q : Nat} {e : hE} {E : va_E} (hm : wM dA ι h L g) (w : wf h sz) (hq : q ∉ L) (hE : cvE (va_up ι sz q) dA e = E) : wM dA (va_up ι sz q) (hset h sz e) (L ++ [q]) (va_up g q E) := by
  have hi : ∀ x, x < sz → va_up ι sz q x = ι x := fun x hx => va_up_ne _ _ (by omega)
  have lt : ∀ a e', h a = some e' → a < sz := fun a e' ha => Nat.lt_of_not_le fun z => by rw [w.1 a z] at ha; cases ha
  refine ⟨fun x e' hx => ?_, fun x y e1 e2 h1 h2 hxy => ?_⟩
  · by_cases hxa : x = sz
    · subst hxa
      rw [hset_self] at hx
      cases hx
      rw [va_up_self]
      exact ⟨List.mem_append_right _ List.mem_cons_self, by rw [va_up_self, hE]⟩
    · rw [hset_ne _ _ hxa] at hx
      obtain ⟨h1, h2⟩ := hm.1 x e' hx
      rw [hi x (lt x e' hx)]
      exact ⟨List.mem_append_left _ h1, by rw [va_up_ne g E (j := ι x) (k := q) (fun z => hq (by rw [← z]; exact h1)), h2, cvE_up hi (w.2 x e' hx)]⟩
  · by_cases hxa : x = sz <;> by_cases hya : y = sz
    · rw [hxa, hya]
    · exfalso
      rw [hset_ne _ _ hya] at h2
      rw [hxa, va_up_self, hi y (lt y e2 h2)] at hxy
      exact hq (by rw [hxy]; exact (hm.1 y e2 h2).1)
    · exfalso
      rw [hset_ne _ _ hxa] at h1
      rw [hya, va_up_self, hi x (lt x e1 h1)] at hxy
      exact hq (by rw [← hxy]; exact (hm.1 x e1 h1).1)
    · rw [hset_ne _ _ hxa] at h1
      rw [hset_ne _ _ hya] at h2
      rw [hi x (lt x e1 h1), hi y (lt y e2 h2)] at hxy
      exact hm.2 x y e1 e2 h1 h2 hxy
theorem notin_of_D {A : Nat → Prop} {L : List Nat} {g : Nat → va_E} {q : Nat} {E : va_E} (hD : va_D A (va_pl L g ++ [(q, E)])) : q ∉ L := by
  intro hq
  obtain ⟨k, hk⟩ := va_pl_get (X := []) (f := g) hq
  simp only [List.nil_append] at hk
  have hl := (List.getElem?_eq_some_iff.mp hk).1
  have h1 : (va_pl L g ++ [(q, E)])[k]? = some (q, g q) := by rw [List.getElem?_append_left hl]; exact hk
  have h2 : (va_pl L g ++ [(q, E)])[(va_pl L g).length]? = some (q, E) := by rw [List.getElem?_append_right (Nat.le_refl _)]; simp
  have := hD.1 k (va_pl L g).length _ _ h1 h2 rfl
  omega
theorem nO_spec {h h' : Hp} {sz kc ks n sz' kc' ks' : Nat} {e : hE} (q : nO h sz kc ks n e = some (h', sz', kc', ks')) : (1 ≤ kc ∧ n ≤ ks) ∧ h' = hset h sz e ∧ sz' = sz + 1 ∧ kc' = kc - 1 ∧ ks' = ks - n := by
  unfold nO at q
  split at q
  · rename_i hc
    cases q
    exact ⟨hc, rfl, rfl, rfl, rfl⟩
  · cases q
theorem lR_spec {sz a : Nat} {u : Unit} (q : lR sz a = some u) : a < sz := by
  unfold lR at q
  split at q
  · assumption
  · cases q
theorem bC_spec {kc ks mc ms kc' ks' : Nat} (q : bC kc ks mc ms = some (kc', ks')) : (mc ≤ kc ∧ ms ≤ ks) ∧ kc' = kc - mc ∧ ks' = ks - ms := by
  unfold bC at q
  split at q
  · rename_i hc
    cases q
    exact ⟨hc, rfl, rfl⟩
  · cases q
def agr (ι : Nat → Nat) (sz : Nat) (ι' : Nat → Nat) (sz' : Nat) : Prop := (∀ x, x < sz → ι' x = ι x) ∧ sz ≤ sz'
theorem agr_trans {i0 i1 i2 : Nat → Nat} {s0 s1 s2 : Nat} (h1 : agr i0 s0 i1 s1) (h2 : agr i1 s1 i2 s2) : agr i0 s0 i2 s2 := ⟨fun x hx => (h2.1 x (Nat.lt_of_lt_of_le hx h1.2)).trans (h1.1 x hx), Nat.le_trans h1.2 h2.2⟩
theorem wf_pV {h h' : Hp} {sz a ci k : Nat} {v : Value} (w : wf h sz) (e : pV h a ci k v = some h') (r : rbV sz v) : wf h' sz := by
  obtain ⟨fs, he, hl, rfl⟩ := pV_spec e
  refine wf_set w he (fun x hx => ?_)
  rcases List.mem_or_eq_of_mem_set hx with q | q
  · exact w.2 a _ he x q
  · rw [q]; exact r
theorem wf_aRs {h h' : Hp} {sz a t ci v : Nat} {i : Int32} (w : wf h sz) (e : aRs h a t ci i v = some h') (r : v < sz) : wf h' sz := by
  obtain ⟨n, f, fs, he, hev, hi, rfl⟩ := aRs_spec e
  refine wf_set w he (fun j x hx => ?_)
  unfold va_up at hx
  split at hx
  · cases hx; exact r
  · exact w.2 a _ he j x hx
theorem bitCount_h {N : Nat} {x v : Int32} {h h2 : Hp} (e : fJ6_bitCount_0f7a4 N x h = some (v, h2)) : h = h2 := by
  simp only [fJ6_bitCount_0f7a4, nm, Option.some.injEq, Prod.mk.injEq] at e
  exact e.2
abbrev QZ (D : va_G) (dA : Nat → ClassId) (b0 : Nat) (ι : Nat → Nat) (sz : Nat) (h' : Hp) (sz' : Nat) : Array Value → State → Outcome → State → Prop := va_Qv (fun _ : Nat → Nat => True) (fun ι' t => agr ι sz ι' sz' ∧ WP D dA b0 ι' h' t ∧ wf h' sz') (qA b0)
theorem qz_end {D : va_G} {dA : Nat → ClassId} {b0 : Nat} {ι ι0 : Nat → Nat} {h h' : Hp} {sz sz0 sz' : Nat} {s : State} {H : Heap} {locs : List Loc} {a : Array Value} (he : some (h, sz) = some (h', sz')) (w : WD D dA b0 ι h s.heap H locs) (hwf : wf h sz) (hag : agr ι0 sz0 ι sz) (hC : CF D dA s) : ∀ t : State, t.heap = H → s.WarmedH t.vm → QZ D dA b0 ι0 sz0 h' sz' a s (.returned none) t := by
  cases he
  intro t ht hW
  obtain ⟨h1, h2⟩ := w.done hC ht hW
  exact ⟨⟨ι, rfl, trivial, hag, h1, hwf⟩, h2⟩
abbrev WZ (D : va_G) (dA : Nat → ClassId) (b0 : Nat) (ι : Nat → Nat) (h : Hp) (sz : Nat) (H0 H : Heap) (locs : List Loc) : Prop := WD D dA b0 ι h H0 H locs ∧ wf h sz
section PZ
variable {p : Program} {l : Launch} {e : Env} {R : Room} {s : State} {m : MethodId} {args : Array Value} {below : List Frame} {meth : Method} {c : Code} {H H0 : Heap} {locs : List Loc} {cells slots : Nat} {Q : State → Prop} {D : va_G} {dA : Nat → ClassId} {b0 : Nat} {ι : Nat → Nat} {h h' : Hp} {cc : ByteArray} {pc : Nat} {ls : Array Slot} {rest : List Value} {sz kc ks sz' kc' ks' : Nat}
theorem px_putF (hexec : p.tables.exec = Jvm.exec) (hb : c.code = cc) {own ref C : String} {T : u_T} {N ci index : Nat} {Ts : List Cond} (hts : ∀ w ∈ Ts, w.before args s = true) (hin : ∀ w ∈ u_ws C T N, w ∈ Ts) (ty0 : Nat → FieldType) (hty : ∀ k, k < N → parseFieldDescriptor (T k).2.2.1 = some (ty0 k)) (hnm : ∀ a, a < N → ∀ b, b < N → a ≠ b → (T a).2.1 ≠ (T b).2.1) (hown : s.vm.findClass own = some m.cls) (hK : va_K D vwCl (tysA dA) s) (w : WD D dA b0 ι h H0 H locs) {a k : Nat} {v : Value} (hg : pV h a ci k v = some h') (hc : vwCl[ci]? = some (C, T, N)) (hk : k < N) (hlink : Cond.fieldLink own index ref (T k).2.1 (T k).2.2.1 ∈ Ts) (hsame : ref = (T k).1) (hfin : (T k).2.2.2 = true) (hini : meth.name = "<init>") (hdecl : (T k).1 = own) (hn : narrow (ty0 k) (cvV ι v) = cvV ι v) (hfit : fits (ty0 k) (cvV ι v) = true) (hdg : decode cc pc = .ok (.putfield index, 3)) {vv : Value} (hvv : vv = cvV ι v)
    (kk : ∀ (H1 : Heap) (locs1 : List Loc), WD D dA b0 ι h' H0 H1 locs1 → W p l e R s m args below meth c H1 locs1 cells slots Q (F0 m (pc + 3) ls rest)) : W p l e R s m args below meth c H locs cells slots Q (F0 m pc ls (vv :: .ref (ι a) :: rest)) := by
  obtain ⟨L, g, hP, hD, hS, hm, hz⟩ := w
  obtain ⟨fs, he, hl, rfl⟩ := pV_spec hg
  obtain ⟨hL, hge⟩ := hm.1 a _ he
  obtain ⟨q, hq⟩ := va_pl_get (X := []) (f := g) hL
  subst hsame
  subst hvv
  refine va_putF hexec hb hts hin ty0 hty hnm hown hK hP hD hS q (fs := fs.map (cvV ι)) (by rw [hge] at hq; exact hq) hc k hk (hts _ hlink) (fun _ h => h) hfin hini hdecl (hty k hk) hn hfit (by rw [List.length_map]; exact hl) hdg (fun H1 locs1 hP1 hD1 hS1 => ?_)
  have hset := va_pl_set (X := []) (e := .inr (ci, (fs.map (cvV ι)).set k (cvV ι v))) hD hL hq
  simp only [List.nil_append] at hset
  rw [hset] at hP1 hD1
  refine kk H1 locs1 ⟨L, _, hP1, hD1, hS1, ?_, hz⟩
  have hx := wM_set hm he (.inr (ci, fs.set k v))
  have hy : cvE ι dA (.inr (ci, fs.set k v)) = .inr (ci, (fs.map (cvV ι)).set k (cvV ι v)) := by simp [cvE, List.map_set]
  rw [hy] at hx
  exact hx
theorem px_new (hexec : p.tables.exec = Jvm.exec) (hb : c.code = cc) {own C : String} {T : u_T} {N ci index : Nat} {Ts : List Cond} (hts : ∀ w ∈ Ts, w.before args s = true) (hin : ∀ w ∈ u_ws C T N, w ∈ Ts) (ty : Nat → FieldType) (hty : ∀ k, k < N → parseFieldDescriptor (T k).2.2.1 = some (ty k)) (hown : s.vm.findClass own = some m.cls) (hcl : Cond.classLink own index C ∈ Ts) (hinst : Cond.instantiable C N ∈ Ts) (hini : Cond.initialized C ∈ Ts)
    (hK : va_K D vwCl (tysA dA) s) (w : WZ D dA b0 ι h sz H0 H locs) (hc : vwCl[ci]? = some (C, T, N)) {fs : List Value} (hfs : ∀ j, j < N → defaultValue (ty j) = vp_V fs j) (hz : ∀ v ∈ fs, v = .null ∨ v = .int 0) (hg : nO h sz kc ks N (.inr (ci, fs)) = some (h', sz', kc', ks')) (hcells : cells + kc ≤ R.cells) (hslots : slots + ks ≤ R.slots) (hdg : decode cc pc = .ok (.new index, 3))
    (kk : ∀ (ι' : Nat → Nat) (H1 : Heap) (cells1 slots1 : Nat), agr ι sz ι' sz' → WZ D dA b0 ι' h' sz' H0 H1 locs → cells1 + kc' ≤ R.cells → slots1 + ks' ≤ R.slots → W p l e R s m args below meth c H1 locs cells1 slots1 Q (F0 m (pc + 3) ls (.ref (ι' sz) :: rest))) : W p l e R s m args below meth c H locs cells slots Q (F0 m pc ls rest) := by
  obtain ⟨⟨L, g, hP, hD, hS, hm, hz0⟩, hwf⟩ := w
  obtain ⟨⟨b1, b2⟩, rfl, rfl, rfl, rfl⟩ := nO_spec hg
  refine va_new hexec hb hts hin ty hty hown (hts _ hcl) (hts _ hinst) (hts _ hini) hK hP hD hS (fun q hq => Nat.le_trans hz0 hq) hc hfs (by omega) (by omega) hdg (fun q H1 hP1 hD1 hS1 => ?_)
  have hq := notin_of_D hD1
  rw [va_pl_push hq] at hP1 hD1
  have hE : cvE (va_up ι sz q) dA (.inr (ci, fs)) = .inr (ci, fs) := by
    show (Sum.inr (ci, fs.map _) : va_E) = _
    congr 2
    rw [List.map_congr_left (g := id) (fun v hv => by rcases hz v hv with rfl | rfl <;> rfl), List.map_id]
  have hx := kk (va_up ι sz q) H1 (cells + 1) (slots + N) ⟨fun x hx => va_up_ne _ _ (by omega), Nat.le_succ sz⟩ ⟨⟨_, _, hP1, hD1, hS1, wM_new hm hwf hq hE, hz0⟩, wf_new hwf (fun v hv => by rcases hz v hv with rfl | rfl <;> trivial)⟩ (by omega) (by omega)
  rw [va_up_self] at hx
  exact hx
theorem px_newa (hexec : p.tables.exec = Jvm.exec) (hb : c.code = cc) {atype : ArrayType} {Ts : List Cond} (hts : ∀ w ∈ Ts, w.before args s = true) {ty : FieldType} (hty : newarray.typeOf atype = ty) (harr : Cond.arrayClass ty ∈ Ts) (hK : va_K D vwCl (tysA dA) s) (w : WZ D dA b0 ι h sz H0 H locs) (t : Nat) (ht : (tysA dA)[t]? = some (dA t, ty)) (hra : ∀ cA : ClassId, va_RA s cA ty → va_RA s (dA t) ty → cA = dA t)
    {n : Int32} {N' : Nat} {a0 : vp_A} (ha : ∀ cA : ClassId, vp_cell cA a0 = arrV cA N' (fun _ => defaultValue ty)) (hr : ∀ m, rbE m (.inl (t, a0))) (hcv : ∀ j : Nat → Nat, cvA j a0 = a0) (hn : ¬ n < 0) (hN : n.toNatClampNeg = N') (hbytes : N' * componentBytes ty ≤ 536870912) (hg : nO h sz kc ks N' (.inl (t, a0)) = some (h', sz', kc', ks')) (hcells : cells + kc ≤ R.cells) (hslots : slots + ks ≤ R.slots) (hdg : decode cc pc = .ok (.newarray atype, 2))
    (kk : ∀ (ι' : Nat → Nat) (H1 : Heap) (cells1 slots1 : Nat), agr ι sz ι' sz' → WZ D dA b0 ι' h' sz' H0 H1 locs → cells1 + kc' ≤ R.cells → slots1 + ks' ≤ R.slots → W p l e R s m args below meth c H1 locs cells1 slots1 Q (F0 m (pc + 2) ls (.ref (ι' sz) :: rest))) : W p l e R s m args below meth c H locs cells slots Q (F0 m pc ls (.int n :: rest)) := by
  obtain ⟨⟨L, g, hP, hD, hS, hm, hz0⟩, hwf⟩ := w
  obtain ⟨⟨b1, b2⟩, rfl, rfl, rfl, rfl⟩ := nO_spec hg
  refine va_newa hexec hb (by rw [hty]; exact hts _ harr) hty hK hP hD hS (fun q hq => Nat.le_trans hz0 hq) ha hn hN hbytes (by omega) (by omega) hdg (fun q cA H1 hK1 hP1 hD1 hS1 => ?_)
  have hcA : cA = dA t := hra cA (hK1.2 6 (cA, ty) rfl).2 (hK.2 t _ ht).2
  subst hcA
  have hq := notin_of_D hD1
  rw [va_pl_push hq] at hP1 hD1
  have hE : cvE (va_up ι sz q) dA (.inl (t, a0)) = .inl (dA t, a0) := by
    show (Sum.inl (dA t, cvA _ a0) : va_E) = _
    rw [hcv]
  have hx := kk (va_up ι sz q) H1 (cells + 1) (slots + N') ⟨fun x hx => va_up_ne _ _ (by omega), Nat.le_succ sz⟩ ⟨⟨_, _, hP1, hD1, hS1, wM_new hm hwf hq hE, hz0⟩, wf_new hwf (hr _)⟩ (by omega) (by omega)
  rw [va_up_self] at hx
  exact hx
theorem px_newq (hexec : p.tables.exec = Jvm.exec) (hb : c.code = cc) {own C : String} {index : Nat} {Ts : List Cond} (hts : ∀ w ∈ Ts, w.before args s = true) (hown : s.vm.findClass own = some m.cls) (hclink : Cond.classLink own index C ∈ Ts) (hover : va_AO C s) (hK : va_K D vwCl (tysA dA) s) (w : WZ D dA b0 ι h sz H0 H locs) (t : Nat) (ht : (tysA dA)[t]? = some (dA t, .object C))
    {n : Int32} {N' : Nat} (hn : ¬ n < 0) (hN : n.toNatClampNeg = N') (hbytes : N' * 4 ≤ 536870912) (hg : nO h sz kc ks N' (.inl (t, N', .inr (.inr (.inr (.inr (fun _ => none)))))) = some (h', sz', kc', ks')) (hcells : cells + kc ≤ R.cells) (hslots : slots + ks ≤ R.slots) (hdg : decode cc pc = .ok (.anewarray index, 3))
    (kk : ∀ (ι' : Nat → Nat) (H1 : Heap) (cells1 slots1 : Nat), agr ι sz ι' sz' → WZ D dA b0 ι' h' sz' H0 H1 locs → cells1 + kc' ≤ R.cells → slots1 + ks' ≤ R.slots → W p l e R s m args below meth c H1 locs cells1 slots1 Q (F0 m (pc + 3) ls (.ref (ι' sz) :: rest))) : W p l e R s m args below meth c H locs cells slots Q (F0 m pc ls (.int n :: rest)) := by
  obtain ⟨⟨L, g, hP, hD, hS, hm, hz0⟩, hwf⟩ := w
  obtain ⟨⟨b1, b2⟩, rfl, rfl, rfl, rfl⟩ := nO_spec hg
  refine va_newq hexec hb hown (hts _ hclink) hover hK hP hD hS (fun q hq => Nat.le_trans hz0 hq) hn hN hbytes (by omega) (by omega) hdg (fun q cA H1 hK1 hP1 hD1 hS1 => ?_)
  have hcA : cA = dA t := by
    obtain ⟨_, _, _, _, _, h4⟩ := (hK1.2 6 (cA, .object C) rfl).2
    obtain ⟨_, _, _, _, _, h5⟩ := (hK.2 t _ ht).2
    exact Option.some.inj (h4.symm.trans h5)
  subst hcA
  have hq := notin_of_D hD1
  rw [va_pl_push hq] at hP1 hD1
  have hE : cvE (va_up ι sz q) dA (.inl (t, N', .inr (.inr (.inr (.inr (fun _ => none)))))) = .inl (dA t, N', .inr (.inr (.inr (.inr (fun _ => none))))) := rfl
  have hx := kk (va_up ι sz q) H1 (cells + 1) (slots + N') ⟨fun x hx => va_up_ne _ _ (by omega), Nat.le_succ sz⟩ ⟨⟨_, _, hP1, hD1, hS1, wM_new hm hwf hq hE, hz0⟩, wf_new hwf (fun i x q => by cases q)⟩ (by omega) (by omega)
  rw [va_up_self] at hx
  exact hx
theorem px_callI {y : MethodName} {ws : List Cond} {rm : Room} {bytes : ByteArray} {maxL nL n index mc ms b : Nat} {Ts : List Cond} {own : String} {As st0 : List Value} (S : CallFix p m c cc nL s args Ts own) (hC : CF D dA s) (w : WD D dA b0 ι h s.heap H locs) (hM : Met l y ws rm (PC D dA b0 ι (.ref (ι b) :: As) h) (QZ D dA b0 ι sz h' sz') mc ms (qA b0)) (cw : CallB R s args own index y bytes maxL none ws rm mc ms n ∧ y.name = "<init>" ∧ (Cond.instanceMethod y).before args s = true) (hb : bC kc ks mc ms = some (kc', ks')) (hcells : cells + kc ≤ R.cells) (hslots : slots + ks ≤ R.slots) (hn : As.length = n) (hsize : ls.size = nL) (hst : st0 = As.reverse ++ .ref (ι b) :: rest) (hW : (rest.map fun v => v.category).sum ≤ 8) (hdg : decode cc pc = .ok (.invokespecial index, 3))
    (kk : ∀ (ι' : Nat → Nat) (H1 : Heap) (locs1 : List Loc) (cells1 slots1 : Nat), agr ι sz ι' sz' → WD D dA b0 ι' h' s.heap H1 locs1 → wf h' sz' → cells1 + kc' ≤ R.cells → slots1 + ks' ≤ R.slots → W p l e R s m args below meth c H1 locs1 cells1 slots1 Q (F0 m (pc + 3) ls rest)) : W p l e R s m args below meth c H locs cells slots Q (F0 m pc ls st0) := by
  obtain ⟨⟨b1, b2⟩, rfl, rfl⟩ := bC_spec hb
  have hw := id w
  obtain ⟨L, g, hP, hD, hS, hm, hz⟩ := hw
  refine va_callv (va_runI (g := F0 m pc ls st0) (As := As) (rest := rest) S hM cw ⟨PC_blind, PC_pre w hC⟩ rfl hn hsize hst (lv_room (m := m) (pc := pc) (ls := ls) (rest := st0) hW) hdg ⟨by omega, by omega⟩) hS (fun q _ h => h) (fun q h => h) (fun ι' t H1 locs1 ht hvm hw hB hz1 hk1 hS1 => ?_)
  obtain ⟨hag, hB, hwf⟩ := hB
  exact kk ι' H1 locs1 (cells + mc) (slots + ms) hag (PC_after hz hS1 ht hB) hwf (by omega) (by omega)
end PZ
