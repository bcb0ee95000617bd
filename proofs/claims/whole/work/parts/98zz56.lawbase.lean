theorem sX_spec {xs : Nat → Int32} {L : Nat} {i v : Int32} (h : sX xs L i = some v) : vp_in i L ∧ v = xs i.toNatClampNeg := by
  unfold sX at h
  split at h
  · rename_i hc
    cases h
    exact ⟨hc, rfl⟩
  · cases h
theorem WD.s {D : va_G} {dA : Nat → ClassId} {b0 : Nat} {ι : Nat → Nat} {h : Hp} {H0 H : Heap} {locs : List Loc} (w : WD D dA b0 ι h H0 H locs) : va_S (qA b0) H0 H locs := by
  obtain ⟨L, gg, h1, h2, h3, h4, h5⟩ := w
  exact h3
theorem sw_out {x : Int32} (h0 : ¬ x = 0) (h1 : ¬ x = 1) (h2 : ¬ x = 2) (h3 : ¬ x = 3) (h4 : ¬ x = 4) (h5 : ¬ x = 5) (h6 : ¬ x = 6) (h7 : ¬ x = 7) (h8 : ¬ x = 8) (h9 : ¬ x = 9) (h10 : ¬ x = 10) (h11 : ¬ x = 11) (h12 : ¬ x = 12) : x.toInt < 0 ∨ 12 < x.toInt := by
  have e : ∀ (k : Int32) (a : Int), k.toInt = a → ¬ x = k → ¬ x.toInt = a := fun k a hk hx q => hx (Int32.toInt_inj.mp (q.trans hk.symm))
  have a0 := e 0 0 (by decide) h0
  have a1 := e 1 1 (by decide) h1
  have a2 := e 2 2 (by decide) h2
  have a3 := e 3 3 (by decide) h3
  have a4 := e 4 4 (by decide) h4
  have a5 := e 5 5 (by decide) h5
  have a6 := e 6 6 (by decide) h6
  have a7 := e 7 7 (by decide) h7
  have a8 := e 8 8 (by decide) h8
  have a9 := e 9 9 (by decide) h9
  have a10 := e 10 10 (by decide) h10
  have a11 := e 11 11 (by decide) h11
  have a12 := e 12 12 (by decide) h12
  omega
theorem gx_S {A X B : List Cond} {own : String} {i : Nat} {y : MethodName} (hg : GoodIn A (va_wsS own i y B)) (hX : ∀ w ∈ X, goodWord w = true) : GoodIn (A ++ X) (va_wsS own i y (B ++ X)) := by
  intro w hw
  unfold va_wsS at hw hg
  rw [← List.append_assoc] at hw
  rcases List.mem_append.mp hw with h | h
  · exact ⟨List.mem_append_left _ (hg w h).1, (hg w h).2⟩
  · exact ⟨List.mem_append_right _ h, good_of_word (hX w h)⟩
theorem exY_good : ∀ w ∈ exY, goodWord w = true := by decide +kernel
theorem gx_SS {A B : List Cond} {own : String} {i : Nat} {y : MethodName} (hg : GoodIn A (va_wsS own i y B)) : GoodIn ((A ++ exG) ++ exY) (va_wsS own i y ((B ++ exG) ++ exY)) := gx_S (gx_S hg exG_good) exY_good
section PS
variable {p : Program} {l : Launch} {e : Env} {R : Room} {s : State} {m : MethodId} {args : Array Value} {below : List Frame} {meth : Method} {c : Code} {H : Heap} {locs : List Loc} {cells slots : Nat} {Q : State → Prop} {D : va_G} {dA : Nat → ClassId} {b0 : Nat} {ι : Nat → Nat} {h : Hp} {cc : ByteArray} {pc : Nat} {ls : Array Slot} {rest : List Value} {b L : Nat} {xs : Nat → Int32}
theorem px_sld (hexec : p.tables.exec = Jvm.exec) (hb : c.code = cc) (hX : va_X b L xs s s.heap) (hbl : b < s.heap.size) (w : WD D dA b0 ι h s.heap H locs) (hb0 : b0 = s.heap.size) {i v : Int32} (hg : sX xs L i = some v) (hdg : decode cc pc = .ok (.iaload, 1))
    (kk : W p l e R s m args below meth c H locs cells slots Q (F0 m (pc + 1) ls (.int v :: rest))) : W p l e R s m args below meth c H locs cells slots Q (F0 m pc ls (.int i :: .ref b :: rest)) := by
  obtain ⟨hi, rfl⟩ := sX_spec hg
  exact va_sld hexec hb hX hbl (by rw [hb0]; exact Nat.not_le.mpr hbl) w.s hi hdg kk
theorem px_slen (hexec : p.tables.exec = Jvm.exec) (hb : c.code = cc) (hX : va_X b L xs s s.heap) (hbl : b < s.heap.size) (w : WD D dA b0 ι h s.heap H locs) (hb0 : b0 = s.heap.size) (hdg : decode cc pc = .ok (.arraylength, 1))
    (kk : W p l e R s m args below meth c H locs cells slots Q (F0 m (pc + 1) ls (.int (nI L) :: rest))) : W p l e R s m args below meth c H locs cells slots Q (F0 m pc ls (.ref b :: rest)) := va_slen hexec hb hX hbl (by rw [hb0]; exact Nat.not_le.mpr hbl) w.s hdg kk
end PS
