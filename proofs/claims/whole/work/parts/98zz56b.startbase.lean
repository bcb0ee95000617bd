abbrev wtL_law : List Cond := (wsL_law ++ exG) ++ exY
set_option maxRecDepth 20000 in
theorem exA0_in : ∀ w ∈ (exA 0).filter goodWord, w ∈ lw_tbl := by decide +kernel
set_option maxRecDepth 20000 in
theorem exA1_in : ∀ w ∈ (exA 1).filter goodWord, w ∈ lw_tbl := by decide +kernel
set_option maxRecDepth 20000 in
theorem exA2_in : ∀ w ∈ (exA 2).filter goodWord, w ∈ lw_tbl := by decide +kernel
set_option maxRecDepth 20000 in
theorem exA3_in : ∀ w ∈ (exA 3).filter goodWord, w ∈ lw_tbl := by decide +kernel
set_option maxRecDepth 20000 in
theorem exY_in : ∀ w ∈ exY, w ∈ lw_tbl := by decide +kernel
set_option maxRecDepth 20000 in
theorem exB_in : ∀ w ∈ exB, w ∈ lw_tbl := by decide +kernel
set_option maxRecDepth 20000 in
theorem nest_in : ∀ w ∈ nestL, w ∈ lw_tbl := by decide +kernel
theorem ao_2 : Cond.arrayOver (.object RX2) ∈ lw_tbl := by decide +kernel
theorem ao_4 : Cond.arrayOver (.object RX4) ∈ lw_tbl := by decide +kernel
theorem ao_6 : Cond.arrayOver (.object RX6) ∈ lw_tbl := by decide +kernel
theorem exG_in : ∀ w ∈ exG, w ∈ lw_tbl := by
  intro w hw
  obtain ⟨h, hg⟩ := List.mem_filter.mp hw
  unfold exAll at h
  rcases List.mem_append.mp h with h | h
  · rcases List.mem_append.mp h with h | h
    · rcases List.mem_append.mp h with h | h
      · exact exA0_in w (List.mem_filter.mpr ⟨h, hg⟩)
      · exact exA1_in w (List.mem_filter.mpr ⟨h, hg⟩)
    · exact exA2_in w (List.mem_filter.mpr ⟨h, hg⟩)
  · exact exA3_in w (List.mem_filter.mpr ⟨h, hg⟩)
theorem wtL_before {s : State} {a : Array Value} (h : ∀ w ∈ lw_tbl, w.before a s = true) : ∀ w ∈ wtL_law, w.before a s = true := by
  intro w hw
  rcases List.mem_append.mp hw with q | q
  · rcases List.mem_append.mp q with q | q
    · exact h w (wsL_law_in w q)
    · exact h w (exG_in w q)
  · exact h w (exY_in w q)
theorem ka_prim {args : Array Value} {s : State} {ty : FieldType} (h : (Cond.arrayClass ty).before args s = true) : ∃ cA : ClassId, ArrOfT s cA ty ∧ s.vm.findClass ("[" ++ ty.toString) = some cA := by
  obtain ⟨c, k, comp, h1, h2, h3⟩ := Cond.arrayClass_spec h
  exact ⟨c, fun n z => ⟨fun k h => (by cases h), k, h2, comp, h3⟩, h1⟩
theorem ka_obj {args : Array Value} {s : State} {C : String} (h : (Cond.arrayOver (.object C)).before args s = true) : ∃ cA : ClassId, ArrOfT s cA (.object C) ∧ va_RA s cA (.object C) := by
  obtain ⟨comp, c, k, h1, h2, h3, h4, h5⟩ := Cond.arrayOver_spec h
  exact ⟨c, fun n z => ⟨fun k h => (by cases h), k, h3, comp, h4⟩, k, comp, h3, h4, h1, h5⟩
theorem st_one {args : Array Value} {s : State} {k : Nat} {tx : String} (h1 : (Cond.stringRef RX7 k tx).before args s = true) (h2 : (Cond.exactly (.string RX7 k) "java/lang/String").before args s = true) : ∃ sa, vk_R RX7 k tx sa s := by
  obtain ⟨a, cell, c, kk, he, -⟩ := Cond.exactly_spec h2
  exact ⟨a, vk_R.of h1 he⟩
set_option maxRecDepth 100000 in
theorem xl_start {s : State} {b : Nat} (hts : ∀ w ∈ lw_tbl, w.before #[Value.ref b] s = true) (hgv : (Jvm.Cond.and given_1 narrow_1).before #[Value.ref b] s = true) : XL s.heap.size s := by
  have hs := flat_of_before _ hgv
  refine ⟨⟨vx_Zqof (hts (.laysStatic Bundle.tN "UNASSIGNED_STACK" Bundle.steD) (by decide +kernel)) (hts (.initialized Bundle.tN) (by decide +kernel)) (hs (.isRef (.static Bundle.tN "UNASSIGNED_STACK" Bundle.steD)) (by decide +kernel)) (fun a ha => Nat.not_le.mpr ha), vx_Zqof (hts (.laysStatic Bundle.tN "SUPPRESSED_SENTINEL" Bundle.listD) (by decide +kernel)) (hts (.initialized Bundle.tN) (by decide +kernel)) (hs (.isRef (.static Bundle.tN "SUPPRESSED_SENTINEL" Bundle.listD)) (by decide +kernel)) (fun a ha => Nat.not_le.mpr ha), ?_, fun w hw => va_Nw.of (exKind_tab (exB_kind w hw)) (hts w (exB_in w hw))⟩, ?_⟩
  · have one : ∀ (k : Nat) (tx : String), Cond.stringRef RX7 k tx ∈ lw_tbl → Cond.exactly (.string RX7 k) "java/lang/String" ∈ flatC (Jvm.Cond.and given_1 narrow_1) → ∃ sa, vk_R RX7 k tx sa s := fun k tx h1 h2 => st_one (hts _ h1) (hs _ h2)
    intro q hq
    have hall : ∀ q ∈ exS, Cond.stringRef RX7 q.1 q.2 ∈ lw_tbl ∧ Cond.exactly (.string RX7 q.1) "java/lang/String" ∈ flatC (Jvm.Cond.and given_1 narrow_1) := by decide +kernel
    exact one q.1 q.2 (hall q hq).1 (hall q hq).2
  · intro q hq
    have hall : ∀ q ∈ ncP, Cond.not (.castable q.1 q.2) ∈ flatC (Jvm.Cond.and given_1 narrow_1) := by decide +kernel
    exact va_Nc.of (hs _ (hall q hq))
