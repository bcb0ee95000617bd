/-! the constructors of Roots, Echelon, NormalForms, and the reference's -/
section CK
variable {N : Nat} {tgt h : Hp} {a : Nat}
def OT (tgt : Hp) (a : Nat) : Prop := tgt a = some (.inr (7, [.ref (a + 1), .int 0, .ref (a + 2), .int 0, .ref (a + 11), .ref (a + 13), .ref (a + 15), .ref (a + 17), .ref (a + 19)])) ∧ tgt (a + 1) = some (.inl (0, 4, .inl (fun _ => 0))) ∧ tgt (a + 2) = some (arv 4 4 (a + 2) 2 4) ∧ (∀ j, j < 4 → PT tgt (a + 2 + 1 + 2 * j) 7) ∧ PT tgt (a + 11) 7 ∧ PT tgt (a + 13) 7 ∧ PT tgt (a + 15) 7 ∧ PT tgt (a + 17) 7 ∧ DT tgt (a + 19)
theorem roo_i (hN : 1000 ≤ N) (e : h a = some (.inr (7, [.null, .int 0, .null, .int 0, .null, .null, .null, .null, .null]))) (w : OT tgt a) : fX5_init N a h (a + 1) = some (up tgt a 26 h, a + 26) := by
  obtain ⟨w0, w1, w2, w3, w4, w5, w6, w7, w8⟩ := w
  have key : fX5_init N a (sv tgt a (a + 1) (.inr (7, [.null, .int 0, .null, .int 0, .null, .null, .null, .null, .null])) h) (a + 1) = some (sv tgt a (a + 26) (.inr (7, [.ref (a + 1), .int 0, .ref (a + 2), .int 0, .ref (a + 11), .ref (a + 13), .ref (a + 15), .ref (a + 17), .ref (a + 19)])) h, a + 26) := by
    unfold fX5_init nm
    dsimp only
    rw [lR_ok (by omega), Option.bind_some, nO_ok ⟨by omega, by omega⟩, Option.bind_some]
    try dsimp only
    rw [sv_d (by omega) w1, lR_ok (by omega), Option.bind_some, sv_p (by simp), Option.bind_some, lR_ok (by omega), Option.bind_some, nO_ok ⟨by omega, by omega⟩, Option.bind_some]
    try dsimp only
    rw [sv_n (by omega), lR_ok (by omega), Option.bind_some, sw_p (by omega) (by simp), Option.bind_some]
    rw [← arv_0 4 4 (a + 2) 2]
    have l1 := lX5_init_21_s (N := N) (h := h) (tgt := tgt) (a := a) (p := a + 2) (fs := ([Value.null, Value.int 0, Value.null, Value.int 0, Value.null, Value.null, Value.null, Value.null, Value.null].set 0 (Value.ref (a + 1))).set 2 (Value.ref (a + 2))) (by omega) rfl w3 4 N 0 (a + 2 + 1) 15 486 rfl (by omega) rfl
    refine Eq.trans (l1 _) ?_
    try dsimp only
    rw [sw_e (by omega) (by omega) w2]
    rw [lR_ok (by omega), Option.bind_some, nO_ok ⟨by omega, by omega⟩, Option.bind_some]
    try dsimp only
    rw [lR_ok (by omega), Option.bind_some, lR_ok (by omega), Option.bind_some, bC_ok ⟨by omega, by omega⟩, Option.bind_some]
    try dsimp only
    rw [poly_7 (by rw [hset_self]) w4, Option.bind_some]
    try dsimp only
    rw [up_sv (by omega) (by omega), lR_ok (by omega), Option.bind_some, sv_p (by simp), Option.bind_some, lR_ok (by omega), Option.bind_some, nO_ok ⟨by omega, by omega⟩, Option.bind_some]
    try dsimp only
    rw [lR_ok (by omega), Option.bind_some, lR_ok (by omega), Option.bind_some, bC_ok ⟨by omega, by omega⟩, Option.bind_some]
    try dsimp only
    rw [poly_7 (by rw [hset_self]) w5, Option.bind_some]
    try dsimp only
    rw [up_sv (by omega) (by omega), lR_ok (by omega), Option.bind_some, sv_p (by simp), Option.bind_some, lR_ok (by omega), Option.bind_some, nO_ok ⟨by omega, by omega⟩, Option.bind_some]
    try dsimp only
    rw [lR_ok (by omega), Option.bind_some, lR_ok (by omega), Option.bind_some, bC_ok ⟨by omega, by omega⟩, Option.bind_some]
    try dsimp only
    rw [poly_7 (by rw [hset_self]) w6, Option.bind_some]
    try dsimp only
    rw [up_sv (by omega) (by omega), lR_ok (by omega), Option.bind_some, sv_p (by simp), Option.bind_some, lR_ok (by omega), Option.bind_some, nO_ok ⟨by omega, by omega⟩, Option.bind_some]
    try dsimp only
    rw [lR_ok (by omega), Option.bind_some, lR_ok (by omega), Option.bind_some, bC_ok ⟨by omega, by omega⟩, Option.bind_some]
    try dsimp only
    rw [poly_7 (by rw [hset_self]) w7, Option.bind_some]
    try dsimp only
    rw [up_sv (by omega) (by omega), lR_ok (by omega), Option.bind_some, sv_p (by simp), Option.bind_some, lR_ok (by omega), Option.bind_some, nO_ok ⟨by omega, by omega⟩, Option.bind_some]
    try dsimp only
    rw [lR_ok (by omega), Option.bind_some, lR_ok (by omega), Option.bind_some, bC_ok ⟨by omega, by omega⟩, Option.bind_some]
    try dsimp only
    rw [div_i (by rw [hset_self]) w8, Option.bind_some]
    try dsimp only
    rw [up_sv (by omega) (by omega), lR_ok (by omega), Option.bind_some, sv_p (by simp), Option.bind_some]
    rfl
  rw [sv_0 e, sv_e (k := 26) (by omega) w0] at key
  exact key
def HT (tgt : Hp) (a : Nat) : Prop := tgt a = some (.inr (3, [.ref (a + 1), .ref (a + 42), .ref (a + 43), .ref (a + 45)])) ∧ tgt (a + 1) = some (arv 5 4 (a + 1) 10 4) ∧ (∀ j, j < 4 → WT tgt (a + 1 + 1 + 10 * j) 67) ∧ tgt (a + 42) = some (.inl (2, 4, .inl (fun _ => 0))) ∧ PT tgt (a + 43) 67 ∧ WT tgt (a + 45) 67
theorem ech_i (hN : 1000 ≤ N) (e : h a = some (.inr (3, [.null, .null, .null, .null]))) (w : HT tgt a) : fX1_init N a h (a + 1) = some (up tgt a 55 h, a + 55) := by
  obtain ⟨w0, w1, w2, w3, w4, w5⟩ := w
  have key : fX1_init N a (sv tgt a (a + 1) (.inr (3, [.null, .null, .null, .null])) h) (a + 1) = some (sv tgt a (a + 55) (.inr (3, [.ref (a + 1), .ref (a + 42), .ref (a + 43), .ref (a + 45)])) h, a + 55) := by
    unfold fX1_init nm
    dsimp only
    rw [lR_ok (by omega), Option.bind_some, nO_ok ⟨by omega, by omega⟩, Option.bind_some]
    try dsimp only
    rw [sv_n (by omega), lR_ok (by omega), Option.bind_some, sw_p (by omega) (by simp), Option.bind_some]
    rw [← arv_0 5 4 (a + 1) 10]
    have l1 := lX1_init_14_s (N := N) (h := h) (tgt := tgt) (a := a) (p := a + 1) (fs := [Value.null, Value.null, Value.null, Value.null].set 0 (Value.ref (a + 1))) (by omega) hN rfl w2 4 N 0 (a + 1 + 1) 13 354 rfl (by omega) rfl
    refine Eq.trans (l1 _) ?_
    try dsimp only
    rw [sw_e (by omega) (by omega) w1]
    rw [lR_ok (by omega), Option.bind_some, nO_ok ⟨by omega, by omega⟩, Option.bind_some]
    try dsimp only
    rw [sv_d (by omega) w3, lR_ok (by omega), Option.bind_some, sv_p (by simp), Option.bind_some, lR_ok (by omega), Option.bind_some, nO_ok ⟨by omega, by omega⟩, Option.bind_some]
    try dsimp only
    rw [lR_ok (by omega), Option.bind_some, lR_ok (by omega), Option.bind_some, bC_ok ⟨by omega, by omega⟩, Option.bind_some]
    try dsimp only
    rw [poly_67 (by rw [hset_self]) w4, Option.bind_some]
    try dsimp only
    rw [up_sv (by omega) (by omega), lR_ok (by omega), Option.bind_some, sv_p (by simp), Option.bind_some, lR_ok (by omega), Option.bind_some, nO_ok ⟨by omega, by omega⟩, Option.bind_some]
    try dsimp only
    rw [lR_ok (by omega), Option.bind_some, lR_ok (by omega), Option.bind_some, bC_ok ⟨by omega, by omega⟩, Option.bind_some]
    try dsimp only
    rw [row_67 hN (by rw [hset_self]) w5, Option.bind_some]
    try dsimp only
    rw [up_sv (by omega) (by omega), lR_ok (by omega), Option.bind_some, sv_p (by simp), Option.bind_some]
    rfl
  rw [sv_0 e, sv_e (k := 55) (by omega) w0] at key
  exact key
def FT7 (tgt : Hp) : Prop := tgt 0 = some (.inr (9, [.int 0, .int 0, .ref 1, .ref 43, .int 0, .ref 214, .ref 256, .int 0, .ref 427, .int 0, .ref 453, .ref 508, .ref 635, .ref 636, .ref 643])) ∧ MT tgt 1 4 ∧ NT tgt 43 ∧ MT tgt 214 2 ∧ NT tgt 256 ∧ OT tgt 427 ∧ HT tgt 453 ∧ tgt 508 = some (arv 3 3 508 42 3) ∧ (∀ j, j < 3 → MT tgt (508 + 1 + 42 * j) 13) ∧ tgt 635 = some (.inl (2, 3, .inl (fun _ => 0))) ∧ DT tgt 636 ∧ PT tgt 643 2
theorem nf_i (hN : 1000 ≤ N) (e : h 0 = some (.inr (9, [.int 0, .int 0, .null, .null, .int 0, .null, .null, .int 0, .null, .int 0, .null, .null, .null, .null, .null]))) (w : FT7 tgt) : fX7_init N 0 h 1 = some (up tgt 0 645 h, 645) := by
  obtain ⟨w0, w1, w2, w3, w4, w5, w6, w7, w8, w9, w10, w11⟩ := w
  have key : fX7_init N 0 (sv tgt 0 (0 + 1) (.inr (9, [.int 0, .int 0, .null, .null, .int 0, .null, .null, .int 0, .null, .int 0, .null, .null, .null, .null, .null])) h) (0 + 1) = some (sv tgt 0 (0 + 645) (.inr (9, [.int 0, .int 0, .ref 1, .ref 43, .int 0, .ref 214, .ref 256, .int 0, .ref 427, .int 0, .ref 453, .ref 508, .ref 635, .ref 636, .ref 643])) h, 645) := by
    unfold fX7_init nm
    dsimp only
    rw [lR_ok (by omega), Option.bind_some, nO_ok ⟨by omega, by omega⟩, Option.bind_some]
    try dsimp only
    rw [lR_ok (by omega), Option.bind_some, lR_ok (by omega), Option.bind_some, bC_ok ⟨by omega, by omega⟩, Option.bind_some]
    try dsimp only
    rw [mat_4 hN (by rw [hset_self]) w1, Option.bind_some]
    try dsimp only
    rw [up_sv (by omega) (by omega), lR_ok (by omega), Option.bind_some, sv_p (by simp), Option.bind_some, lR_ok (by omega), Option.bind_some, nO_ok ⟨by omega, by omega⟩, Option.bind_some]
    try dsimp only
    rw [lR_ok (by omega), Option.bind_some, lR_ok (by omega), Option.bind_some, bC_ok ⟨by omega, by omega⟩, Option.bind_some]
    try dsimp only
    rw [min_i hN (by rw [hset_self]) w2, Option.bind_some]
    try dsimp only
    rw [up_sv (by omega) (by omega), lR_ok (by omega), Option.bind_some, sv_p (by simp), Option.bind_some, lR_ok (by omega), Option.bind_some, nO_ok ⟨by omega, by omega⟩, Option.bind_some]
    try dsimp only
    rw [lR_ok (by omega), Option.bind_some, lR_ok (by omega), Option.bind_some, bC_ok ⟨by omega, by omega⟩, Option.bind_some]
    try dsimp only
    rw [mat_2 hN (by rw [hset_self]) w3, Option.bind_some]
    try dsimp only
    rw [up_sv (by omega) (by omega), lR_ok (by omega), Option.bind_some, sv_p (by simp), Option.bind_some, lR_ok (by omega), Option.bind_some, nO_ok ⟨by omega, by omega⟩, Option.bind_some]
    try dsimp only
    rw [lR_ok (by omega), Option.bind_some, lR_ok (by omega), Option.bind_some, bC_ok ⟨by omega, by omega⟩, Option.bind_some]
    try dsimp only
    rw [min_i hN (by rw [hset_self]) w4, Option.bind_some]
    try dsimp only
    rw [up_sv (by omega) (by omega), lR_ok (by omega), Option.bind_some, sv_p (by simp), Option.bind_some, lR_ok (by omega), Option.bind_some, nO_ok ⟨by omega, by omega⟩, Option.bind_some]
    try dsimp only
    rw [lR_ok (by omega), Option.bind_some, lR_ok (by omega), Option.bind_some, bC_ok ⟨by omega, by omega⟩, Option.bind_some]
    try dsimp only
    rw [roo_i hN (by rw [hset_self]) w5, Option.bind_some]
    try dsimp only
    rw [up_sv (by omega) (by omega), lR_ok (by omega), Option.bind_some, sv_p (by simp), Option.bind_some, lR_ok (by omega), Option.bind_some, nO_ok ⟨by omega, by omega⟩, Option.bind_some]
    try dsimp only
    rw [lR_ok (by omega), Option.bind_some, lR_ok (by omega), Option.bind_some, bC_ok ⟨by omega, by omega⟩, Option.bind_some]
    try dsimp only
    rw [ech_i hN (by rw [hset_self]) w6, Option.bind_some]
    try dsimp only
    rw [up_sv (by omega) (by omega), lR_ok (by omega), Option.bind_some, sv_p (by simp), Option.bind_some, lR_ok (by omega), Option.bind_some, nO_ok ⟨by omega, by omega⟩, Option.bind_some]
    try dsimp only
    rw [sv_n (by omega), lR_ok (by omega), Option.bind_some, sw_p (by omega) (by simp), Option.bind_some]
    rw [← arv_0 3 3 (0 + 1 + 42 + 171 + 42 + 171 + 26 + 55) 42]
    have l1 := lX7_init_82_s (N := N) (h := h) (tgt := tgt) (a := 0) (p := 508) (fs := [Value.int 0, Value.int 0, Value.ref 1, Value.ref 43, Value.int 0, Value.ref 214, Value.ref 256, Value.int 0, Value.ref 427, Value.int 0, Value.ref 453, Value.ref 508, Value.null, Value.null, Value.null]) (by omega) hN rfl w8 3 N 0 509 10 282 rfl (by omega) rfl
    refine Eq.trans (l1 _) ?_
    try dsimp only
    rw [sw_e (by omega) (by omega) w7]
    rw [lR_ok (by omega), Option.bind_some, nO_ok ⟨by omega, by omega⟩, Option.bind_some]
    try dsimp only
    rw [sv_d (by omega) w9, lR_ok (by omega), Option.bind_some, sv_p (by simp), Option.bind_some, lR_ok (by omega), Option.bind_some, nO_ok ⟨by omega, by omega⟩, Option.bind_some]
    try dsimp only
    rw [lR_ok (by omega), Option.bind_some, lR_ok (by omega), Option.bind_some, bC_ok ⟨by omega, by omega⟩, Option.bind_some]
    try dsimp only
    rw [div_i (by rw [hset_self]) w10, Option.bind_some]
    try dsimp only
    rw [up_sv (by omega) (by omega), lR_ok (by omega), Option.bind_some, sv_p (by simp), Option.bind_some, lR_ok (by omega), Option.bind_some, nO_ok ⟨by omega, by omega⟩, Option.bind_some]
    try dsimp only
    rw [lR_ok (by omega), Option.bind_some, lR_ok (by omega), Option.bind_some, bC_ok ⟨by omega, by omega⟩, Option.bind_some]
    try dsimp only
    rw [poly_2 (by rw [hset_self]) w11, Option.bind_some]
    try dsimp only
    rw [up_sv (by omega) (by omega), lR_ok (by omega), Option.bind_some, sv_p (by simp), Option.bind_some]
    rfl
  rw [sv_0 e, sv_e (k := 645) (by omega) w0] at key
  exact key
theorem mo_i (e : h 645 = some (.inr (10, [.int 0, .int 0, .int 0, .null, .null, .null, .null, .null, .null, .null, .null, .null, .null, .null, .null, .null, .null, .null, .null, .null, .null]))) (w0 : tgt 645 = some (.inr (10, rfO 0 0 0))) (w3 : tgt 646 = some (.inl (0, 64, .inl (fun _ => 0)))) (w4 : tgt 647 = some (.inl (2, 3, .inl (fun _ => 0)))) (w5 : tgt 648 = some (.inl (0, 1920, .inl (fun _ => 0)))) (w6 : tgt 649 = some (.inl (0, 3328, .inl (fun _ => 0)))) (w7 : tgt 650 = some (.inl (0, 64, .inl (fun _ => 0)))) (w8 : tgt 651 = some (.inl (0, 5120, .inl (fun _ => 0)))) (w9 : tgt 652 = some (.inl (0, 4, .inl (fun _ => 0)))) (w10 : tgt 653 = some (.inl (0, 256, .inl (fun _ => 0)))) (w11 : tgt 654 = some (.inl (0, 256, .inl (fun _ => 0)))) (w12 : tgt 655 = some (.inl (0, 256, .inl (fun _ => 0)))) (w13 : tgt 656 = some (.inl (0, 256, .inl (fun _ => 0)))) (w14 : tgt 657 = some (.inl (0, 80, .inl (fun _ => 0)))) (w15 : tgt 658 = some (.inl (0, 25, .inl (fun _ => 0)))) (w16 : tgt 659 = some (.inl (0, 16, .inl (fun _ => 0)))) (w17 : tgt 660 = some (.inl (0, 5, .inl (fun _ => 0)))) (w18 : tgt 661 = some (.inl (0, 80, .inl (fun _ => 0)))) (w19 : tgt 662 = some (.inl (0, 16, .inl (fun _ => 0)))) (w20 : tgt 663 = some (.inl (0, 16, .inl (fun _ => 0)))) : fX8_init N 645 h 646 = some (up tgt 645 19 h, 664) := by
  have key : fX8_init N 645 (sv tgt 645 (645 + 1) (.inr (10, [.int 0, .int 0, .int 0, .null, .null, .null, .null, .null, .null, .null, .null, .null, .null, .null, .null, .null, .null, .null, .null, .null, .null])) h) (645 + 1) = some (sv tgt 645 (645 + 19) (.inr (10, rfO 0 0 0)) h, 664) := by
    unfold fX8_init nm
    dsimp only
    rw [lR_ok (by omega), Option.bind_some, nO_ok ⟨by omega, by omega⟩, Option.bind_some]
    try dsimp only
    rw [sv_d (by omega) w3, lR_ok (by omega), Option.bind_some, sv_p (by simp), Option.bind_some, lR_ok (by omega), Option.bind_some, nO_ok ⟨by omega, by omega⟩, Option.bind_some]
    try dsimp only
    rw [sv_d (by omega) w4, lR_ok (by omega), Option.bind_some, sv_p (by simp), Option.bind_some, lR_ok (by omega), Option.bind_some, nO_ok ⟨by omega, by omega⟩, Option.bind_some]
    try dsimp only
    rw [sv_d (by omega) w5, lR_ok (by omega), Option.bind_some, sv_p (by simp), Option.bind_some, lR_ok (by omega), Option.bind_some, nO_ok ⟨by omega, by omega⟩, Option.bind_some]
    try dsimp only
    rw [sv_d (by omega) w6, lR_ok (by omega), Option.bind_some, sv_p (by simp), Option.bind_some, lR_ok (by omega), Option.bind_some, nO_ok ⟨by omega, by omega⟩, Option.bind_some]
    try dsimp only
    rw [sv_d (by omega) w7, lR_ok (by omega), Option.bind_some, sv_p (by simp), Option.bind_some, lR_ok (by omega), Option.bind_some, nO_ok ⟨by omega, by omega⟩, Option.bind_some]
    try dsimp only
    rw [sv_d (by omega) w8, lR_ok (by omega), Option.bind_some, sv_p (by simp), Option.bind_some, lR_ok (by omega), Option.bind_some, nO_ok ⟨by omega, by omega⟩, Option.bind_some]
    try dsimp only
    rw [sv_d (by omega) w9, lR_ok (by omega), Option.bind_some, sv_p (by simp), Option.bind_some, lR_ok (by omega), Option.bind_some, nO_ok ⟨by omega, by omega⟩, Option.bind_some]
    try dsimp only
    rw [sv_d (by omega) w10, lR_ok (by omega), Option.bind_some, sv_p (by simp), Option.bind_some, lR_ok (by omega), Option.bind_some, nO_ok ⟨by omega, by omega⟩, Option.bind_some]
    try dsimp only
    rw [sv_d (by omega) w11, lR_ok (by omega), Option.bind_some, sv_p (by simp), Option.bind_some, lR_ok (by omega), Option.bind_some, nO_ok ⟨by omega, by omega⟩, Option.bind_some]
    try dsimp only
    rw [sv_d (by omega) w12, lR_ok (by omega), Option.bind_some, sv_p (by simp), Option.bind_some, lR_ok (by omega), Option.bind_some, nO_ok ⟨by omega, by omega⟩, Option.bind_some]
    try dsimp only
    rw [sv_d (by omega) w13, lR_ok (by omega), Option.bind_some, sv_p (by simp), Option.bind_some, lR_ok (by omega), Option.bind_some, nO_ok ⟨by omega, by omega⟩, Option.bind_some]
    try dsimp only
    rw [sv_d (by omega) w14, lR_ok (by omega), Option.bind_some, sv_p (by simp), Option.bind_some, lR_ok (by omega), Option.bind_some, nO_ok ⟨by omega, by omega⟩, Option.bind_some]
    try dsimp only
    rw [sv_d (by omega) w15, lR_ok (by omega), Option.bind_some, sv_p (by simp), Option.bind_some, lR_ok (by omega), Option.bind_some, nO_ok ⟨by omega, by omega⟩, Option.bind_some]
    try dsimp only
    rw [sv_d (by omega) w16, lR_ok (by omega), Option.bind_some, sv_p (by simp), Option.bind_some, lR_ok (by omega), Option.bind_some, nO_ok ⟨by omega, by omega⟩, Option.bind_some]
    try dsimp only
    rw [sv_d (by omega) w17, lR_ok (by omega), Option.bind_some, sv_p (by simp), Option.bind_some, lR_ok (by omega), Option.bind_some, nO_ok ⟨by omega, by omega⟩, Option.bind_some]
    try dsimp only
    rw [sv_d (by omega) w18, lR_ok (by omega), Option.bind_some, sv_p (by simp), Option.bind_some, lR_ok (by omega), Option.bind_some, nO_ok ⟨by omega, by omega⟩, Option.bind_some]
    try dsimp only
    rw [sv_d (by omega) w19, lR_ok (by omega), Option.bind_some, sv_p (by simp), Option.bind_some, lR_ok (by omega), Option.bind_some, nO_ok ⟨by omega, by omega⟩, Option.bind_some]
    try dsimp only
    rw [sv_d (by omega) w20, lR_ok (by omega), Option.bind_some, sv_p (by simp), Option.bind_some]
    rfl
  rw [sv_0 e, sv_e (k := 19) (by omega) w0] at key
  exact key
end CK
