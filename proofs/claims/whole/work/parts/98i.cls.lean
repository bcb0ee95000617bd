/-! the class's other cells: those that never change, those that do -/
def rfs (n b k : Nat) : vp_A := (n, .inr (.inr (.inr (.inr (fun j => if j < n then some (b + k * j) else none)))))
def skM (M x : Nat) : Option hE := if x = M then some (.inr (4, [.ref (M + 1)])) else if x = M + 1 then some (.inl (5, rfs 4 (M + 2) 10)) else if (x - (M + 2)) % 10 = 0 then some (.inr (8, [.ref (x + 1)])) else if (x - (M + 2)) % 10 = 1 then some (.inl (4, rfs 4 (x + 1) 2)) else none
def skMi (B x : Nat) : Option hE := if x = B + 1 then some (.inl (4, 256, .inr (.inr (.inr (.inr (fun j => if j < 256 then some (B + mo j) else none)))))) else if x = B + 144 then some (.inl (4, rfs 5 (B + 145) 2)) else if x = B + 155 then some (.inl (4, rfs 4 (B + 156) 2)) else if x = B + 164 then some (.inr (2, [.ref (B + 164 + 1), .ref (B + 164 + 3), .ref (B + 164 + 5)])) else none
def skR (r x : Nat) : Option hE := if x = r then some (.inr (8, [.ref (r + 1)])) else if x = r + 1 then some (.inl (4, rfs 4 (r + 2) 2)) else none
def sk (x : Nat) : Option hE := if x < 43 then skM 1 x else if x < 214 then skMi 43 x else if x < 256 then skM 214 x else if x < 427 then skMi 256 x else
  if x = 429 then some (.inl (4, rfs 4 430 2)) else if x = 446 then some (.inr (2, [.ref (446 + 1), .ref (446 + 3), .ref (446 + 5)])) else if x < 455 then none else if x < 465 then skR 455 x else if x < 475 then skR 465 x else if x < 485 then skR 475 x else if x < 495 then skR 485 x else if x < 508 then skR 498 x else
  if x = 508 then some (.inl (3, rfs 3 509 42)) else if x < 551 then skM 509 x else if x < 593 then skM 551 x else if x < 635 then skM 593 x else if x = 636 then some (.inr (2, [.ref (636 + 1), .ref (636 + 3), .ref (636 + 5)])) else none
def mtb (x : Nat) : Bool := x == 0 || x == 43 || x == 256 || x == 427 || x == 428 || x == 453 || x == 454 || x == 495 || x == 635
def cls (mu h0 : Hp) : Hp := fun x => if mtb x = true then mu x else if x < 645 then sk x else h0 x
section CLS
variable {mu h0 : Hp}
theorem cls_mu {x : Nat} (h : mtb x = true) : cls mu h0 x = mu x := if_pos h
theorem cls_hset {a : Nat} (e : hE) (h : mtb a = true) : hset (cls mu h0) a e = cls (hset mu a e) h0 := by
  funext x
  by_cases q : x = a
  · rw [q, hset_self, cls_mu h, hset_self]
  · rw [hset_ne _ _ q]
    unfold cls
    by_cases z : mtb x = true
    · rw [if_pos z, if_pos z, hset_ne _ _ q]
    · rw [if_neg z, if_neg z]
theorem RO_of {m : Hp} {r len : Nat} (h1 : m r = some (.inr (8, [.ref (r + 1)]))) (h2 : m (r + 1) = some (.inl (4, rfs 4 (r + 2) 2))) (h3 : np r) (h4 : np (r + 1)) (h5 : len ≠ 0) (h6 : ∀ j, j < 4 → pl (r + 2 + 2 * j) = len) : RO m r len := ⟨h1, ⟨_, h2, fun j hj => if_pos hj⟩, h3, h4, h5, h6⟩
theorem npd {x : Nat} (h1 : pl x = 0) (h2 : pl (x - 1) = 0) : np x := ⟨h1, Or.inr h2⟩
theorem MX_of {m : Hp} {M len : Nat} (h1 : m M = some (.inr (4, [.ref (M + 1)]))) (h2 : m (M + 1) = some (.inl (5, rfs 4 (M + 2) 10))) (h3 : np M) (h4 : np (M + 1)) (h5 : ∀ i, i < 4 → m (M + 2 + 10 * i) = some (.inr (8, [.ref (M + 2 + 10 * i + 1)])) ∧ m (M + 2 + 10 * i + 1) = some (.inl (4, rfs 4 (M + 2 + 10 * i + 2) 2))) (h6 : ∀ i, i < 4 → (pl (M + 2 + 10 * i) = 0 ∧ pl (M + 2 + 10 * i - 1) = 0) ∧ pl (M + 2 + 10 * i + 1) = 0) (h7 : ∀ i, i < 4 → ∀ j, j < 4 → pl (M + 2 + 10 * i + 2 + 2 * j) = len) (h8 : len ≠ 0) : MX m M len :=
  ⟨h1, ⟨_, h2, fun j hj => if_pos hj⟩, h3, h4, fun i hi => RO_of (h5 i hi).1 (h5 i hi).2 (npd (h6 i hi).1.1 (h6 i hi).1.2) (npd (h6 i hi).2 (by rw [Nat.add_sub_cancel]; exact (h6 i hi).1.1)) h8 (h7 i hi)⟩
theorem c4 {p : Nat → Prop} (h0 : p 0) (h1 : p 1) (h2 : p 2) (h3 : p 3) : ∀ i, i < 4 → p i := fun i hi => by
  rcases (show i = 0 ∨ i = 1 ∨ i = 2 ∨ i = 3 by omega) with h | h | h | h <;> subst h <;> assumption
theorem mx_1 : MX (cls mu h0) 1 4 := MX_of rfl rfl (npd (by decide) (by decide)) (npd (by decide) (by decide)) (c4 ⟨rfl, rfl⟩ ⟨rfl, rfl⟩ ⟨rfl, rfl⟩ ⟨rfl, rfl⟩) (by decide) (by decide) (by decide)
theorem mx_214 : MX (cls mu h0) 214 2 := MX_of rfl rfl (npd (by decide) (by decide)) (npd (by decide) (by decide)) (c4 ⟨rfl, rfl⟩ ⟨rfl, rfl⟩ ⟨rfl, rfl⟩ ⟨rfl, rfl⟩) (by decide) (by decide) (by decide)
theorem mx_509 : MX (cls mu h0) 509 13 := MX_of rfl rfl (npd (by decide) (by decide)) (npd (by decide) (by decide)) (c4 ⟨rfl, rfl⟩ ⟨rfl, rfl⟩ ⟨rfl, rfl⟩ ⟨rfl, rfl⟩) (by decide) (by decide) (by decide)
theorem mx_551 : MX (cls mu h0) 551 13 := MX_of rfl rfl (npd (by decide) (by decide)) (npd (by decide) (by decide)) (c4 ⟨rfl, rfl⟩ ⟨rfl, rfl⟩ ⟨rfl, rfl⟩ ⟨rfl, rfl⟩) (by decide) (by decide) (by decide)
theorem mx_593 : MX (cls mu h0) 593 13 := MX_of rfl rfl (npd (by decide) (by decide)) (npd (by decide) (by decide)) (c4 ⟨rfl, rfl⟩ ⟨rfl, rfl⟩ ⟨rfl, rfl⟩ ⟨rfl, rfl⟩) (by decide) (by decide) (by decide)
theorem ro_455 : RO (cls mu h0) 455 67 := RO_of rfl rfl (npd (by decide) (by decide)) (npd (by decide) (by decide)) (by decide) (by decide)
theorem ro_465 : RO (cls mu h0) 465 67 := RO_of rfl rfl (npd (by decide) (by decide)) (npd (by decide) (by decide)) (by decide) (by decide)
theorem ro_475 : RO (cls mu h0) 475 67 := RO_of rfl rfl (npd (by decide) (by decide)) (npd (by decide) (by decide)) (by decide) (by decide)
theorem ro_485 : RO (cls mu h0) 485 67 := RO_of rfl rfl (npd (by decide) (by decide)) (npd (by decide) (by decide)) (by decide) (by decide)
theorem ro_498 : RO (cls mu h0) 498 67 := RO_of rfl rfl (npd (by decide) (by decide)) (npd (by decide) (by decide)) (by decide) (by decide)
theorem dv_207 : DV (cls mu h0) (43 + 164) := ⟨rfl, npd (by decide) (by decide), by decide, by decide, by decide⟩
theorem dv_420 : DV (cls mu h0) (256 + 164) := ⟨rfl, npd (by decide) (by decide), by decide, by decide, by decide⟩
theorem dv_446 : DV (cls mu h0) 446 := ⟨rfl, npd (by decide) (by decide), by decide, by decide, by decide⟩
theorem dv_636 : DV (cls mu h0) 636 := ⟨rfl, npd (by decide) (by decide), by decide, by decide, by decide⟩
theorem mn_43 {o : Int32} (h : mu 43 = some (mnO 43 o)) : MN (cls mu h0) 43 := ⟨⟨o, h⟩, ⟨_, rfl, fun j hj => if_pos hj⟩, ⟨_, rfl, fun j hj => if_pos hj⟩, ⟨_, rfl, fun j hj => if_pos hj⟩, dv_207, ⟨npd (by decide) (by decide), npd (by decide) (by decide), npd (by decide) (by decide), npd (by decide) (by decide)⟩, by decide, by decide, by decide⟩
theorem mn_256 {o : Int32} (h : mu 256 = some (mnO 256 o)) : MN (cls mu h0) 256 := ⟨⟨o, h⟩, ⟨_, rfl, fun j hj => if_pos hj⟩, ⟨_, rfl, fun j hj => if_pos hj⟩, ⟨_, rfl, fun j hj => if_pos hj⟩, dv_420, ⟨npd (by decide) (by decide), npd (by decide) (by decide), npd (by decide) (by decide), npd (by decide) (by decide)⟩, by decide, by decide, by decide⟩
theorem rb_c : RB (cls mu h0) := ⟨⟨_, rfl, fun j hj => if_pos hj⟩, dv_446⟩
theorem mset_43 (o : Int32) : mset (cls mu h0) 43 o = cls (hset mu 43 (mnO 43 o)) h0 := cls_hset _ rfl
theorem mset_256 (o : Int32) : mset (cls mu h0) 256 o = cls (hset mu 256 (mnO 256 o)) h0 := cls_hset _ rfl
theorem rset_c (f c : Int32) (v : Nat → Int32) : rset (cls mu h0) f c v = cls (hset (hset mu 428 (.inl (0, 4, .inl v))) 427 (rtO f c)) h0 := by
  unfold rset
  rw [cls_hset _ rfl, cls_hset _ rfl]
end CLS
