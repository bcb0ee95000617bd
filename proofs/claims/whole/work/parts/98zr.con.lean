/-! constructors: the heap grows cell by cell towards a heap that is known -/
def up (tgt : Hp) (a k : Nat) (h : Hp) : Hp := fun x => if a ≤ x ∧ x < a + k then tgt x else h x
def sv (tgt : Hp) (a m : Nat) (O : hE) (h : Hp) : Hp := fun x => if x = a then some O else if a < x ∧ x < m then tgt x else h x
theorem lR_ok {sz a : Nat} (h : a < sz) : lR sz a = some () := if_pos h
theorem nO_ok {h : Hp} {sz kc ks n : Nat} {e : hE} (q : 1 ≤ kc ∧ n ≤ ks) : nO h sz kc ks n e = some (hset h sz e, sz + 1, kc - 1, ks - n) := if_pos q
theorem bC_ok {kc ks mc ms : Nat} (q : mc ≤ kc ∧ ms ≤ ks) : bC kc ks mc ms = some (kc - mc, ks - ms) := if_pos q
theorem hset2 (h : Hp) (a : Nat) (e f : hE) : hset (hset h a e) a f = hset h a f := by
  funext x
  unfold hset
  split <;> rfl
def arv (t n p k j : Nat) : hE := .inl (t, n, .inr (.inr (.inr (.inr (fun i => if i < j then some (p + 1 + k * i) else none)))))
theorem arv_0 (t n p k : Nat) : arv t n p k 0 = .inl (t, n, .inr (.inr (.inr (.inr (fun _ => none))))) := by
  unfold arv
  congr 1
section CT
variable {tgt h : Hp} {a m : Nat} {O : hE}
theorem sv_0 (e : h a = some O) : sv tgt a (a + 1) O h = h := funext (fun x => by
  unfold sv
  by_cases q : x = a
  · rw [if_pos q, q, e]
  · rw [if_neg q, if_neg (by omega)])
theorem sv_a : sv tgt a m O h a = some O := if_pos rfl
theorem sv_t {x : Nat} (h1 : a < x) (h2 : x < m) : sv tgt a m O h x = tgt x := by
  unfold sv
  rw [if_neg (by omega), if_pos ⟨h1, h2⟩]
theorem up_sv {k : Nat} {e : hE} (ha : a < m) (hk : 0 < k) : up tgt m k (hset (sv tgt a m O h) m e) = sv tgt a (m + k) O h := funext (fun x => by
  unfold up hset sv
  by_cases q : m ≤ x ∧ x < m + k
  · rw [if_pos q, if_neg (by omega), if_pos (by omega)]
  · rw [if_neg q, if_neg (by omega)]
    by_cases z : x = a
    · rw [if_pos z, if_pos z]
    · rw [if_neg z, if_neg z]
      by_cases y : a < x ∧ x < m
      · rw [if_pos y, if_pos (by omega)]
      · rw [if_neg y, if_neg (by omega)])
theorem sv_d {e : hE} (ha : a < m) (ht : tgt m = some e) : hset (sv tgt a m O h) m e = sv tgt a (m + 1) O h := funext (fun x => by
  unfold hset sv
  by_cases q : x = m
  · rw [if_pos q, if_neg (by omega), if_pos (by omega), q, ht]
  · rw [if_neg q]
    by_cases z : x = a
    · rw [if_pos z, if_pos z]
    · rw [if_neg z, if_neg z]
      by_cases y : a < x ∧ x < m
      · rw [if_pos y, if_pos (by omega)]
      · rw [if_neg y, if_neg (by omega)])
theorem sv_n {e : hE} (ha : a < m) : hset (sv tgt a m O h) m e = hset (sv tgt a (m + 1) O h) m e := funext (fun x => by
  unfold hset sv
  by_cases q : x = m
  · rw [if_pos q, if_pos q]
  · rw [if_neg q, if_neg q]
    by_cases z : x = a
    · rw [if_pos z, if_pos z]
    · rw [if_neg z, if_neg z]
      by_cases y : a < x ∧ x < m
      · rw [if_pos y, if_pos (by omega)]
      · rw [if_neg y, if_neg (by omega)])
theorem sv_e {k : Nat} (hk : 0 < k) (ht : tgt a = some O) : sv tgt a (a + k) O h = up tgt a k h := funext (fun x => by
  unfold up sv
  by_cases z : x = a
  · rw [if_pos z, if_pos (by omega), z, ht]
  · rw [if_neg z]
    by_cases y : a < x ∧ x < a + k
    · rw [if_pos y, if_pos (by omega)]
    · rw [if_neg y, if_neg (by omega)])
theorem sv_s (O' : hE) : hset (sv tgt a m O h) a O' = sv tgt a m O' h := funext (fun x => by
  unfold hset sv
  by_cases z : x = a
  · rw [if_pos z, if_pos z]
  · rw [if_neg z, if_neg z, if_neg z])
theorem sv_p {ci k : Nat} {fs : List Value} {v : Value} (q : k < fs.length) : pV (sv tgt a m (.inr (ci, fs)) h) a ci k v = some (sv tgt a m (.inr (ci, fs.set k v)) h) := by
  rw [pV_of sv_a q, sv_s]
theorem sv_g {ci k v : Nat} {fs : List Value} (q : fs[k]? = some (.ref v)) : gR (sv tgt a m (.inr (ci, fs)) h) a ci k = some v := gR_of sv_a q
theorem hset_cm {p q : Nat} (e f : hE) (n : p ≠ q) : hset (hset h p e) q f = hset (hset h q f) p e := funext (fun x => by
  unfold hset
  by_cases z : x = q
  · rw [if_pos z, if_neg (by omega), if_pos z]
  · rw [if_neg z, if_neg z])
theorem sw_p {ci k p : Nat} {fs : List Value} {v : Value} {A : hE} (hp : a < p) (q : k < fs.length) : pV (hset (sv tgt a m (.inr (ci, fs)) h) p A) a ci k v = some (hset (sv tgt a m (.inr (ci, fs.set k v)) h) p A) := by
  rw [pV_of (by rw [hset_ne _ _ (by omega)]; exact sv_a) q, hset_cm _ _ (by omega), sv_s]
theorem sw_g {ci k v p : Nat} {fs : List Value} {A : hE} (hp : a < p) (q : fs[k]? = some (.ref v)) : gR (hset (sv tgt a m (.inr (ci, fs)) h) p A) a ci k = some v := gR_of (by rw [hset_ne _ _ (by omega)]; exact sv_a) q
theorem up_hs {k p : Nat} {A : hE} (hp : p < m) : up tgt m k (hset h p A) = hset (up tgt m k h) p A := funext (fun x => by
  unfold up hset
  by_cases z : x = p
  · rw [if_neg (by omega), if_pos z, if_pos z]
  · rw [if_neg z, if_neg z])
theorem up_sw {k p : Nat} {e A : hE} (ha : a < m) (hp : p < m) (hk : 0 < k) : up tgt m k (hset (hset (sv tgt a m O h) p A) m e) = hset (sv tgt a (m + k) O h) p A := by
  rw [hset_cm _ _ (by omega), up_hs hp, up_sv ha hk]
theorem sw_e {p : Nat} {A : hE} (hp : a < p) (hpm : p < m) (ht : tgt p = some A) : hset (sv tgt a m O h) p A = sv tgt a m O h := funext (fun x => by
  unfold hset
  by_cases z : x = p
  · rw [if_pos z, z, sv_t hp hpm, ht]
  · rw [if_neg z])
theorem sw_s {p k j n t x ci : Nat} {fs : List Value} (hp : a < p) (hxm : x < m) (ht : tgt x = some (.inr (ci, fs))) (hj : j < n) (hn : n < 2 ^ 31) (hx : x = p + 1 + k * j) : aRs (hset (sv tgt a m O h) p (arv t n p k j)) p t ci (nI j) x = some (hset (sv tgt a m O h) p (arv t n p k (j + 1))) := by
  have hxp : p < x := by
    rw [hx]
    exact Nat.lt_of_lt_of_le (Nat.lt_succ_self p) (Nat.le_add_right _ _)
  rw [aRs_of (f := fun i => if i < j then some (p + 1 + k * i) else none) (by rw [hset_self]; rfl) (by rw [hset_ne _ _ (by omega), sv_t (by omega) hxm]; exact ht) hj hn, hset2]
  have e : va_up (fun i => if i < j then some (p + 1 + k * i) else none) j (some x) = fun i => if i < j + 1 then some (p + 1 + k * i) else none := by
    funext i
    unfold va_up
    by_cases z : i = j
    · rw [if_pos z, z, if_pos (by omega), hx]
    · rw [if_neg z]
      show (if i < j then some (p + 1 + k * i) else none) = _
      by_cases y : i < j
      · rw [if_pos y, if_pos (by omega)]
      · rw [if_neg y, if_neg (by omega)]
  rw [e]
  rfl
end CT
def PT (tgt : Hp) (x len : Nat) : Prop := tgt x = some (.inr (6, [.ref (x + 1), .int (-1)])) ∧ tgt (x + 1) = some (.inl (0, len, .inl (fun _ => 0)))
def WT (tgt : Hp) (r len : Nat) : Prop := tgt r = some (.inr (8, [.ref (r + 1)])) ∧ tgt (r + 1) = some (arv 4 4 (r + 1) 2 4) ∧ ∀ j, j < 4 → PT tgt (r + 2 + 2 * j) len
def MT (tgt : Hp) (M len : Nat) : Prop := tgt M = some (.inr (4, [.ref (M + 1)])) ∧ tgt (M + 1) = some (arv 5 4 (M + 1) 10 4) ∧ ∀ j, j < 4 → WT tgt (M + 2 + 10 * j) len
def DT (tgt : Hp) (D : Nat) : Prop := tgt D = some (.inr (2, [.ref (D + 1), .ref (D + 3), .ref (D + 5)])) ∧ PT tgt (D + 1) 13 ∧ PT tgt (D + 3) 13 ∧ PT tgt (D + 5) 13
section CI
variable {N : Nat} {tgt h : Hp} {a : Nat}
theorem poly_i {len : Nat} (hl : len ≤ 67) (e : h a = some (.inr (6, [.null, .int 0]))) (w : PT tgt a len) : fX4_init N a (nI len) h (a + 1) = some (up tgt a 2 h, a + 2) := by
  have key : fX4_init N a (nI len) (sv tgt a (a + 1) (.inr (6, [.null, .int 0])) h) (a + 1) = some (sv tgt a (a + 2) (.inr (6, [.ref (a + 1), .int (-1)])) h, a + 2) := by
    unfold fX4_init nm
    dsimp only
    rw [lR_ok (by omega), Option.bind_some, nI_clamp (by omega), if_pos ⟨nI_pos (by omega), by omega⟩, nO_ok ⟨by omega, by omega⟩, Option.bind_some]
    dsimp only
    rw [sv_d (by omega) w.2, lR_ok (by omega), Option.bind_some, sv_p (by simp), Option.bind_some, sv_p (by simp), Option.bind_some]
    rfl
  rw [sv_0 e, sv_e (k := 2) (by omega) w.1] at key
  exact key

theorem lX6_init_14_s {len : Nat} {p : Nat} {fs : List Value} (hp : a < p) (hx : len ≤ 67) (hq : fs[0]? = some (.ref p)) (w : ∀ j, j < 4 → PT tgt (p + 1 + 2 * j) len) : ∀ (d n j m kr sr : Nat), j + d = 4 → d < n → m = p + 1 + 2 * j → ∀ κ, lX6_init_14 N a (nI len) n (nI j) (hset (sv tgt a m (.inr (8, fs)) h) p (arv 4 4 p 2 j)) m (2 * d + kr) (69 * d + sr) κ = κ (nI 4) (hset (sv tgt a (p + 1 + 2 * 4) (.inr (8, fs)) h) p (arv 4 4 p 2 4)) (p + 1 + 2 * 4) kr sr
  | d, 0, j, m, kr, sr, _, hn, _, κ => absurd hn (Nat.not_lt_zero _)
  | 0, n + 1, j, m, kr, sr, hj, hn, hm, κ => by
    have e : j = 4 := by omega
    subst e
    rw [lX6_init_14]
    show (if nI 4 ≤ nI 4 then _ else _) = _
    rw [if_pos (by decide), hm]
    simp only [Nat.mul_zero, Nat.zero_add]
  | d + 1, n + 1, j, m, kr, sr, hj, hn, hm, κ => by
    have wj := w j (by omega)
    rw [← hm] at wj
    have ih := lX6_init_14_s hp hx hq w d n (j + 1) (m + 2) kr sr (by omega) (by omega) (by omega) κ
    rw [lX6_init_14]
    show (if nI 4 ≤ nI j then _ else _) = _
    rw [if_neg (fun y => by have := (le_n (by omega) (by omega)).mp y; omega), sw_g hp hq, Option.bind_some, lR_ok (by omega), Option.bind_some, lR_ok (by omega), Option.bind_some, nO_ok ⟨by omega, by omega⟩, Option.bind_some]
    dsimp only
    rw [lR_ok (by omega), Option.bind_some, lR_ok (by omega), Option.bind_some, lR_ok (by omega), Option.bind_some, bC_ok ⟨by omega, by omega⟩, Option.bind_some]
    dsimp only
    rw [poly_i hx (by rw [hset_self]) wj, Option.bind_some]
    dsimp only
    rw [up_sw (by omega) (by omega) (by omega), lR_ok (by omega), Option.bind_some, sw_s (ci := 6) hp (by omega) wj.1 (by omega) (by omega) hm, Option.bind_some]
    unfold nm
    rw [nI_1, show 2 * (d + 1) + kr - 1 - 1 = 2 * d + kr by omega, show 69 * (d + 1) + sr - 2 - 67 = 69 * d + sr by omega]
    exact ih
theorem row_i {len : Nat} (hN : 1000 ≤ N) (hl : len ≤ 67) (e : h a = some (.inr (8, [.null]))) (w : WT tgt a len) : fX6_init N a (nI len) h (a + 1) = some (up tgt a 10 h, a + 10) := by
  have key : fX6_init N a (nI len) (sv tgt a (a + 1) (.inr (8, [.null])) h) (a + 1) = some (sv tgt a (a + 10) (.inr (8, [.ref (a + 1)])) h, a + 10) := by
    unfold fX6_init nm
    dsimp only
    rw [lR_ok (by omega), Option.bind_some, nO_ok ⟨by omega, by omega⟩, Option.bind_some]
    dsimp only
    rw [sv_n (by omega), lR_ok (by omega), Option.bind_some, sw_p (by omega) (by simp), Option.bind_some, ← arv_0 4 4 (a + 1) 2]
    have l := lX6_init_14_s (N := N) (h := h) (tgt := tgt) (a := a) (len := len) (p := a + 1) (fs := [Value.null].set 0 (Value.ref (a + 1))) (by omega) hl rfl w.2.2 4 N 0 (a + 1 + 1) 0 0 rfl (by omega) rfl (fun _ h9 sz10 _ _ => some (h9, sz10))
    refine Eq.trans l ?_
    rw [sw_e (by omega) (by omega) w.2.1]
    rfl
  rw [sv_0 e, sv_e (k := 10) (by omega) w.1] at key
  exact key
theorem lX2_init_14_s {len : Nat} {p : Nat} {fs : List Value} (hp : a < p) (hx : 1000 ≤ N ∧ len ≤ 67) (hq : fs[0]? = some (.ref p)) (w : ∀ j, j < 4 → WT tgt (p + 1 + 10 * j) len) : ∀ (d n j m kr sr : Nat), j + d = 4 → d < n → m = p + 1 + 10 * j → ∀ κ, lX2_init_14 N a (nI len) n (nI j) (hset (sv tgt a m (.inr (4, fs)) h) p (arv 5 4 p 10 j)) m (10 * d + kr) (281 * d + sr) κ = κ (nI 4) (hset (sv tgt a (p + 1 + 10 * 4) (.inr (4, fs)) h) p (arv 5 4 p 10 4)) (p + 1 + 10 * 4) kr sr
  | d, 0, j, m, kr, sr, _, hn, _, κ => absurd hn (Nat.not_lt_zero _)
  | 0, n + 1, j, m, kr, sr, hj, hn, hm, κ => by
    have e : j = 4 := by omega
    subst e
    rw [lX2_init_14]
    show (if nI 4 ≤ nI 4 then _ else _) = _
    rw [if_pos (by decide), hm]
    simp only [Nat.mul_zero, Nat.zero_add]
  | d + 1, n + 1, j, m, kr, sr, hj, hn, hm, κ => by
    have wj := w j (by omega)
    rw [← hm] at wj
    have ih := lX2_init_14_s hp hx hq w d n (j + 1) (m + 10) kr sr (by omega) (by omega) (by omega) κ
    rw [lX2_init_14]
    show (if nI 4 ≤ nI j then _ else _) = _
    rw [if_neg (fun y => by have := (le_n (by omega) (by omega)).mp y; omega), sw_g hp hq, Option.bind_some, lR_ok (by omega), Option.bind_some, lR_ok (by omega), Option.bind_some, nO_ok ⟨by omega, by omega⟩, Option.bind_some]
    dsimp only
    rw [lR_ok (by omega), Option.bind_some, lR_ok (by omega), Option.bind_some, lR_ok (by omega), Option.bind_some, bC_ok ⟨by omega, by omega⟩, Option.bind_some]
    dsimp only
    rw [row_i hx.1 hx.2 (by rw [hset_self]) wj, Option.bind_some]
    dsimp only
    rw [up_sw (by omega) (by omega) (by omega), lR_ok (by omega), Option.bind_some, sw_s (ci := 8) hp (by omega) wj.1 (by omega) (by omega) hm, Option.bind_some]
    unfold nm
    rw [nI_1, show 10 * (d + 1) + kr - 1 - 9 = 10 * d + kr by omega, show 281 * (d + 1) + sr - 1 - 280 = 281 * d + sr by omega]
    exact ih
theorem mat_i {len : Nat} (hN : 1000 ≤ N) (hl : len ≤ 67) (e : h a = some (.inr (4, [.null]))) (w : MT tgt a len) : fX2_init N a (nI len) h (a + 1) = some (up tgt a 42 h, a + 42) := by
  have key : fX2_init N a (nI len) (sv tgt a (a + 1) (.inr (4, [.null])) h) (a + 1) = some (sv tgt a (a + 42) (.inr (4, [.ref (a + 1)])) h, a + 42) := by
    unfold fX2_init nm
    dsimp only
    rw [lR_ok (by omega), Option.bind_some, nO_ok ⟨by omega, by omega⟩, Option.bind_some]
    dsimp only
    rw [sv_n (by omega), lR_ok (by omega), Option.bind_some, sw_p (by omega) (by simp), Option.bind_some, ← arv_0 5 4 (a + 1) 10]
    have l := lX2_init_14_s (N := N) (h := h) (tgt := tgt) (a := a) (len := len) (p := a + 1) (fs := [Value.null].set 0 (Value.ref (a + 1))) (by omega) ⟨hN, hl⟩ rfl w.2.2 4 N 0 (a + 1 + 1) 0 0 rfl (by omega) rfl (fun _ h9 sz10 _ _ => some (h9, sz10))
    refine Eq.trans l ?_
    rw [sw_e (by omega) (by omega) w.2.1]
    rfl
  rw [sv_0 e, sv_e (k := 42) (by omega) w.1] at key
  exact key
theorem div_i (e : h a = some (.inr (2, [.null, .null, .null]))) (w : DT tgt a) : fX0_init N a h (a + 1) = some (up tgt a 7 h, a + 7) := by
  have key : fX0_init N a (sv tgt a (a + 1) (.inr (2, [.null, .null, .null])) h) (a + 1) = some (sv tgt a (a + 7) (.inr (2, [.ref (a + 1), .ref (a + 3), .ref (a + 5)])) h, a + 7) := by
    unfold fX0_init nm
    dsimp only
    rw [lR_ok (by omega), Option.bind_some, nO_ok ⟨by omega, by omega⟩, Option.bind_some]
    try dsimp only
    rw [lR_ok (by omega), Option.bind_some, lR_ok (by omega), Option.bind_some, bC_ok ⟨by omega, by omega⟩, Option.bind_some]
    try dsimp only
    rw [show fX4_init N (a + 1) (13 : Int32) = fX4_init N (a + 1) (nI 13) from rfl, poly_i (len := 13) (by omega) (by rw [hset_self]) w.2.1, Option.bind_some]
    dsimp only
    rw [up_sv (by omega) (by omega), lR_ok (by omega), Option.bind_some, sv_p (by simp), Option.bind_some, lR_ok (by omega), Option.bind_some, nO_ok ⟨by omega, by omega⟩, Option.bind_some]
    try dsimp only
    rw [lR_ok (by omega), Option.bind_some, lR_ok (by omega), Option.bind_some, bC_ok ⟨by omega, by omega⟩, Option.bind_some]
    try dsimp only
    rw [show fX4_init N (a + 1 + 2) (13 : Int32) = fX4_init N (a + 1 + 2) (nI 13) from rfl, poly_i (len := 13) (by omega) (by rw [hset_self]) w.2.2.1, Option.bind_some]
    try dsimp only
    rw [up_sv (by omega) (by omega), lR_ok (by omega), Option.bind_some, sv_p (by simp), Option.bind_some, lR_ok (by omega), Option.bind_some, nO_ok ⟨by omega, by omega⟩, Option.bind_some]
    try dsimp only
    rw [lR_ok (by omega), Option.bind_some, lR_ok (by omega), Option.bind_some, bC_ok ⟨by omega, by omega⟩, Option.bind_some]
    try dsimp only
    rw [show fX4_init N (a + 1 + 2 + 2) (13 : Int32) = fX4_init N (a + 1 + 2 + 2) (nI 13) from rfl, poly_i (len := 13) (by omega) (by rw [hset_self]) w.2.2.2, Option.bind_some]
    dsimp only
    rw [up_sv (by omega) (by omega), lR_ok (by omega), Option.bind_some, sv_p (by simp), Option.bind_some]
    rfl
  rw [sv_0 e, sv_e (k := 7) (by omega) w.1] at key
  exact key
end CI
