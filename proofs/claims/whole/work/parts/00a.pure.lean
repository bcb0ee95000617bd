abbrev hE : Type := (Nat × vp_A) ⊕ (Nat × List Value)
abbrev Hp : Type := Nat → Option hE
def hset (h : Hp) (a : Nat) (e : hE) : Hp := fun x => if x = a then some e else h x
theorem hset_self (h : Hp) (a : Nat) (e : hE) : hset h a e a = some e := by simp [hset]
theorem hset_ne (h : Hp) {a x : Nat} (e : hE) (n : x ≠ a) : hset h a e x = h x := by simp [hset, n]
def gI (h : Hp) (a ci k : Nat) : Option Int32 := match h a with
  | some (.inr (c, fs)) => if c = ci then (match fs[k]? with | some (.int v) => some v | _ => none) else none
  | _ => none
def gR (h : Hp) (a ci k : Nat) : Option Nat := match h a with
  | some (.inr (c, fs)) => if c = ci then (match fs[k]? with | some (.ref v) => some v | _ => none) else none
  | _ => none
def pV (h : Hp) (a ci k : Nat) (v : Value) : Option Hp := match h a with
  | some (.inr (c, fs)) => if c = ci ∧ k < fs.length then some (hset h a (.inr (ci, fs.set k v))) else none
  | _ => none
def cK (h : Hp) (a ci : Nat) : Option Unit := match h a with
  | some (.inr (c, _)) => if c = ci then some () else none
  | _ => none
def aI (h : Hp) (a : Nat) (i : Int32) : Option Int32 := match h a with
  | some (.inl (k, n, .inl f)) => if k = 0 ∧ ¬ (i < 0 ∨ n ≤ i.toNatClampNeg) then some (f i.toNatClampNeg) else none
  | _ => none
def aIs (h : Hp) (a : Nat) (i x : Int32) : Option Hp := match h a with
  | some (.inl (k, n, .inl f)) => if k = 0 ∧ ¬ (i < 0 ∨ n ≤ i.toNatClampNeg) then some (hset h a (.inl (0, n, .inl (upd f i.toNatClampNeg x)))) else none
  | _ => none
def aZ (h : Hp) (a : Nat) (i : Int32) : Option Int32 := match h a with
  | some (.inl (k, n, .inl f)) => if k = 2 ∧ ¬ (i < 0 ∨ n ≤ i.toNatClampNeg) then some (f i.toNatClampNeg) else none
  | _ => none
def aZs (h : Hp) (a : Nat) (i x : Int32) : Option Hp := match h a with
  | some (.inl (k, n, .inl f)) => if k = 2 ∧ ¬ (i < 0 ∨ n ≤ i.toNatClampNeg) then some (hset h a (.inl (2, n, .inl (upd f i.toNatClampNeg (vp_nar .boolean x))))) else none
  | _ => none
def aJ (h : Hp) (a : Nat) (i : Int32) : Option Int64 := match h a with
  | some (.inl (k, n, .inr (.inl f))) => if k = 1 ∧ ¬ (i < 0 ∨ n ≤ i.toNatClampNeg) then some (f i.toNatClampNeg) else none
  | _ => none
def aJs (h : Hp) (a : Nat) (i : Int32) (x : Int64) : Option Hp := match h a with
  | some (.inl (k, n, .inr (.inl f))) => if k = 1 ∧ ¬ (i < 0 ∨ n ≤ i.toNatClampNeg) then some (hset h a (.inl (1, n, .inr (.inl (vp_updL f i.toNatClampNeg x))))) else none
  | _ => none
def aR (h : Hp) (a t : Nat) (i : Int32) : Option Nat := match h a with
  | some (.inl (k, n, .inr (.inr (.inr (.inr f))))) => if k = t ∧ ¬ (i < 0 ∨ n ≤ i.toNatClampNeg) then f i.toNatClampNeg else none
  | _ => none
def aRs (h : Hp) (a t ci : Nat) (i : Int32) (v : Nat) : Option Hp := match h a, h v with
  | some (.inl (k, n, .inr (.inr (.inr (.inr f))))), some (.inr (c, _)) => if (k = t ∧ c = ci) ∧ ¬ (i < 0 ∨ n ≤ i.toNatClampNeg) then some (hset h a (.inl (t, n, .inr (.inr (.inr (.inr (va_up f i.toNatClampNeg (some v)))))))) else none
  | _, _ => none
def aLen (h : Hp) (a t : Nat) : Option Int32 := match h a with
  | some (.inl (k, x)) => if k = t then some (Int32.ofNat x.1) else none
  | _ => none
def nm {α β : Type} (a : α) (f : α → β) : β := f a
def jn {α ρ : Type} (k : α) (f : α → ρ) : ρ := f k
def irm (x y : Int32) : Int32 := x - x / y * y
def lrm (x y : Int64) : Int64 := x - x / y * y
def imx (x y : Int32) : Int32 := if x < y then y else x
def imn (x y : Int32) : Int32 := if y < x then y else x
def iushr (x y : Int32) : Int32 := (x.toUInt32 >>> (y.toUInt32 &&& Int32.toUInt32 31)).toInt32
def nO (h : Hp) (sz kc ks n : Nat) (e : hE) : Option (Hp × Nat × Nat × Nat) := if 1 ≤ kc ∧ n ≤ ks then some (hset h sz e, sz + 1, kc - 1, ks - n) else none
def lR (sz a : Nat) : Option Unit := if a < sz then some () else none
def bC (kc ks mc ms : Nat) : Option (Nat × Nat) := if mc ≤ kc ∧ ms ≤ ks then some (kc - mc, ks - ms) else none
def thr {α β : Type} (q : Nat ⊕ α) (h : Hp) (k : α → Option ((Nat ⊕ β) × Hp)) : Option ((Nat ⊕ β) × Hp) := match q with | .inl c => some (.inl c, h) | .inr v => k v
def hnd {α β : Type} (q : Nat ⊕ α) (f : Nat → Option β) (g : α → Option β) : Option β := match q with | .inl c => f c | .inr v => g v
def sX (xs : Nat → Int32) (L : Nat) (i : Int32) : Option Int32 := if ¬ (i < 0 ∨ L ≤ i.toNatClampNeg) then some (xs i.toNatClampNeg) else none
