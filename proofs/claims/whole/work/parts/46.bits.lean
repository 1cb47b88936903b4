/-! what the SHOW that holds says of a PLAYER, on both sides -/
def fN (M : fxMem) (p : Nat) : Nat := (M 4 p).toNatClampNeg
def vN (M : fxMem) (p : Nat) : Nat := (M 3 p).toNatClampNeg
def kN (M : fxMem) (p : Nat) : Nat := (M 2 p).toNatClampNeg
def bI (b : Bool) : Nat := if b then 1 else 0
def tst (a : Nat → Nat) (o : Nat) : Bool := if o / 100 % 3 = 0 then decide (a (o / 300) < o % 100) else if o / 100 % 3 = 1 then decide (a (o / 300) = o % 100) else decide (o % 100 < a (o / 300))
def run1 (a : Nat → Nat) (o : Nat) (st : List Bool) : List Bool := if o < 1500 then tst a o :: st else if o = 1500 then (match st with
  | [] => []
  | b :: r => (!b) :: r) else (match st with
  | b1 :: b2 :: r => (if o = 1501 then b2 && b1 else b2 || b1) :: r
  | s => s)
def run (a : Nat → Nat) : List Nat → List Bool → List Bool
  | [], st => st
  | o :: r, st => run a r (run1 a o st)
def enc : List Bool → Nat
  | [] => 0
  | b :: r => 2 * enc r + bI b
theorem bI_lt (b : Bool) : bI b < 2 := by cases b <;> decide
theorem enc_lt : ∀ st : List Bool, enc st < 2 ^ st.length
  | [] => by decide
  | b :: r => by
    have h1 := enc_lt r
    have h2 := bI_lt b
    rw [enc, List.length_cons, Nat.pow_succ]
    omega
theorem pa1 : ∀ o, o < 1500 → (nI o / (100 : Int32)) / (3 : Int32) = nI (o / 300) ∧ nI o - nI o / (100 : Int32) * (100 : Int32) = nI (o % 100) ∧ (nI o / (100 : Int32)) - (nI o / (100 : Int32)) / (3 : Int32) * (3 : Int32) = nI (o / 100 % 3) := by decide +kernel
theorem pm1 : ∀ o, o < 1500 → nI (o / 300 + 8 * (o / 100 % 3) + 32 * (o % 100)) / (32 : Int32) = nI (o % 100) ∧ (nI (o / 300 + 8 * (o / 100 % 3) + 32 * (o % 100)) / (8 : Int32)) - (nI (o / 300 + 8 * (o / 100 % 3) + 32 * (o % 100)) / (8 : Int32)) / (4 : Int32) * (4 : Int32) = nI (o / 100 % 3) ∧ nI (o / 300 + 8 * (o / 100 % 3) + 32 * (o % 100)) - nI (o / 300 + 8 * (o / 100 % 3) + 32 * (o % 100)) / (8 : Int32) * (8 : Int32) = nI (o / 300) := by decide +kernel
theorem eb_not' : ∀ a, a < 64 → ∀ b, b < 128 → (nI (128 * a + b) ^^^ (1 : Int32) = nI (2 * ((128 * a + b) / 2) + (1 - (128 * a + b) % 2))) := by decide +kernel
theorem eb_not : ∀ e, e < 8192 → (nI e ^^^ (1 : Int32) = nI (2 * (e / 2) + (1 - e % 2))) := fun e he => by
  have h := eb_not' (e / 128) (by omega) (e % 128) (by omega)
  rwa [Nat.div_add_mod e 128] at h
theorem eb_and' : ∀ a, a < 64 → ∀ b, b < 128 → ((((nI (128 * a + b)).toUInt32 >>> ((1 : Int32).toUInt32 &&& Int32.toUInt32 31)).toInt32) &&& ((nI (128 * a + b) &&& (1 : Int32)) ||| (-2 : Int32)) = nI (2 * ((128 * a + b) / 4) + ((128 * a + b) / 2 % 2) * ((128 * a + b) % 2))) := by decide +kernel
theorem eb_and : ∀ e, e < 8192 → ((((nI e).toUInt32 >>> ((1 : Int32).toUInt32 &&& Int32.toUInt32 31)).toInt32) &&& ((nI e &&& (1 : Int32)) ||| (-2 : Int32)) = nI (2 * (e / 4) + (e / 2 % 2) * (e % 2))) := fun e he => by
  have h := eb_and' (e / 128) (by omega) (e % 128) (by omega)
  rwa [Nat.div_add_mod e 128] at h
theorem eb_or' : ∀ a, a < 64 → ∀ b, b < 128 → ((((nI (128 * a + b)).toUInt32 >>> ((1 : Int32).toUInt32 &&& Int32.toUInt32 31)).toInt32) ||| (nI (128 * a + b) &&& (1 : Int32)) = nI (2 * ((128 * a + b) / 4) + max ((128 * a + b) / 2 % 2) ((128 * a + b) % 2))) := by decide +kernel
theorem eb_or : ∀ e, e < 8192 → ((((nI e).toUInt32 >>> ((1 : Int32).toUInt32 &&& Int32.toUInt32 31)).toInt32) ||| (nI e &&& (1 : Int32)) = nI (2 * (e / 4) + max (e / 2 % 2) (e % 2))) := fun e he => by
  have h := eb_or' (e / 128) (by omega) (e % 128) (by omega)
  rwa [Nat.div_add_mod e 128] at h
theorem eb_push' : ∀ a, a < 64 → ∀ b, b < 128 → ((nI (128 * a + b) <<< ((1 : Int32) &&& 31)) ||| (0 : Int32) = nI (2 * (128 * a + b)) ∧ (nI (128 * a + b) <<< ((1 : Int32) &&& 31)) ||| (1 : Int32) = nI (2 * (128 * a + b) + 1)) := by decide +kernel
theorem eb_push : ∀ e, e < 8192 → ((nI e <<< ((1 : Int32) &&& 31)) ||| (0 : Int32) = nI (2 * e) ∧ (nI e <<< ((1 : Int32) &&& 31)) ||| (1 : Int32) = nI (2 * e + 1)) := fun e he => by
  have h := eb_push' (e / 128) (by omega) (e % 128) (by omega)
  rwa [Nat.div_add_mod e 128] at h
theorem eb_top' : ∀ a, a < 64 → ∀ b, b < 128 → (((nI (128 * a + b) &&& (1 : Int32) = (1 : Int32)) ↔ (128 * a + b) % 2 = 1)) := by decide +kernel
theorem eb_top : ∀ e, e < 8192 → (((nI e &&& (1 : Int32) = (1 : Int32)) ↔ e % 2 = 1)) := fun e he => by
  have h := eb_top' (e / 128) (by omega) (e % 128) (by omega)
  rwa [Nat.div_add_mod e 128] at h
