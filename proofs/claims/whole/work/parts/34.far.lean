/-! FAR -/
def ds (x y : Nat) : Nat := (x - y) + (y - x)
def FR (a b : Nat) : Nat := max (ds (a / 8) (b / 8)) (ds (a % 8) (b % 8))
/-- a place by its number from the SEATS on: SEATS 0 .. 7, DOTS 8 .. 71 -/
def pl (a : Nat) : Int32 := nI a - 8
theorem pl_row6 : ∀ a, a < 72 → pl a >>> ((3 : Int32) &&& 31) = nI (a / 8) - 1 := by decide +kernel
theorem pl_col6 : ∀ a, a < 72 → pl a &&& (7 : Int32) = nI (a % 8) := by decide +kernel
theorem pl_row7 : ∀ a, a < 72 → (pl a + (8 : Int32)) / (8 : Int32) = nI (a / 8) := by decide +kernel
theorem pl_col7 : ∀ a, a < 72 → (pl a + (8 : Int32)) - nI (a / 8) * (8 : Int32) = nI (a % 8) := by decide +kernel
theorem pl_dot : ∀ a, a < 64 → nI a = pl (a + 8) := by decide +kernel
theorem pl_seat : ∀ a, a < 8 → nI a - (8 : Int32) = pl a := fun _ _ => rfl
theorem ab1 : ∀ x, x < 9 → ∀ y, y < 9 → (if (0 : Int32) ≤ nI x - 1 - (nI y - 1) then nI x - 1 - (nI y - 1) else (0 : Int32) - (nI x - 1 - (nI y - 1))) = nI (ds x y) := by decide +kernel
theorem ab0 : ∀ x, x < 9 → ∀ y, y < 9 → (if (0 : Int32) ≤ nI x - nI y then nI x - nI y else (0 : Int32) - (nI x - nI y)) = nI (ds x y) := by decide +kernel
theorem ab7 : ∀ x, x < 9 → ∀ y, y < 9 → (if (0 : Int32) ≤ nI x - nI y then nI x - nI y else -(nI x - nI y)) = nI (ds x y) := by decide +kernel
theorem ds_lt {x y : Nat} (hx : x < 9) (hy : y < 9) : ds x y < 9 := by unfold ds; omega
theorem mx_lt {p q : Nat} (hp : p < 2 ^ 31) (hq : q < 2 ^ 31) : (if nI p < nI q then nI q else nI p) = nI (max p q) := by
  by_cases h : p < q
  · rw [it (nI_lt h hq), Nat.max_eq_right (by omega)]
  · rw [ie (fun z => h ((nI_ltI hp hq).mp z)), Nat.max_eq_left (by omega)]
theorem mx_le {p q : Nat} (hp : p < 2 ^ 31) (hq : q < 2 ^ 31) : (if nI p ≤ nI q then nI q else nI p) = nI (max p q) := by
  by_cases h : p ≤ q
  · rw [it (nI_le h hq), Nat.max_eq_right (by omega)]
  · rw [ie (nI_ge (by omega) hp), Nat.max_eq_left (by omega)]
theorem far6 {a b : Nat} (ha : a < 72) (hb : b < 72) (M : fxMem) : CX6_far (pl a) (pl b) M = some (nI (FR a b), M) := by
  have e1 : a / 8 < 9 := by omega
  have e2 : b / 8 < 9 := by omega
  have e3 : a % 8 < 9 := by omega
  have e4 : b % 8 < 9 := by omega
  rw [CX6_far]
  simp only [CX6_rowOf, CX6_columnOf, bs, pl_row6 a ha, pl_row6 b hb, pl_col6 a ha, pl_col6 b hb, ab1 _ e1 _ e2, ab0 _ e3 _ e4]
  rw [mx_lt (by have := ds_lt e1 e2; omega) (by have := ds_lt e3 e4; omega)]
  rfl
theorem far7 {a b : Nat} (ha : a < 72) (hb : b < 72) (M : fxMem) : CX7_far (pl a) (pl b) M = some (nI (FR a b), M) := by
  have e1 : a / 8 < 9 := by omega
  have e2 : b / 8 < 9 := by omega
  have e3 : a % 8 < 9 := by omega
  have e4 : b % 8 < 9 := by omega
  rw [CX7_far]
  simp only [CX7_size, bs, pl_row7 a ha, pl_row7 b hb, pl_col7 a ha, pl_col7 b hb, ab7 _ e1 _ e2, ab7 _ e3 _ e4]
  rw [mx_le (by have := ds_lt e1 e2; omega) (by have := ds_lt e3 e4; omega)]
  rfl
theorem FR_lt {a b : Nat} (ha : a < 72) (hb : b < 72) : FR a b < 9 := by
  have e1 : a / 8 < 9 := by omega
  have e2 : b / 8 < 9 := by omega
  have e3 : a % 8 < 9 := by omega
  have e4 : b % 8 < 9 := by omega
  have := ds_lt e1 e2
  have := ds_lt e3 e4
  unfold FR
  omega
/-- DOTS -/
def fd (a b : Nat) : Nat := FR (a + 8) (b + 8)
theorem fd_lt {a b : Nat} (ha : a < 64) (hb : b < 64) : fd a b < 9 := FR_lt (by omega) (by omega)
theorem fd6 {a b : Nat} (ha : a < 64) (hb : b < 64) (M : fxMem) : CX6_far (nI a) (nI b) M = some (nI (fd a b), M) := by
  rw [pl_dot a ha, pl_dot b hb]
  exact far6 (by omega) (by omega) M
theorem fd7 {a b : Nat} (ha : a < 64) (hb : b < 64) (M : fxMem) : CX7_far (nI a) (nI b) M = some (nI (fd a b), M) := by
  rw [pl_dot a ha, pl_dot b hb]
  exact far7 (by omega) (by omega) M
theorem rw6 : ∀ a, a < 64 → nI a >>> ((3 : Int32) &&& 31) = nI (a / 8) := by decide +kernel
theorem cl6 : ∀ a, a < 64 → nI a &&& (7 : Int32) = nI (a % 8) := by decide +kernel
theorem rw7 : ∀ a, a < 64 → nI a / (8 : Int32) = nI (a / 8) := by decide +kernel
theorem cl7 : ∀ a, a < 64 → nI a - nI (a / 8) * (8 : Int32) = nI (a % 8) := by decide +kernel
/-- rows as numbers -/
def nr (M : fxMem) (k p : Nat) : Nat := (M k p).toNatClampNeg
theorem nr_ok {c m : Nat → Int32} {off n B p : Nat} (hB : B < 2 ^ 31) (h : rA c m off n B) (hp : p < n) : (c p).toNatClampNeg < B ∧ c p = nI ((c p).toNatClampNeg) ∧ m (off + p) = nI ((c p).toNatClampNeg) := by
  obtain ⟨a, k, hk, e⟩ := h p hp
  rw [a, e, nI_clamp (by omega)]
  exact ⟨hk, rfl, rfl⟩
