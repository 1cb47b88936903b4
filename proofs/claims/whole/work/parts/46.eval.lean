/-! what the SHOW that holds says of a PLAYER, on both sides -/
def fN (M : fxMem) (p : Nat) : Nat := (M 4 p).toNatClampNeg
def vN (M : fxMem) (p : Nat) : Nat := (M 3 p).toNatClampNeg
def kN (M : fxMem) (p : Nat) : Nat := (M 2 p).toNatClampNeg
theorem ev_ok {Mc Mm : fxMem} {np nf nd nb ns d : Nat} (hZ : rZ Mc) (hF : rF Mc Mm 1 1 np nf nd nb ns d) : ∃ (s : Int32) (ev : Nat → Nat → Nat → Int32), CW Mc (fN Mc) (vN Mc) np (20 + 6 * ns) s ev ∧ ∀ (B : fxMem) (K : Nat → Nat) (dr : Nat) (ab : Int32), (∀ j, j ≠ 5 → (j < 130 ∨ 140 ≤ j) → B 1 j = Mm 1 j) → (∀ p, p < np → K p < 7 ∧ B 1 (130 + p) = nI (K p)) → B 1 5 = nI dr → dr < 64 → B 0 13 = ab → MW B K (fN Mc) (vN Mc) np dr ab s ev := by
  sorry
