/-! the show's failure, and small steps of a clause -/
/-- both have failed: what is left of either -/
def CLF (A B : fxMem) (S ns nb a : Nat) (Mc Mm : fxMem) : Prop := Mc 16 2 = nI a ∧ a ≤ nb ∧ (Mm 0 4 = nI ns ∧ Mm 0 5 = nI a ∧ Mm 0 7 = 1) ∧ (∀ k, k ≠ 16 → (k < S ∨ S + 5 < k) → Mc k = A k) ∧ (∀ k, k ≠ 0 → k ≠ 1 → Mm k = B k) ∧ (∀ j, j ≠ 5 → j ≠ 7 → j ≠ 8 → Mm 0 j = B 0 j) ∧ ∀ j, j ≠ 180 + ns → j ≠ 185 + ns → j ≠ 190 + ns → j ≠ 195 + ns → (j < 200 + 140 * ns ∨ 340 + 140 * ns ≤ j) → Mm 1 j = B 1 j
theorem CLR.bad {A B : fxMem} {S ns nb a spd bt stp b : Nat} {T : Nat → Nat} {cl : List Cls} {Mc Mm Mc' Mm' : fxMem} (h : CLR A B S ns nb T a cl spd bt stp Mc Mm) (hf : FS Mc Mm S ns nb b Mc' Mm') : CLF A B S ns nb b Mc' Mm' := by
  obtain ⟨h1, h2, hc, ⟨d1, _⟩, hl, he, ht, ok, f1, f2, f3, f4⟩ := h
  obtain ⟨g1, g2, ⟨g3, g4, g5⟩, ⟨g6, g7⟩, g8, g9, g10⟩ := hf
  exact ⟨g1, g2, ⟨g3, g4, g5⟩, fun k z1 z2 => by rw [g6 k z1 (by omega) (by omega)]; exact f1 k z1 z2, fun k z1 z2 => by rw [g8 k z1 z2]; exact f2 k z1 z2, fun j z1 z2 z3 => by rw [g9 j z1 z2 z3]; exact f3 j z1 z2 z3, fun j z1 z2 z3 z4 z5 => by rw [g10 j z4 z5]; exact f4 j z1 z2 z3 z4 z5⟩
theorem DP.one {ops : List Nat} (h : DP ops 13) : dpt ops 0 = some 1 := by
  have := h 0 [] (by decide)
  rw [List.append_nil] at this
  exact this
