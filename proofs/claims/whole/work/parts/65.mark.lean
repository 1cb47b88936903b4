/-! a mark written, in the reference -/
theorem em7 {A B : fxMem} {S ns nb a opn : Nat} {T : Nat → Nat} {us : List Nat} {es : List Int32} {Mc Mm : fxMem} {x : Int32} (h : RS A B S ns nb T a opn us es Mc Mm) (hns : ns < 5) (he : es.length < a) : ∃ Mm', CX7_emits x Mm = some Mm' ∧ RS A B S ns nb T a opn us (es ++ [x]) Mc Mm' := by
  obtain ⟨hC, ⟨b1, b2, b3, b4, b5, b6⟩, hu, ⟨d1, d2, d3, d4⟩, ⟨l1, l2⟩, ff, f3, f4, f5⟩ := h
  refine ⟨fx_st (fx_st Mm 1 (200 + 140 * ns + es.length) x) 1 (195 + ns) (nI (es.length + 1)), ?_, ?_⟩
  · rw [CX7_emits, it b3, d1, la195, it (gin (by omega) (by decide)), nI_clamp (by omega), d3, b140 ns hns, nI_add, it (gin (by omega) (by decide)), nI_clamp (by omega), fx_lt, mm_row (show 0 ≠ 1 by decide), d1, la195, it (gin (by omega) (by decide)), nI_clamp (by omega), mm_col (show 195 + ns ≠ 200 + 140 * ns + es.length by omega), d3, n1]
  · have rm : ∀ k, k ≠ 1 → (fx_st (fx_st Mm 1 (200 + 140 * ns + es.length) x) 1 (195 + ns) (nI (es.length + 1))) k = Mm k := fun k z1 => by rw [mm_row z1, mm_row z1]
    have rj : ∀ j, j ≠ 195 + ns → j ≠ 200 + 140 * ns + es.length → (fx_st (fx_st Mm 1 (200 + 140 * ns + es.length) x) 1 (195 + ns) (nI (es.length + 1))) 1 j = Mm 1 j := fun j z1 z2 => by rw [mm_col z1, mm_col z2]
    refine ⟨hC, ⟨by rw [rm 0 (by decide)]; exact b1, by rw [rm 0 (by decide)]; exact b2, by rw [rm 0 (by decide)]; exact b3, b4, b5, fun i hi => ⟨(b6 i hi).1, by rw [rj _ (by omega) (by omega)]; exact (b6 i hi).2⟩⟩, hu, ⟨by rw [rm 0 (by decide)]; exact d1, by rw [rm 0 (by decide)]; exact d2, by rw [mm_same, List.length_append]; rfl, fun t y ht => ?_⟩, ⟨l1, by rw [List.length_append]; exact he⟩, ff, fun k z1 z2 => by rw [rm k z2]; exact f3 k z1 z2, fun j z1 z2 z3 => by rw [rm 0 (by decide)]; exact f4 j z1 z2 z3, fun j z1 z2 => by rw [rj j z1 (by omega)]; exact f5 j z1 z2⟩
    by_cases e : t = es.length
    · subst e
      rw [List.getElem?_append_right (Nat.le_refl _), Nat.sub_self] at ht
      rw [mm_col (by omega), mm_same]
      exact Option.some.inj ht
    · rcases Nat.lt_or_ge t es.length with z | z
      · rw [List.getElem?_append_left z] at ht
        rw [rj _ (by omega) (by omega)]; exact d4 t y ht
      · rw [List.getElem?_eq_none (by rw [List.length_append, List.length_singleton]; omega)] at ht
        exact absurd ht (by simp)
/-- between clauses -/
def CLR (A B : fxMem) (S ns nb : Nat) (T : Nat → Nat) (a : Nat) (cl : List Cls) (spd bt stp : Nat) (Mc Mm : fxMem) : Prop := CR Mc S a nb T ∧ MR Mm a nb T ∧ (Mc S 8 = nI (flC cl).length ∧ ∀ t o, (flC cl)[t]? = some o → Mc (S + 5) t = opC o) ∧ (Mm 0 4 = nI ns ∧ Mm 0 8 = nI 0 ∧ Mm 1 (195 + ns) = nI (flM cl).length ∧ ∀ t x, (flM cl)[t]? = some x → Mm 1 (200 + 140 * ns + t) = x) ∧ ((flC cl).length ≤ a ∧ (flM cl).length ≤ a ∧ cl.length ≤ a) ∧ (Mc S 3 = nI cl.length ∧ ∀ j q, cl[j]? = some q → Mc (S + 1) j = nI q.1 ∧ Mc (S + 2) j = nI q.2.1 ∧ Mc (S + 3) j = nI (flC (cl.take j)).length ∧ Mc (S + 4) j = nI (flC (cl.take (j + 1))).length) ∧ (spd < 100 ∧ bt < 100 ∧ stp < 100 ∧ Mc S 0 = nI spd ∧ Mm 1 (180 + ns) = nI spd ∧ Mc S 1 = nI (max 1 bt) ∧ Mm 1 (185 + ns) = nI bt ∧ Mc S 2 = nI (max 1 stp) ∧ Mm 1 (190 + ns) = nI stp) ∧ (∀ q ∈ cl, okQ q) ∧ (∀ k, k ≠ 16 → (k < S ∨ S + 5 < k) → Mc k = A k) ∧ (∀ k, k ≠ 0 → k ≠ 1 → Mm k = B k) ∧ (∀ j, j ≠ 5 → j ≠ 7 → j ≠ 8 → Mm 0 j = B 0 j) ∧ ∀ j, j ≠ 180 + ns → j ≠ 185 + ns → j ≠ 190 + ns → j ≠ 195 + ns → (j < 200 + 140 * ns ∨ 340 + 140 * ns ≤ j) → Mm 1 j = B 1 j
theorem CLR.sh {A B : fxMem} {S ns nb a spd bt stp : Nat} {T : Nat → Nat} {cl : List Cls} {Mc Mm : fxMem} (h : CLR A B S ns nb T a cl spd bt stp Mc Mm) (hl : cl.length ≤ 10) : shR (Mc S) (Mc (S + 1)) (Mc (S + 2)) (Mc (S + 3)) (Mc (S + 4)) (Mc (S + 5)) (Mm 1) ns := by
  obtain ⟨h1, h2, ⟨c1, c2⟩, ⟨d1, d2, d3, d4⟩, ⟨l1, l2, l3⟩, ⟨e1, e2⟩, ⟨t1, t2, t3, t4, t5, t6, t7, t8, t9⟩, ok, f1, f2, f3, f4⟩ := h
  have ha := h1.2.2.2.1
  have hn := h1.2.2.2.2.1
  exact ⟨cl, spd, bt, stp, hl, t1, t2, t3, t4, t5, t6, t7, t8, t9, e1, e2, c2, d3, d4, by omega, by omega, ok⟩
theorem CLR.rs {A B : fxMem} {S ns nb a spd bt stp : Nat} {T : Nat → Nat} {cl : List Cls} {Mc Mm : fxMem} (h : CLR A B S ns nb T a cl spd bt stp Mc Mm) : RS Mc Mm S ns nb T a 0 (flC cl) (flM cl) Mc Mm := by
  obtain ⟨h1, h2, hc, hd, ⟨l1, l2, l3⟩, _⟩ := h
  exact ⟨h1, h2, hc, hd, ⟨l1, l2⟩, ⟨fun _ _ _ _ => rfl, fun _ _ => rfl⟩, fun _ _ _ => rfl, fun _ _ _ _ => rfl, fun _ _ _ => rfl⟩
