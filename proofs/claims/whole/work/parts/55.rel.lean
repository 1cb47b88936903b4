/-! both readers side by side -/
def RS (A B : fxMem) (S ns nb : Nat) (T : Nat → Nat) (a opn : Nat) (us : List Nat) (es : List Int32) (Mc Mm : fxMem) : Prop := CR Mc S a nb T ∧ MR Mm a nb T ∧ (Mc S 8 = nI us.length ∧ ∀ t o, us[t]? = some o → Mc (S + 5) t = opC o) ∧ (Mm 0 4 = nI ns ∧ Mm 0 8 = nI opn ∧ Mm 1 (195 + ns) = nI es.length ∧ ∀ t x, es[t]? = some x → Mm 1 (200 + 140 * ns + t) = x) ∧ (us.length ≤ a ∧ es.length ≤ a) ∧ ((∀ k, k ≠ 16 → k ≠ S → k ≠ S + 5 → Mc k = A k) ∧ ∀ j, j ≠ 8 → Mc S j = A S j) ∧ (∀ k, k ≠ 0 → k ≠ 1 → Mm k = B k) ∧ (∀ j, j ≠ 5 → j ≠ 7 → j ≠ 8 → Mm 0 j = B 0 j) ∧ ∀ j, j ≠ 195 + ns → (j < 200 + 140 * ns ∨ 340 + 140 * ns ≤ j) → Mm 1 j = B 1 j
/-- both have failed at the same place -/
def FS (A B : fxMem) (S ns nb a : Nat) (Mc Mm : fxMem) : Prop := Mc 16 2 = nI a ∧ a ≤ nb ∧ (Mm 0 4 = nI ns ∧ Mm 0 5 = nI a ∧ Mm 0 7 = 1) ∧ ((∀ k, k ≠ 16 → k ≠ S → k ≠ S + 5 → Mc k = A k) ∧ ∀ j, j ≠ 8 → Mc S j = A S j) ∧ (∀ k, k ≠ 0 → k ≠ 1 → Mm k = B k) ∧ (∀ j, j ≠ 5 → j ≠ 7 → j ≠ 8 → Mm 0 j = B 0 j) ∧ ∀ j, j ≠ 195 + ns → (j < 200 + 140 * ns ∨ 340 + 140 * ns ≤ j) → Mm 1 j = B 1 j
/-- the model only goes on failing -/
def FM (M M' : fxMem) : Prop := M' 0 5 = M 0 5 ∧ M' 0 7 = 1 ∧ (∀ k, k ≠ 0 → M' k = M k) ∧ ∀ j, j ≠ 5 → j ≠ 7 → j ≠ 8 → M' 0 j = M 0 j
theorem FM.rf {M : fxMem} (h : M 0 7 = 1) : FM M M := ⟨rfl, h, fun _ _ => rfl, fun _ _ _ _ => rfl⟩
theorem FM.tr {M M' M2 : fxMem} (h : FM M M') (h' : FM M' M2) : FM M M2 := ⟨h'.1.trans h.1, h'.2.1, fun k hk => by rw [h'.2.2.1 k hk, h.2.2.1 k hk], fun j a b c => by rw [h'.2.2.2 j a b c, h.2.2.2 j a b c]⟩
theorem one_ne : ¬ (1 : Int32) = 0 := by decide
theorem ms_f {M : fxMem} (x : Int32) (h : M 0 7 = 1) : ∃ M', CX7_must x M = some M' ∧ FM M M' := by
  refine ⟨fx_st (fx_st M 0 7 1) 0 5 (M 0 5 + 0), ?_, ?_⟩
  · rw [CX7_must, h, ie one_ne, CX7_must_J16, CX7_must_J21, it f11, fx_lt, mm_same, ie one_ne, mm_col (by decide)]
  · exact ⟨by rw [mm_same, Int32.add_zero], by rw [mm_col (by decide), mm_same], fun k hk => by rw [mm_row hk, mm_row hk], fun j z1 z2 z3 => by rw [mm_col z1, mm_col z2]⟩
theorem em_f {M : fxMem} (x : Int32) (h : M 0 7 = 1) : CX7_emits x M = some M := by rw [CX7_emits, h, ie one_ne]
theorem fg_f {M : fxMem} (h : M 0 7 = 1) : ∃ r M', CX7_figures M = some (r, M') ∧ FM M M' := by
  refine ⟨0, fx_st M 0 7 1, ?_, ?_⟩
  · rw [CX7_figures, h, ie one_ne, CX7_figures_J22, CX7_figures_J27, it f11, CX7_figures_L34, ie (by decide), mm_same, ie one_ne]
  · exact ⟨by rw [mm_col (by decide)], mm_same _ _ _ _, fun k hk => mm_row hk _ _ _, fun j z1 z2 z3 => mm_col z2 _ _ _⟩
theorem fc_f {M : fxMem} {d : Nat} (h : M 0 7 = 1) : gX7f (d + 1) 2 M = some M := by
  rw [gX7f, ie (by decide), ie (by decide), BX7_factor, h, ie one_ne]
theorem ev_f {M : fxMem} {d : Nat} (h : M 0 7 = 1) : gX7f (d + 2) 1 M = some M := by
  rw [gX7f, ie (by decide), it rfl, BX7_every, fc_f h, bs, CX7_every_L4, h, ie one_ne]
theorem so_f {M : fxMem} {d : Nat} (h : M 0 7 = 1) : gX7f (d + 3) 0 M = some M := by
  rw [gX7f, it rfl, BX7_some, ev_f h, bs, CX7_some_L4, h, ie one_ne]
theorem sp_f {x : Nat} (hx : fx_isS x = true) (hl : (kx_b (x - 1000)).length ≤ 20) : ∀ (n i : Nat) (M : fxMem), (kx_b (x - 1000)).length - i < n → i ≤ (kx_b (x - 1000)).length → M 0 7 = 1 → ∃ M', CX7_spells_L2 x n (nI i) M (fun _ M => some M) = some M' ∧ FM M M'
  | 0, i, M, h, _, _ => absurd h (Nat.not_lt_zero _)
  | n + 1, i, M, h, hi, hM => by
    rw [CX7_spells_L2, it hx, kx_l]
    by_cases z : i = (kx_b (x - 1000)).length
    · rw [z, it (Int32.le_refl _)]
      exact ⟨M, rfl, FM.rf hM⟩
    · rw [ie (nI_ge (by omega) (by omega)), it (gin (by omega) (by omega))]
      obtain ⟨M1, e1, e2⟩ := ms_f (kx_c x (nI i)) hM
      rw [e1, bs, n1 i]
      obtain ⟨M2, g1, g2⟩ := sp_f hx hl n (i + 1) M1 (by omega) (by omega) e2.2.1
      exact ⟨M2, g1, e2.tr g2⟩
/-- a code written on both sides -/
theorem wr {A B : fxMem} {S ns nb a opn o : Nat} {T : Nat → Nat} {us : List Nat} {es : List Int32} {Mc Mm : fxMem} (h : RS A B S ns nb T a opn us es Mc Mm) (hS : fx_isSh S = true) (hns : ns < 5) (hu : us.length < a) (he : es.length < a) (hS16 : S ≠ 16 ∧ S + 5 ≠ 16 ∧ 7 < S) : ∃ Mc' Mm', CX3_write S (opC o) Mc = some Mc' ∧ CX7_emits (opM o) Mm = some Mm' ∧ RS A B S ns nb T a opn (us ++ [o]) (es ++ [opM o]) Mc' Mm' := by
  obtain ⟨⟨a1, a2, a3, a4, a5, a6⟩, ⟨b1, b2, b3, b4, b5, b6⟩, ⟨c1, c2⟩, ⟨d1, d2, d3, d4⟩, ⟨l1, l2⟩, ⟨f1, f2⟩, f3, f4, f5⟩ := h
  refine ⟨fx_st (fx_st Mc (S + 5) us.length (opC o)) S 8 (nI (us.length + 1)), fx_st (fx_st Mm 1 (200 + 140 * ns + es.length) (opM o)) 1 (195 + ns) (nI (es.length + 1)), ?_, ?_, ?_⟩
  · rw [CX3_write, it hS, c1, ie (show ¬ (120 : Int32) ≤ nI us.length from nI_ge (b := 120) (by omega) (by decide)), it (gin (by omega) (by decide)), nI_clamp (by omega), fx_lt, mm_row (show S ≠ S + 5 by omega), c1, n1]
  · rw [CX7_emits, it b3, d1, la195, it (gin (by omega) (by decide)), nI_clamp (by omega), d3, b140 ns hns, nI_add, it (gin (by omega) (by decide)), nI_clamp (by omega), fx_lt, mm_row (show 0 ≠ 1 by decide), d1, la195, it (gin (by omega) (by decide)), nI_clamp (by omega), mm_col (show 195 + ns ≠ 200 + 140 * ns + es.length by omega), d3, n1]
  · have rc : ∀ k, k ≠ S → k ≠ S + 5 → (fx_st (fx_st Mc (S + 5) us.length (opC o)) S 8 (nI (us.length + 1))) k = Mc k := fun k z1 z2 => by rw [mm_row z1, mm_row z2]
    have rm : ∀ k, k ≠ 1 → (fx_st (fx_st Mm 1 (200 + 140 * ns + es.length) (opM o)) 1 (195 + ns) (nI (es.length + 1))) k = Mm k := fun k z1 => by rw [mm_row z1, mm_row z1]
    have rj : ∀ j, j ≠ 195 + ns → j ≠ 200 + 140 * ns + es.length → (fx_st (fx_st Mm 1 (200 + 140 * ns + es.length) (opM o)) 1 (195 + ns) (nI (es.length + 1))) 1 j = Mm 1 j := fun j z1 z2 => by rw [mm_col z1, mm_col z2]
    refine ⟨⟨by rw [rc 16 (by omega) (by omega)]; exact a1, by rw [rc 16 (by omega) (by omega)]; exact a2, by rw [rc 1 (by omega) (by omega)]; exact a3, a4, a5, by rw [rc 7 (by omega) (by omega)]; exact a6⟩, ⟨by rw [rm 0 (by decide)]; exact b1, by rw [rm 0 (by decide)]; exact b2, by rw [rm 0 (by decide)]; exact b3, b4, b5, fun i hi => ⟨(b6 i hi).1, by rw [rj _ (by omega) (by omega)]; exact (b6 i hi).2⟩⟩, ⟨by rw [mm_same, List.length_append]; rfl, fun t x ht => ?_⟩, ⟨by rw [rm 0 (by decide)]; exact d1, by rw [rm 0 (by decide)]; exact d2, by rw [mm_same, List.length_append]; rfl, fun t x ht => ?_⟩, ⟨by rw [List.length_append]; exact hu, by rw [List.length_append]; exact he⟩, ⟨fun k z1 z2 z3 => by rw [rc k z2 z3]; exact f1 k z1 z2 z3, fun j hj => by rw [mm_col hj, mm_row (by omega)]; exact f2 j hj⟩, fun k z1 z2 => by rw [rm k z2]; exact f3 k z1 z2, fun j z1 z2 z3 => by rw [rm 0 (by decide)]; exact f4 j z1 z2 z3, fun j z1 z2 => by rw [rj j z1 (by omega)]; exact f5 j z1 z2⟩
    · rw [mm_row (show S + 5 ≠ S by omega)]
      by_cases e : t = us.length
      · subst e
        rw [List.getElem?_append_right (Nat.le_refl _), Nat.sub_self] at ht
        rw [mm_same, Option.some.inj ht]
      · rw [mm_col e]
        rcases Nat.lt_or_ge t us.length with z | z
        · rw [List.getElem?_append_left z] at ht; exact c2 t x ht
        · rw [List.getElem?_eq_none (by rw [List.length_append, List.length_singleton]; omega)] at ht
          exact absurd ht (by simp)
    · by_cases e : t = es.length
      · subst e
        rw [List.getElem?_append_right (Nat.le_refl _), Nat.sub_self] at ht
        rw [mm_col (by omega), mm_same]
        exact Option.some.inj ht
      · rcases Nat.lt_or_ge t es.length with z | z
        · rw [List.getElem?_append_left z] at ht
          rw [rj _ (by omega) (by omega)]; exact d4 t x ht
        · rw [List.getElem?_eq_none (by rw [List.length_append, List.length_singleton]; omega)] at ht
          exact absurd ht (by simp)
