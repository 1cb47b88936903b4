/-! the list of clauses -/
/-- neither side has touched more than the show in the making -/
def CLE (A B : fxMem) (S ns nb p : Nat) (Mc Mm : fxMem) : Prop := p ≤ nb ∧ Mm 0 4 = nI ns ∧ (∀ k, k ≠ 16 → (k < S ∨ S + 5 < k) → Mc k = A k) ∧ (∀ k, k ≠ 0 → k ≠ 1 → Mm k = B k) ∧ (∀ j, j ≠ 5 → j ≠ 7 → j ≠ 8 → Mm 0 j = B 0 j) ∧ ∀ j, j ≠ 180 + ns → j ≠ 185 + ns → j ≠ 190 + ns → j ≠ 195 + ns → (j < 200 + 140 * ns ∨ 340 + 140 * ns ≤ j) → Mm 1 j = B 1 j
theorem CLF.e {A B : fxMem} {S ns nb p : Nat} {Mc Mm : fxMem} (h : CLF A B S ns nb p Mc Mm) : CLE A B S ns nb p Mc Mm := ⟨h.2.1, h.2.2.1.1, h.2.2.2⟩
theorem CLR.e {A B : fxMem} {S ns nb a spd bt stp : Nat} {T : Nat → Nat} {cl : List Cls} {Mc Mm : fxMem} (h : CLR A B S ns nb T a cl spd bt stp Mc Mm) : CLE A B S ns nb a Mc Mm := by
  obtain ⟨h1, h2, hc, ⟨d1, _⟩, hl, he, ht, ok, f⟩ := h
  exact ⟨h1.2.2.2.1, d1, f⟩
theorem CLR.go {A B : fxMem} {S ns nb a b spd bt stp : Nat} {T : Nat → Nat} {cl : List Cls} {Mc Mm : fxMem} (h : CLR A B S ns nb T a cl spd bt stp Mc Mm) (hS : 26 ≤ S) (hb : a ≤ b) (hn : b ≤ nb) : CLR A B S ns nb T b cl spd bt stp (at6 Mc b) (at7 Mm b) := by
  obtain ⟨h1, h2, ⟨c1, c2⟩, ⟨d1, d2, d3, d4⟩, ⟨l1, l2, l3⟩, ⟨e1, e2⟩, ⟨t1, t2, t3, t4, t5, t6, t7, t8, t9⟩, ok, f1, f2, f3, f4⟩ := h
  have r : ∀ k, k ≠ 16 → at6 Mc b k = Mc k := fun k hk => by unfold at6; exact mm_row hk _ _ _
  have m : ∀ k, k ≠ 0 → at7 Mm b k = Mm k := fun k hk => by unfold at7; exact mm_row hk _ _ _
  have m0 : ∀ j, j ≠ 5 → at7 Mm b 0 j = Mm 0 j := fun j hj => by unfold at7; exact mm_col hj _ _ _
  unfold CLR
  rw [r S (by omega), r (S + 1) (by omega), r (S + 2) (by omega), r (S + 3) (by omega), r (S + 4) (by omega), r (S + 5) (by omega), m 1 (by decide), m0 4 (by decide), m0 8 (by decide)]
  exact ⟨h1.go hn, h2.go hn, ⟨c1, c2⟩, ⟨d1, d2, d3, d4⟩, ⟨by omega, by omega, by omega⟩, ⟨e1, e2⟩, ⟨t1, t2, t3, t4, t5, t6, t7, t8, t9⟩, ok, fun k z1 z2 => by rw [r k z1]; exact f1 k z1 z2, fun k z1 z2 => by rw [m k z1]; exact f2 k z1 z2, fun j z1 z2 z3 => by rw [m0 j z1]; exact f3 j z1 z2 z3, f4⟩
theorem j160_f {M : fxMem} {p : Nat} {x : Int32} (h : M 0 5 = nI p) (h' : M 0 7 = 1 ∨ M 0 5 ≠ M 0 6) : CX7_show_J160 x M = some ((-10 : Int32) - nI p, M) := by
  rw [CX7_show_J160]
  rcases h' with h' | h'
  · rw [h', ie one_ne, h]
  · by_cases z : M 0 7 = 0
    · rw [it z, ie h', h]
    · rw [ie z, h]
theorem j160_x (x y : Int32) (M : fxMem) : CX7_show_J160 x M = CX7_show_J160 y M := by rw [CX7_show_J160, CX7_show_J160]
def LST (A B : fxMem) (S ns nb : Nat) (T : Nat → Nat) (rc rm : Option (Int32 × fxMem)) : Prop := (∃ Mc' Mm' cl spd bt stp, rc = some (-1, Mc') ∧ rm = CX7_show_J160 0 Mm' ∧ CLR A B S ns nb T nb cl spd bt stp Mc' Mm' ∧ cl.length ≤ 10) ∨ ∃ Mc' Mm' p, rc = some (nI p, Mc') ∧ rm = some ((-10 : Int32) - nI p, Mm') ∧ CLE A B S ns nb p Mc' Mm'
theorem list2 {A B : fxMem} {S ns nb x : Nat} {T : Nat → Nat} (hS : fx_isSh S = true) (hns : ns < 5) (hS26 : 26 ≤ S) (hS60 : S < 60) : ∀ (n i a spd bt stp : Nat) (cl : List Cls) (Mc Mm : fxMem), 10 - i < n → 1 ≤ i → i ≤ 10 → cl.length + 1 = i → CLR A B S ns nb T a cl spd bt stp Mc Mm → LST A B S ns nb T (CX2_readInto_L19 x n (nI i) Mc (fun _ M19 => some (M19 16 2, M19))) (Option.bind (CX7_clauseHere Mm) fun q => CX7_show_L118 n (nI i) q (fun y M => CX7_show_J160 y M))
  | 0, i, a, spd, bt, stp, cl, Mc, Mm, hn, _, _, _, _ => absurd hn (Nat.not_lt_zero _)
  | n + 1, i, a, spd, bt, stp, cl, Mc, Mm, hn, hi1, hi, hc, h => by
    rw [CX2_readInto_L19, ie (show ¬ (10 : Int32) < nI i from fun z => by have := (nI_ltI (a := 10) (by decide) (by omega)).mp z; omega)]
    rcases clause2 h hS hns hS26 hS60 (by omega) with ⟨Mc1, Mm1, a1, q, s1, b1, p1, e1, e2, e3, e4⟩ | ⟨Mc1, Mm1, p, e1, e2, e3⟩
    · have hC := e3.1
      have hM := e3.2.1
      have hnb := hC.2.2.2.2.1
      have hle := hC.2.2.2.1
      have hlen : (cl ++ [q]).length = i := by rw [List.length_append, List.length_singleton]; exact hc
      rw [e1, bs, e2, bs]
      dsimp only
      rw [ie one_ne, CX7_show_L118, it hM.2.2.1]
      by_cases z : a1 = nb
      · rw [it (show Mc1 16 2 = Mc1 1 9 by rw [hC.2.1, hC.2.2.1, z])]
        refine Or.inl ⟨Mc1, Mm1, cl ++ [q], s1, b1, p1, rfl, ?_, by rw [← z]; rw [← z] at e3; exact e3, by omega⟩
        by_cases z10 : (10 : Int32) ≤ nI i
        · rw [it z10]; exact j160_x _ _ _
        · rw [ie z10, hM.he, bs]
          dsimp only
          rw [ie (fun q => by have := (hr_c hM.t (ch := 59) (by decide)).mp q; have := cur_lt (T := T) (nb := nb) (a := a1) (by omega); omega)]
          exact j160_x _ _ _
      · have hne : Mm1 0 5 ≠ Mm1 0 6 := by
          rw [hM.1, hM.2.1]
          exact fun q => z ((nI_eq (by omega) (by omega)).mp q)
        rw [ie (show ¬ Mc1 16 2 = Mc1 1 9 by rw [hC.2.1, hC.2.2.1]; exact fun q => z ((nI_eq (by omega) (by omega)).mp q))]
        by_cases z10 : i = 10
        · rw [it (show nI i = (10 : Int32) by rw [z10]; rfl), it (show (10 : Int32) ≤ nI i by rw [z10]; decide), j160_f hM.1 (Or.inr hne), hC.2.1]
          exact Or.inr ⟨Mc1, Mm1, a1, rfl, rfl, e3.e⟩
        · rw [ie (show ¬ nI i = (10 : Int32) from fun q => z10 ((kk (k := 10) (by omega) (by decide)).mp q)), ie (show ¬ (10 : Int32) ≤ nI i from nI_ge (b := 10) (by omega) (by decide)), on6 hC (by decide) kSe (by decide), bs, hM.he, bs]
          by_cases z59 : cur T nb a1 = 59
          · have hlt := cur_lt (T := T) (nb := nb) (a := a1) (by omega)
            rw [it z59]
            dsimp only
            rw [ie one_ne, it (show hr7 T nb a1 = (59 : Int32) from (hr_c hM.t (ch := 59) (by decide)).mpr z59), hM.1, n1 a1, n1 i, show fx_st Mm1 0 5 (nI (a1 + 1)) = at7 Mm1 (a1 + 1) from rfl]
            exact list2 hS hns hS26 hS60 n (i + 1) (a1 + 1) s1 b1 p1 (cl ++ [q]) _ _ (by omega) (by omega) (by omega) (by omega) (e3.go hS26 (by omega) hlt)
          · rw [ie z59]
            dsimp only
            rw [it rfl, hC.2.1, ie (show ¬ hr7 T nb a1 = (59 : Int32) from fun q => z59 ((hr_c hM.t (ch := 59) (by decide)).mp q)), j160_f hM.1 (Or.inr hne)]
            exact Or.inr ⟨Mc1, Mm1, a1, rfl, rfl, e3.e⟩
    · rw [e1, bs, e2, bs]
      dsimp only
      have h7 := e3.2.2.1.2.2
      rw [it rfl, e3.1, CX7_show_L118, h7, ie one_ne, j160_f e3.2.2.1.2.1 (Or.inl h7)]
      exact Or.inr ⟨Mc1, Mm1, p, rfl, rfl, e3.e⟩
