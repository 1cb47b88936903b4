/-! a clause added on both sides: from CLR to CLR -/
def adC (M : fxMem) (S c w n : Nat) (x3 : Int32) : fxMem := fx_st (fx_st (fx_st (fx_st (fx_st (tol M S w n) (S + 1) c (nI w)) (S + 2) c (nI n)) (S + 3) c x3) (S + 4) c (M S 8)) S 3 (nI (c + 1))
theorem adC_o {M : fxMem} {S c w n k : Nat} {x3 : Int32} (h : k < S ∨ S + 4 < k) : adC M S c w n x3 k = M k := by
  unfold adC
  rw [mm_row (by omega), mm_row (by omega), mm_row (by omega), mm_row (by omega), mm_row (by omega), tol_o (by omega)]
theorem adC_j {M : fxMem} {S c w n j : Nat} {x3 : Int32} (h : j ≠ 3) : adC M S c w n x3 S j = tol M S w n S j := by
  unfold adC
  rw [mm_col h, mm_row (by omega), mm_row (by omega), mm_row (by omega), mm_row (by omega)]
theorem adC_3 {M : fxMem} {S c w n : Nat} {x3 : Int32} : adC M S c w n x3 S 3 = nI (c + 1) := mm_same _ _ _ _
theorem adC_r1 {M : fxMem} {S c w n : Nat} {x3 : Int32} : adC M S c w n x3 (S + 1) = upd (M (S + 1)) c (nI w) := by
  unfold adC
  rw [mm_row (by omega), mm_row (by omega), mm_row (by omega), mm_row (by omega), mm_r, tol_o (by omega)]
theorem adC_r2 {M : fxMem} {S c w n : Nat} {x3 : Int32} : adC M S c w n x3 (S + 2) = upd (M (S + 2)) c (nI n) := by
  unfold adC
  rw [mm_row (by omega), mm_row (by omega), mm_row (by omega), mm_r, mm_row (by omega), tol_o (by omega)]
theorem adC_r3 {M : fxMem} {S c w n : Nat} {x3 : Int32} : adC M S c w n x3 (S + 3) = upd (M (S + 3)) c x3 := by
  unfold adC
  rw [mm_row (by omega), mm_row (by omega), mm_r, mm_row (by omega), mm_row (by omega), tol_o (by omega)]
theorem adC_r4 {M : fxMem} {S c w n : Nat} {x3 : Int32} : adC M S c w n x3 (S + 4) = upd (M (S + 4)) c (M S 8) := by
  unfold adC
  rw [mm_row (by omega), mm_r, mm_row (by omega), mm_row (by omega), mm_row (by omega), tol_o (by omega)]
theorem tol_0 {M : fxMem} {S w n : Nat} : tol M S w n S 0 = if w = 2 then nI n else M S 0 := by
  unfold tol
  by_cases z2 : w = 2
  · rw [it z2, it z2, mm_same]
  · rw [ie z2, ie z2]
    by_cases z3 : w = 3
    · rw [it z3, mm_col (by decide)]
    · rw [ie z3]
      by_cases z4 : w = 4
      · rw [it z4, mm_col (by decide)]
      · rw [ie z4]
theorem tol_1 {M : fxMem} {S w n : Nat} : tol M S w n S 1 = if w = 3 then nI (max 1 n) else M S 1 := by
  unfold tol
  by_cases z2 : w = 2
  · rw [it z2, ie (by omega), mm_col (by decide)]
  · rw [ie z2]
    by_cases z3 : w = 3
    · rw [it z3, it z3, mm_same]
    · rw [ie z3, ie z3]
      by_cases z4 : w = 4
      · rw [it z4, mm_col (by decide)]
      · rw [ie z4]
theorem tol_2 {M : fxMem} {S w n : Nat} : tol M S w n S 2 = if w = 4 then nI (max 1 n) else M S 2 := by
  unfold tol
  by_cases z2 : w = 2
  · rw [it z2, ie (by omega), mm_col (by decide)]
  · rw [ie z2]
    by_cases z3 : w = 3
    · rw [it z3, ie (by omega), mm_col (by decide)]
    · rw [ie z3]
      by_cases z4 : w = 4
      · rw [it z4, it z4, mm_same]
      · rw [ie z4, ie z4]
/-- what a clause does to the reference's numbers -/
def tom (M : fxMem) (ns w n : Nat) : fxMem := if w = 2 then fx_st M 1 (180 + ns) (nI n) else if w = 3 then fx_st M 1 (185 + ns) (nI n) else if w = 4 then fx_st M 1 (190 + ns) (nI n) else M
theorem tom_o {M : fxMem} {ns w n k : Nat} (h : k ≠ 1) : tom M ns w n k = M k := by
  unfold tom
  by_cases z2 : w = 2
  · rw [it z2, mm_row h]
  · rw [ie z2]
    by_cases z3 : w = 3
    · rw [it z3, mm_row h]
    · rw [ie z3]
      by_cases z4 : w = 4
      · rw [it z4, mm_row h]
      · rw [ie z4]
theorem tom_j {M : fxMem} {ns w n j : Nat} (h1 : j ≠ 180 + ns) (h2 : j ≠ 185 + ns) (h3 : j ≠ 190 + ns) : tom M ns w n 1 j = M 1 j := by
  unfold tom
  by_cases z2 : w = 2
  · rw [it z2, mm_col h1]
  · rw [ie z2]
    by_cases z3 : w = 3
    · rw [it z3, mm_col h2]
    · rw [ie z3]
      by_cases z4 : w = 4
      · rw [it z4, mm_col h3]
      · rw [ie z4]
theorem tom_0 {M : fxMem} {ns w n : Nat} : tom M ns w n 1 (180 + ns) = if w = 2 then nI n else M 1 (180 + ns) := by
  unfold tom
  by_cases z2 : w = 2
  · rw [it z2, it z2, mm_same]
  · rw [ie z2, ie z2]
    by_cases z3 : w = 3
    · rw [it z3, mm_col (by omega)]
    · rw [ie z3]
      by_cases z4 : w = 4
      · rw [it z4, mm_col (by omega)]
      · rw [ie z4]
theorem tom_1 {M : fxMem} {ns w n : Nat} : tom M ns w n 1 (185 + ns) = if w = 3 then nI n else M 1 (185 + ns) := by
  unfold tom
  by_cases z2 : w = 2
  · rw [it z2, ie (by omega), mm_col (by omega)]
  · rw [ie z2]
    by_cases z3 : w = 3
    · rw [it z3, it z3, mm_same]
    · rw [ie z3, ie z3]
      by_cases z4 : w = 4
      · rw [it z4, mm_col (by omega)]
      · rw [ie z4]
theorem tom_2 {M : fxMem} {ns w n : Nat} : tom M ns w n 1 (190 + ns) = if w = 4 then nI n else M 1 (190 + ns) := by
  unfold tom
  by_cases z2 : w = 2
  · rw [it z2, ie (by omega), mm_col (by omega)]
  · rw [ie z2]
    by_cases z3 : w = 3
    · rw [it z3, ie (by omega), mm_col (by omega)]
    · rw [ie z3]
      by_cases z4 : w = 4
      · rw [it z4, it z4, mm_same]
      · rw [ie z4, ie z4]
theorem flC_a (cl : List Cls) (q : Cls) : flC (cl ++ [q]) = flC cl ++ q.2.2 := by simp [flC]
theorem flM_a (cl : List Cls) (q : Cls) : flM (cl ++ [q]) = flM cl ++ mkM q := by simp [flM]
theorem tol_lt {c : Prop} [Decidable c] {n m : Nat} (hn : n < 100) (hm : m < 100) : (if c then n else m) < 100 := by split <;> assumption
theorem tol_n {c : Prop} [Decidable c] {n m : Nat} {x : Int32} (h : x = nI m) : (if c then nI n else x) = nI (if c then n else m) := by
  by_cases z : c
  · rw [it z, it z]
  · rw [ie z, ie z]; exact h
theorem tol_x {c : Prop} [Decidable c] {n m : Nat} {x : Int32} (h : x = nI (max 1 m)) : (if c then nI (max 1 n) else x) = nI (max 1 (if c then n else m)) := by
  by_cases z : c
  · rw [it z, it z]
  · rw [ie z, ie z]; exact h
theorem CLR.add {A B : fxMem} {S ns nb a a' spd bt stp w n : Nat} {T : Nat → Nat} {cl : List Cls} {ops : List Nat} {Mc Mm Mc3 Mm3 : fxMem} (h : CLR A B S ns nb T a cl spd bt stp Mc Mm) (hR : RS Mc Mm S ns nb T a' 0 (flC cl ++ ops) (flM cl ++ mkM (w, n, ops)) Mc3 Mm3) (hq : okQ (w, n, ops)) (hns : ns < 5) (hS : 26 ≤ S) (ha : a < a') : CLR A B S ns nb T a' (cl ++ [(w, n, ops)]) (if w = 2 then n else spd) (if w = 3 then n else bt) (if w = 4 then n else stp) (adC Mc3 S cl.length w n (nI (flC cl).length)) (tom Mm3 ns w n) := by
  obtain ⟨h1, h2, ⟨c1, c2⟩, ⟨d1, d2, d3, d4⟩, ⟨l1, l2, l3⟩, ⟨e1, e2⟩, ⟨t1, t2, t3, t4, t5, t6, t7, t8, t9⟩, ok, f1, f2, f3, f4⟩ := h
  obtain ⟨⟨u1, u2, u3, u4, u5, u6⟩, ⟨v1, v2, v3, v4, v5, v6⟩, ⟨i1, i2⟩, ⟨j1, j2, j3, j4⟩, ⟨k1, k2⟩, ⟨m1, m2⟩, m3, m4, m5⟩ := hR
  have hn : n < 100 := hq.2.1
  have eC : flC (cl ++ [(w, n, ops)]) = flC cl ++ ops := flC_a _ _
  have eM : flM (cl ++ [(w, n, ops)]) = flM cl ++ mkM (w, n, ops) := flM_a _ _
  unfold CLR
  rw [eC, eM]
  refine ⟨⟨?_, ?_, ?_, u4, u5, ?_⟩, ⟨?_, ?_, ?_, v4, v5, fun i hi => ⟨(v6 i hi).1, ?_⟩⟩, ⟨?_, fun t o ht => ?_⟩, ⟨?_, ?_, ?_, fun t x ht => ?_⟩, ⟨k1, k2, ?_⟩, ⟨?_, fun j q hj => ?_⟩, ⟨tol_lt hn t1, tol_lt hn t2, tol_lt hn t3, ?_, ?_, ?_, ?_, ?_, ?_⟩, fun q hm => ?_, fun k z1 z2 => ?_, fun k z1 z2 => ?_, fun j z1 z2 z3 => ?_, fun j z1 z2 z3 z4 z5 => ?_⟩
  · rw [adC_o (by omega)]; exact u1
  · rw [adC_o (by omega)]; exact u2
  · rw [adC_o (by omega)]; exact u3
  · rw [adC_o (by omega)]; exact u6
  · rw [tom_o (by decide)]; exact v1
  · rw [tom_o (by decide)]; exact v2
  · rw [tom_o (by decide)]; exact v3
  · rw [tom_j (by omega) (by omega) (by omega)]; exact (v6 i hi).2
  · rw [adC_j (by decide), tol_j (by decide)]; exact i1
  · rw [adC_o (by omega)]; exact i2 t o ht
  · rw [tom_o (by decide)]; exact j1
  · rw [tom_o (by decide)]; exact j2
  · rw [tom_j (by omega) (by omega) (by omega)]; exact j3
  · rw [tom_j (by omega) (by omega) (by omega)]; exact j4 t x ht
  · rw [List.length_append, List.length_singleton]; omega
  · rw [adC_3, List.length_append, List.length_singleton]
  · rw [adC_r1, adC_r2, adC_r3, adC_r4, m1 (S + 1) (by omega) (by omega) (by omega), m1 (S + 2) (by omega) (by omega) (by omega), m1 (S + 3) (by omega) (by omega) (by omega), m1 (S + 4) (by omega) (by omega) (by omega)]
    by_cases e : j = cl.length
    · subst e
      rw [List.getElem?_append_right (Nat.le_refl _), Nat.sub_self] at hj
      have hq' : (w, n, ops) = q := Option.some.inj hj
      rw [← hq', pk_us, pk_us, pk_us, pk_us, i1, List.take_append_of_le_length (Nat.le_refl _), List.take_length, List.take_of_length_le (by rw [List.length_append, List.length_singleton]; exact Nat.le_refl _), eC]
      exact ⟨rfl, rfl, rfl, rfl⟩
    · rcases Nat.lt_or_ge j cl.length with z | z
      · rw [List.getElem?_append_left z] at hj
        rw [pk_un e, pk_un e, pk_un e, pk_un e, List.take_append_of_le_length (by omega), List.take_append_of_le_length (by omega)]
        exact e2 j q hj
      · rw [List.getElem?_eq_none (by rw [List.length_append, List.length_singleton]; omega)] at hj
        exact absurd hj (by simp)
  · rw [adC_j (by decide), tol_0, m2 0 (by decide)]; exact tol_n t4
  · rw [tom_0, m5 _ (by omega) (by omega)]; exact tol_n t5
  · rw [adC_j (by decide), tol_1, m2 1 (by decide)]; exact tol_x t6
  · rw [tom_1, m5 _ (by omega) (by omega)]; exact tol_n t7
  · rw [adC_j (by decide), tol_2, m2 2 (by decide)]; exact tol_x t8
  · rw [tom_2, m5 _ (by omega) (by omega)]; exact tol_n t9
  · rcases List.mem_append.mp hm with h' | h'
    · exact ok q h'
    · rw [List.mem_singleton.mp h']; exact hq
  · rw [adC_o (by omega), m1 k z1 (by omega) (by omega)]; exact f1 k z1 z2
  · rw [tom_o z2, m3 k z1 z2]; exact f2 k z1 z2
  · rw [tom_o (by decide), m4 j z1 z2 z3]; exact f3 j z1 z2 z3
  · rw [tom_j z1 z2 z3, m5 j z4 z5]; exact f4 j z1 z2 z3 z4 z5
