/-! a clause added, in the class -/
theorem j60 {M : fxMem} {S c : Nat} {w n x3 : Int32} (hS : fx_isSh S = true) (h3 : M S 3 = nI c) (hc : c < 10) : CX3_addClause_J60 S w n x3 M = some (fx_st (fx_st (fx_st (fx_st (fx_st M (S + 1) c w) (S + 2) c n) (S + 3) c x3) (S + 4) c (M S 8)) S 3 (nI (c + 1))) := by
  have e1 : ∀ x, (fx_st M (S + 1) c x) S = M S := fun x => mm_row (by omega) _ _ _
  have e2 : ∀ x y, (fx_st (fx_st M (S + 1) c x) (S + 2) c y) S = M S := fun x y => by rw [mm_row (by omega), e1]
  have e3 : ∀ x y z, (fx_st (fx_st (fx_st M (S + 1) c x) (S + 2) c y) (S + 3) c z) S = M S := fun x y z => by rw [mm_row (by omega), e2]
  have e4 : ∀ x y z u, (fx_st (fx_st (fx_st (fx_st M (S + 1) c x) (S + 2) c y) (S + 3) c z) (S + 4) c u) S = M S := fun x y z u => by rw [mm_row (by omega), e3]
  rw [CX3_addClause_J60, it hS, h3, ie (show ¬ (10 : Int32) ≤ nI c from nI_ge (b := 10) hc (by decide)), it (gin hc (by decide)), nI_clamp (by omega), fx_lt, e1, h3, it (gin hc (by decide)), nI_clamp (by omega), fx_lt, e2, h3, it (gin hc (by decide)), nI_clamp (by omega), fx_lt, e3, h3, it (gin hc (by decide)), nI_clamp (by omega), fx_lt, e4, h3, n1]
/-- what a clause does to the show's numbers -/
def tol (M : fxMem) (S w n : Nat) : fxMem := if w = 2 then fx_st M S 0 (nI n) else if w = 3 then fx_st M S 1 (nI (max 1 n)) else if w = 4 then fx_st M S 2 (nI (max 1 n)) else M
theorem mx1 {n : Nat} (hn : n < 100) : (if (1 : Int32) < nI n then nI n else (1 : Int32)) = nI (max 1 n) := by
  by_cases z : 1 < n
  · rw [it (show (1 : Int32) < nI n from nI_lt (a := 1) z (by omega)), Nat.max_eq_right (by omega)]
  · rw [ie (show ¬ (1 : Int32) < nI n from fun q => z ((nI_ltI (a := 1) (by decide) (by omega)).mp q)), Nat.max_eq_left (by omega)]
    rfl
theorem tol_o {M : fxMem} {S w n k : Nat} (h : k ≠ S) : tol M S w n k = M k := by
  unfold tol
  split
  · exact mm_row h _ _ _
  · split
    · exact mm_row h _ _ _
    · split
      · exact mm_row h _ _ _
      · rfl
theorem tol_j {M : fxMem} {S w n j : Nat} (h : 3 ≤ j) : tol M S w n S j = M S j := by
  unfold tol
  split
  · exact congrFun (mm_r _ _ _ _) j ▸ (pk_un (by omega))
  · split
    · exact congrFun (mm_r _ _ _ _) j ▸ (pk_un (by omega))
    · split
      · exact congrFun (mm_r _ _ _ _) j ▸ (pk_un (by omega))
      · rfl
theorem ac6 {M : fxMem} {S c w n : Nat} {x3 : Int32} (hS : fx_isSh S = true) (h3 : M S 3 = nI c) (hc : c < 10) (hw : w < 5) (hn : n < 100) : CX3_addClause S (nI w) (nI n) x3 M = some (fx_st (fx_st (fx_st (fx_st (fx_st (tol M S w n) (S + 1) c (nI w)) (S + 2) c (nI n)) (S + 3) c x3) (S + 4) c (M S 8)) S 3 (nI (c + 1))) := by
  have hj := j60 (M := tol M S w n) (w := nI w) (n := nI n) (x3 := x3) hS (by rw [tol_j (by decide)]; exact h3) hc
  rw [tol_j (by decide)] at hj
  rw [← hj, CX3_addClause, it hS, it hS, it hS, mx1 hn]
  have b2 : (nI w = (2 : Int32)) ↔ w = 2 := kk (k := 2) (by omega) (by decide)
  have b3 : (nI w = (3 : Int32)) ↔ w = 3 := kk (k := 3) (by omega) (by decide)
  have b4 : (nI w = (4 : Int32)) ↔ w = 4 := kk (k := 4) (by omega) (by decide)
  unfold tol
  by_cases z2 : w = 2
  · rw [it (b2.mpr z2), it z2]
  rw [ie (fun q => z2 (b2.mp q)), ie z2]
  by_cases z3 : w = 3
  · rw [it (b3.mpr z3), it z3]
  rw [ie (fun q => z3 (b3.mp q)), ie z3]
  by_cases z4 : w = 4
  · rw [it (b4.mpr z4), it z4]
  · rw [ie (fun q => z4 (b4.mp q)), ie z4]
