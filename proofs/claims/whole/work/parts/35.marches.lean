/-! march, hard, off, meet -/
theorem few6 {M : fxMem} {np nf : Nat} (h1 : np ≤ 10) (h2 : nf ≤ 10) (e1 : M 1 0 = nI np) (e2 : M 1 5 = nI nf) : CX1_hasTooFewDots M = some (if np ≤ nf then 0 else 1, M) := by
  rw [CX1_hasTooFewDots, e1, e2]
  by_cases h : np ≤ nf
  · rw [it (nI_le h (by omega)), it h]
  · rw [ie (nI_ge (by omega) (by omega)), ie h]
theorem few7 {M : fxMem} {np nf : Nat} (h1 : np ≤ 10) (h2 : nf ≤ 10) (e1 : M 1 0 = nI np) (e2 : M 1 2 = nI nf) : CX7_isTooFew M = some (if np ≤ nf then 0 else 1, M) := by
  rw [CX7_isTooFew, it ci2, it ci0, cc0, cc2, e1, e2]
  by_cases h : np ≤ nf
  · rw [it (nI_le h (by omega)), it h]
  · rw [ie (nI_ge (by omega) (by omega)), ie h]
/-- row r of memory with its first n places of another row -/
def mvN (f g : Nat → Int32) (n : Nat) : Nat → Int32 := fun p => if p < n then g p else f p
def mvC (M : fxMem) (n : Nat) : fxMem := fun k => if k = 4 then mvN (M 4) (M 5) n else M k
def mvM (M : fxMem) (n : Nat) : fxMem := fun k => if k = 1 then (fun j => if 150 ≤ j ∧ j < 150 + n then M 1 (j + 10) else M 1 j) else M k
theorem mvC_s (M : fxMem) (n : Nat) : fx_st (mvC M n) 4 n (M 5 n) = mvC M (n + 1) := by
  funext k j
  by_cases hk : k = 4
  · subst hk
    by_cases hj : j = n
    · subst hj
      rw [mm_same]
      simp [mvC, mvN]
    · rw [mm_col hj]
      simp only [mvC, mvN, if_true]
      by_cases h1 : j < n
      · rw [it h1, it (by omega)]
      · rw [ie h1, ie (by omega)]
  · rw [mm_row hk]
    simp [mvC, hk]
theorem mvM_s (M : fxMem) (n : Nat) (hn : n < 10) : fx_st (mvM M n) 1 (150 + n) (M 1 (160 + n)) = mvM M (n + 1) := by
  funext k j
  by_cases hk : k = 1
  · subst hk
    by_cases hj : j = 150 + n
    · subst hj
      rw [mm_same]
      simp only [mvM, if_true]
      rw [it (by omega)]
      congr 1
      omega
    · rw [mm_col hj]
      simp only [mvM, if_true]
      by_cases h1 : 150 ≤ j ∧ j < 150 + n
      · rw [it h1, it (by omega)]
      · rw [ie h1, ie (by omega)]
  · rw [mm_row hk]
    simp [mvM, hk]
def mvd (f g : Nat → Int32) : Nat → Nat
  | 0 => 0
  | n + 1 => mvd f g n + (if f n = g n then 0 else 1)
theorem mv6_L {M : fxMem} {np : Nat} (hn : np ≤ 10) (e : M 1 0 = nI np) {k : Int32 → Int32 → fxMem → Option (Int32 × fxMem)} : ∀ (n i : Nat), np - i < n → i ≤ np → CX6_march_L17 n (nI (mvd (M 4) (M 5) i)) (nI i) (mvC M i) k = k (nI (mvd (M 4) (M 5) np)) (nI np) (mvC M np)
  | 0, i, h, _ => absurd h (Nat.not_lt_zero _)
  | n + 1, i, h, hi => by
    rw [CX6_march_L17, show mvC M i 1 0 = nI np from e]
    by_cases z : i = np
    · subst z
      rw [it (Int32.le_refl _)]
    · rw [ie (nI_ge (by omega) (by omega)), it (gin (by omega) (by decide)), nI_clamp (by omega), show mvC M i 4 i = M 4 i by simp [mvC, mvN], show mvC M i 5 i = M 5 i from rfl, mvC_s, n1 i]
      rw [← mv6_L (k := k) hn e n (i + 1) (by omega) (by omega), mvd]
      by_cases z2 : M 4 i = M 5 i
      · rw [it z2, it z2]; rfl
      · rw [ie z2, ie z2, n1]
theorem mv7_L {M : fxMem} {f g : Nat → Int32} {np : Nat} (hn : np ≤ 10) (e : M 1 0 = nI np) (hf : ∀ p, p < np → M 1 (150 + p) = f p) (hg : ∀ p, p < np → M 1 (160 + p) = g p) {k : Int32 → Int32 → fxMem → Option (Int32 × fxMem)} : ∀ (n i : Nat), np - i < n → i ≤ np → CX7_march_L14 n (nI (mvd f g i)) (nI i) (mvM M i) k = k (nI (mvd f g np)) (nI np) (mvM M np)
  | 0, i, h, _ => absurd h (Nat.not_lt_zero _)
  | n + 1, i, h, hi => by
    rw [CX7_march_L14, it ci0, cc0, show mvM M i 1 0 = nI np from by simp [mvM, e]]
    by_cases z : i = np
    · subst z
      rw [it (Int32.le_refl _)]
    · rw [ie (nI_ge (by omega) (by omega)), la150, la160, it (gin (by omega) (by decide)), it (gin (by omega) (by decide)), nI_clamp (by omega), nI_clamp (by omega), show mvM M i 1 (150 + i) = M 1 (150 + i) by simp [mvM], show mvM M i 1 (160 + i) = M 1 (160 + i) by simp only [mvM, if_true]; rw [ie (by omega)], mvM_s M i (by omega), n1 i, hf i (by omega), hg i (by omega)]
      rw [← mv7_L (k := k) hn e hf hg n (i + 1) (by omega) (by omega), mvd]
      by_cases z2 : f i = g i
      · rw [it z2, it z2, Int32.add_zero]; rfl
      · rw [ie z2, ie z2, n1]
theorem mvC_0 (M : fxMem) : mvC M 0 = M := by
  funext k j
  by_cases hk : k = 4
  · subst hk; simp [mvC, mvN]
  · simp [mvC, hk]
theorem mvM_0 (M : fxMem) : mvM M 0 = M := by
  funext k j
  by_cases hk : k = 1
  · subst hk
    simp only [mvM, if_true]
    rw [ie (by omega)]
  · simp [mvM, hk]
theorem px_march : st2 PX CX6_march CX7_march := by
  intro Mc Mm h
  obtain ⟨h1, h2, h3, np, nf, nd, nb, ns, d, hF, hG⟩ := id h
  obtain ⟨s1, s2, s3, s4, s5, s6, s7, s8, s9, s10, s11, s12, s13⟩ := hF.2.1
  have hnp := hF.1.1
  have hnf := hF.1.2.1
  rw [CX6_march, CX7_march, few6 hnp hnf s1 s5, few7 hnp hnf s2 s6]
  by_cases hle : np ≤ nf
  · refine ⟨nI (mvd (Mc 4) (Mc 5) np), mvC Mc np, mvM Mm np, ?_, ?_, ?_⟩
    · have := mv6_L hnp s1 (k := fun y1 y2 M => some (y1, M)) 1000 0 (by omega) (Nat.zero_le _)
      rw [mvC_0] at this
      rw [it hle, bs, it rfl]
      exact this
    · have := mv7_L hnp s2 (fun p hp => (hF.2.2.2.2.1 p hp).1) (fun p hp => (hF.2.2.2.2.2.2.1 p (by omega)).1) (k := fun y1 y2 M => some (y1, M)) 1000 0 (by omega) (Nat.zero_le _)
      rw [mvM_0] at this
      rw [it hle, bs, it rfl]
      exact this
    · have em : ∀ j, (j < 150 ∨ 160 ≤ j) → mvM Mm np 1 j = Mm 1 j := fun j hj => by
        simp only [mvM, if_true]
        rw [ie (by omega)]
      refine PX_now h1 h2 h3 hG (fun k hk => ?_) (fun k hk => ?_) (Nat.le_refl ns) (rF_mk (nf' := nf) (nd' := nd) hF ?_ hnf hF.1.2.2.1 rfl rfl rfl (fun k hk => ?_) (fun j _ _ => em j (by omega)) ?_ ?_ ?_ ?_ ?_)
      · show mvC Mc np k = Mc k
        have : k ≠ 4 := by omega
        simp [mvC, this]
      · show mvM Mm np k = Mm k
        simp [mvM, hk]
      · exact ⟨s1, by rw [em _ (by omega)]; exact s2, s3, by rw [em _ (by omega)]; exact s4, s5, by rw [em _ (by omega)]; exact s6, s7, by rw [em _ (by omega)]; exact s8, s9, by rw [em _ (by omega)]; exact s10, s11, by rw [em _ (by omega)]; exact s12, by rw [em _ (by omega)]; exact s13⟩
      · have : k ≠ 4 := by omega
        simp [mvC, this]
      · intro p hp
        have e1 : mvC Mc np 4 p = Mc 5 p := by simp [mvC, mvN, hp]
        have e2 : mvM Mm np 1 (150 + p) = Mm 1 (160 + p) := by
          simp only [mvM, if_true]
          rw [it (by omega)]
          congr 1
          omega
        rw [e1, e2]
        exact hF.2.2.2.2.2.2.1 p (by omega)
      · intro p q hp hq e
        have e1 : mvC Mc np 4 p = Mc 5 p := by simp [mvC, mvN, hp]
        have e2 : mvC Mc np 4 q = Mc 5 q := by simp [mvC, mvN, hq]
        rw [e1, e2] at e
        exact hF.2.2.2.2.2.2.2.1 p q (by omega) (by omega) e
      · exact rA_cong hF.2.2.2.2.2.2.1 (fun p hp => em _ (by omega))
      · exact hF.2.2.2.2.2.2.2.1
      · exact rA_cong hF.2.2.2.2.2.2.2.2.1 (fun p hp => em _ (by omega))
  · refine ⟨-3, Mc, Mm, ?_, ?_, h⟩
    · rw [ie hle, bs]; rfl
    · rw [ie hle, bs]; rfl
