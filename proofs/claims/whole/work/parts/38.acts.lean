/-! as, trace, act -/
def und (a b : Nat) : Nat := if b = 0 ∨ b = a ∨ (b = 1 ∧ a = 4) ∨ (b = 2 ∧ a = 5) ∨ (b = 3 ∧ a = 6) then 1 else 0
theorem c7 {P : Nat → Prop} (h0 : P 0) (h1 : P 1) (h2 : P 2) (h3 : P 3) (h4 : P 4) (h5 : P 5) (h6 : P 6) : ∀ a, a < 7 → P a
  | 0, _ => h0
  | 1, _ => h1
  | 2, _ => h2
  | 3, _ => h3
  | 4, _ => h4
  | 5, _ => h5
  | 6, _ => h6
  | n + 7, h => absurd h (by omega)
theorem und6' (M : fxMem) : ∀ a, a < 7 → ∀ b, b < 7 → CX6_isUnder (nI a) (nI b) M = some (nI (und a b), M) := by
  refine c7 ?_ ?_ ?_ ?_ ?_ ?_ ?_ <;> (refine c7 ?_ ?_ ?_ ?_ ?_ ?_ ?_ <;> rfl)
theorem und6 {a b : Nat} (ha : a < 7) (hb : b < 7) (M : fxMem) : CX6_isUnder (nI a) (nI b) M = some (nI (und a b), M) := und6' M a ha b hb
theorem und7' (M : fxMem) : ∀ a, a < 7 → ∀ b, b < 7 → CX7_isUnder (nI a) (nI b) M = some (nI (und a b), M) := by
  refine c7 ?_ ?_ ?_ ?_ ?_ ?_ ?_ <;> (refine c7 ?_ ?_ ?_ ?_ ?_ ?_ ?_ <;> rfl)
theorem und7 {a b : Nat} (ha : a < 7) (hb : b < 7) (M : fxMem) : CX7_isUnder (nI a) (nI b) M = some (nI (und a b), M) := und7' M a ha b hb
theorem und_01 (a b : Nat) : und a b = 0 ∨ und a b = 1 := by
  unfold und
  split
  · exact Or.inr rfl
  · exact Or.inl rfl
theorem il7 : ∀ {x : Int32}, (x < 0 ∨ nI 7 ≤ x) → ∀ M, CX7_in x 0 6 M = some (0, M) := fun h M => by
  have := ilo (n := 7) (by decide) h M
  rwa [show nI 7 - 1 = (6 : Int32) by decide] at this
theorem ii7 : ∀ {j : Nat}, j < 7 → ∀ M, CX7_in (nI j) 0 6 M = some (1, M) := fun h M => by
  have := iin (n := 7) h (by decide) M
  rwa [show nI 7 - 1 = (6 : Int32) by decide] at this
theorem px_as (x y : Int32) : st2 PX (CX6_as x y) (CX7_as x y) := by
  intro Mc Mm h
  obtain ⟨h1, h2, h3, np, nf, nd, nb, ns, d, hF, hG'⟩ := id h
  obtain ⟨s1, s2, s3, s4, s5, s6, s7, s8, s9, s10, s11, s12, s13⟩ := hF.2.1
  have hnp := hF.1.1
  rw [CX6_as, CX7_as, show (7 : Int32) = nI 7 from rfl]
  rcases arg3 x (n := np) (by omega) with hx | ⟨p, hp, rfl⟩
  · refine ⟨-1, Mc, Mm, ?_, ?_, h⟩
    · simp [bs, plo hnp s1 hx]
    · simp [bs, qlo hnp s2 hx]
  rcases arg3 y (n := 7) (by decide) with hy | ⟨k, hk, rfl⟩
  · refine ⟨-1, Mc, Mm, ?_, ?_, h⟩
    · simp only [bs, pin hnp s1 hp, blo (show 7 < 2 ^ 31 by decide) hy, show ¬ (1 : Int32) = 0 by decide, if_false, if_true]
    · simp only [bs, qin hnp s2 hp, il7 hy, show ¬ (1 : Int32) = 0 by decide, if_false, if_true]
  obtain ⟨u, u1, u2, u3⟩ := rA_at hF.2.2.1 hp
  obtain ⟨v, v1, v2, v3⟩ := rA_at hF.2.2.2.1 hp
  rw [show Mc (1 + 1) p = Mc 2 p from rfl] at u2
  rw [show Mc (1 + 2) p = Mc 3 p from rfl] at v2
  refine ⟨if nI (und u k) = 0 then -6 else nI v, Mc, Mm, ?_, ?_, h⟩
  · simp only [bs, pin hnp s1 hp, bin hk (show 7 < 2 ^ 31 by decide), show ¬ (1 : Int32) = 0 by decide, if_false, if_true, gin (show p < 10 by omega) (by decide), nI_clamp (show p < 2 ^ 31 by omega), u2, v2, und6 u1 hk]
  · simp only [bs, qin hnp s2 hp, ii7 hk, show ¬ (1 : Int32) = 0 by decide, if_false, if_true, la130, la140, gin (show 130 + p < 900 by omega) (by decide), gin (show 140 + p < 900 by omega) (by decide), nI_clamp (show 130 + p < 2 ^ 31 by omega), nI_clamp (show 140 + p < 2 ^ 31 by omega), u3, v3, und7 u1 hk]
    split <;> rfl
theorem px_trace (x : Int32) : st2 PX (CX6_trace x) (CX7_trace x) := by
  intro Mc Mm h
  obtain ⟨h1, h2, ⟨t, t1, t2, t3, t4⟩, np, nf, nd, nb, ns, d, hF, hG'⟩ := id h
  have e : (if (20 : Int32) ≤ nI t then (20 : Int32) else nI t) = nI (min 20 t) := by
    by_cases z : 20 ≤ t
    · rw [it (show (20 : Int32) ≤ nI t from nI_le (a := 20) z (by omega)), Nat.min_eq_left z]; rfl
    · rw [ie (show ¬ (20 : Int32) ≤ nI t from nI_ge (a := t) (b := 20) (by omega) (by decide)), Nat.min_eq_right (by omega)]
  rw [CX6_trace, CX7_trace, t2, t3, e]
  rcases arg3 x (n := min 20 t) (by omega) with hx | ⟨j, hj, rfl⟩
  · refine ⟨-1, Mc, Mm, ?_, ?_, h⟩
    · by_cases z : x < 0
      · rw [it z]
      · rw [ie z]
        have hx := hx.resolve_left z
        by_cases z2 : nI t ≤ x
        · rw [it z2]
        · rw [ie z2, ie]
          intro z3
          rcases (show min 20 t = 20 ∨ min 20 t = t by omega) with e1 | e1
          · rw [e1] at hx
            exact Int32.lt_irrefl (Int32.lt_of_lt_of_le z3 hx)
          · rw [e1] at hx
            exact z2 hx
    · rw [ilo (by omega) hx]; rfl
  · refine ⟨Mc 18 j, Mc, Mm, ?_, ?_, h⟩
    · rw [ie (nI_pos (by omega)), ie (nI_ge (by omega) (by omega)), it (show nI j < (20 : Int32) from nI_lt (b := 20) (by omega) (by decide)), it (gin (by omega) (by decide)), nI_clamp (by omega)]
    · rw [iin hj (by omega), bs, ie (show ¬ (1 : Int32) = 0 by decide), it (gin (by omega) (by decide)), nI_clamp (by omega)]
      dsimp only
      rw [t4 j (by omega) (by omega)]
/-! acts -/
def AR (A B : fxMem) (kd t : Nat) (Mc Mm : fxMem) : Prop := (∀ k, k ≠ 17 → k ≠ 18 → Mc k = A k) ∧ (∀ k, k ≠ 0 → k ≠ 7 → Mm k = B k) ∧ Mm 0 3 = B 0 3 ∧ Mm 0 13 = B 0 13 ∧ Mc 17 0 = nI kd ∧ Mm 0 21 = nI kd ∧ Mc 17 1 = Mm 0 22 ∧ Mc 17 2 = Mm 0 23 ∧ Mc 17 3 = nI t ∧ Mm 0 20 = nI t ∧ ∀ i, i < t → Mc 18 i = Mm 7 i
theorem ar_b {A B Mc Mm : fxMem} {kd t : Nat} (b : Int32) (h : AR A B kd t Mc Mm) (ht : t < 20) : ∃ Mc' Mm', CX0_begin b Mc = some Mc' ∧ CX7_runs b Mm = some Mm' ∧ AR A B kd (t + 1) Mc' Mm' := by
  obtain ⟨a1, a2, a3, a4, a5, a6, a7, a8, a9, a10, a11⟩ := h
  have g : ¬ (20 : Int32) ≤ nI t := nI_ge (a := t) (b := 20) (by omega) (by decide)
  refine ⟨fx_st (fx_st Mc 18 t b) 17 3 (nI (t + 1)), fx_st (fx_st Mm 7 t b) 0 20 (nI (t + 1)), ?_, ?_, ?_⟩
  · rw [CX0_begin, a9, ie g, it (gin ht (by decide)), CX0_begin_J19, nI_clamp (by omega), mm_row (by decide), a9, n1]
  · rw [CX7_runs, a10, ie g, it (gin ht (by decide)), CX7_runs_J19, nI_clamp (by omega), mm_row (by decide), a10, n1]
  · refine ⟨fun k h1 h2 => by rw [mm_row h1, mm_row h2]; exact a1 k h1 h2, fun k h1 h2 => by rw [mm_row h1, mm_row h2]; exact a2 k h1 h2, by rw [mm_col (by decide), mm_row (by decide)]; exact a3, by rw [mm_col (by decide), mm_row (by decide)]; exact a4, by rw [mm_col (by decide), mm_row (by decide)]; exact a5, by rw [mm_col (by decide), mm_row (by decide)]; exact a6, by rw [mm_col (by decide), mm_row (by decide), mm_col (by decide), mm_row (by decide)]; exact a7, by rw [mm_col (by decide), mm_row (by decide), mm_col (by decide), mm_row (by decide)]; exact a8, mm_same _ _ _ _, mm_same _ _ _ _, fun i hi => ?_⟩
    rw [mm_row (show 18 ≠ 17 by decide), mm_row (show 7 ≠ 0 by decide)]
    by_cases e : i = t
    · subst e; rw [mm_same, mm_same]
    · rw [mm_col e, mm_col e]; exact a11 i (by omega)
def bdT : List (List Int32) := [[1, 2, 3], [11, 2, 3], [1, 21, 3], [1, 2, 31], [11, 2, 41], [51, 21, 3], [1, 61, 31]]
def abT : List (List Int32) := [[-1, -1, -1], [0, -1, -1], [-1, 0, -1], [-1, -1, 0], [0, -1, 1], [2, 0, -1], [-1, 3, 0]]
def bd (f a : Nat) : Int32 := (bdT.getD f []).getD a 0
def ab (f a : Nat) : Int32 := (abT.getD f []).getD a 0
theorem c3 {P : Nat → Prop} (h0 : P 0) (h1 : P 1) (h2 : P 2) : ∀ a, a < 3 → P a
  | 0, _ => h0
  | 1, _ => h1
  | 2, _ => h2
  | n + 3, h => absurd h (by omega)
theorem rf_if (d : Nat) (x x4 : Int32) (M : fxMem) : ∀ f, f < 7 → ∀ a, a < 3 → gX0 (d + 1) 0 (nI f) (nI a) x x4 M = if x4 < (20 : Int32) then Option.bind (CX0_begin (bd f a) M) fun q69 => Option.bind (gX0 d 1 (bd f a) (ab f a) x (x4 + (1 : Int32)) q69) fun q86 => some (q86.1, q86.2) else some ((0 : Int32), M) := by
  refine c7 ?_ ?_ ?_ ?_ ?_ ?_ ?_ <;> (refine c3 ?_ ?_ ?_ <;> rfl)
theorem rf {d f a e : Nat} (x : Int32) (M : fxMem) (hf : f < 7) (ha : a < 3) (he : e < 20) : gX0 (d + 1) 0 (nI f) (nI a) x (nI e) M = Option.bind (CX0_begin (bd f a) M) fun q => gX0 d 1 (bd f a) (ab f a) x (nI (e + 1)) q := by
  rw [rf_if d x (nI e) M f hf a ha, it (show nI e < (20 : Int32) from nI_lt (b := 20) he (by decide)), n1]
  congr 1
  funext q
  cases gX0 d 1 (bd f a) (ab f a) x (nI (e + 1)) q <;> rfl
/-- both run, alike -/
def RR (A B : fxMem) (kd t : Nat) (F G : Option (Int32 × fxMem)) : Prop := ∃ (r : Int32) (Mc Mm : fxMem), F = some (r, Mc) ∧ G = some (r, Mm) ∧ AR A B kd t Mc Mm
theorem ar_g1 {A B Mc Mm : fxMem} {kd t e f d : Nat} (x : Int32) (h : AR A B kd t Mc Mm) (ht : t < 20) (he : e < 20) (hf : f < 7) (hb : bd f 0 = 1) : RR A B kd (t + 1) (gX0 (d + 2) 0 (nI f) (nI 0) x (nI e) Mc) (CX7_plainGoes x Mm) := by
  obtain ⟨Mc', Mm', b1, b2, b3⟩ := ar_b 1 h ht
  refine ⟨x + Mm' 0 22, Mc', Mm', ?_, ?_, b3⟩
  · rw [rf x Mc hf (by decide) he, hb, b1, bs, gX0, ie (by decide), BX0_runBody, it rfl, b3.2.2.2.2.2.2.1]
  · rw [CX7_plainGoes, b2, bs]
theorem ar_goes {A B Mc Mm : fxMem} {kd t e d : Nat} (x : Int32) (h : AR A B kd t Mc Mm) (ht : t + 1 < 20) (he : e + 1 < 20) (hk : kd < 7) : ∃ t', t' ≤ t + 2 ∧ RR A B kd t' (gX0 (d + 4) 0 (nI kd) (nI 0) x (nI e) Mc) (CX7_goesActs x Mm) := by
  have hm := h.2.2.2.2.2.1
  have um := und7 hk (show 1 < 7 by decide) Mm
  rw [show nI 1 = (1 : Int32) from rfl] at um
  rcases (show (kd = 1 ∨ kd = 4) ∨ kd = 5 ∨ (kd = 0 ∨ kd = 2 ∨ kd = 3 ∨ kd = 6) by omega) with hc | hc | hc
  · have hb : bd kd 0 = 11 := by rcases hc with rfl | rfl <;> rfl
    have ha : ab kd 0 = nI 0 := by rcases hc with rfl | rfl <;> rfl
    have hu : nI (und kd 1) = 1 := by rcases hc with rfl | rfl <;> rfl
    obtain ⟨Mc', Mm', b1, b2, b3⟩ := ar_b 11 h (by omega)
    obtain ⟨r, Mc2, Mm2, c1, c2, c3⟩ := ar_g1 (e := e + 1) (f := 0) (d := d) (x * 3) b3 (by omega) (by omega) (by decide) rfl
    refine ⟨t + 2, by omega, r, Mc2, Mm2, ?_, ?_, c3⟩
    · rw [rf x Mc hk (by decide) (by omega), hb, b1, bs, gX0, ie (by decide), BX0_runBody, ha]
      exact (congrArg (fun z => Option.bind z fun q => some (q.1, q.2)) c1)
    · rw [CX7_goesActs, hm, um, hu]
      simp only [bs, show ¬ (1 : Int32) = 0 by decide, if_false, b2, c2]
  · subst hc
    obtain ⟨Mc', Mm', b1, b2, b3⟩ := ar_b 51 h (by omega)
    obtain ⟨r, Mc2, Mm2, c1, c2, c3⟩ := ar_g1 (e := e + 1) (f := 2) (d := d) x b3 (by omega) (by omega) (by decide) rfl
    refine ⟨t + 2, by omega, r ^^^ Mm2 0 22, Mc2, Mm2, ?_, ?_, c3⟩
    · rw [rf x Mc hk (by decide) (by omega), show bd 5 0 = 51 from rfl, b1, bs, gX0, ie (by decide), BX0_runBody]
      rw [← c3.2.2.2.2.2.2.1]
      exact (congrArg (fun z => Option.bind z fun q => some (q.1 ^^^ q.2 17 1, q.2)) c1)
    · rw [CX7_goesActs, hm, um]
      simp only [bs, show nI (und 5 1) = (0 : Int32) from rfl, if_true, hm, show nI 5 = (5 : Int32) from rfl, b2, c2]
  · have hb : bd kd 0 = 1 := by rcases hc with rfl | rfl | rfl | rfl <;> rfl
    have hu : nI (und kd 1) = 0 := by rcases hc with rfl | rfl | rfl | rfl <;> rfl
    have h5 : ¬ nI kd = (5 : Int32) := by rcases hc with rfl | rfl | rfl | rfl <;> decide
    obtain ⟨r, Mc2, Mm2, c1, c2, c3⟩ := ar_g1 (e := e) (f := kd) (d := d + 2) x h (by omega) (by omega) hk hb
    refine ⟨t + 1, by omega, r, Mc2, Mm2, c1, ?_, c3⟩
    rw [CX7_goesActs, hm, um, hu]
    simp only [bs, if_true, hm, h5, if_false, c2]
theorem ar_p1 {A B Mc Mm : fxMem} {kd t e f d : Nat} (x : Int32) (h : AR A B kd t Mc Mm) (ht : t + 2 < 20) (he : e + 2 < 20) (hk : kd < 7) (hf : f < 7) (hb : bd f 1 = 2) : ∃ t', t' ≤ t + 3 ∧ RR A B kd t' (gX0 (d + 6) 0 (nI f) (nI 1) x (nI e) Mc) (CX7_plainPlays x Mm) := by
  obtain ⟨Mc', Mm', b1, b2, b3⟩ := ar_b 2 h (by omega)
  obtain ⟨t', ht', r, Mc2, Mm2, c1, c2, c3⟩ := ar_goes (e := e + 1) (d := d) x b3 (by omega) (by omega) hk
  refine ⟨t', by omega, r - Mm2 0 23, Mc2, Mm2, ?_, ?_, c3⟩
  · rw [rf x Mc hf (by decide) (by omega), hb, b1, bs, gX0, ie (by decide), BX0_runBody, b3.2.2.2.2.1, ← c3.2.2.2.2.2.2.2.1]
    exact (congrArg (fun z => Option.bind z fun q => some (q.1 - q.2 17 2, q.2)) c1)
  · rw [CX7_plainPlays, b2, bs, c2, bs]
theorem ar_plays {A B Mc Mm : fxMem} {kd t e d : Nat} (x : Int32) (h : AR A B kd t Mc Mm) (ht : t + 3 < 20) (he : e + 3 < 20) (hk : kd < 7) : ∃ t', t' ≤ t + 4 ∧ RR A B kd t' (gX0 (d + 8) 0 (nI kd) (nI 1) x (nI e) Mc) (CX7_playsActs x Mm) := by
  have hm := h.2.2.2.2.2.1
  have um := und7 hk (show 2 < 7 by decide) Mm
  rw [show nI 2 = (2 : Int32) from rfl] at um
  rcases (show (kd = 2 ∨ kd = 5) ∨ kd = 6 ∨ (kd = 0 ∨ kd = 1 ∨ kd = 3 ∨ kd = 4) by omega) with hc | hc | hc
  · have hb : bd kd 1 = 21 := by rcases hc with rfl | rfl <;> rfl
    have ha : ab kd 1 = nI 0 := by rcases hc with rfl | rfl <;> rfl
    have hu : nI (und kd 2) = 1 := by rcases hc with rfl | rfl <;> rfl
    obtain ⟨Mc', Mm', b1, b2, b3⟩ := ar_b 21 h (by omega)
    obtain ⟨t', ht', r, Mc2, Mm2, c1, c2, c3⟩ := ar_p1 (e := e + 1) (f := 0) (d := d) x b3 (by omega) (by omega) hk (by decide) rfl
    refine ⟨t', by omega, -r, Mc2, Mm2, ?_, ?_, c3⟩
    · rw [rf x Mc hk (by decide) (by omega), hb, b1, bs, gX0, ie (by decide), BX0_runBody, ha]
      exact (congrArg (fun z => Option.bind z fun q => some (-q.1, q.2)) c1)
    · rw [CX7_playsActs, hm, um, hu]
      simp only [bs, show ¬ (1 : Int32) = 0 by decide, if_false, b2, c2]
  · subst hc
    obtain ⟨Mc', Mm', b1, b2, b3⟩ := ar_b 61 h (by omega)
    obtain ⟨t', ht', r, Mc2, Mm2, c1, c2, c3⟩ := ar_p1 (e := e + 1) (f := 3) (d := d) x b3 (by omega) (by omega) hk (by decide) rfl
    refine ⟨t', by omega, r + Mm2 0 23, Mc2, Mm2, ?_, ?_, c3⟩
    · rw [rf x Mc hk (by decide) (by omega), show bd 6 1 = 61 from rfl, b1, bs, gX0, ie (by decide), BX0_runBody]
      rw [← c3.2.2.2.2.2.2.2.1]
      exact (congrArg (fun z => Option.bind z fun q => some (q.1 + q.2 17 2, q.2)) c1)
    · rw [CX7_playsActs, hm, um]
      simp only [bs, show nI (und 6 2) = (0 : Int32) from rfl, if_true, hm, show nI 6 = (6 : Int32) from rfl, b2, c2]
  · have hb : bd kd 1 = 2 := by rcases hc with rfl | rfl | rfl | rfl <;> rfl
    have hu : nI (und kd 2) = 0 := by rcases hc with rfl | rfl | rfl | rfl <;> rfl
    have h5 : ¬ nI kd = (6 : Int32) := by rcases hc with rfl | rfl | rfl | rfl <;> decide
    obtain ⟨t', ht', r, Mc2, Mm2, c1, c2, c3⟩ := ar_p1 (e := e) (f := kd) (d := d + 2) x h (by omega) (by omega) hk hk hb
    refine ⟨t', by omega, r, Mc2, Mm2, c1, ?_, c3⟩
    rw [CX7_playsActs, hm, um, hu]
    simp only [bs, if_true, hm, h5, if_false, c2]
theorem ar_f1 {A B Mc Mm : fxMem} {kd t e f d : Nat} (x : Int32) (h : AR A B kd t Mc Mm) (ht : t + 4 < 20) (he : e + 4 < 20) (hk : kd < 7) (hf : f < 7) (hb : bd f 2 = 3) : ∃ t', t' ≤ t + 5 ∧ RR A B kd t' (gX0 (d + 10) 0 (nI f) (nI 2) x (nI e) Mc) (CX7_plainFits x Mm) := by
  obtain ⟨Mc', Mm', b1, b2, b3⟩ := ar_b 3 h (by omega)
  obtain ⟨t', ht', r, Mc2, Mm2, c1, c2, c3⟩ := ar_plays (e := e + 1) (d := d) x b3 (by omega) (by omega) hk
  refine ⟨t', by omega, r * 2, Mc2, Mm2, ?_, ?_, c3⟩
  · rw [rf x Mc hf (by decide) (by omega), hb, b1, bs, gX0, ie (by decide), BX0_runBody, b3.2.2.2.2.1]
    exact (congrArg (fun z => Option.bind z fun q => some (q.1 * 2, q.2)) c1)
  · rw [CX7_plainFits, b2, bs, c2, bs]
theorem ar_fits {A B Mc Mm : fxMem} {kd t e d : Nat} (x : Int32) (h : AR A B kd t Mc Mm) (ht : t + 8 < 20) (he : e + 5 < 20) (hk : kd < 7) : ∃ t', t' ≤ t + 8 ∧ RR A B kd t' (gX0 (d + 12) 0 (nI kd) (nI 2) x (nI e) Mc) (CX7_fitsActs x Mm) := by
  have hm := h.2.2.2.2.2.1
  have um := und7 hk (show 3 < 7 by decide) Mm
  rw [show nI 3 = (3 : Int32) from rfl] at um
  rcases (show (kd = 3 ∨ kd = 6) ∨ kd = 4 ∨ (kd = 0 ∨ kd = 1 ∨ kd = 2 ∨ kd = 5) by omega) with hc | hc | hc
  · have hb : bd kd 2 = 31 := by rcases hc with rfl | rfl <;> rfl
    have ha : ab kd 2 = nI 0 := by rcases hc with rfl | rfl <;> rfl
    have hu : nI (und kd 3) = 1 := by rcases hc with rfl | rfl <;> rfl
    obtain ⟨Mc', Mm', b1, b2, b3⟩ := ar_b 31 h (by omega)
    obtain ⟨t', ht', r, Mc2, Mm2, c1, c2, c3⟩ := ar_f1 (e := e + 1) (f := 0) (d := d) x b3 (by omega) (by omega) hk (by decide) rfl
    refine ⟨t', by omega, r ^^^ 7, Mc2, Mm2, ?_, ?_, c3⟩
    · rw [rf x Mc hk (by decide) (by omega), hb, b1, bs, gX0, ie (by decide), BX0_runBody, ha]
      exact (congrArg (fun z => Option.bind z fun q => some (q.1 ^^^ 7, q.2)) c1)
    · rw [CX7_fitsActs, hm, um, hu]
      simp only [bs, show ¬ (1 : Int32) = 0 by decide, if_false, b2, c2]
  · subst hc
    obtain ⟨Mc', Mm', b1, b2, b3⟩ := ar_b 41 h (by omega)
    obtain ⟨t', ht', r, Mc2, Mm2, c1, c2, c3⟩ := ar_f1 (e := e + 1) (f := 1) (d := d) (x - 1) b3 (by omega) (by omega) hk (by decide) rfl
    obtain ⟨t2, ht2, r2, Mc3, Mm3, d1, d2, d3⟩ := ar_goes (e := e + 1) (d := d + 6) 2 c3 (by omega) (by omega) hk
    refine ⟨t2, by omega, r + r2, Mc3, Mm3, ?_, ?_, d3⟩
    · rw [rf x Mc hk (by decide) (by omega), show bd 4 2 = 41 from rfl, b1, bs, gX0, ie (by decide), BX0_runBody]
      refine (congrArg (fun z => Option.bind z fun q168 => Option.bind (gX0 (d + 10) 0 (q168.2 17 0) (0 : Int32) (2 : Int32) (nI (e + 1)) q168.2) fun q180 => some (q168.1 + q180.1, q180.2)) c1).trans ?_
      dsimp only [bs]
      rw [c3.2.2.2.2.1]
      exact (congrArg (fun z => Option.bind z fun q => some (r + q.1, q.2)) d1)
    · rw [CX7_fitsActs, hm, um]
      simp only [bs, show nI (und 4 3) = (0 : Int32) from rfl, if_true, hm, show nI 4 = (4 : Int32) from rfl, b2, c2, d2]
  · have hb : bd kd 2 = 3 := by rcases hc with rfl | rfl | rfl | rfl <;> rfl
    have hu : nI (und kd 3) = 0 := by rcases hc with rfl | rfl | rfl | rfl <;> rfl
    have h5 : ¬ nI kd = (4 : Int32) := by rcases hc with rfl | rfl | rfl | rfl <;> decide
    obtain ⟨t', ht', r, Mc2, Mm2, c1, c2, c3⟩ := ar_f1 (e := e) (f := kd) (d := d + 2) x h (by omega) (by omega) hk hk hb
    refine ⟨t', by omega, r, Mc2, Mm2, c1, ?_, c3⟩
    rw [CX7_fitsActs, hm, um, hu]
    simp only [bs, if_true, hm, h5, if_false, c2]
theorem PX_act {A B Mc Mm : fxMem} {kd t : Nat} (h : PX A B) (ha : AR A B kd t Mc Mm) (ht : t ≤ 100) : PX Mc Mm := by
  obtain ⟨h1, h2, h3, np, nf, nd, nb, ns, d, hF, hG'⟩ := h
  obtain ⟨a1, a2, a3, a4, a5, a6, a7, a8, a9, a10, a11⟩ := ha
  refine ⟨a4.trans h1, rZ_c (a1 20 (by decide) (by decide)) h2, ⟨t, ht, a9, a10, fun i hi _ => a11 i hi⟩, np, nf, nd, nb, ns, d, rF_c (fun k _ _ => a1 k (by omega) (by omega)) (fun k _ _ => a1 k (by omega) (by omega)) (a2 1 (by decide) (by decide)) hF, rG_c (fun k _ _ => a1 k (by omega) (by omega)) (fun k _ _ => a1 k (by omega) (by omega)) (a2 2 (by decide) (by decide)) (by rw [a1 0 (by decide) (by decide)]) a3 hG'⟩
theorem px_act (x y z : Int32) : st2 PX (CX6_act x y z) (CX7_act x y z) := by
  intro Mc Mm h
  obtain ⟨h1, h2, h3, np, nf, nd, nb, ns, d, hF, hG'⟩ := id h
  obtain ⟨s1, s2, s3, s4, s5, s6, s7, s8, s9, s10, s11, s12, s13⟩ := hF.2.1
  have hnp := hF.1.1
  have h0 : PX (fx_st Mc 17 3 0) (fx_st Mm 0 20 0) := by
    refine ⟨by rw [mm_col (by decide)]; exact h1, rZ_c (mm_row (by decide) _ _ _) h2, ⟨0, by decide, mm_same _ _ _ _, mm_same _ _ _ _, fun i hi => absurd hi (Nat.not_lt_zero i)⟩, np, nf, nd, nb, ns, d, rF_c (fun k _ _ => mm_row (by omega) _ _ _) (fun k _ _ => mm_row (by omega) _ _ _) (mm_row (by decide) _ _ _) hF, rG_c (fun k _ _ => mm_row (by omega) _ _ _) (fun k _ _ => mm_row (by omega) _ _ _) (mm_row (by decide) _ _ _) (by rw [mm_row (by decide)]) (by rw [mm_col (by decide)]) hG'⟩
  have e1 : (fx_st Mc 17 3 0) 1 0 = nI np := by rw [mm_row (by decide)]; exact s1
  have e2 : (fx_st Mm 0 20 0) 1 0 = nI np := by rw [mm_row (by decide)]; exact s2
  rw [CX6_act, CX7_act, show (3 : Int32) = nI 3 from rfl, show CX7_in y 0 2 = CX7_in y 0 (nI 3 - 1) from rfl]
  rcases arg3 x (n := np) (by omega) with hx | ⟨p, hp, rfl⟩
  · refine ⟨0, _, _, ?_, ?_, h0⟩
    · simp only [bs, plo hnp e1 hx, if_true]
    · simp only [bs, qlo hnp e2 hx, if_true]
  rcases arg3 y (n := 3) (by decide) with hy | ⟨a, ha, rfl⟩
  · refine ⟨0, _, _, ?_, ?_, h0⟩
    · simp only [bs, pin hnp e1 hp, blo (show 3 < 2 ^ 31 by decide) hy, show ¬ (1 : Int32) = 0 by decide, if_false, if_true]
    · simp only [bs, qin hnp e2 hp, ilo (show 3 < 2 ^ 30 by decide) hy, show ¬ (1 : Int32) = 0 by decide, if_false, if_true]
  obtain ⟨u, u1, u2, u3⟩ := rA_at hF.2.2.1 hp
  obtain ⟨v, v1, v2, v3⟩ := rA_at hF.2.2.2.1 hp
  rw [show Mc (1 + 1) p = Mc 2 p from rfl] at u2
  rw [show Mc (1 + 2) p = Mc 3 p from rfl] at v2
  have hA : AR (fx_st Mc 17 3 0) (fx_st Mm 0 20 0) u 0 (fx_st (fx_st (fx_st (fx_st Mc 17 3 0) 17 0 (nI u)) 17 1 (nI p)) 17 2 (nI v)) (fx_st (fx_st (fx_st (fx_st Mm 0 20 0) 0 21 (nI u)) 0 22 (nI p)) 0 23 (nI v)) := by
    refine ⟨fun k z1 z2 => by rw [mm_row z1, mm_row z1, mm_row z1], fun k z1 z2 => by rw [mm_row z1, mm_row z1, mm_row z1], by rw [mm_col (by decide), mm_col (by decide), mm_col (by decide)], by rw [mm_col (by decide), mm_col (by decide), mm_col (by decide)], by rw [mm_col (by decide), mm_col (by decide), mm_same], by rw [mm_col (by decide), mm_col (by decide), mm_same], by rw [mm_col (by decide), mm_same, mm_col (by decide), mm_same], by rw [mm_same, mm_same], by rw [mm_col (by decide), mm_col (by decide), mm_col (by decide), mm_same]; rfl, by rw [mm_col (by decide), mm_col (by decide), mm_col (by decide), mm_same]; rfl, fun i hi => absurd hi (Nat.not_lt_zero i)⟩
  have key : ∃ t, t ≤ 8 ∧ RR (fx_st Mc 17 3 0) (fx_st Mm 0 20 0) u t (CX0_runFrom (nI u) (nI a) z 0 (fx_st (fx_st (fx_st (fx_st Mc 17 3 0) 17 0 (nI u)) 17 1 (nI p)) 17 2 (nI v))) (if nI a = (0 : Int32) then CX7_goesActs z (fx_st (fx_st (fx_st (fx_st Mm 0 20 0) 0 21 (nI u)) 0 22 (nI p)) 0 23 (nI v)) else if nI a = (1 : Int32) then CX7_playsActs z (fx_st (fx_st (fx_st (fx_st Mm 0 20 0) 0 21 (nI u)) 0 22 (nI p)) 0 23 (nI v)) else CX7_fitsActs z (fx_st (fx_st (fx_st (fx_st Mm 0 20 0) 0 21 (nI u)) 0 22 (nI p)) 0 23 (nI v))) := by
    rw [CX0_runFrom]
    rcases (show a = 0 ∨ a = 1 ∨ a = 2 by omega) with rfl | rfl | rfl
    · obtain ⟨t, ht, hr⟩ := ar_goes (e := 0) (d := 36) z hA (by decide) (by decide) u1
      exact ⟨t, by omega, hr⟩
    · obtain ⟨t, ht, hr⟩ := ar_plays (e := 0) (d := 32) z hA (by decide) (by decide) u1
      exact ⟨t, by omega, hr⟩
    · obtain ⟨t, ht, hr⟩ := ar_fits (e := 0) (d := 28) z hA (by decide) (by decide) u1
      exact ⟨t, by omega, hr⟩
  obtain ⟨t, ht, r, Mc2, Mm2, c1, c2, c3⟩ := key
  refine ⟨r, Mc2, Mm2, ?_, ?_, PX_act h0 c3 (by omega)⟩
  · simp only [bs, pin hnp e1 hp, bin ha (show 3 < 2 ^ 31 by decide), show ¬ (1 : Int32) = 0 by decide, if_false, if_true, gin (show p < 10 by omega) (by decide), nI_clamp (show p < 2 ^ 31 by omega), fx_lt, mm_row (show 2 ≠ 17 by decide), mm_row (show 3 ≠ 17 by decide), u2, v2, mm_col (show 0 ≠ 2 by decide), mm_col (show 0 ≠ 1 by decide), mm_same, c1]
  · simp only [bs, qin hnp e2 hp, iin ha (show 3 < 2 ^ 30 by decide), show ¬ (1 : Int32) = 0 by decide, if_false, if_true, la130, la140, gin (show 130 + p < 900 by omega) (by decide), gin (show 140 + p < 900 by omega) (by decide), nI_clamp (show 130 + p < 2 ^ 31 by omega), nI_clamp (show 140 + p < 2 ^ 31 by omega), fx_lt, mm_row (show 1 ≠ 0 by decide), u3, v3]
    by_cases z0 : nI a = (0 : Int32)
    · rw [it z0] at c2
      rw [it z0, c2, bs]
    · rw [ie z0] at c2
      rw [ie z0]
      by_cases z1 : nI a = (1 : Int32)
      · rw [it z1] at c2
        rw [it z1, c2, bs]
      · rw [ie z1] at c2
        rw [ie z1, c2, bs]
