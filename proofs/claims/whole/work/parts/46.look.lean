/-! the reference's look at a SHOW -/
def stk (M : fxMem) : List Bool → Prop
  | [] => True
  | b :: r => M 4 r.length = nI (bI b) ∧ stk M r
theorem stk_o {M : fxMem} {j : Nat} {x : Int32} : ∀ {st : List Bool}, st.length ≤ j → stk M st → stk (fx_st M 4 j x) st
  | [], _, _ => trivial
  | b :: r, h, hs => by
    rw [List.length_cons] at h
    exact ⟨by rw [mm_col (by omega)]; exact hs.1, stk_o (by omega) hs.2⟩
theorem stk_r {M M' : fxMem} (e : M' 4 = M 4) : ∀ {st : List Bool}, stk M st → stk M' st
  | [], _ => trivial
  | b :: r, hs => ⟨by rw [e]; exact hs.1, stk_r e hs.2⟩
def LM (M : fxMem) (a : Nat → Nat) : Prop := ∀ l, l < 5 → a l < 100 ∧ M 3 l = nI (a l)
theorem nb0 : vp_nar .boolean 0 = nI (bI false) := by decide
theorem nb1 : vp_nar .boolean 1 = nI (bI true) := by decide
theorem bI0 (b : Bool) : (nI (bI b) = (0 : Int32)) ↔ b = false := by cases b <;> decide
theorem opM_c {o : Nat} (ho : o < 1503) : (o < 1500 ∧ opM o = nI (o / 300 + 8 * (o / 100 % 3) + 32 * (o % 100))) ∨ (o = 1500 ∧ opM o = -1) ∨ (o = 1501 ∧ opM o = -2) ∨ (o = 1502 ∧ opM o = -3) := by
  unfold opM
  by_cases h : o < 1500
  · exact Or.inl ⟨h, it h _ _⟩
  · rw [ie h]
    rcases (show o = 1500 ∨ o = 1501 ∨ o = 1502 by omega) with rfl | rfl | rfl
    · exact Or.inr (Or.inl ⟨rfl, rfl⟩)
    · exact Or.inr (Or.inr (Or.inl ⟨rfl, rfl⟩))
    · exact Or.inr (Or.inr (Or.inr ⟨rfl, rfl⟩))
theorem em1 (n : Nat) : nI (n + 1) + (-1 : Int32) = nI n := by
  rw [← Int32.sub_eq_add_neg]
  exact nI_pred n
theorem lk1 {M : fxMem} {a : Nat → Nat} {x1 x2 : Int32} {len base i o n d : Nat} {r : List Nat} {st : List Bool} (hL : LM M a) (hb : base + len ≤ 900) (hi : i < base + len) (hM : M 1 i = opM o) (ho : o < 1503) (hs : stk M st) (hd : dpt (o :: r) st.length = some d) (hst : st.length ≤ 13) {k : Int32 → Int32 → fxMem → Option fxMem} : ∃ M', CX7_looks_L111 x1 x2 (nI len) (nI base) (n + 1) (nI st.length) (nI i) M k = CX7_looks_L111 x1 x2 (nI len) (nI base) n (nI (run1 a o st).length) (nI (i + 1)) M' k ∧ stk M' (run1 a o st) ∧ ∀ j, j ≠ 4 → M' j = M j := by
  obtain ⟨q1, q2, q3, q4⟩ := dpt_run1 (a := a) ho hd
  rw [CX7_looks_L111, nI_add, ie (nI_ge hi (by omega)), it (gin (by omega) (by decide)), nI_clamp (by omega), hM]
  rcases opM_c ho with ⟨c1, c2⟩ | ⟨c1, c2⟩ | ⟨c1, c2⟩ | ⟨c1, c2⟩
  · obtain ⟨e1, e2, e3⟩ := pm1 o c1
    obtain ⟨a1, a2⟩ := hL (o / 300) (by omega)
    have hl := q2 c1
    rw [c2, ie (nI_pos (by omega)), e1, e2, e3, it (gin (by omega) (by decide)), it (gin (by omega) (by decide)), nI_clamp (by omega), nI_clamp (by omega), a2, n1 i, n1]
    have ev : vp_nar .boolean (if nI (o / 100 % 3) = (0 : Int32) then (if nI (o % 100) ≤ nI (a (o / 300)) then (0 : Int32) else (1 : Int32)) else (if nI (o / 100 % 3) = (1 : Int32) then (if nI (a (o / 300)) = nI (o % 100) then (1 : Int32) else (0 : Int32)) else (if nI (a (o / 300)) ≤ nI (o % 100) then (0 : Int32) else (1 : Int32)))) = nI (bI (tst a o)) := by
      unfold tst
      have b0 : (nI (o / 100 % 3) = (0 : Int32)) ↔ o / 100 % 3 = 0 := kk (k := 0) (by omega) (by decide)
      have b1 : (nI (o / 100 % 3) = (1 : Int32)) ↔ o / 100 % 3 = 1 := kk (k := 1) (by omega) (by decide)
      by_cases h0 : o / 100 % 3 = 0
      · rw [it (b0.mpr h0), it h0]
        by_cases z : a (o / 300) < o % 100
        · rw [ie (nI_ge z (by omega)), decide_eq_true z]; exact nb1
        · rw [it (nI_le (by omega) (by omega)), decide_eq_false z]; exact nb0
      rw [ie (fun z => h0 (b0.mp z)), ie h0]
      by_cases h1 : o / 100 % 3 = 1
      · rw [it (b1.mpr h1), it h1]
        by_cases z : a (o / 300) = o % 100
        · rw [it (by rw [z]), decide_eq_true z]; exact nb1
        · rw [ie (fun z2 => z ((kk (by omega) (by omega)).mp z2)), decide_eq_false z]; exact nb0
      · rw [ie (fun z => h1 (b1.mp z)), ie h1]
        by_cases z : o % 100 < a (o / 300)
        · rw [ie (nI_ge z (by omega)), decide_eq_true z]; exact nb1
        · rw [it (nI_le (by omega) (by omega)), decide_eq_false z]; exact nb0
    rw [ev]
    have er : run1 a o st = tst a o :: st := by unfold run1; rw [it c1]
    refine ⟨fx_st M 4 st.length (nI (bI (tst a o))), ?_, ?_, fun j hj => mm_row hj _ _ _⟩
    · rw [er]; rfl
    · rw [er]
      exact ⟨mm_same _ _ _ _, stk_o (Nat.le_refl _) hs⟩
  · obtain ⟨b, s, rfl⟩ := q3 c1
    rw [List.length_cons] at hst
    have hb1 := hs.1
    have er : run1 a o (b :: s) = (!b) :: s := by unfold run1; rw [ie (by omega), it c1]
    rw [c2, it (by decide), it rfl, List.length_cons, nI_pred, it (gin (by omega) (by decide)), nI_clamp (by omega), hb1, n1 i]
    have ev : vp_nar .boolean (if nI (bI b) = (0 : Int32) then (1 : Int32) else (0 : Int32)) = nI (bI (!b)) := by cases b <;> decide
    rw [ev, er]
    exact ⟨fx_st M 4 s.length (nI (bI (!b))), rfl, ⟨mm_same _ _ _ _, stk_o (Nat.le_refl _) hs.2⟩, fun j hj => mm_row hj _ _ _⟩
  · obtain ⟨b1, b2, s, rfl⟩ := q4 (by omega)
    simp only [List.length_cons] at hst
    have hb1 : M 4 (s.length + 1) = nI (bI b1) := hs.1
    have hb2 : M 4 s.length = nI (bI b2) := hs.2.1
    have er : run1 a o (b1 :: b2 :: s) = (b2 && b1) :: s := by
      unfold run1
      rw [ie (by omega), ie (by omega)]
      exact congrArg (fun z => z :: s) (it c1 _ _)
    rw [c2, it (by decide), ie (by decide), ie (by decide), it rfl]
    simp only [List.length_cons]
    simp only [em1 (s.length + 1), nI_pred s.length, gin (show s.length < 64 by omega) (show 64 < 2 ^ 31 by decide), gin (show s.length + 1 < 64 by omega) (show 64 < 2 ^ 31 by decide), nI_clamp (show s.length < 2 ^ 31 by omega), nI_clamp (show s.length + 1 < 2 ^ 31 by omega), hb1, hb2, if_true, CX7_looks_J314, CX7_looks_J340, CX7_looks_J345, n1 i, er]
    refine ⟨fx_st M 4 s.length (nI (bI (b2 && b1))), ?_, ⟨mm_same _ _ _ _, stk_o (Nat.le_refl _) hs.2.2⟩, fun j hj => mm_row hj _ _ _⟩
    cases b2
    · rw [it (show nI (bI false) = (0 : Int32) from rfl), nb0]; rfl
    · rw [ie (show ¬ nI (bI true) = (0 : Int32) by decide)]
      cases b1
      · rw [it (show nI (bI false) = (0 : Int32) from rfl), nb0]; rfl
      · rw [ie (show ¬ nI (bI true) = (0 : Int32) by decide), nb1]; rfl
  · obtain ⟨b1, b2, s, rfl⟩ := q4 (by omega)
    simp only [List.length_cons] at hst
    have hb1 : M 4 (s.length + 1) = nI (bI b1) := hs.1
    have hb2 : M 4 s.length = nI (bI b2) := hs.2.1
    have er : run1 a o (b1 :: b2 :: s) = (b2 || b1) :: s := by
      unfold run1
      rw [ie (by omega), ie (by omega)]
      exact congrArg (fun z => z :: s) (ie (show ¬ o = 1501 by omega) _ _)
    rw [c2, it (by decide), ie (by decide), ie (by decide), ie (by decide)]
    simp only [List.length_cons]
    simp only [em1 (s.length + 1), nI_pred s.length, gin (show s.length < 64 by omega) (show 64 < 2 ^ 31 by decide), gin (show s.length + 1 < 64 by omega) (show 64 < 2 ^ 31 by decide), nI_clamp (show s.length < 2 ^ 31 by omega), nI_clamp (show s.length + 1 < 2 ^ 31 by omega), hb1, hb2, if_true, CX7_looks_J314, CX7_looks_J340, CX7_looks_J345, n1 i, er]
    refine ⟨fx_st M 4 s.length (nI (bI (b2 || b1))), ?_, ⟨mm_same _ _ _ _, stk_o (Nat.le_refl _) hs.2.2⟩, fun j hj => mm_row hj _ _ _⟩
    cases b2
    · rw [it (show nI (bI false) = (0 : Int32) from rfl)]
      cases b1
      · rw [it (show nI (bI false) = (0 : Int32) from rfl), nb0]; rfl
      · rw [ie (show ¬ nI (bI true) = (0 : Int32) by decide), nb1]; rfl
    · rw [ie (show ¬ nI (bI true) = (0 : Int32) by decide), nb1]; rfl
theorem run1_len {a : Nat → Nat} {o d : Nat} {r : List Nat} {st : List Bool} (ho : o < 1503) (hd : dpt (o :: r) st.length = some d) (hst : st.length ≤ 13) : (run1 a o st).length ≤ 13 := by
  obtain ⟨q1, q2, q3, q4⟩ := dpt_run1 (a := a) ho hd
  unfold run1
  by_cases h0 : o < 1500
  · rw [it h0]; have := q2 h0; simp; omega
  · rw [ie h0]
    by_cases h1 : o = 1500
    · rw [it h1]; obtain ⟨b, s, rfl⟩ := q3 h1; exact hst
    · rw [ie h1]
      obtain ⟨b1, b2, s, rfl⟩ := q4 (by omega)
      simp at hst ⊢
      omega
theorem lkO {a : Nat → Nat} {x1 x2 : Int32} {len base : Nat} (hb : base + len ≤ 900) {k : Int32 → Int32 → fxMem → Option fxMem} : ∀ (ops : List Nat) (n i : Nat) (st : List Bool) (d : Nat) (M : fxMem), LM M a → i + ops.length ≤ base + len → (∀ t o, ops[t]? = some o → M 1 (i + t) = opM o) → (∀ o ∈ ops, o < 1503) → stk M st → dpt ops st.length = some d → st.length ≤ 13 → ∃ M', CX7_looks_L111 x1 x2 (nI len) (nI base) (n + ops.length) (nI st.length) (nI i) M k = CX7_looks_L111 x1 x2 (nI len) (nI base) n (nI (run a ops st).length) (nI (i + ops.length)) M' k ∧ stk M' (run a ops st) ∧ ∀ j, j ≠ 4 → M' j = M j
  | [], n, i, st, d, M, hL, hi, hc, ho, hs, hd, hst => ⟨M, rfl, hs, fun _ _ => rfl⟩
  | o :: r, n, i, st, d, M, hL, hi, hc, ho, hs, hd, hst => by
    rw [List.length_cons] at hi
    have ho1 := ho o List.mem_cons_self
    obtain ⟨M1, e1, e2, e3⟩ := lk1 (x1 := x1) (x2 := x2) (len := len) (base := base) (n := n + r.length) (k := k) hL hb (show i < base + len by omega) (hc 0 o rfl) ho1 hs hd hst
    obtain ⟨M2, g1, g2, g3⟩ := lkO hb (x1 := x1) (x2 := x2) (k := k) r n (i + 1) (run1 a o st) d M1 (fun l hl => by rw [e3 3 (by decide)]; exact hL l hl) (by omega) (fun t o' ht => by
      rw [e3 1 (by decide), show i + 1 + t = i + (t + 1) by omega]; exact hc (t + 1) o' ht) (fun o' h' => ho o' (List.mem_cons_of_mem _ h')) e2 (dpt_run1 ho1 hd).1 (run1_len ho1 hd hst)
    refine ⟨M2, ?_, g2, fun j hj => by rw [g3 j hj, e3 j hj]⟩
    rw [List.length_cons, ← Nat.add_assoc, e1, g1, show i + 1 + r.length = i + (r.length + 1) by omega]
    rfl
