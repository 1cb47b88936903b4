/-! image, undo -/
theorem shR_p {c0 c1 c2 c3 c4 c5 m m' : Nat → Int32} {i : Nat} (hi : i < 5) (hm : ∀ j, j < 900 → m' j = m j) (h : shR c0 c1 c2 c3 c4 c5 m i) : shR c0 c1 c2 c3 c4 c5 m' i := by
  obtain ⟨cl, spd, bt, stp, h1, h2, h3, h4, h5, h6, h7, h8, h9, h10, h11, h12, h13, h14, h15, h16, h17, h18⟩ := h
  refine ⟨cl, spd, bt, stp, h1, h2, h3, h4, h5, by rw [hm _ (by omega)]; exact h6, h7, by rw [hm _ (by omega)]; exact h8, h9, by rw [hm _ (by omega)]; exact h10, h11, h12, h13, by rw [hm _ (by omega)]; exact h14, fun t x ht => ?_, h16, h17, h18⟩
  have ht' : t < (flM cl).length := by
    rcases Nat.lt_or_ge t (flM cl).length with z | z
    · exact z
    · rw [List.getElem?_eq_none z] at ht
      exact absurd ht (by simp)
  rw [hm _ (by omega)]
  exact h15 t x ht
theorem rA_x {c c' m m' : Nat → Int32} {off n B : Nat} (hn : n ≤ 10) (ho : off + 10 ≤ 900) (hc : ∀ p, p < 10 → c' p = c p) (hm : ∀ j, j < 900 → m' j = m j) (h : rA c m off n B) : rA c' m' off n B := fun p hp => by
  rw [hc p (by omega), hm _ (by omega)]
  exact h p hp
theorem rF_x {Mc Mc' Mm Mm' : fxMem} {o a o' a' np nf nd nb ns d : Nat} (h0 : Mc' o' 0 = Mc o 0) (h4 : Mc' o' 4 = Mc o 4) (h5 : Mc' o' 5 = Mc o 5) (h7 : Mc' o' 7 = Mc o 7) (h9 : Mc' o' 9 = Mc o 9) (h11 : Mc' o' 11 = Mc o 11) (r1 : ∀ p, p < 10 → Mc' (o' + 1) p = Mc (o + 1) p) (r2 : ∀ p, p < 10 → Mc' (o' + 2) p = Mc (o + 2) p) (r3 : ∀ p, p < 10 → Mc' (o' + 3) p = Mc (o + 3) p) (r4 : ∀ p, p < 10 → Mc' (o' + 4) p = Mc (o + 4) p) (r5 : ∀ p, p < 10 → Mc' (o' + 5) p = Mc (o + 5) p) (r6 : ∀ p, p < 120 → Mc' (o' + 6) p = Mc (o + 6) p) (hm : ∀ j, j < 900 → Mm' a' j = Mm a j) (hw : ∀ k, 26 ≤ k → k < 56 → Mc' k = Mc k) (h : rF Mc Mm o a np nf nd nb ns d) : rF Mc' Mm' o' a' np nf nd nb ns d := by
  obtain ⟨a1, a2, a3, a4, a5, a6, a7, a8, a9, a10, a11⟩ := h
  obtain ⟨b1, b2, b3, b4, b5, b6⟩ := id a1
  obtain ⟨s1, s2, s3, s4, s5, s6, s7, s8, s9, s10, s11, s12, s13⟩ := a2
  refine ⟨a1, ⟨h0.trans s1, (hm _ (by decide)).trans s2, h11.trans s3, (hm _ (by decide)).trans s4, h5.trans s5, (hm _ (by decide)).trans s6, h7.trans s7, (hm _ (by decide)).trans s8, h9.trans s9, (hm _ (by decide)).trans s10, h4.trans s11, (hm _ (by decide)).trans s12, (hm _ (by decide)).trans s13⟩, rA_x b1 (by decide) r1 hm a3, rA_x b1 (by decide) r2 hm a4, rA_x b1 (by decide) r3 hm a5, fun p q hp hq e => ?_, rA_x b2 (by decide) r4 hm a7, fun p q hp hq e => ?_, rA_x b3 (by decide) r5 hm a9, ⟨fun i hi => ?_, fun i hi => ?_⟩, fun i hi => ?_⟩
  · rw [r3 p (by omega), r3 q (by omega)] at e; exact a6 p q hp hq e
  · rw [r4 p (by omega), r4 q (by omega)] at e; exact a8 p q hp hq e
  · rw [hm _ (by omega), r6 i (by omega)]; exact a10.1 i hi
  · rw [r6 i hi]; exact a10.2 i hi
  · exact shR_p (by omega) hm (rW_c b5 hw a11 i hi)
def imM (a b : Nat) (M : fxMem) (i : Nat) : fxMem := fun k => if k = b then (fun j => if j < i then M a j else M b j) else M k
theorem imM_s {a b : Nat} (hab : a ≠ b) (M : fxMem) (i : Nat) : fx_st (imM a b M i) b i (imM a b M i a i) = imM a b M (i + 1) := by
  have e : imM a b M i a i = M a i := by simp [imM, hab]
  rw [e]
  funext k j
  by_cases hk : k = b
  · subst hk
    by_cases hj : j = i
    · subst hj
      rw [mm_same]; simp [imM]
    · rw [mm_col hj]
      simp only [imM, if_true]
      by_cases z : j < i
      · rw [it z, it (by omega)]
      · rw [ie z, ie (by omega)]
  · rw [mm_row hk]; simp [imM, hk]
theorem im_L {M : fxMem} {k : Int32 → fxMem → Option (Int32 × fxMem)} : ∀ (n i : Nat), 900 - i < n → i ≤ 900 → CX7_image_L2 n (nI i) (imM 1 2 M i) k = k (nI 900) (imM 1 2 M 900)
  | 0, i, h, _ => absurd h (Nat.not_lt_zero _)
  | n + 1, i, h, hi => by
    rw [CX7_image_L2, show (900 : Int32) = nI 900 from rfl]
    by_cases z : i = 900
    · subst z; rw [it (Int32.le_refl _)]
    · rw [ie (nI_ge (by omega) (by decide)), it (gin (by omega) (by decide)), nI_clamp (by omega), imM_s (by decide), n1]
      exact im_L n (i + 1) (by omega) (by omega)
theorem un_L {M : fxMem} {k : Int32 → fxMem → Option (Int32 × fxMem)} : ∀ (n i : Nat), 900 - i < n → i ≤ 900 → CX7_undo_L12 n (nI i) (imM 2 1 M i) k = k (nI 900) (imM 2 1 M 900)
  | 0, i, h, _ => absurd h (Nat.not_lt_zero _)
  | n + 1, i, h, hi => by
    rw [CX7_undo_L12, show (900 : Int32) = nI 900 from rfl]
    by_cases z : i = 900
    · subst z; rw [it (Int32.le_refl _)]
    · rw [ie (nI_ge (by omega) (by decide)), it (gin (by omega) (by decide)), nI_clamp (by omega), imM_s (by decide), n1]
      exact un_L n (i + 1) (by omega) (by omega)
theorem imM_0 (a b : Nat) (M : fxMem) : imM a b M 0 = M := by
  funext k j
  by_cases hk : k = b
  · subst hk; simp [imM]
  · simp [imM, hk]
theorem imM_b {a b : Nat} (M : fxMem) {j : Nat} (hj : j < 900) : imM a b M 900 b j = M a j := by simp [imM, hj]
theorem imM_o {a b k : Nat} (M : fxMem) (hk : k ≠ b) : imM a b M 900 k = M k := by simp [imM, hk]
theorem fit_ok {M : fxMem} {k : Nat} {c : Nat → Int32} (e : M k = c) (h : ∀ i, i < 120 → fits .byte (.int (c i)) = true) : fx_fit M k 120 = true := by
  rw [fx_fit, List.all_eq_true]
  intro i hi
  rw [e]
  exact h i (List.mem_range.mp hi)
/-- what taking over does to the class's memory -/
def TK (o o' : Nat) (M M' : fxMem) : Prop := M' o' 0 = M o 0 ∧ M' o' 4 = M o 4 ∧ M' o' 5 = M o 5 ∧ M' o' 7 = M o 7 ∧ M' o' 9 = M o 9 ∧ M' o' 11 = M o 11 ∧ (∀ p, p < 10 → M' (o' + 1) p = M (o + 1) p) ∧ (∀ p, p < 10 → M' (o' + 2) p = M (o + 2) p) ∧ (∀ p, p < 10 → M' (o' + 3) p = M (o + 3) p) ∧ (∀ p, p < 10 → M' (o' + 4) p = M (o + 4) p) ∧ (∀ p, p < 10 → M' (o' + 5) p = M (o + 5) p) ∧ (∀ p, p < 120 → M' (o' + 6) p = M (o + 6) p) ∧ ∀ k, (k < o' ∨ o' + 6 < k) → M' k = M k
theorem tk_k {M : fxMem} (h : ∀ i, i < 120 → fits .byte (.int (M 7 i)) = true) : ∃ M', CX1_takeOver_k M = some M' ∧ TK 1 8 M M' := by
  refine ⟨_, by rw [CX1_takeOver_k]; simp only [fx_lt]; rw [it]; exact fit_ok (by simp [fx_cp, fx_up, fx_st]) h, ?_⟩
  refine ⟨?_, ?_, ?_, ?_, ?_, ?_, fun p hp => ?_, fun p hp => ?_, fun p hp => ?_, fun p hp => ?_, fun p hp => ?_, fun p hp => ?_, fun k hk => ?_⟩
  all_goals first
    | (simp [fx_cp, fx_up, fx_st, upd, va_cpy, hp]; done)
    | (simp [fx_cp, fx_up, fx_st, upd, va_cpy, show k ≠ 8 by omega, show k ≠ 9 by omega, show k ≠ 10 by omega, show k ≠ 11 by omega, show k ≠ 12 by omega, show k ≠ 13 by omega, show k ≠ 14 by omega]; done)
    | (simp [fx_cp, fx_up, fx_st, upd, va_cpy]; done)
theorem tk_n {M : fxMem} (h : ∀ i, i < 120 → fits .byte (.int (M 14 i)) = true) : ∃ M', CX1_takeOver_n M = some M' ∧ TK 8 1 M M' := by
  refine ⟨_, by rw [CX1_takeOver_n]; simp only [fx_lt]; rw [it]; exact fit_ok (by simp [fx_cp, fx_up, fx_st]) h, ?_⟩
  refine ⟨?_, ?_, ?_, ?_, ?_, ?_, fun p hp => ?_, fun p hp => ?_, fun p hp => ?_, fun p hp => ?_, fun p hp => ?_, fun p hp => ?_, fun k hk => ?_⟩
  all_goals first
    | (simp [fx_cp, fx_up, fx_st, upd, va_cpy, hp]; done)
    | (simp [fx_cp, fx_up, fx_st, upd, va_cpy, show k ≠ 1 by omega, show k ≠ 2 by omega, show k ≠ 3 by omega, show k ≠ 4 by omega, show k ≠ 5 by omega, show k ≠ 6 by omega, show k ≠ 7 by omega]; done)
    | (simp [fx_cp, fx_up, fx_st, upd, va_cpy]; done)
theorem px_image : st2 PX CX6_image CX7_image := by
  intro Mc Mm h
  obtain ⟨h1, h2, h3, np, nf, nd, nb, ns, d, hF, hG'⟩ := id h
  obtain ⟨s1, s2, s3, s4, s5, s6, s7, s8, s9, s10, s11, s12, s13⟩ := hF.2.1
  obtain ⟨M', e, t0, t4, t5, t7, t9, t11, r1, r2, r3, r4, r5, r6, ro⟩ := tk_k (M := Mc) hF.2.2.2.2.2.2.2.2.2.1.2
  refine ⟨nI np, fx_st M' 0 2 1, fx_st (imM 1 2 Mm 900) 0 3 1, ?_, ?_, ?_⟩
  · rw [CX6_image, e, bs, fx_lt, mm_row (by decide), ro 1 (by omega), s1]
  · have := im_L (M := Mm) (k := fun y1_2 M2 => fx_lt (fx_st M2 0 3 (1 : Int32)) fun M37 => if fx_in (0 : Int32) 900 = true then some (M37 1 (0 : Int32).toNatClampNeg, M37) else none) 1000 0 (by omega) (by omega)
    rw [imM_0] at this
    rw [CX7_image]
    refine this.trans ?_
    rw [fx_lt, it ci0, cc0, mm_row (by decide), imM_o _ (by decide), s2]
  · refine ⟨by rw [mm_col (by decide), imM_o _ (by decide)]; exact h1, rZ_c (by rw [mm_row (by decide), ro 20 (by omega)]) h2, rD_c (by rw [mm_row (by decide), ro 17 (by omega)]) (by rw [mm_row (by decide), ro 18 (by omega)]) (by rw [mm_col (by decide), imM_o _ (by decide)]) (by rw [mm_row (by decide), imM_o _ (by decide)]) h3, np, nf, nd, nb, ns, d, rF_c (fun k _ _ => by rw [mm_row (by omega), ro k (by omega)]) (fun k _ _ => by rw [mm_row (by omega), ro k (by omega)]) (by rw [mm_row (by decide), imM_o _ (by decide)]) hF, Or.inr ⟨mm_same _ _ _ _, mm_same _ _ _ _, np, nf, nd, nb, ns, d, ?_, Nat.le_refl _⟩⟩
    refine rF_x (o := 1) (a := 1) (by rw [mm_row (by decide)]; exact t0) (by rw [mm_row (by decide)]; exact t4) (by rw [mm_row (by decide)]; exact t5) (by rw [mm_row (by decide)]; exact t7) (by rw [mm_row (by decide)]; exact t9) (by rw [mm_row (by decide)]; exact t11) (fun p hp => by rw [mm_row (by decide)]; exact r1 p hp) (fun p hp => by rw [mm_row (by decide)]; exact r2 p hp) (fun p hp => by rw [mm_row (by decide)]; exact r3 p hp) (fun p hp => by rw [mm_row (by decide)]; exact r4 p hp) (fun p hp => by rw [mm_row (by decide)]; exact r5 p hp) (fun p hp => by rw [mm_row (by decide)]; exact r6 p hp) (fun j hj => by rw [mm_row (by decide)]; exact imM_b Mm hj) (fun k _ _ => by rw [mm_row (by omega), ro k (by omega)]) hF
theorem px_undo : st2 PX CX6_undo CX7_undo := by
  intro Mc Mm h
  obtain ⟨h1, h2, h3, np, nf, nd, nb, ns, d, hF, hG'⟩ := id h
  rcases hG' with ⟨g1, g2⟩ | ⟨g1, g2, np', nf', nd', nb', ns', d', hK, hns⟩
  · refine ⟨-3, Mc, Mm, ?_, ?_, h⟩
    · rw [CX6_undo, it g1]
    · rw [CX7_undo, it g2]
  obtain ⟨s1, s2, s3, s4, s5, s6, s7, s8, s9, s10, s11, s12, s13⟩ := hK.2.1
  obtain ⟨M', e, t0, t4, t5, t7, t9, t11, r1, r2, r3, r4, r5, r6, ro⟩ := tk_n (M := Mc) hK.2.2.2.2.2.2.2.2.2.1.2
  refine ⟨nI np', M', imM 2 1 Mm 900, ?_, ?_, ?_⟩
  · rw [CX6_undo, ie (by rw [g1]; decide), e, bs, t0, s1]
  · have := un_L (M := Mm) (k := fun y1_12 M12 => if fx_in (0 : Int32) 900 = true then some (M12 1 (0 : Int32).toNatClampNeg, M12) else none) 1000 0 (by omega) (by omega)
    rw [imM_0] at this
    rw [CX7_undo, ie (by rw [g2]; decide)]
    refine this.trans ?_
    rw [it ci0, cc0, imM_b Mm (by decide), s2]
  · refine ⟨by rw [imM_o _ (by decide)]; exact h1, rZ_c (ro 20 (by omega)) h2, rD_c (by rw [ro 17 (by omega)]) (ro 18 (by omega)) (by rw [imM_o _ (by decide)]) (imM_o _ (by decide)) h3, np', nf', nd', nb', ns', d', ?_, Or.inr ⟨by rw [ro 0 (by omega)]; exact g1, by rw [imM_o _ (by decide)]; exact g2, np', nf', nd', nb', ns', d', rF_c (fun k _ _ => ro k (by omega)) (fun k _ _ => ro k (by omega)) (imM_o _ (by decide)) hK, Nat.le_refl _⟩⟩
    exact rF_x (o := 8) (a := 2) t0 t4 t5 t7 t9 t11 r1 r2 r3 r4 r5 r6 (fun j hj => imM_b Mm hj) (fun k _ _ => ro k (by omega)) hK
