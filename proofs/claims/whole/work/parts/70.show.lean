/-! the show: both readers, from end to end -/
theorem shR_at {c0 c1 c2 c3 c4 c5 m m' : Nat → Int32} {i : Nat} (h1 : m' (180 + i) = m (180 + i)) (h2 : m' (185 + i) = m (185 + i)) (h3 : m' (190 + i) = m (190 + i)) (h4 : m' (195 + i) = m (195 + i)) (h5 : ∀ t, t < 140 → m' (200 + 140 * i + t) = m (200 + 140 * i + t)) (h : shR c0 c1 c2 c3 c4 c5 m i) : shR c0 c1 c2 c3 c4 c5 m' i := by
  obtain ⟨cl, spd, bt, stp, a1, a2, a3, a4, a5, a6, a7, a8, a9, a10, a11, a12, a13, a14, a15, a16, a17, a18⟩ := h
  refine ⟨cl, spd, bt, stp, a1, a2, a3, a4, a5, by rw [h1]; exact a6, a7, by rw [h2]; exact a8, a9, by rw [h3]; exact a10, a11, a12, a13, by rw [h4]; exact a14, fun t x ht => ?_, a16, a17, a18⟩
  have hl : t < (flM cl).length := by
    rcases Nat.lt_or_ge t (flM cl).length with z | z
    · exact z
    · rw [List.getElem?_eq_none z] at ht; exact absurd ht (by simp)
  rw [h5 t (by omega)]
  exact a15 t x ht
/-- all else stays behind a show() -/
theorem PX_show {Mc Mm Mc2 Mm2 : fxMem} {np nf nd nb ns ns' d : Nat} (h1 : Mm 0 13 = -1) (h2 : rZ Mc) (h3 : rD Mc Mm) (hF : rF Mc Mm 1 1 np nf nd nb ns d) (hG : rG Mc Mm ns) (hns : ns < 5) (hle : ns ≤ ns') (hle' : ns' ≤ 5) (hc : ∀ k, k ≠ 1 → k ≠ 16 → (k < 26 + 6 * ns ∨ 31 + 6 * ns < k) → Mc2 k = Mc k) (hc1 : ∀ j, j ≠ 9 → j ≠ 11 → Mc2 1 j = Mc 1 j) (hc9 : Mc2 1 9 = nI 0) (hc11 : Mc2 1 11 = nI ns') (hm : ∀ k, k ≠ 0 → k ≠ 1 → Mm2 k = Mm k) (hm3 : Mm2 0 3 = Mm 0 3) (hm13 : Mm2 0 13 = Mm 0 13) (hm20 : Mm2 0 20 = Mm 0 20) (hm1 : ∀ j, j ≠ 1 → j ≠ 4 → j ≠ 6 → j ≠ 180 + ns → j ≠ 185 + ns → j ≠ 190 + ns → j ≠ 195 + ns → (j < 200 + 140 * ns ∨ 340 + 140 * ns ≤ j) → Mm2 1 j = Mm 1 j) (hm11 : Mm2 1 1 = nI ns') (hm14 : Mm2 1 4 = nI 0) (hm16 : Mm2 1 6 = nI ns' - 1) (hw : ∀ i, ns ≤ i → i < ns' → shR (Mc2 (26 + 6 * i)) (Mc2 (26 + 6 * i + 1)) (Mc2 (26 + 6 * i + 2)) (Mc2 (26 + 6 * i + 3)) (Mc2 (26 + 6 * i + 4)) (Mc2 (26 + 6 * i + 5)) (Mm2 1) i) : PX Mc2 Mm2 := by
  obtain ⟨⟨n1', n2, n3, n4, n5, n6⟩, ⟨s1, s2, s3, s4, s5, s6, s7, s8, s9, s10, s11, s12, s13⟩, a3, a4, a5, a6, a7, a8, a9, a10, a11⟩ := hF
  have old : ∀ m i, i < ns → shR (Mc (26 + 6 * i)) (Mc (26 + 6 * i + 1)) (Mc (26 + 6 * i + 2)) (Mc (26 + 6 * i + 3)) (Mc (26 + 6 * i + 4)) (Mc (26 + 6 * i + 5)) m i → shR (Mc2 (26 + 6 * i)) (Mc2 (26 + 6 * i + 1)) (Mc2 (26 + 6 * i + 2)) (Mc2 (26 + 6 * i + 3)) (Mc2 (26 + 6 * i + 4)) (Mc2 (26 + 6 * i + 5)) m i := fun m i hi h => by
    rw [hc (26 + 6 * i) (by omega) (by omega) (by omega), hc (26 + 6 * i + 1) (by omega) (by omega) (by omega), hc (26 + 6 * i + 2) (by omega) (by omega) (by omega), hc (26 + 6 * i + 3) (by omega) (by omega) (by omega), hc (26 + 6 * i + 4) (by omega) (by omega) (by omega), hc (26 + 6 * i + 5) (by omega) (by omega) (by omega)]
    exact h
  have ra : ∀ {c : Nat → Int32} {off n B : Nat}, 130 ≤ off → off + n ≤ 180 → rA c (Mm 1) off n B → rA c (Mm2 1) off n B := fun {c off n B} o1 o2 h p hp => ⟨by rw [hm1 _ (by omega) (by omega) (by omega) (by omega) (by omega) (by omega) (by omega) (by omega)]; exact (h p hp).1, (h p hp).2⟩
  refine ⟨by rw [hm13]; exact h1, rZ_c (hc 20 (by decide) (by decide) (by omega)) h2, rD_c (by rw [hc 17 (by decide) (by decide) (by omega)]) (hc 18 (by decide) (by decide) (by omega)) hm20 (hm 7 (by decide) (by decide)) h3, np, nf, nd, 0, ns', d, ⟨⟨n1', n2, n3, by omega, hle', n6⟩, ⟨?_, ?_, hc11, hm11, ?_, ?_, ?_, ?_, hc9, hm14, ?_, ?_, hm16⟩, ?_, ?_, ?_, ?_, ?_, ?_, ?_, ?_, fun i hi => ?_⟩, ?_⟩
  · rw [hc1 _ (by decide) (by decide)]; exact s1
  · rw [hm1 _ (by decide) (by decide) (by decide) (by omega) (by omega) (by omega) (by omega) (by omega)]; exact s2
  · rw [hc1 _ (by decide) (by decide)]; exact s5
  · rw [hm1 _ (by decide) (by decide) (by decide) (by omega) (by omega) (by omega) (by omega) (by omega)]; exact s6
  · rw [hc1 _ (by decide) (by decide)]; exact s7
  · rw [hm1 _ (by decide) (by decide) (by decide) (by omega) (by omega) (by omega) (by omega) (by omega)]; exact s8
  · rw [hc1 _ (by decide) (by decide)]; exact s11
  · rw [hm1 _ (by decide) (by decide) (by decide) (by omega) (by omega) (by omega) (by omega) (by omega)]; exact s12
  · rw [hc (1 + 1) (by decide) (by decide) (by omega)]; exact ra (by decide) (by omega) a3
  · rw [hc (1 + 2) (by decide) (by decide) (by omega)]; exact ra (by decide) (by omega) a4
  · rw [hc (1 + 3) (by decide) (by decide) (by omega)]; exact ra (by decide) (by omega) a5
  · rw [hc (1 + 3) (by decide) (by decide) (by omega)]; exact a6
  · rw [hc (1 + 4) (by decide) (by decide) (by omega)]; exact ra (by decide) (by omega) a7
  · rw [hc (1 + 4) (by decide) (by decide) (by omega)]; exact a8
  · rw [hc (1 + 5) (by decide) (by decide) (by omega)]; exact ra (by decide) (by omega) a9
  · rw [hc (1 + 6) (by decide) (by decide) (by omega)]; exact ⟨fun i hi => absurd hi (Nat.not_lt_zero _), a10.2⟩
  · rcases Nat.lt_or_ge i ns with z | z
    · refine shR_at ?_ ?_ ?_ ?_ (fun t ht => ?_) (old _ i z (a11 i z)) <;> exact hm1 _ (by omega) (by omega) (by omega) (by omega) (by omega) (by omega) (by omega) (by omega)
    · exact hw i z hi
  · rcases hG with ⟨g1, g2⟩ | ⟨g1, g2, np', nf', nd', nb', n0, d', ⟨b1, b2, b3, b4, b5, b6, b7, b8, b9, b10, b11⟩, gn⟩
    · exact Or.inl ⟨by rw [hc 0 (by decide) (by decide) (by omega)]; exact g1, by rw [hm3]; exact g2⟩
    · refine Or.inr ⟨by rw [hc 0 (by decide) (by decide) (by omega)]; exact g1, by rw [hm3]; exact g2, np', nf', nd', nb', n0, d', ?_, by omega⟩
      unfold rF
      rw [hm 2 (by decide) (by decide), hc 8 (by decide) (by decide) (by omega), hc (8 + 1) (by decide) (by decide) (by omega), hc (8 + 2) (by decide) (by decide) (by omega), hc (8 + 3) (by decide) (by decide) (by omega), hc (8 + 4) (by decide) (by decide) (by omega), hc (8 + 5) (by decide) (by decide) (by omega), hc (8 + 6) (by decide) (by decide) (by omega)]
      exact ⟨b1, b2, b3, b4, b5, b6, b7, b8, b9, b10, fun i hi => old _ i (by omega) (b11 i hi)⟩
/-- both begin -/
theorem cl0 {Mc Mm : fxMem} {np nf nd nb ns d : Nat} (hF : rF Mc Mm 1 1 np nf nd nb ns d) (hns : ns < 5) : ∃ T, CLR Mc (fx_st (fx_st (fx_st Mm 0 4 (nI ns)) 0 6 (nI nb)) 1 4 0) (26 + 6 * ns) ns nb T 0 [] 3 50 2 (fx_st (fx_st (fx_st (fx_st (fx_st (fx_st (fx_st Mc 16 1 (nI (26 + 6 * ns))) (26 + 6 * ns) 0 3) (26 + 6 * ns) 1 50) (26 + 6 * ns) 2 2) (26 + 6 * ns) 3 0) (26 + 6 * ns) 8 0) 16 2 0) (fx_st (fx_st (fx_st (fx_st (fx_st (fx_st (fx_st (fx_st (fx_st (fx_st Mm 0 4 (nI ns)) 0 6 (nI nb)) 1 4 0) 1 (180 + ns) 3) 1 (185 + ns) 50) 1 (190 + ns) 2) 1 (195 + ns) 0) 0 5 0) 0 7 0) 0 8 0) := by
  obtain ⟨⟨n1', n2, n3, n4, n5, n6⟩, ⟨s1, s2, s3, s4, s5, s6, s7, s8, s9, s10, s11, s12, s13⟩, a3, a4, a5, a6, a7, a8, a9, a10, a11⟩ := hF
  obtain ⟨T, hT⟩ := tp_of a10 n4
  have q1 : ∀ k, k ≠ 16 → k ≠ 26 + 6 * ns → (fx_st (fx_st (fx_st (fx_st (fx_st (fx_st (fx_st Mc 16 1 (nI (26 + 6 * ns))) (26 + 6 * ns) 0 3) (26 + 6 * ns) 1 50) (26 + 6 * ns) 2 2) (26 + 6 * ns) 3 0) (26 + 6 * ns) 8 0) 16 2 0) k = Mc k := fun k z1 z2 => by rw [mm_row z1, mm_row z2, mm_row z2, mm_row z2, mm_row z2, mm_row z2, mm_row z1]
  have q2 : ∀ j, j ≠ 180 + ns → j ≠ 185 + ns → j ≠ 190 + ns → j ≠ 195 + ns → (fx_st (fx_st (fx_st (fx_st (fx_st (fx_st (fx_st (fx_st (fx_st (fx_st Mm 0 4 (nI ns)) 0 6 (nI nb)) 1 4 0) 1 (180 + ns) 3) 1 (185 + ns) 50) 1 (190 + ns) 2) 1 (195 + ns) 0) 0 5 0) 0 7 0) 0 8 0) 1 j = (fx_st (fx_st (fx_st Mm 0 4 (nI ns)) 0 6 (nI nb)) 1 4 0) 1 j := fun j z1 z2 z3 z4 => by rw [mm_row (by decide), mm_row (by decide), mm_row (by decide), mm_col z4, mm_col z3, mm_col z2, mm_col z1]
  have q3 : ∀ j, j ≠ 4 → (fx_st (fx_st (fx_st Mm 0 4 (nI ns)) 0 6 (nI nb)) 1 4 0) 1 j = Mm 1 j := fun j z => by rw [mm_col z, mm_row (by decide), mm_row (by decide)]
  have hS : (26 + 6 * ns) ≠ 16 := by omega
  refine ⟨T, ⟨?_, ?_, ?_, Nat.zero_le _, n4, ?_⟩, ⟨?_, ?_, ?_, Nat.zero_le _, n4, fun i hi => ⟨(hT i hi).1, ?_⟩⟩, ⟨?_, fun t o ht => absurd ht (by simp [flC])⟩, ⟨?_, ?_, ?_, fun t o ht => absurd ht (by simp [flM])⟩, ⟨by simp [flC], by simp [flM], by simp⟩, ⟨?_, fun j q hj => absurd hj (by simp)⟩, ⟨by decide, by decide, by decide, ?_, ?_, ?_, ?_, ?_, ?_⟩, fun q hq => absurd hq (by simp), fun k z1 z2 => ?_, fun k z1 z2 => ?_, fun j z1 z2 z3 => ?_, fun j z1 z2 z3 z4 z5 => ?_⟩
  · rw [mm_col (by decide), mm_row hS.symm, mm_row hS.symm, mm_row hS.symm, mm_row hS.symm, mm_row hS.symm, mm_same]
  · rw [mm_same]; rfl
  · rw [q1 1 (by decide) (by omega)]; exact s9
  · rw [q1 7 (by decide) (by omega)]; exact fun i hi => ⟨(hT i hi).1, (hT i hi).2.1, (hT i hi).2.2.2⟩
  · rw [mm_col (by decide), mm_col (by decide), mm_same]; rfl
  · rw [mm_col (by decide), mm_col (by decide), mm_col (by decide), mm_row (by decide), mm_row (by decide), mm_row (by decide), mm_row (by decide), mm_row (by decide), mm_same]
  · rw [mm_col (by decide), mm_same]
  · rw [q2 _ (by omega) (by omega) (by omega) (by omega), q3 _ (by omega)]; exact (hT i hi).2.2.1
  · rw [mm_row hS, mm_same]; rfl
  · rw [mm_col (by decide), mm_col (by decide), mm_col (by decide), mm_row (by decide), mm_row (by decide), mm_row (by decide), mm_row (by decide), mm_row (by decide), mm_col (by decide), mm_same]
  · rw [mm_same]; rfl
  · rw [mm_row (by decide), mm_row (by decide), mm_row (by decide), mm_same]; rfl
  · rw [mm_row hS, mm_col (by decide), mm_same]; rfl
  · rw [mm_row hS, mm_col (by decide), mm_col (by decide), mm_col (by decide), mm_col (by decide), mm_same]; rfl
  · rw [mm_row (by decide), mm_row (by decide), mm_row (by decide), mm_col (by omega), mm_col (by omega), mm_col (by omega), mm_same]; rfl
  · rw [mm_row hS, mm_col (by decide), mm_col (by decide), mm_col (by decide), mm_same]; rfl
  · rw [mm_row (by decide), mm_row (by decide), mm_row (by decide), mm_col (by omega), mm_col (by omega), mm_same]; rfl
  · rw [mm_row hS, mm_col (by decide), mm_col (by decide), mm_same]; rfl
  · rw [mm_row (by decide), mm_row (by decide), mm_row (by decide), mm_col (by omega), mm_same]; rfl
  · exact q1 k z1 (by omega)
  · rw [mm_row z1, mm_row z1, mm_row z1, mm_row z2, mm_row z2, mm_row z2, mm_row z2]
  · rw [mm_col z3, mm_col z2, mm_col z1, mm_row (by decide), mm_row (by decide), mm_row (by decide), mm_row (by decide)]
  · exact q2 j z1 z2 z3 z4
theorem px_show : st2 PX CX6_show CX7_show := by
  intro Mc Mm h
  obtain ⟨h1, h2, h3, np, nf, nd, nb, ns, d, hF, hG⟩ := id h
  have hN := hF.1
  obtain ⟨s1, s2, s3, s4, s5, s6, s7, s8, s9, s10, s11, s12, s13⟩ := hF.2.1
  by_cases z5 : ns = 5
  · subst z5
    refine ⟨-4, Mc, Mm, ?_, ?_, h⟩
    · rw [CX6_show, s3, ie (by decide)]
    · rw [CX7_show, it ci1, cc1, s4, it (by decide)]
  have hns : ns < 5 := by have := hN.2.2.2.2.1; omega
  obtain ⟨T, hR⟩ := cl0 hF hns
  have hS : fx_isSh (26 + 6 * ns) = true := by
    have := isSh_ok (ns := ns + 1) (by omega)
    rw [show 20 + 6 * (ns + 1) = 26 + 6 * ns by omega] at this
    exact this
  have hL := list2 (x := 26 + 6 * ns) hS hns (by omega) (by omega) 1000 1 0 3 50 2 [] _ _ (by omega) (by omega) (by omega) rfl hR
  have eC : CX2_readInto (26 + 6 * ns) Mc = CX2_readInto_L19 (26 + 6 * ns) 1000 (nI 1) (fx_st (fx_st (fx_st (fx_st (fx_st (fx_st (fx_st Mc 16 1 (nI (26 + 6 * ns))) (26 + 6 * ns) 0 3) (26 + 6 * ns) 1 50) (26 + 6 * ns) 2 2) (26 + 6 * ns) 3 0) (26 + 6 * ns) 8 0) 16 2 0) (fun _ M19 => some (M19 16 2, M19)) := by
    rw [CX2_readInto, it hS, fx_lt, mm_same, nI_clamp (by omega), it hS, CX3_clear, it hS, bs]
    rfl
  have eM : CX7_show Mm = Option.bind (CX7_clauseHere (fx_st (fx_st (fx_st (fx_st (fx_st (fx_st (fx_st (fx_st (fx_st (fx_st Mm 0 4 (nI ns)) 0 6 (nI nb)) 1 4 0) 1 (180 + ns) 3) 1 (185 + ns) 50) 1 (190 + ns) 2) 1 (195 + ns) 0) 0 5 0) 0 7 0) 0 8 0)) fun q => CX7_show_L118 1000 (nI 1) q (fun y M => CX7_show_J160 y M) := by
    have g0 : ∀ x y z : Int32, (fx_st (fx_st (fx_st Mm 0 4 (nI ns)) 0 6 x) 1 4 y) 0 4 = nI ns := fun x y z => by rw [mm_row (by decide), mm_col (by decide), mm_same]
    rw [CX7_show, it ci1, cc1, s4, ie (show ¬ nI ns = (5 : Int32) from fun q => z5 ((kk (k := 5) (by omega) (by decide)).mp q)), fx_lt, it ci4, cc4, mm_row (show 1 ≠ 0 by decide), s10, fx_lt, fx_lt, g0 _ _ 0, la180, it (gin (by omega) (by decide)), nI_clamp (by omega), fx_lt, mm_row (show 0 ≠ 1 by decide), g0 _ _ 0, la185, it (gin (by omega) (by decide)), nI_clamp (by omega), fx_lt, mm_row (show 0 ≠ 1 by decide), mm_row (show 0 ≠ 1 by decide), g0 _ _ 0, la190, it (gin (by omega) (by decide)), nI_clamp (by omega), fx_lt, mm_row (show 0 ≠ 1 by decide), mm_row (show 0 ≠ 1 by decide), mm_row (show 0 ≠ 1 by decide), g0 _ _ 0, la195, it (gin (by omega) (by decide)), nI_clamp (by omega)]
    rfl
  have eS : (20 + 6 * (nI ns + (1 : Int32)).toNatClampNeg) = 26 + 6 * ns := by
    rw [n1, nI_clamp (by omega)]; omega
  have g5 : fx_in (nI ns + (1 : Int32)) 6 = true := by rw [n1]; exact gin (by omega) (by decide)
  have l5 : nI ns < (5 : Int32) := nI_lt (b := 5) hns (by decide)
  rcases hL with ⟨Mc', Mm', cl, spd, bt, stp, e1, e2, e3, e4⟩ | ⟨Mc', Mm', p, e1, e2, e3⟩
  · have fE := e3.e
    have hr1 : Mc' 1 = Mc 1 := fE.2.2.1 1 (by decide) (by omega)
    have m11 : Mm' 1 1 = nI ns := by
      rw [fE.2.2.2.2.2 1 (by omega) (by omega) (by omega) (by omega) (by omega), mm_col (by decide), mm_row (by decide), mm_row (by decide)]; exact s4
    have m14 : Mm' 1 4 = nI 0 := by
      rw [fE.2.2.2.2.2 4 (by omega) (by omega) (by omega) (by omega) (by omega), mm_same]; rfl
    refine ⟨nI ns, fx_st (fx_st Mc' 1 9 0) 1 11 (nI (ns + 1)), fx_st (fx_st Mm' 1 1 (nI (ns + 1))) 1 6 (nI ns), ?_, ?_, ?_⟩
    · rw [CX6_show, s3, it l5, it g5, eS, eC, e1, bs]
      dsimp only
      rw [it rfl, fx_lt, mm_col (show 11 ≠ 9 by decide), hr1, s3, fx_lt, n1, mm_same, nI_pred]
    · rw [eM, e2, CX7_show_J160, it e3.2.1.2.2.1, it (by rw [e3.2.1.1, e3.2.1.2.1]), it ci1, cc1, m11, fx_lt, it ci6, cc6, n1, mm_row (show 0 ≠ 1 by decide), fE.2.1, fx_lt, mm_row (show 0 ≠ 1 by decide), mm_row (show 0 ≠ 1 by decide), fE.2.1]
    · refine PX_show (ns' := ns + 1) h1 h2 h3 hF hG hns (by omega) (by omega) (fun k z1 z2 z3 => ?_) (fun j z1 z2 => ?_) ?_ (mm_same _ _ _ _) (fun k z1 z2 => ?_) ?_ ?_ ?_ (fun j z1 z2 z3 z4 z5 z6 z7 z8 => ?_) ?_ ?_ ?_ (fun i i1 i2 => ?_)
      · rw [mm_row z1, mm_row z1]; exact fE.2.2.1 k z2 (by omega)
      · rw [mm_col z2, mm_col z1, hr1]
      · rw [mm_col (by decide), mm_same]; rfl
      · rw [mm_row z2, mm_row z2, fE.2.2.2.1 k z1 z2, mm_row z2, mm_row z1, mm_row z1]
      · rw [mm_row (by decide), mm_row (by decide), fE.2.2.2.2.1 3 (by decide) (by decide) (by decide), mm_row (by decide), mm_col (by decide), mm_col (by decide)]
      · rw [mm_row (by decide), mm_row (by decide), fE.2.2.2.2.1 13 (by decide) (by decide) (by decide), mm_row (by decide), mm_col (by decide), mm_col (by decide)]
      · rw [mm_row (by decide), mm_row (by decide), fE.2.2.2.2.1 20 (by decide) (by decide) (by decide), mm_row (by decide), mm_col (by decide), mm_col (by decide)]
      · rw [mm_col z3, mm_col z1, fE.2.2.2.2.2 j z4 z5 z6 z7 z8, mm_col z2, mm_row (by decide), mm_row (by decide)]
      · rw [mm_col (by decide), mm_same]
      · rw [mm_col (by decide), mm_col (by decide)]; exact m14
      · rw [mm_same, nI_pred]
      · have ei : i = ns := by omega
        subst ei
        have hs := e3.sh e4
        rw [mm_row (show 26 + 6 * i ≠ 1 by omega), mm_row (show 26 + 6 * i ≠ 1 by omega), mm_row (show 26 + 6 * i + 1 ≠ 1 by omega), mm_row (show 26 + 6 * i + 1 ≠ 1 by omega), mm_row (show 26 + 6 * i + 2 ≠ 1 by omega), mm_row (show 26 + 6 * i + 2 ≠ 1 by omega), mm_row (show 26 + 6 * i + 3 ≠ 1 by omega), mm_row (show 26 + 6 * i + 3 ≠ 1 by omega), mm_row (show 26 + 6 * i + 4 ≠ 1 by omega), mm_row (show 26 + 6 * i + 4 ≠ 1 by omega), mm_row (show 26 + 6 * i + 5 ≠ 1 by omega), mm_row (show 26 + 6 * i + 5 ≠ 1 by omega)]
        exact shR_m (fun j hj => by rw [mm_col (by omega), mm_col (by omega)]) hs
  · have hr1 : Mc' 1 = Mc 1 := e3.2.2.1 1 (by decide) (by omega)
    refine ⟨(-10 : Int32) - nI p, fx_st Mc' 1 9 0, Mm', ?_, ?_, ?_⟩
    · have hp := e3.1
      have := hN.2.2.2.1
      rw [CX6_show, s3, it l5, it g5, eS, eC, e1, bs]
      dsimp only
      rw [ie (nIn p (by omega))]
    · rw [eM, e2]
    · refine PX_show (ns' := ns) h1 h2 h3 hF hG hns (by omega) (by omega) (fun k z1 z2 z3 => ?_) (fun j z1 z2 => ?_) ?_ ?_ (fun k z1 z2 => ?_) ?_ ?_ ?_ (fun j z1 z2 z3 z4 z5 z6 z7 z8 => ?_) ?_ ?_ ?_ (fun i i1 i2 => absurd i2 (by omega))
      · rw [mm_row z1]; exact e3.2.2.1 k z2 (by omega)
      · rw [mm_col z1, hr1]
      · rw [mm_same]; rfl
      · rw [mm_col (by decide), hr1]; exact s3
      · rw [e3.2.2.2.1 k z1 z2, mm_row z2, mm_row z1, mm_row z1]
      · rw [e3.2.2.2.2.1 3 (by decide) (by decide) (by decide), mm_row (by decide), mm_col (by decide), mm_col (by decide)]
      · rw [e3.2.2.2.2.1 13 (by decide) (by decide) (by decide), mm_row (by decide), mm_col (by decide), mm_col (by decide)]
      · rw [e3.2.2.2.2.1 20 (by decide) (by decide) (by decide), mm_row (by decide), mm_col (by decide), mm_col (by decide)]
      · rw [e3.2.2.2.2.2 j z4 z5 z6 z7 z8, mm_col z2, mm_row (by decide), mm_row (by decide)]
      · rw [e3.2.2.2.2.2 1 (by omega) (by omega) (by omega) (by omega) (by omega), mm_col (by decide), mm_row (by decide), mm_row (by decide)]; exact s4
      · rw [e3.2.2.2.2.2 4 (by omega) (by omega) (by omega) (by omega) (by omega), mm_same]; rfl
      · rw [e3.2.2.2.2.2 6 (by omega) (by omega) (by omega) (by omega) (by omega), mm_col (by decide), mm_row (by decide), mm_row (by decide)]; exact s13
