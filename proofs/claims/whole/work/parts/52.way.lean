/-! way, counts -/
theorem fw {Mc Mm : fxMem} {np nf nd nb ns d : Nat} (hF : rF Mc Mm 1 1 np nf nd nb ns d) : (∃ r : Int32, (r = -5 ∨ r = -9) ∧ CX6_findWay Mc = some (r, Mc) ∧ CX7_looksForWay Mm = some (r, Mm)) ∨ (np ≤ 6 ∧ ∃ (Mc' Mm' : fxMem) (g s : Nat), CX6_findWay Mc = some (0, Mc') ∧ CX7_looksForWay Mm = some (0, Mm') ∧ SameC Mc Mc' ∧ SameM Mm Mm' ∧ Mm' 1 = Mm 1 ∧ Mc' 19 3 = nI g ∧ Mm' 0 17 = nI g ∧ Mc' 19 4 = nI s ∧ Mm' 0 18 = nI s ∧ ∀ j, j < np → Mc' 57 j = Mm' 6 j) := by
  obtain ⟨s1, s2, s3, s4, s5, s6, s7, s8, s9, s10, s11, s12, s13⟩ := hF.2.1
  have hnp := hF.1.1
  have hnf := hF.1.2.1
  rw [CX6_findWay, CX7_looksForWay, few6 hnp hnf s1 s5, few7 hnp hnf s2 s6, bs, bs]
  by_cases hle : np ≤ nf
  · rw [it hle]
    by_cases h6 : np ≤ 6
    · have q1 : Mc 1 0 ≤ (6 : Int32) := by rw [s1]; exact nI_le (b := 6) h6 (by decide)
      have q2 : Mm 1 0 ≤ (6 : Int32) := by rw [s2]; exact nI_le (b := 6) h6 (by decide)
      have hA : fldC (fun q => (Mc 4 q).toNatClampNeg) (fun q => (Mc 5 q).toNatClampNeg) np (fx_st (fx_st Mc 19 3 2147483647) 19 4 2147483647) := by
        refine ⟨by rw [mm_row (by decide), mm_row (by decide)]; exact s1, fun q hq => ?_, fun q hq => ?_⟩
        · obtain ⟨u1, u2, u3⟩ := nr_ok (by decide) hF.2.2.2.2.1 hq
          rw [mm_row (by decide), mm_row (by decide)]
          exact ⟨u1, u2⟩
        · obtain ⟨u1, u2, u3⟩ := nr_ok (by decide) hF.2.2.2.2.2.2.1 (show q < nf by omega)
          rw [mm_row (by decide), mm_row (by decide)]
          exact ⟨u1, u2⟩
      have hB : fldM (fun q => (Mc 4 q).toNatClampNeg) (fun q => (Mc 5 q).toNatClampNeg) np (fx_st (fx_st Mm 0 17 (-1)) 0 18 0) := by
        refine ⟨by rw [mm_row (by decide), mm_row (by decide)]; exact s2, fun q hq => ?_, fun q hq => ?_⟩
        · obtain ⟨u1, u2, u3⟩ := nr_ok (by decide) hF.2.2.2.2.1 hq
          rw [mm_row (by decide), mm_row (by decide)]
          exact ⟨u1, u3⟩
        · obtain ⟨u1, u2, u3⟩ := nr_ok (by decide) hF.2.2.2.2.2.2.1 (show q < nf by omega)
          rw [mm_row (by decide), mm_row (by decide)]
          exact ⟨u1, u3⟩
      obtain ⟨Mc', Mm', e1, e2, e3, ⟨g0, b1, b2⟩⟩ := R_R h6 hA hB np 0 (39 - np) 0 0 0 (fx_st (fx_st Mc 19 3 2147483647) 19 4 2147483647) (fx_st (fx_st Mm 0 17 (-1)) 0 18 0) (by omega) (Nat.pow_pos (by decide)) (by decide) ⟨fun _ _ _ _ => rfl, fun _ _ _ _ => rfl, fun _ _ _ => rfl, fun j hj => absurd hj (Nat.not_lt_zero j), Or.inl ⟨by rw [mm_col (by decide), mm_same], by rw [mm_col (by decide), mm_same]⟩⟩ (by decide) (by omega)
      rw [show 39 - np + np + 1 = 40 by omega] at e1 e2
      refine Or.inr ⟨h6, Mc', Mm', ?_⟩
      have r1 : Mm' 1 = Mm 1 := by rw [e3.2.1 1 (by decide) (by decide) (by decide), mm_row (by decide), mm_row (by decide)]
      rcases e3.2.2.2.2 with ⟨a1, a2⟩ | ⟨g, s, a1, a2, a3, a4, a5, a6, a7⟩
      · rw [a2] at b2
        exact absurd b2.symm (nIn g0 (by omega))
      · refine ⟨g, s, ?_, ?_, fun k z1 z2 z3 z4 z5 => by rw [e3.1 k z3 z4 z5, mm_row z3, mm_row z3], ⟨r1, by rw [e3.2.1 2 (by decide) (by decide) (by decide), mm_row (by decide), mm_row (by decide)], by rw [e3.2.1 7 (by decide) (by decide) (by decide), mm_row (by decide), mm_row (by decide)], by rw [e3.2.2.1 3 (by decide) (by decide), mm_col (by decide), mm_col (by decide)], by rw [e3.2.2.1 13 (by decide) (by decide), mm_col (by decide), mm_col (by decide)], by rw [e3.2.2.1 20 (by decide) (by decide), mm_col (by decide), mm_col (by decide)]⟩, r1, a3, a4, a5, a6, a7⟩
        · have E : CX5_find Mc = some Mc' := by
            rw [CX5_find, CX5_tryPlaces]
            exact congrArg (fun z => Option.bind z fun q17 => some q17) e1
          rw [it rfl, it q1, E, bs]
        · have E : CX7_rowsFrom 0 0 0 0 (fx_st (fx_st Mm 0 17 (-1)) 0 18 0) = some Mm' := by
            rw [CX7_rowsFrom]
            exact e2
          rw [it rfl, it ci0, cc0, it q2, E, bs]
    · have q1 : ¬ Mc 1 0 ≤ (6 : Int32) := by rw [s1]; exact nI_ge (a := 6) (by omega) (by omega)
      have q2 : ¬ Mm 1 0 ≤ (6 : Int32) := by rw [s2]; exact nI_ge (a := 6) (by omega) (by omega)
      exact Or.inl ⟨-9, Or.inr rfl, by rw [it rfl, ie q1], by rw [it rfl, it ci0, cc0, ie q2]⟩
  · rw [ie hle]
    exact Or.inl ⟨-5, Or.inl rfl, by rw [ie (show ¬ (1 : Int32) = 0 by decide)], by rw [ie (show ¬ (1 : Int32) = 0 by decide)]⟩
theorem px_way (x : Int32) : st2 PX (CX6_way x) (CX7_way x) := by
  intro Mc Mm h
  obtain ⟨h1, h2, h3, np, nf, nd, nb, ns, d, hF, hG⟩ := id h
  obtain ⟨s1, s2, s3, s4, s5, s6, s7, s8, s9, s10, s11, s12, s13⟩ := hF.2.1
  have hnp := hF.1.1
  have hin : CX7_in x (-2) (nI np - 1) Mm = some (if x < (-2 : Int32) then 0 else if x < nI np then 1 else 0, Mm) := by
    rw [CX7_in]
    by_cases z : x < (-2 : Int32)
    · rw [it z, it z]
    · rw [ie z, ie z]
      by_cases z2 : x < nI np
      · rw [it z2, ie]
        rw [Int32.lt_iff_toInt_lt, sub1 (by omega)]
        rw [Int32.lt_iff_toInt_lt, nI_toInt (by omega)] at z2
        omega
      · rw [ie z2, it]
        rw [Int32.lt_iff_toInt_lt, sub1 (by omega)]
        rw [Int32.lt_iff_toInt_lt, nI_toInt (by omega)] at z2
        omega
  rw [CX6_way, CX7_way, it ci0, cc0, s2, hin, bs, s1]
  by_cases z : x < (-2 : Int32)
  · exact ⟨-1, Mc, Mm, by rw [it z], by rw [it z]; rfl, h⟩
  rw [ie z, ie z]
  by_cases z2 : x < nI np
  · rw [it z2, it z2, ie (show ¬ (1 : Int32) = 0 by decide)]
    rcases fw hF with ⟨r, hr, e1, e2⟩ | ⟨h6, Mc', Mm', g, s, e1, e2, e3, e4, e5, e6, e7, e8, e9, e10⟩
    · refine ⟨r, Mc, Mm, ?_, ?_, h⟩
      · rw [e1, bs, ie (show ¬ r = 0 by rcases hr with rfl | rfl <;> decide)]
      · rw [e2, bs, ie (show ¬ (0 : Int32) ≤ r by rcases hr with rfl | rfl <;> decide)]
    · have P := PX_same h e3 e4
      rw [e1, e2, bs, bs, it rfl, it (show (0 : Int32) ≤ 0 by decide)]
      by_cases z3 : x = -1
      · exact ⟨nI g, Mc', Mm', by rw [it z3]; exact congrArg (fun q => some (q, Mc')) e6, by rw [it z3]; exact congrArg (fun q => some (q, Mm')) e7, P⟩
      rw [ie z3, ie z3]
      by_cases z4 : x = -2
      · exact ⟨nI s, Mc', Mm', by rw [it z4]; exact congrArg (fun q => some (q, Mc')) e8, by rw [it z4]; exact congrArg (fun q => some (q, Mm')) e9, P⟩
      rw [ie z4, ie z4]
      obtain ⟨j, hj, rfl⟩ : ∃ j : Nat, j < np ∧ x = nI j := by
        rcases arg3 x (n := np) (by omega) with hx | hx
        · exfalso
          rcases hx with hx | hx
          · have a1 := Int32.lt_iff_toInt_lt.mp hx
            have a2 : ¬ x.toInt < (-2 : Int32).toInt := fun q => z (Int32.lt_iff_toInt_lt.mpr q)
            have c2 : (-2 : Int32).toInt = -2 := by decide
            have c1 : (-1 : Int32).toInt = -1 := by decide
            have c0 : (0 : Int32).toInt = 0 := by decide
            rcases (show x.toInt = -1 ∨ x.toInt = -2 by omega) with q | q
            · exact z3 (Int32.toInt_inj.mp (by rw [q, c1]))
            · exact z4 (Int32.toInt_inj.mp (by rw [q, c2]))
          · exact Int32.lt_irrefl (Int32.lt_of_lt_of_le z2 hx)
        · exact hx
      refine ⟨Mc' 57 j, Mc', Mm', ?_, ?_, P⟩
      · rw [it (gin (by omega) (by decide)), nI_clamp (by omega)]
      · rw [it (gin (by omega) (by decide)), nI_clamp (by omega)]
        exact congrArg (fun q => some (q, Mm')) (e10 j hj).symm
  · rw [ie z2, ie z2]
    exact ⟨-1, Mc, Mm, rfl, rfl, h⟩
theorem px_counts : st2 PX CX6_counts CX7_counts := by
  intro Mc Mm h
  obtain ⟨h1, h2, h3, np, nf, nd, nb, ns, d, hF, hG⟩ := id h
  obtain ⟨s1, s2, s3, s4, s5, s6, s7, s8, s9, s10, s11, s12, s13⟩ := hF.2.1
  have hns := hF.1.2.2.2.2.1
  rw [CX6_counts, CX7_counts]
  rcases fw hF with ⟨r, hr, e1, e2⟩ | ⟨h6, Mc', Mm', g, s, e1, e2, e3, e4, e5, e6, e7, e8, e9, e10⟩
  · refine ⟨r, Mc, Mm, ?_, ?_, h⟩
    · rw [e1, bs, ie (show ¬ r = 0 by rcases hr with rfl | rfl <;> decide)]
    · rw [e2, bs, ie (show ¬ (0 : Int32) ≤ r by rcases hr with rfl | rfl <;> decide)]
  · have P := PX_same h e3 e4
    obtain ⟨spd, bt, stp, b1, b2, b3, c1, c2, c3, d1, d2, d3⟩ := now_sh h2 hF
    have d3' := te_c e5 d3
    have hh := held_ok (M := Mc') hns (by rw [e3 1 (by decide) (by decide) (by decide) (by decide) (by decide)]; exact s3)
    have hm : (if (1 : Int32) < nI (max 1 stp) then nI (max 1 stp) else (1 : Int32)) = nI (max 1 stp) := by
      by_cases z : 1 < max 1 stp
      · rw [it (show (1 : Int32) < nI (max 1 stp) from nI_lt (a := 1) z (by omega))]
      · rw [ie (show ¬ (1 : Int32) < nI (max 1 stp) from fun z2 => z ((nI_ltI (a := 1) (by decide) (by omega)).mp z2)), show max 1 stp = 1 by omega]
        rfl
    have hz : ¬ nI (max 1 stp) = (0 : Int32) := fun z => by
      have := (nI_eq (a := max 1 stp) (b := 0) (by omega) (by decide)).mp z
      omega
    have eb : Mc' (20 + 6 * ns) 2 = nI (max 1 stp) := by
      have : Mc' (20 + 6 * ns) = Mc (20 + 6 * ns) := e3 _ (by omega) (by omega) (by omega) (by omega) (by omega)
      rw [this]; exact c3
    have et : CX7_told 2 Mm' = some (nI (max 1 stp), Mm') := by
      rw [CX7_told, ie (by decide), ie (by decide), it rfl, d3', bs]
      simp only [atl stp b3, bs]
    refine ⟨(nI g + nI (max 1 stp) - 1) / nI (max 1 stp), Mc', Mm', ?_, ?_, P⟩
    · simp only [e1, bs, if_true, hh, isSh_ok hns, eb, hm, hz, if_false, e6]
    · simp only [e2, bs, show (0 : Int32) ≤ 0 by decide, if_true, et, hz, if_false, e7]
