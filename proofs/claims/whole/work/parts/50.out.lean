/-! out, whom -/
theorem out_L {Mc Mm : fxMem} {np nf nd nb ns d : Nat} {s : Int32} {ev : Nat → Nat → Nat → Int32} (hF : rF Mc Mm 1 1 np nf nd nb ns d) (hC : CW Mc (fN Mc) (vN Mc) np (20 + 6 * ns) s ev) (hB : ∀ (B : fxMem) (K : Nat → Nat) (dr : Nat) (ab : Int32), (∀ j, j ≠ 5 → (j < 130 ∨ 140 ≤ j) → B 1 j = Mm 1 j) → (∀ p, p < np → K p < 7 ∧ B 1 (130 + p) = nI (K p)) → B 1 5 = nI dr → dr < 64 → B 0 13 = ab → MW B K (fN Mc) (vN Mc) np dr ab s ev) (hinj : ∀ a b, a < np → b < np → fN Mc a = fN Mc b → a = b) (hK : ∀ p, p < np → kN Mc p < 7 ∧ Mc 2 p = nI (kN Mc p) ∧ Mm 1 (130 + p) = nI (kN Mc p)) {kc km : Int32 → Int32 → Int32 → fxMem → Option (Int32 × fxMem)} : ∀ (n i : Nat) (x2 x3 : Int32) (Ma Mb : fxMem) (ab : Int32), np - i < n → i ≤ np → SC Mc Ma (kN Mc) (fN Mc) (vN Mc) np (20 + 6 * ns) d ab s ev → MB Mm Mb → Mb 1 = Mm 1 → ∃ y2 y3 Ma' Mb' ab', CX6_out_L25 n x2 x3 (nI i) Ma kc = kc y2 y3 (nI np) Ma' ∧ CX7_out_L19 n x2 x3 (nI i) Mb km = km y2 y3 (nI np) Mb' ∧ SC Mc Ma' (kN Mc) (fN Mc) (vN Mc) np (20 + 6 * ns) d ab' s ev ∧ MB Mm Mb' ∧ Mb' 1 = Mm 1
  | 0, i, _, _, _, _, _, h, _, _, _, _ => absurd h (Nat.not_lt_zero _)
  | n + 1, i, x2, x3, Ma, Mb, ab, h, hi, hS, hM, hr => by
    obtain ⟨s1, s2, s3, s4, s5, s6, s7, s8, s9, s10, s11, s12, s13⟩ := hF.2.1
    have hnp := hF.1.1
    rw [CX6_out_L25, CX7_out_L19, it ci0, cc0, hS.1 1 (by decide), s1, hr, s2]
    by_cases z0 : i = np
    · subst z0
      rw [it (Int32.le_refl _), it (Int32.le_refl _)]
      exact ⟨x2, x3, Ma, Mb, ab, rfl, rfl, hS, hM, hr⟩
    · rw [ie (nI_ge (by omega) (by omega)), ie (nI_ge (by omega) (by omega)), n1 i]
      obtain ⟨c1, c2, c3, c4, c5, c6, c7, c8⟩ := id hS
      obtain ⟨Ma1, Ma2, g0, g1, g2⟩ := ap6 (M := fx_st Ma 58 3 (nI i)) (dr := d) (ab := nI i) (K := kN Mc) hC hinj hF.1.2.2.2.2.2 (fun k hk => by rw [mm_row (by omega)]; exact c1 k hk) (by rw [mm_col (by decide)]; exact c2) (by rw [mm_col (by decide)]; exact c3) (mm_same _ _ _ _) (fun p hp => by rw [mm_row (by decide)]; exact c5 p hp) (fun p hp => by rw [mm_row (by decide)]; exact c6 p hp)
      have hW := hB (fx_st Mb 0 13 (nI i)) (kN Mc) d (nI i) (fun j hj hj2 => by rw [mm_row (by decide), hr]) (fun p hp => ⟨(hK p hp).1, by rw [mm_row (by decide), hr]; exact (hK p hp).2.2⟩) (by rw [mm_row (by decide), hr]; exact s12) hF.1.2.2.2.2.2 (mm_same _ _ _ _)
      obtain ⟨Mb2, j1, j2⟩ := ss7 hW hinj (MSc.rf _)
      have E : CX4_sumWithout (nI i) Ma = some (ss (hv (kN Mc) (fN Mc) (vN Mc) (nI i) s np d ev) (nI i) np 8, Ma2) := by
        rw [CX4_sumWithout, g0, bs, g1, bs, ss6 hC g2, bs]
      rw [E, bs, j1, bs]
      dsimp only
      rw [btr, btq]
      exact out_L hF hC hB hinj hK n (i + 1) _ _ Ma2 Mb2 (nI i) (by omega) (by omega) g2 ⟨fun k a1 a2 a3 a4 => by rw [j2.1 k a1 a3 a4, mm_row a1]; exact hM.1 k a1 a2 a3 a4, fun j a1 a2 a3 a4 => by rw [j2.2 j a1 a2 a4, mm_col a3]; exact hM.2.1 j a1 a2 a3 a4, fun j a1 a2 => by rw [j2.1 1 (by decide) (by decide) (by decide), mm_row (by decide), hr]⟩ (by rw [j2.1 1 (by decide) (by decide) (by decide), mm_row (by decide), hr])
theorem px_out : st2 PX CX6_out CX7_out := by
  intro Mc Mm h
  obtain ⟨h1, h2, h3, np, nf, nd, nb, ns, d, hF, hG⟩ := id h
  obtain ⟨s1, s2, s3, s4, s5, s6, s7, s8, s9, s10, s11, s12, s13⟩ := hF.2.1
  have hnp := hF.1.1
  rw [CX6_out, CX7_out, it ci0, cc0, s1, s2, show (2 : Int32) = nI 2 from rfl]
  by_cases z : 2 ≤ np
  · rw [it (nI_le z (by omega)), it (nI_le z (by omega))]
    obtain ⟨s, ev, M1, hC, hB, hinj, hK, hW, hl, hS⟩ := scn h1 h2 hF
    rw [hl, bs]
    obtain ⟨y2, y3, Ma, Mb, ab, e1, e2, e3, e4, e5⟩ := out_L (kc := fun y1_25 y2_25 y3_25 M25 => some (y1_25, M25)) (km := fun y1_19 y2_19 y3_19 M19 => some (y1_19, fx_st M19 0 13 (-1 : Int32))) hF hC hB hinj hK 1000 0 (-1) 0 M1 Mm (-1) (by omega) (by omega) hS ⟨fun _ _ _ _ _ => rfl, fun _ _ _ _ _ => rfl, fun _ _ _ => rfl⟩ rfl
    refine ⟨y2, Ma, fx_st Mb 0 13 (-1), e1, e2, PX_same h e3.same ⟨?_, ?_, ?_, ?_, ?_, ?_⟩⟩
    · rw [mm_row (by decide)]; exact e5
    · rw [mm_row (by decide)]; exact e4.1 2 (by decide) (by decide) (by decide) (by decide)
    · rw [mm_row (by decide)]; exact e4.1 7 (by decide) (by decide) (by decide) (by decide)
    · rw [mm_col (by decide)]; exact e4.2.1 3 (by decide) (by decide) (by decide) (by decide)
    · rw [mm_same]; exact h1.symm
    · rw [mm_col (by decide)]; exact e4.2.1 20 (by decide) (by decide) (by decide) (by decide)
  · rw [ie (nI_ge (by omega) (by decide)), ie (nI_ge (by omega) (by decide))]
    exact ⟨-5, Mc, Mm, rfl, rfl, h⟩
def kU (K : Nat → Nat) (p k : Nat) : Nat → Nat := fun q => if q = p then k else K q
theorem kU_p (K : Nat → Nat) (p k : Nat) : kU K p k p = k := by simp [kU]
theorem kU_o (K : Nat → Nat) {p k q : Nat} (h : q ≠ p) : kU K p k q = K q := by simp [kU, h]
theorem whom_L {Mc Mm : fxMem} {np nf nd nb ns d st p : Nat} {s : Int32} {ev : Nat → Nat → Nat → Int32} (h1 : Mm 0 13 = -1) (hF : rF Mc Mm 1 1 np nf nd nb ns d) (hC : CW Mc (fN Mc) (vN Mc) np (20 + 6 * ns) s ev) (hB : ∀ (B : fxMem) (K : Nat → Nat) (dr : Nat) (ab : Int32), (∀ j, j ≠ 5 → (j < 130 ∨ 140 ≤ j) → B 1 j = Mm 1 j) → (∀ p, p < np → K p < 7 ∧ B 1 (130 + p) = nI (K p)) → B 1 5 = nI dr → dr < 64 → B 0 13 = ab → MW B K (fN Mc) (vN Mc) np dr ab s ev) (hinj : ∀ a b, a < np → b < np → fN Mc a = fN Mc b → a = b) (hK : ∀ p, p < np → kN Mc p < 7 ∧ Mc 2 p = nI (kN Mc p) ∧ Mm 1 (130 + p) = nI (kN Mc p)) (hst : st < 8) (hp : p < np) {x3 x4 : Int32} {kc km : Int32 → Int32 → fxMem → Option (Int32 × fxMem)} : ∀ (n i : Nat) (x5 : Int32) (Ma Mb : fxMem) (k0 : Nat), 7 - i < n → i ≤ 7 → SC Mc Ma (kU (kN Mc) p k0) (fN Mc) (vN Mc) np (20 + 6 * ns) d (-1) s ev → MB Mm Mb → (∀ j, j ≠ 130 + p → Mb 1 j = Mm 1 j) → Mb 0 13 = -1 → ∃ y Ma' Mb' k', CX6_whom_L43 (nI p) (nI st) x3 n x5 (nI i) Ma kc = kc y (nI 7) Ma' ∧ CX7_whom_L49 (nI p) (nI st) x3 x4 n x5 (nI i) Mb km = km y (nI 7) Mb' ∧ SC Mc Ma' (kU (kN Mc) p k') (fN Mc) (vN Mc) np (20 + 6 * ns) d (-1) s ev ∧ MB Mm Mb' ∧ (∀ j, j ≠ 130 + p → Mb' 1 j = Mm 1 j) ∧ Mb' 0 13 = -1
  | 0, i, _, _, _, _, h, _, _, _, _, _ => absurd h (Nat.not_lt_zero _)
  | n + 1, i, x5, Ma, Mb, k0, h, hi, hS, hM, hr, ha => by
    obtain ⟨s1, s2, s3, s4, s5, s6, s7, s8, s9, s10, s11, s12, s13⟩ := hF.2.1
    have hnp := hF.1.1
    rw [CX6_whom_L43, CX7_whom_L49, show (7 : Int32) = nI 7 from rfl]
    by_cases z0 : i = 7
    · subst z0
      rw [it (Int32.le_refl _), it (Int32.le_refl _)]
      exact ⟨x5, Ma, Mb, k0, rfl, rfl, hS, hM, hr, ha⟩
    · have hi7 : i < 7 := by omega
      have hpa : nI p ≠ (-1 : Int32) := nIn p (by omega)
      rw [ie (nI_ge (by omega) (by decide)), ie (nI_ge (by omega) (by decide)), la130, it (gin (by omega) (by decide)), nI_clamp (by omega), n1 i]
      obtain ⟨c1, c2, c3, c4, c5, c6, c7, c8⟩ := id hS
      obtain ⟨M3, f1, f2⟩ := hC.2.2.2.2.2.2.2 (fx_st Ma 59 p (nI i)) (fun k hk => by rw [mm_row (by omega)]; exact c1 k hk) (by rw [mm_row (by decide)]; exact c2) 1 p i (by decide) hp hi7 (mm_same _ _ _ _)
      rw [show nI 1 = (1 : Int32) from rfl] at f1
      have m58 : ∀ j, (fx_st M3 60 p (ev 1 p i)) 58 j = Ma 58 j := fun j => by rw [mm_row (by decide), f2 58 (by decide), mm_row (by decide)]
      obtain ⟨Ma1, Ma2, g0, g1, g2⟩ := ap6 (M := fx_st M3 60 p (ev 1 p i)) (dr := d) (ab := -1) (K := kU (kN Mc) p i) hC hinj hF.1.2.2.2.2.2 (fun k hk => by rw [mm_row (by omega), f2 k (by omega), mm_row (by omega)]; exact c1 k hk) (by rw [m58]; exact c2) (by rw [m58]; exact c3) (by rw [m58]; exact c4) (fun q hq => by
        rw [mm_row (by decide), f2 59 (by decide)]
        by_cases e : q = p
        · subst e; rw [kU_p, mm_same]; exact ⟨hi7, rfl⟩
        · have := c5 q hq
          rw [kU_o _ e] at this
          rw [kU_o _ e, mm_col e]; exact this) (fun q hq => by
        by_cases e : q = p
        · subst e; rw [kU_p, mm_same]
        · have := c6 q hq
          rw [kU_o _ e] at this
          rw [kU_o _ e, mm_col e, f2 60 (by decide), mm_row (by decide)]; exact this)
      have hW := hB (fx_st Mb 1 (130 + p) (nI i)) (kU (kN Mc) p i) d (-1) (fun j hj hj2 => by rw [mm_col (by omega)]; exact hr j (by omega)) (fun q hq => by
        by_cases e : q = p
        · subst e; rw [kU_p, mm_same]; exact ⟨hi7, rfl⟩
        · rw [kU_o _ e, mm_col (by omega), hr _ (by omega)]; exact ⟨(hK q hq).1, (hK q hq).2.2⟩) (by rw [mm_col (by omega), hr 5 (by omega)]; exact s12) hF.1.2.2.2.2.2 (by rw [mm_row (by decide)]; exact ha)
      obtain ⟨Mb2, j1, j2, j3⟩ := hd7 hW hinj (MSc.rf _) hst hp hpa
      have E : CX4_arrivalAsKind (nI st) (nI p) (nI i) Ma = some (hv (kU (kN Mc) p i) (fN Mc) (vN Mc) (-1) s np d ev st p, Ma2) := by
        rw [CX4_arrivalAsKind, it (gin (by omega) (by decide)), nI_clamp (by omega), f1, bs]
        dsimp only
        rw [g0, bs, g1, bs, av6 hC g2 hst hp hpa, bs]
      rw [E, bs, j1, bs]
      dsimp only
      have eb : (if hv (kU (kN Mc) p i) (fN Mc) (vN Mc) (-1) s np d ev st p = x3 then x5 ||| ((1 : Int32) <<< (nI i &&& 31)) else x5) = x5 ||| (if hv (kU (kN Mc) p i) (fN Mc) (vN Mc) (-1) s np d ev st p = x3 then (1 : Int32) <<< (nI i &&& 31) else (0 : Int32)) := by
        split
        · rfl
        · exact (or_zero _).symm
      rw [eb]
      exact whom_L h1 hF hC hB hinj hK hst hp n (i + 1) _ Ma2 Mb2 i (by omega) (by omega) g2 ⟨fun k a1 a2 a3 a4 => by rw [j2.1 k a1 a3 a4, mm_row a2]; exact hM.1 k a1 a2 a3 a4, fun j a1 a2 a3 a4 => by rw [j2.2 j a1 a2 a4, mm_row (by decide)]; exact hM.2.1 j a1 a2 a3 a4, fun j a1 a2 => by rw [j2.1 1 (by decide) (by decide) (by decide), mm_col (by omega)]; exact hr j (by omega)⟩ (fun j a1 => by rw [j2.1 1 (by decide) (by decide) (by decide), mm_col a1]; exact hr j a1) (by rw [j2.2 13 (by decide) (by decide) (by decide), mm_row (by decide)]; exact ha)
theorem il1000 : ∀ {x : Int32}, (x < 0 ∨ nI 1000 ≤ x) → ∀ M, CX7_in x 0 999 M = some (0, M) := fun h M => by
  have := ilo (n := 1000) (by decide) h M
  rwa [show nI 1000 - 1 = (999 : Int32) by decide] at this
theorem ii1000 : ∀ {j : Nat}, j < 1000 → ∀ M, CX7_in (nI j) 0 999 M = some (1, M) := fun h M => by
  have := iin (n := 1000) h (by decide) M
  rwa [show nI 1000 - 1 = (999 : Int32) by decide] at this
theorem l1000 : (1000 : Int32) = nI 1000 := by decide
theorem px_whom (x y z : Int32) : st2 PX (CX6_whom x y z) (CX7_whom x y z) := by
  intro Mc Mm h
  obtain ⟨h1, h2, h3, np, nf, nd, nb, ns, d, hF, hG⟩ := id h
  obtain ⟨s1, s2, s3, s4, s5, s6, s7, s8, s9, s10, s11, s12, s13⟩ := hF.2.1
  have hnp := hF.1.1
  rw [CX6_whom, CX7_whom, show (8 : Int32) = nI 8 from rfl, l1000]
  rcases arg3 x (n := np) (by omega) with hx | ⟨p, hp, rfl⟩
  · refine ⟨-1, Mc, Mm, ?_, ?_, h⟩
    · rw [plo hnp s1 hx, bs, it rfl]
    · rw [qlo hnp s2 hx, bs, it rfl]
  rw [pin hnp s1 hp, qin hnp s2 hp, bs, bs, ie (show ¬ (1 : Int32) = 0 by decide), ie (show ¬ (1 : Int32) = 0 by decide)]
  rcases arg3 y (n := 8) (by decide) with hy | ⟨st, hst, rfl⟩
  · refine ⟨-1, Mc, Mm, ?_, ?_, h⟩
    · rw [blo (show 8 < 2 ^ 31 by decide) hy, bs, it rfl]
    · rw [slo hy, bs, it rfl]
  rw [bin hst (show 8 < 2 ^ 31 by decide), sin hst, bs, bs, ie (show ¬ (1 : Int32) = 0 by decide), ie (show ¬ (1 : Int32) = 0 by decide)]
  rcases arg3 z (n := 1000) (by decide) with hz | ⟨w, hw, rfl⟩
  · refine ⟨-2, Mc, Mm, ?_, ?_, h⟩
    · rw [blo (show 1000 < 2 ^ 31 by decide) hz, bs, it rfl]
    · rw [il1000 hz, bs, it rfl]
  rw [bin hw (show 1000 < 2 ^ 31 by decide), ii1000 hw, bs, bs, ie (show ¬ (1 : Int32) = 0 by decide), ie (show ¬ (1 : Int32) = 0 by decide)]
  obtain ⟨s, ev, M1, hC, hB, hinj, hK, hW, hl, hS⟩ := scn h1 h2 hF
  rw [hl, bs, la130, it (gin (by omega) (by decide)), nI_clamp (by omega)]
  have ek : kU (kN Mc) p (kN Mc p) = kN Mc := by
    funext q
    by_cases e : q = p
    · subst e; exact kU_p _ _ _
    · exact kU_o _ e
  obtain ⟨y, Ma, Mb, k', e1, e2, e3, e4, e5, e6⟩ := whom_L (x3 := nI w) (x4 := Mm 1 (130 + p)) (kc := fun y4_43 y5_43 M43 => some (y4_43, M43)) (km := fun y5_49 y6_49 M49 => if fx_in (nI (130 + p)) 900 = true then some (y5_49, fx_st M49 1 (130 + p) (Mm 1 (130 + p))) else none) h1 hF hC hB hinj hK hst hp 1000 0 0 M1 Mm (kN Mc p) (by omega) (by omega) (by rw [ek]; exact hS) ⟨fun _ _ _ _ _ => rfl, fun _ _ _ _ _ => rfl, fun _ _ _ => rfl⟩ (fun _ _ => rfl) h1
  rw [nIz] at e1 e2
  refine ⟨y, Ma, fx_st Mb 1 (130 + p) (Mm 1 (130 + p)), ?_, ?_, PX_same h e3.same ⟨?_, ?_, ?_, ?_, ?_, ?_⟩⟩
  · rw [e1]
  · rw [e2, it (gin (by omega) (by decide))]
  · funext q
    by_cases e : q = 130 + p
    · subst e; rw [mm_same]
    · rw [mm_col e]; exact e5 q e
  · rw [mm_row (by decide)]; exact e4.1 2 (by decide) (by decide) (by decide) (by decide)
  · rw [mm_row (by decide)]; exact e4.1 7 (by decide) (by decide) (by decide) (by decide)
  · rw [mm_row (by decide)]; exact e4.2.1 3 (by decide) (by decide) (by decide) (by decide)
  · rw [mm_row (by decide)]; exact e6.trans h1.symm
  · rw [mm_row (by decide)]; exact e4.2.1 20 (by decide) (by decide) (by decide) (by decide)
