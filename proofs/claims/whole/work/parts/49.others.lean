/-! back, best, out, whom -/
theorem li_L {np : Nat} {x1 x2 : Int32} (hn : np ≤ 10) {k : Int32 → fxMem → Option (Int32 × fxMem)} : ∀ (n i : Nat) (M : fxMem), np - i < n → i ≤ np → M 1 0 = nI np → (∀ p, p < i → M 59 p = nI 0) → ∃ M', CX4_likeDrum_L2 x1 x2 n (nI i) M k = k (nI np) M' ∧ (∀ j, j ≠ 59 → M' j = M j) ∧ ∀ p, p < np → M' 59 p = nI 0
  | 0, i, M, h, _, _, _ => absurd h (Nat.not_lt_zero _)
  | n + 1, i, M, h, hi, e, hs => by
    rw [CX4_likeDrum_L2, e]
    by_cases z : i = np
    · subst z
      exact ⟨M, it (Int32.le_refl _) _ _, fun _ _ => rfl, hs⟩
    · rw [ie (nI_ge (by omega) (by omega)), it (gin (by omega) (by decide)), nI_clamp (by omega), n1 i]
      obtain ⟨M2, g1, g2, g3⟩ := li_L (x1 := x1) (x2 := x2) (k := k) hn n (i + 1) (fx_st M 59 i 0) (by omega) (by omega) (by rw [mm_row (by decide)]; exact e) (fun p hp => by
        by_cases z : p = i
        · subst z; rw [mm_same]; rfl
        · rw [mm_col z]; exact hs p (by omega))
      exact ⟨M2, g1, fun j z1 => by rw [g2 j z1, mm_row z1], g3⟩
def bb (h : Nat → Int32) (x y : Int32) : Nat → Int32
  | 0 => 0
  | i + 1 => if x < abz (h i - y) then bb h x y i else bb h x y i ||| ((1 : Int32) <<< (nI i &&& 31))
theorem bb6_L {A M : fxMem} {K f v : Nat → Nat} {np S dr st : Nat} {ab s x2 x3 : Int32} {ev : Nat → Nat → Nat → Int32} (hW : CW A f v np S s ev) (hC : SC A M K f v np S dr ab s ev) (hs : st < 8) (ha : ∀ p, p < np → nI p ≠ ab) {k : Int32 → Int32 → fxMem → Option (Int32 × fxMem)} : ∀ (n i : Nat), np - i < n → i ≤ np → CX4_likeDrum_L64 (nI st) x2 x3 n (bb (hv K f v ab s np dr ev st) x2 x3 i) (nI i) M k = k (bb (hv K f v ab s np dr ev st) x2 x3 np) (nI np) M
  | 0, i, h, _ => absurd h (Nat.not_lt_zero _)
  | n + 1, i, h, hi => by
    have hn := hW.1
    rw [CX4_likeDrum_L64, hC.1 1 (by decide), hW.2.1]
    by_cases z : i = np
    · subst z
      rw [it (Int32.le_refl _)]
    · rw [ie (nI_ge (by omega) (by omega)), av6 hW hC hs (show i < np by omega) (ha i (by omega)), bs, n1 i, ← bb6_L (k := k) (x2 := x2) (x3 := x3) hW hC hs ha n (i + 1) (by omega) (by omega)]
      rfl
theorem bb7_L {B : fxMem} {f v K : Nat → Nat} {np dr st : Nat} {s x2 x4 : Int32} {ev : Nat → Nat → Nat → Int32} (hW : MW B K f v np dr (-1) s ev) (hs : st < 8) {k : Int32 → Int32 → fxMem → Option (Int32 × fxMem)} : ∀ (n i : Nat) (M : fxMem), np - i < n → i ≤ np → MSc B M → ∃ M', CX7_back_L47 (nI st) x2 x4 n (bb (hv (fun _ => 0) f v (-1) s np dr ev st) x2 x4 i) (nI i) M k = k (bb (hv (fun _ => 0) f v (-1) s np dr ev st) x2 x4 np) (nI np) M' ∧ MSc B M'
  | 0, i, M, h, _, _ => absurd h (Nat.not_lt_zero _)
  | n + 1, i, M, h, hi, hM => by
    obtain ⟨w1, w2, w3, w4, w5, w6, w7, w8, w9, w10⟩ := id hW
    have e1 : ∀ M, MSc B M → M 1 = B 1 := fun M h => h.1 1 (by decide) (by decide) (by decide)
    rw [CX7_back_L47, it ci0, cc0, e1 M hM, w2]
    by_cases z : i = np
    · subst z
      exact ⟨M, it (Int32.le_refl _) _ _, hM⟩
    · have hip : i < np := by omega
      obtain ⟨f1, f2⟩ := w3 i hip
      obtain ⟨M1, g1, g2, g3⟩ := J130 (k := 0) (x := s * nI (fd (f i) dr)) (rec := fun t a0 a1 M => gX7p 39 t a0 a1 M) hW hM hip (by decide)
      rw [nIz] at g1
      have ep : CX7_playsAs (nI i) 0 M = some (ev 1 i 0 + s * nI (fd (f i) dr), M1) := by
        rw [CX7_playsAs, gX7p, it rfl, BX7_playsAs, it rfl, ls7 hW hM hip, bs]
        exact g1
      have hM1 := hM.tr g2
      rw [ie (nI_ge (by omega) (by omega)), ep, bs, n1 i]
      dsimp only
      rw [w9 M1 hM1, bs, la150, it (gin (by omega) (by decide)), nI_clamp (by omega)]
      dsimp only
      rw [e1 M1 hM1, f2, sf_seat7 hs f1, bs]
      dsimp only
      rw [abz7, bs]
      dsimp only
      have eh : ev 1 i 0 + s * nI (fd (f i) dr) + s * nI (FR st (f i + 8)) = hv (fun _ => 0) f v (-1) s np dr ev st i := by
        unfold hv
        rw [pv_bv]
        unfold own bv src
        simp only [if_true, show ¬ (0 : Nat) = 4 by decide, show ¬ (0 : Nat) = 5 by decide, show ¬ (0 : Nat) = 6 by decide, if_false, Int32.add_zero]
      rw [eh]
      have eb : bb (hv (fun _ => 0) f v (-1) s np dr ev st) x2 x4 i ||| (if x2 < abz (hv (fun _ => 0) f v (-1) s np dr ev st i - x4) then (0 : Int32) else (1 : Int32) <<< (nI i &&& 31)) = bb (hv (fun _ => 0) f v (-1) s np dr ev st) x2 x4 (i + 1) := by
        rw [bb]
        split
        · exact or_zero _
        · rfl
      rw [eb]
      exact bb7_L hW hs n (i + 1) M1 (by omega) (by omega) hM1
theorem il100 : ∀ {x : Int32}, (x < 0 ∨ nI 100 ≤ x) → ∀ M, CX7_in x 0 99 M = some (0, M) := fun h M => by
  have := ilo (n := 100) (by decide) h M
  rwa [show nI 100 - 1 = (99 : Int32) by decide] at this
theorem ii100 : ∀ {j : Nat}, j < 100 → ∀ M, CX7_in (nI j) 0 99 M = some (1, M) := fun h M => by
  have := iin (n := 100) h (by decide) M
  rwa [show nI 100 - 1 = (99 : Int32) by decide] at this
theorem px_back (x y : Int32) : st2 PX (CX6_back x y) (CX7_back x y) := by
  intro Mc Mm h
  obtain ⟨h1, h2, h3, np, nf, nd, nb, ns, d, hF, hG⟩ := id h
  obtain ⟨s1, s2, s3, s4, s5, s6, s7, s8, s9, s10, s11, s12, s13⟩ := hF.2.1
  have hnp := hF.1.1
  rw [CX6_back, CX7_back, show CX6_isBelow x 8 = CX6_isBelow x (nI 8) from rfl, show (100 : Int32) = nI 100 from rfl]
  rcases arg3 x (n := 8) (by decide) with hx | ⟨st, hst, rfl⟩
  · refine ⟨-1, Mc, Mm, ?_, ?_, h⟩
    · simp only [bs, blo (show 8 < 2 ^ 31 by decide) hx, if_true]
    · simp only [bs, slo hx, if_true]
  simp only [bs, bin hst (show 8 < 2 ^ 31 by decide), sin hst, show ¬ (1 : Int32) = 0 by decide, if_false]
  rcases arg3 y (n := 100) (by decide) with hy | ⟨w, hw, rfl⟩
  · refine ⟨-2, Mc, Mm, ?_, ?_, h⟩
    · simp only [bs, blo (show 100 < 2 ^ 31 by decide) hy, if_true]
    · simp only [bs, il100 hy, if_true]
  simp only [bs, bin hw (show 100 < 2 ^ 31 by decide), ii100 hw, show ¬ (1 : Int32) = 0 by decide, if_false]
  obtain ⟨s, ev, M1, hC, hB, hinj, hK, hW, hl, hS⟩ := scn h1 h2 hF
  have ha : ∀ p, p < np → nI p ≠ (-1 : Int32) := fun p hp => nIn p (by omega)
  have hd := hF.1.2.2.2.2.2
  obtain ⟨w1, w2, w3, w4, w5, w6, w7, w8, w9, w10⟩ := id hW
  obtain ⟨v1, v2, v3, v4, v5, v6, v7, v8⟩ := id hC
  obtain ⟨c1, c2, c3, c4, c5, c6, c7, c8⟩ := id hS
  obtain ⟨M2, g1, g2, g3⟩ := li_L (x1 := nI st) (x2 := nI w) (k := fun y3_2 M2 => Option.bind (CX4_slipAll M2) fun q27 => Option.bind (CX4_arrange q27) fun q31 => Option.bind (CX4_playAll q31) fun q35 => if fx_isSh ((q35 58 1).toNatClampNeg) = true then Option.bind (CX6_placeOfSeat (nI st) q35) fun q46 => Option.bind (CX6_far q46.1 (q46.2 58 2) q46.2) fun q53 => CX4_likeDrum_L64 (nI st) (nI w) ((q35 ((q35 58 1).toNatClampNeg) 0) * q53.1) 1000 (0 : Int32) (0 : Int32) q53.2 (fun y4_64 y5_64 M64 => some (y4_64, M64)) else none) hnp 1000 0 M1 (by omega) (Nat.zero_le _) (by rw [c1 1 (by decide)]; exact s1) (fun p hp => absurd hp (Nat.not_lt_zero p))
  obtain ⟨M3, j1, j2, j3⟩ := sa6 (M := M2) (K := fun _ => 0) hC (fun k hk => by rw [g2 k (by omega)]; exact c1 k hk) (by rw [g2 58 (by decide)]; exact c2) (fun p hp => ⟨by decide, g3 p hp⟩)
  obtain ⟨M4, M5, i1, i2, i3⟩ := ap6 (M := M3) (K := fun _ => 0) (ab := -1) (dr := d) hC hinj hd (fun k hk => by rw [j2 k (by omega) (by omega), g2 k (by omega)]; exact c1 k hk) (by rw [j2 58 (by decide) (by decide), g2 58 (by decide)]; exact c2) (by rw [j2 58 (by decide) (by decide), g2 58 (by decide)]; exact c3) (by rw [j2 58 (by decide) (by decide), g2 58 (by decide)]; exact c4) (fun p hp => by rw [j2 59 (by decide) (by decide)]; exact ⟨by decide, g3 p hp⟩) j3
  obtain ⟨M6, l1, l2⟩ := bb7_L (x2 := nI w) (x4 := s * nI (FR st (d + 8))) (k := fun y3 y5 M => some (y3, M)) hW hst 1000 0 Mm (by omega) (Nat.zero_le _) (MSc.rf Mm)
  refine ⟨bb (hv (fun _ => 0) (fN Mc) (vN Mc) (-1) s np d ev st) (nI w) (s * nI (FR st (d + 8))) np, M5, M6, ?_, ?_, PX_same h i3.same l2.same⟩
  · have E : CX4_likeDrum (nI st) (nI w) M1 = some (bb (hv (fun _ => 0) (fN Mc) (vN Mc) (-1) s np d ev st) (nI w) (s * nI (FR st (d + 8))) np, M5) := by
      rw [CX4_likeDrum]
      refine g1.trans ?_
      rw [j1, bs, i1, bs, i2, bs, i3.2.1, nI_clamp (by omega), it v5, CX6_placeOfSeat, bs]
      dsimp only
      rw [i3.2.2.1, sf_seat hst hd, bs, i3.1 _ v6, v7]
      exact bb6_L (k := fun y4 y5 M => some (y4, M)) hC i3 hst ha 1000 0 (by omega) (Nat.zero_le _)
    rw [hl, bs, E, bs]
  · rw [w9 Mm (MSc.rf Mm), bs, it ci5, cc5]
    dsimp only
    rw [s12, sf_seat7 hst hd, bs]
    exact l1
/-- the better of two -/
theorem btr (a b q i : Int32) : (if (if a = (-1 : Int32) then (1 : Int32) else (if b ≤ q then (0 : Int32) else (1 : Int32))) = (0 : Int32) then a else i) = (if a = (-1 : Int32) then i else (if b ≤ q then a else i)) := by
  by_cases z : a = -1
  · rw [it z, it z, ie (by decide)]
  · rw [ie z, ie z]
    by_cases z2 : b ≤ q
    · rw [it z2, it z2, it rfl]
    · rw [ie z2, ie z2, ie (by decide)]
theorem btq (a b q : Int32) : (if (if a = (-1 : Int32) then (1 : Int32) else (if b ≤ q then (0 : Int32) else (1 : Int32))) = (0 : Int32) then b else q) = (if a = (-1 : Int32) then q else (if b ≤ q then b else q)) := by
  by_cases z : a = -1
  · rw [it z, it z, ie (by decide)]
  · rw [ie z, ie z]
    by_cases z2 : b ≤ q
    · rw [it z2, it z2, it rfl]
    · rw [ie z2, ie z2, ie (by decide)]
/-- the reference's memory, all but scratch and the drum -/
def MB (Mm M : fxMem) : Prop := (∀ k, k ≠ 0 → k ≠ 1 → k ≠ 3 → k ≠ 4 → M k = Mm k) ∧ (∀ j, j ≠ 11 → j ≠ 12 → j ≠ 13 → j ≠ 14 → M 0 j = Mm 0 j) ∧ ∀ j, j ≠ 5 → (j < 130 ∨ 140 ≤ j) → M 1 j = Mm 1 j
theorem best_L {Mc Mm : fxMem} {np nf nd nb ns d : Nat} {s : Int32} {ev : Nat → Nat → Nat → Int32} (h1 : Mm 0 13 = -1) (hF : rF Mc Mm 1 1 np nf nd nb ns d) (hC : CW Mc (fN Mc) (vN Mc) np (20 + 6 * ns) s ev) (hB : ∀ (B : fxMem) (K : Nat → Nat) (dr : Nat) (ab : Int32), (∀ j, j ≠ 5 → (j < 130 ∨ 140 ≤ j) → B 1 j = Mm 1 j) → (∀ p, p < np → K p < 7 ∧ B 1 (130 + p) = nI (K p)) → B 1 5 = nI dr → dr < 64 → B 0 13 = ab → MW B K (fN Mc) (vN Mc) np dr ab s ev) (hinj : ∀ a b, a < np → b < np → fN Mc a = fN Mc b → a = b) (hK : ∀ p, p < np → kN Mc p < 7 ∧ Mc 2 p = nI (kN Mc p) ∧ Mm 1 (130 + p) = nI (kN Mc p)) {y z : Int32} {kc km : Int32 → Int32 → Int32 → fxMem → Option (Int32 × fxMem)} : ∀ (n i : Nat) (x2 x3 : Int32) (Ma Mb : fxMem) (dr : Nat), 64 - i < n → i ≤ 64 → SC Mc Ma (kN Mc) (fN Mc) (vN Mc) np (20 + 6 * ns) dr (-1) s ev → MB Mm Mb → (∀ j, j ≠ 5 → Mb 1 j = Mm 1 j) → Mb 0 13 = -1 → ∃ y2 y3 Ma' Mb' dr', CX6_best_L22 y n x2 x3 (nI i) Ma kc = kc y2 y3 (nI 64) Ma' ∧ CX7_best_L26 y z n x2 x3 (nI i) Mb km = km y2 y3 (nI 64) Mb' ∧ SC Mc Ma' (kN Mc) (fN Mc) (vN Mc) np (20 + 6 * ns) dr' (-1) s ev ∧ MB Mm Mb' ∧ (∀ j, j ≠ 5 → Mb' 1 j = Mm 1 j) ∧ Mb' 0 13 = -1
  | 0, i, _, _, _, _, _, h, _, _, _, _, _ => absurd h (Nat.not_lt_zero _)
  | n + 1, i, x2, x3, Ma, Mb, dr, h, hi, hS, hM, hr, ha => by
    obtain ⟨s1, s2, s3, s4, s5, s6, s7, s8, s9, s10, s11, s12, s13⟩ := hF.2.1
    have hnp := hF.1.1
    rw [CX6_best_L22, CX7_best_L26, show (64 : Int32) = nI 64 from rfl]
    by_cases z0 : i = 64
    · subst z0
      rw [it (Int32.le_refl _), it (Int32.le_refl _)]
      exact ⟨x2, x3, Ma, Mb, dr, rfl, rfl, hS, hM, hr, ha⟩
    · rw [ie (nI_ge (by omega) (by decide)), ie (nI_ge (by omega) (by decide))]
      have pc : CX1_playerOn (nI i) Ma = some (pon (Mc 4) (nI i) np, Ma) := by
        have := ponC (M := Ma) (x := nI i) hnp (by rw [hS.1 1 (by decide)]; exact s1) (by rw [hS.1 4 (by decide)]; exact hF.2.2.2.2.2.1)
        rw [hS.1 4 (by decide)] at this
        exact this
      have pm : CX7_playerOn (nI i) Mb = some (pon (Mc 4) (nI i) np, Mb) := by
        rw [ponM hnp (by rw [hr 0 (by decide)]; exact s2), pon_cong (g := Mc 4) (fun p hp => by rw [hr _ (by omega)]; exact (hF.2.2.2.2.1 p hp).1)]
      rw [pc, pm, bs, bs, n1 i]
      dsimp only
      by_cases z1 : pon (Mc 4) (nI i) np = -1
      · rw [it z1, it z1, it ci5, cc5]
        obtain ⟨c1, c2, c3, c4, c5, c6, c7, c8⟩ := id hS
        obtain ⟨Ma2, g1, g2⟩ := pa6 (M := fx_st Ma 58 2 (nI i)) (dr := i) (ab := -1) (K := kN Mc) hC hinj (by omega) (fun k hk => by rw [mm_row (by omega)]; exact c1 k hk) (by rw [mm_col (by decide)]; exact c2) (mm_same _ _ _ _) (by rw [mm_col (by decide)]; exact c4) (fun p hp => by rw [mm_row (by decide)]; exact c5 p hp) (fun p hp => by rw [mm_row (by decide)]; exact c6 p hp) (fun p hp => by rw [mm_row (by decide)]; exact c7 p hp)
        have hW := hB (fx_st Mb 1 5 (nI i)) (kN Mc) i (-1) (fun j hj hj2 => by rw [mm_col hj]; exact hr j hj) (fun p hp => ⟨(hK p hp).1, by rw [mm_col (by omega), hr _ (by omega)]; exact (hK p hp).2.2⟩) (mm_same _ _ _ _) (by omega) (by rw [mm_row (by decide)]; exact ha)
        obtain ⟨Mb2, j1, j2⟩ := ss7 hW hinj (MSc.rf _)
        have E : CX4_sumWithDrumOn (nI i) Ma = some (ss (hv (kN Mc) (fN Mc) (vN Mc) (-1) s np i ev) (-1) np 8, Ma2) := by
          rw [CX4_sumWithDrumOn, g1, bs, ss6 hC g2, bs]
        rw [E, bs, j1, bs]
        dsimp only
        rw [btr, btq]
        refine best_L h1 hF hC hB hinj hK n (i + 1) _ _ Ma2 Mb2 i (by omega) (by omega) g2 ⟨fun k a1 a2 a3 a4 => by rw [j2.1 k a1 a3 a4, mm_row a2]; exact hM.1 k a1 a2 a3 a4, fun j a1 a2 a3 a4 => by rw [j2.2 j a1 a2 a4, mm_row (by decide)]; exact hM.2.1 j a1 a2 a3 a4, fun j a1 a2 => by rw [j2.1 1 (by decide) (by decide) (by decide), mm_col a1]; exact hr j a1⟩ (fun j a1 => by rw [j2.1 1 (by decide) (by decide) (by decide), mm_col a1]; exact hr j a1) (by rw [j2.2 13 (by decide) (by decide) (by decide), mm_row (by decide)]; exact ha)
      · rw [ie z1, ie z1]
        exact best_L h1 hF hC hB hinj hK n (i + 1) _ _ Ma Mb dr (by omega) (by omega) hS hM hr ha
theorem px_best (x : Int32) : st2 PX (CX6_best x) (CX7_best x) := by
  intro Mc Mm h
  obtain ⟨h1, h2, h3, np, nf, nd, nb, ns, d, hF, hG⟩ := id h
  obtain ⟨s1, s2, s3, s4, s5, s6, s7, s8, s9, s10, s11, s12, s13⟩ := hF.2.1
  rw [CX6_best, CX7_best, show (2 : Int32) = nI 2 from rfl]
  rcases arg3 x (n := 2) (by decide) with hx | ⟨j, hj, rfl⟩
  · refine ⟨-1, Mc, Mm, ?_, ?_, h⟩
    · simp only [bs, blo (show 2 < 2 ^ 31 by decide) hx, if_true]
    · simp only [bs, il2 hx, if_true]
  obtain ⟨s, ev, M1, hC, hB, hinj, hK, hW, hl, hS⟩ := scn h1 h2 hF
  rw [bin hj (by decide), ii2 hj, bs, bs, ie (show ¬ (1 : Int32) = 0 by decide), ie (show ¬ (1 : Int32) = 0 by decide), it ci5, cc5]
  dsimp only
  rw [hl, bs]
  obtain ⟨y2, y3, Ma, Mb, dr, e1, e2, e3, e4, e5, e6⟩ := best_L (y := nI j) (z := Mm 1 5) (kc := fun y2_22 y3_22 y4_22 M22 => some ((if nI j = (0 : Int32) then y2_22 else y3_22), M22)) (km := fun y3_26 y4_26 y5_26 M26 => if fx_in (5 : Int32) 900 = true then some ((if nI j = (0 : Int32) then y3_26 else y4_26), fx_st M26 1 5 (Mm 1 5)) else none) h1 hF hC hB hinj hK 1000 0 (-1) 0 M1 Mm d (by omega) (by omega) hS ⟨fun _ _ _ _ _ => rfl, fun _ _ _ _ _ => rfl, fun _ _ _ => rfl⟩ (fun _ _ => rfl) h1
  refine ⟨if nI j = (0 : Int32) then y2 else y3, Ma, fx_st Mb 1 5 (Mm 1 5), e1, ?_, PX_same h e3.same ⟨?_, ?_, ?_, ?_, ?_, ?_⟩⟩
  · refine e2.trans ?_
    rw [it ci5]
  · funext q
    by_cases z : q = 5
    · subst z; rw [mm_same]
    · rw [mm_col z]; exact e5 q z
  · rw [mm_row (by decide)]; exact e4.1 2 (by decide) (by decide) (by decide) (by decide)
  · rw [mm_row (by decide)]; exact e4.1 7 (by decide) (by decide) (by decide) (by decide)
  · rw [mm_row (by decide)]; exact e4.2.1 3 (by decide) (by decide) (by decide) (by decide)
  · rw [mm_row (by decide)]; exact e6.trans h1.symm
  · rw [mm_row (by decide)]; exact e4.2.1 20 (by decide) (by decide) (by decide) (by decide)
