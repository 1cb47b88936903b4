/-! feed -/
def byC (w : Int64) (i : Nat) : Int32 := vp_nar .byte ((((w.toUInt64 >>> (((8 : Int32) * nI i).toInt64.toUInt64 &&& Int64.toUInt64 63)).toInt64).toInt32).toInt8.toInt32)
def byM (w : Int64) (i : Nat) : Int32 := ((w >>> (((8 : Int32) * nI i).toInt64 &&& 63)) &&& (255 : Int64)).toInt32
theorem t255 : ∀ j, Nat.testBit 255 j = decide (j < 8) := fun j => Nat.testBit_two_pow_sub_one 8 j
theorem bv_low (w : BitVec 64) (s : Nat) (hs : s ≤ 56) : (BitVec.sshiftRight w s).setWidth 8 = (w >>> s).setWidth 8 := by
  ext j hj
  simp only [BitVec.getElem_setWidth, BitVec.getLsbD_sshiftRight, BitVec.getLsbD_ushiftRight]
  rw [if_pos (by omega)]
  simp
  omega
theorem bv_and (v : BitVec 64) : (v &&& 255#64).setWidth 32 = (v.setWidth 8).setWidth 32 := by
  ext j hj
  simp only [BitVec.getElem_setWidth, BitVec.getLsbD_and, BitVec.getLsbD_setWidth, BitVec.getLsbD_ofNat, t255]
  by_cases h : j < 8
  · simp [h]; omega
  · simp [h]
theorem b8 : ∀ n, n < 256 → ((BitVec.ofNat 8 n).setWidth 32 = (BitVec.ofNat 8 n).signExtend 32 &&& 255#32 ∧ (-128#32).sle ((BitVec.ofNat 8 n).signExtend 32) = true ∧ ((BitVec.ofNat 8 n).signExtend 32).sle 127#32 = true ∧ ((BitVec.ofNat 8 n).signExtend 32).signExtend 8 = BitVec.ofNat 8 n) := by decide +kernel
theorem b8' (b : BitVec 8) : b.setWidth 32 = b.signExtend 32 &&& 255#32 ∧ (-128#32).sle (b.signExtend 32) = true ∧ (b.signExtend 32).sle 127#32 = true ∧ (b.signExtend 32).signExtend 8 = b := by
  have := b8 b.toNat b.isLt
  rwa [BitVec.ofNat_toNat, BitVec.setWidth_eq] at this
theorem by_ok (w : Int64) : ∀ i, i < 8 → byM w i = byC w i &&& 255 ∧ fits .byte (.int (byC w i)) = true := by
  intro i hi
  obtain ⟨s, hs, e1, e2⟩ : ∃ s : Nat, s ≤ 56 ∧ (w.toUInt64 >>> (((8 : Int32) * nI i).toInt64.toUInt64 &&& Int64.toUInt64 63)).toBitVec = w.toBitVec >>> s ∧ (w >>> (((8 : Int32) * nI i).toInt64 &&& 63)).toBitVec = BitVec.sshiftRight w.toBitVec s := by
    refine ⟨8 * i, by omega, ?_, ?_⟩
    · rcases (show i = 0 ∨ i = 1 ∨ i = 2 ∨ i = 3 ∨ i = 4 ∨ i = 5 ∨ i = 6 ∨ i = 7 by omega) with rfl | rfl | rfl | rfl | rfl | rfl | rfl | rfl <;> rfl
    · rcases (show i = 0 ∨ i = 1 ∨ i = 2 ∨ i = 3 ∨ i = 4 ∨ i = 5 ∨ i = 6 ∨ i = 7 by omega) with rfl | rfl | rfl | rfl | rfl | rfl | rfl | rfl <;> rfl
  have c1 : (byC w i).toBitVec = ((w.toBitVec >>> s).setWidth 8).signExtend 32 := by
    have e : (byC w i).toBitVec = (((((w.toUInt64 >>> (((8 : Int32) * nI i).toInt64.toUInt64 &&& Int64.toUInt64 63)).toBitVec.signExtend 32).signExtend 8).signExtend 32).signExtend 8).signExtend 32 := rfl
    rw [e, e1, (b8' _).2.2.2, BitVec.signExtend_eq_setWidth_of_le _ (show 32 ≤ 64 by decide), BitVec.signExtend_eq_setWidth_of_le _ (show 8 ≤ 32 by decide), BitVec.setWidth_setWidth_of_le _ (by decide)]
  have c2 : (byM w i).toBitVec = ((w.toBitVec >>> s).setWidth 8).setWidth 32 := by
    have e : (byM w i).toBitVec = ((w >>> (((8 : Int32) * nI i).toInt64 &&& 63)).toBitVec &&& 255#64).signExtend 32 := rfl
    rw [e, e2, BitVec.signExtend_eq_setWidth_of_le _ (show 32 ≤ 64 by decide), bv_and, bv_low _ _ hs]
  obtain ⟨q1, q2, q3, q4⟩ := b8' ((w.toBitVec >>> s).setWidth 8)
  constructor
  · apply Int32.toBitVec.inj
    rw [c2, q1, Int32.toBitVec_and, c1]
    rfl
  · have z1 : (-128 : Int32) ≤ byC w i := by rw [Int32.le_iff_toBitVec_sle, c1]; exact q2
    have z2 : byC w i ≤ (127 : Int32) := by rw [Int32.le_iff_toBitVec_sle, c1]; exact q3
    show (decide ((-128 : Int32) ≤ byC w i) && decide (byC w i ≤ (127 : Int32))) = true
    rw [decide_eq_true z1, decide_eq_true z2]
    rfl
/-- both tapes, with what follows -/
theorem feed_L {Mc Mm : fxMem} {np nf nd nb ns d : Nat} (h1 : Mm 0 13 = -1) (h2 : rZ Mc) (h3 : rD Mc Mm) (hG : rG Mc Mm ns) (hF : rF Mc Mm 1 1 np nf nd nb ns d) (w : Int64) (x3 : Int32) {kc km : Int32 → fxMem → Option (Int32 × fxMem)} : ∀ (n i : Nat), i < n → i ≤ 8 → nb + i ≤ 120 → ∃ y Mc' Mm', CX6_feed_L36 w x3 n (nI i - 1) Mc kc = kc y Mc' ∧ CX7_feed_L34 w x3 n (nI i - 1) Mm km = km y Mm' ∧ Mc' 1 9 = nI (nb + i) ∧ Mm' 1 4 = nI (nb + i) ∧ PX Mc' Mm'
  | 0, i, h, _, _ => absurd h (Nat.not_lt_zero _)
  | n + 1, 0, h, _, hb => by
    obtain ⟨s1, s2, s3, s4, s5, s6, s7, s8, s9, s10, s11, s12, s13⟩ := hF.2.1
    refine ⟨nI 0 - 1, Mc, Mm, ?_, ?_, s9, s10, h1, h2, h3, np, nf, nd, nb, ns, d, hF, hG⟩
    · rw [CX6_feed_L36, it (show nI 0 - 1 < (0 : Int32) by decide)]
    · rw [CX7_feed_L34, it (show nI 0 - 1 < (0 : Int32) by decide)]
  | n + 1, i + 1, h, h8, hb => by
    obtain ⟨s1, s2, s3, s4, s5, s6, s7, s8, s9, s10, s11, s12, s13⟩ := hF.2.1
    obtain ⟨b1, b2⟩ := by_ok w i (by omega)
    have gr : ∀ k, (k < 1 ∨ 7 < k) → (fx_st (fx_st Mc 7 nb (byC w i)) 1 9 (nI (nb + 1))) k = Mc k := fun k hk => by rw [mm_row (by omega), mm_row (by omega)]
    have gm : ∀ k, k ≠ 1 → (fx_st (fx_st Mm 1 (10 + nb) (byM w i)) 1 4 (nI (nb + 1))) k = Mm k := fun k hk => by rw [mm_row hk, mm_row hk]
    have em : ∀ j, j ≠ 4 → j ≠ 10 + nb → (fx_st (fx_st Mm 1 (10 + nb) (byM w i)) 1 4 (nI (nb + 1))) 1 j = Mm 1 j := fun j z1 z2 => by rw [mm_col z1, mm_col z2]
    have ec : ∀ j, j ≠ 9 → (fx_st (fx_st Mc 7 nb (byC w i)) 1 9 (nI (nb + 1))) 1 j = Mc 1 j := fun j z1 => by rw [mm_col z1, mm_row (by decide)]
    have F' : rF (fx_st (fx_st Mc 7 nb (byC w i)) 1 9 (nI (nb + 1))) (fx_st (fx_st Mm 1 (10 + nb) (byM w i)) 1 4 (nI (nb + 1))) 1 1 np nf nd (nb + 1) ns d := by
      obtain ⟨a1, a2, a3, a4, a5, a6, a7, a8, a9, a10, a11⟩ := id hF
      obtain ⟨c1, c2, c3, c4, c5, c6⟩ := id a1
      refine ⟨⟨c1, c2, c3, by omega, c5, c6⟩, ⟨by rw [ec _ (by decide)]; exact s1, by rw [em _ (by decide) (by omega)]; exact s2, by rw [ec _ (by decide)]; exact s3, by rw [em _ (by decide) (by omega)]; exact s4, by rw [ec _ (by decide)]; exact s5, by rw [em _ (by decide) (by omega)]; exact s6, by rw [ec _ (by decide)]; exact s7, by rw [em _ (by decide) (by omega)]; exact s8, mm_same _ _ _ _, mm_same _ _ _ _, by rw [ec _ (by decide)]; exact s11, by rw [em _ (by decide) (by omega)]; exact s12, by rw [em _ (by decide) (by omega)]; exact s13⟩, ?_, ?_, ?_, ?_, ?_, ?_, ?_, ⟨fun q hq => ?_, fun q hq => ?_⟩, ?_⟩
      · rw [mm_row (by decide), mm_row (by decide)]
        exact rA_cong a3 (fun p hp => em _ (by omega) (by omega))
      · rw [mm_row (by decide), mm_row (by decide)]
        exact rA_cong a4 (fun p hp => em _ (by omega) (by omega))
      · rw [mm_row (by decide), mm_row (by decide)]
        exact rA_cong a5 (fun p hp => em _ (by omega) (by omega))
      · rw [mm_row (by decide), mm_row (by decide)]
        exact a6
      · rw [mm_row (by decide), mm_row (by decide)]
        exact rA_cong a7 (fun p hp => em _ (by omega) (by omega))
      · rw [mm_row (by decide), mm_row (by decide)]
        exact a8
      · rw [mm_row (by decide), mm_row (by decide)]
        exact rA_cong a9 (fun p hp => em _ (by omega) (by omega))
      · rw [mm_row (show 1 + 6 ≠ 1 by decide), mm_col (show 10 + q ≠ 4 by omega), show 1 + 6 = 7 from rfl]
        by_cases e : q = nb
        · subst e; rw [mm_same, mm_same]; exact b1
        · rw [mm_col (show 10 + q ≠ 10 + nb by omega), mm_col e]; exact a10.1 q (by omega)
      · rw [mm_row (by decide)]
        by_cases e : q = nb
        · subst e; rw [mm_same]; exact b2
        · rw [mm_col e]; exact a10.2 q hq
      · exact rW_m (fun j hj => em j (by omega) (by omega)) (rW_c c5 (fun k z1 z2 => gr k (by omega)) a11)
    have P' : PX (fx_st (fx_st Mc 7 nb (byC w i)) 1 9 (nI (nb + 1))) (fx_st (fx_st Mm 1 (10 + nb) (byM w i)) 1 4 (nI (nb + 1))) := PX_now h1 h2 h3 hG gr gm (Nat.le_refl ns) F'
    have h1' : (fx_st (fx_st Mm 1 (10 + nb) (byM w i)) 1 4 (nI (nb + 1))) 0 13 = -1 := by rw [gm 0 (by decide)]; exact h1
    have h2' : rZ (fx_st (fx_st Mc 7 nb (byC w i)) 1 9 (nI (nb + 1))) := rZ_c (gr 20 (by omega)) h2
    have h3' : rD (fx_st (fx_st Mc 7 nb (byC w i)) 1 9 (nI (nb + 1))) (fx_st (fx_st Mm 1 (10 + nb) (byM w i)) 1 4 (nI (nb + 1))) := rD_c (by rw [gr 17 (by omega)]) (gr 18 (by omega)) (by rw [gm 0 (by decide)]) (gm 7 (by decide)) h3
    have hG' : rG (fx_st (fx_st Mc 7 nb (byC w i)) 1 9 (nI (nb + 1))) (fx_st (fx_st Mm 1 (10 + nb) (byM w i)) 1 4 (nI (nb + 1))) ns := rG_c (fun k _ _ => gr k (by omega)) (fun k _ _ => gr k (by omega)) (gm 2 (by decide)) (by rw [gr 0 (by omega)]) (by rw [gm 0 (by decide)]) hG
    obtain ⟨y, Mc2, Mm2, e1, e2, e3, e4, e5⟩ := feed_L h1' h2' h3' hG' F' w x3 (kc := kc) (km := km) n i (by omega) (by omega) (by omega)
    have em1 : nI i + (-1 : Int32) = nI i - 1 := by rw [Int32.sub_eq_add_neg]
    refine ⟨y, Mc2, Mm2, ?_, ?_, by rw [e3]; congr 1; omega, by rw [e4]; congr 1; omega, e5⟩
    · rw [CX6_feed_L36, nI_pred, ie (nI_pos (by omega)), s9, it (gin (by omega) (by decide)), nI_clamp (by omega), fx_lt, mm_row (show 1 ≠ 7 by decide), s9, n1, em1]
      exact e1
    · rw [CX7_feed_L34, nI_pred, ie (nI_pos (by omega)), it ci4, cc4, s10, la10, it (gin (by omega) (by decide)), nI_clamp (by omega), fx_lt, mm_col (show 4 ≠ 10 + nb by omega), s10, n1, em1]
      exact e2
theorem px_feed (w : Int64) (x : Int32) : st2 PX (CX6_feed w x) (CX7_feed w x) := by
  intro Mc Mm h
  obtain ⟨h1, h2, h3, np, nf, nd, nb, ns, d, hF, hG⟩ := id h
  obtain ⟨s1, s2, s3, s4, s5, s6, s7, s8, s9, s10, s11, s12, s13⟩ := hF.2.1
  have hnb := hF.1.2.2.2.1
  rw [CX6_feed, CX7_feed, CX7_in]
  by_cases z1 : x < 1
  · refine ⟨-2, Mc, Mm, by rw [it z1], ?_, h⟩
    rw [it z1]; rfl
  rw [ie z1, ie z1]
  by_cases z2 : x ≤ 8
  · rw [it z2, ie (show ¬ (8 : Int32) < x from Int32.not_lt.mpr z2), bs, ie (show ¬ (1 : Int32) = 0 by decide), it ci4, cc4, s9]
    simp only [s10]
    obtain ⟨j, hj, rfl⟩ : ∃ j : Nat, j < 9 ∧ x = nI j := by
      rcases arg3 x (n := 9) (by decide) with hx | hx
      · rcases hx with hx | hx
        · exact absurd (Int32.lt_trans hx (by decide)) z1
        · exact absurd (Int32.lt_of_lt_of_le (show (8 : Int32) < nI 9 by decide) hx) (Int32.not_lt.mpr z2)
      · exact hx
    rw [nI_add, show (120 : Int32) = nI 120 from rfl]
    by_cases z3 : nb + j ≤ 120
    · rw [it (nI_le z3 (by decide)), it (nI_le z3 (by decide))]
      obtain ⟨y, Mc2, Mm2, e1, e2, e3, e4, e5⟩ := feed_L h1 h2 h3 hG hF w (nI j) (kc := fun y4_36 M36 => some (M36 1 9, M36)) (km := fun y4_34 M34 => if fx_in (4 : Int32) 900 = true then some (M34 1 4, M34) else none) 1000 j (by omega) (by omega) (by omega)
      refine ⟨nI (nb + j), Mc2, Mm2, ?_, ?_, e5⟩
      · rw [e1, e3]
      · rw [e2, it ci4, e4]
    · rw [ie (nI_ge (by omega) (by omega)), ie (nI_ge (by omega) (by omega))]
      exact ⟨-4, Mc, Mm, rfl, rfl, h⟩
  · rw [ie z2, it (show (8 : Int32) < x from Int32.not_le.mp z2)]
    exact ⟨-2, Mc, Mm, rfl, rfl, h⟩
