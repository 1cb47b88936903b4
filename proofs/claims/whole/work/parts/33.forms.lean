/-! form, seen, march -/
theorem rA_cong {c m m' : Nat → Int32} {off n B : Nat} (h : rA c m off n B) (e : ∀ p, p < n → m' (off + p) = m (off + p)) : rA c m' off n B := fun p hp => ⟨by rw [e p hp]; exact (h p hp).1, (h p hp).2⟩
theorem rF_mk {Mc Mc' Mm Mm' : fxMem} {np nf nd nb ns d nf' nd' : Nat} (hF : rF Mc Mm 1 1 np nf nd nb ns d) (hS : rS (Mc' 1) (Mm' 1) np nf' nd' nb ns d) (hf : nf' ≤ 10) (hd : nd' ≤ 10) (h2 : Mc' 2 = Mc 2) (h3 : Mc' 3 = Mc 3) (h7 : Mc' 7 = Mc 7) (hW : ∀ k, 26 ≤ k → Mc' k = Mc k) (em : ∀ j, 10 ≤ j → (j < 150 ∨ 180 ≤ j) → Mm' 1 j = Mm 1 j) (r4 : rA (Mc' 4) (Mm' 1) 150 np 64) (r4' : rI (Mc' 4) np) (r5 : rA (Mc' 5) (Mm' 1) 160 nf' 64) (r5' : rI (Mc' 5) nf') (r6 : rA (Mc' 6) (Mm' 1) 170 nd' 64) : rF Mc' Mm' 1 1 np nf' nd' nb ns d := by
  obtain ⟨a1, a2, a3, a4, a5, a6, a7, a8, a9, a10, a11⟩ := hF
  obtain ⟨b1, b2, b3, b4, b5, b6⟩ := a1
  refine ⟨⟨b1, hf, hd, b4, b5, b6⟩, hS, ?_, ?_, r4, r4', r5, r5', r6, ?_, ?_⟩
  · rw [h2]; exact rA_cong a3 (fun p hp => em _ (by omega) (Or.inl (by omega)))
  · rw [h3]; exact rA_cong a4 (fun p hp => em _ (by omega) (Or.inl (by omega)))
  · rw [h7]; exact ⟨fun i hi => by rw [em _ (by omega) (Or.inl (by omega))]; exact a10.1 i hi, a10.2⟩
  · exact rW_m (fun j hj => em j (by omega) (Or.inr hj)) (rW_c b5 (fun k z1 _ => hW k z1) a11)
theorem inf_L {x : Int32} {M : fxMem} {nf : Nat} (hn : nf ≤ 10) (e : M 1 5 = nI nf) {k : Int32 → fxMem → Option (Int32 × fxMem)} : ∀ (n i : Nat), nf - i < n → i ≤ nf → (∀ p, p < i → M 5 p ≠ x) → CX1_isInForm_L2 x n (nI i) M k = if pon (M 5) x nf = -1 then k (nI nf) M else some (1, M)
  | 0, i, h, _, _ => absurd h (Nat.not_lt_zero _)
  | n + 1, i, h, hi, hp => by
    rw [CX1_isInForm_L2, e]
    by_cases z : i = nf
    · subst z
      rw [it (Int32.le_refl _), pon_no hp, it rfl]
    · rw [ie (nI_ge (by omega) (by omega)), it (gin (by omega) (by decide)), nI_clamp (by omega)]
      by_cases e1 : M 5 i = x
      · rw [it e1]
        rcases pon_cases (M 5) x nf with ⟨q1, q2⟩ | ⟨p, hp2, q2, q3⟩
        · exact absurd e1 (q2 i (by omega))
        · rw [q3, ie (nIn p (by omega))]
      · rw [ie e1, n1]
        refine inf_L hn e n (i + 1) (by omega) (by omega) (fun p hp2 => ?_)
        by_cases z2 : p = i
        · rw [z2]; exact e1
        · exact hp p (by omega)
theorem infM_L {x : Int32} {M : fxMem} {c : Nat → Int32} {nf : Nat} (hn : nf ≤ 10) (e : M 1 2 = nI nf) (hc : ∀ p, p < nf → M 1 (160 + p) = c p) {k : Int32 → fxMem → Option (Int32 × fxMem)} : ∀ (n i : Nat), nf - i < n → i ≤ nf → (∀ p, p < i → c p ≠ x) → CX7_form_L25 x n (nI i) M k = if pon c x nf = -1 then k (nI nf) M else some (-3, M)
  | 0, i, h, _, _ => absurd h (Nat.not_lt_zero _)
  | n + 1, i, h, hi, hp => by
    rw [CX7_form_L25, it ci2, cc2, e]
    by_cases z : i = nf
    · subst z
      rw [it (Int32.le_refl _), pon_no hp, it rfl]
    · rw [ie (nI_ge (by omega) (by omega)), la160, it (gin (by omega) (by decide)), nI_clamp (by omega), hc i (by omega)]
      by_cases e1 : c i = x
      · rw [it e1]
        rcases pon_cases c x nf with ⟨q1, q2⟩ | ⟨p, hp2, q2, q3⟩
        · exact absurd e1 (q2 i (by omega))
        · rw [q3, ie (nIn p (by omega))]
      · rw [ie e1, n1]
        refine infM_L hn e hc n (i + 1) (by omega) (by omega) (fun p hp2 => ?_)
        by_cases z2 : p = i
        · rw [z2]; exact e1
        · exact hp p (by omega)
theorem neg1 {x : Int32} (h : x < 0 ∨ nI 64 ≤ x) : True := trivial
theorem px_form (x : Int32) : st2 PX (CX6_form x) (CX7_form x) := by
  intro Mc Mm h
  obtain ⟨h1, h2, h3, np, nf, nd, nb, ns, d, hF, hG⟩ := id h
  obtain ⟨s1, s2, s3, s4, s5, s6, s7, s8, s9, s10, s11, s12, s13⟩ := hF.2.1
  have hnf := hF.1.2.1
  rw [CX6_form, CX7_form, show (64 : Int32) = nI 64 from rfl]
  by_cases e0 : x = -1
  · refine ⟨0, fx_st Mc 1 5 0, fx_st Mm 1 2 0, ?_, ?_, ?_⟩
    · rw [it e0]
    · rw [it e0, it ci2, cc2]
    · refine PX_now h1 h2 h3 hG (fun k hk => mm_row (by omega) _ _ _) (fun k hk => mm_row hk _ _ _) (Nat.le_refl ns) (rF_sc hF (fun k hk => mm_row hk _ _ _) (fun j' hj' => mm_col (by omega) _ _ _) (np' := np) (nf' := 0) (nd' := nd) (nb' := nb) (ns' := ns) (d' := d) ?_ (by omega) (by omega) (by omega) (by omega) (by omega) hF.1.2.2.2.2.2)
      rw [mm_r, mm_r]
      exact ⟨by rw [pk_un (by decide)]; exact s1, by rw [pk_un (by decide)]; exact s2, by rw [pk_un (by decide)]; exact s3, by rw [pk_un (by decide)]; exact s4, pk_us, pk_us, by rw [pk_un (by decide)]; exact s7, by rw [pk_un (by decide)]; exact s8, by rw [pk_un (by decide)]; exact s9, by rw [pk_un (by decide)]; exact s10, by rw [pk_un (by decide)]; exact s11, by rw [pk_un (by decide)]; exact s12, by rw [pk_un (by decide)]; exact s13⟩
  rw [ie e0, ie e0]
  rcases arg3 x (n := 64) (by decide) with hx | ⟨dt, hdt, rfl⟩
  · refine ⟨-1, Mc, Mm, ?_, ?_, h⟩
    · simp [bs, blo (by decide) hx]
    · simp [bs, dlo hx]
  have p1 : CX1_isInForm (nI dt) Mc = some (if pon (Mc 5) (nI dt) nf = -1 then 0 else 1, Mc) := by
    rw [CX1_isInForm, show (0 : Int32) = nI 0 from rfl, inf_L hnf s5 1000 0 (by omega) (Nat.zero_le _) (fun p hp => absurd hp (Nat.not_lt_zero p))]
    split <;> rfl
  have p2 := fun k => infM_L (x := nI dt) (k := k) hnf s6 (fun p hp => (hF.2.2.2.2.2.2.1 p hp).1) 1000 0 (by omega) (Nat.zero_le _) (fun p hp => absurd hp (Nat.not_lt_zero p))
  rw [nIz] at p2
  rcases pon_cases (Mc 5) (nI dt) nf with ⟨q1, q2⟩ | ⟨p, hp, q2, q3⟩
  · rw [q1, it rfl] at p1
    simp only [q1, if_true] at p2
    by_cases hf : nf = 10
    · refine ⟨-4, Mc, Mm, ?_, ?_, h⟩
      · simp only [bs, bin hdt (by decide : 64 < 2 ^ 31), p1, show ¬ (1 : Int32) = 0 by decide, ite_false, ite_true, s5, hf, show ¬ (nI 10 < (10 : Int32)) by decide]
      · simp only [bs, din hdt, p2, show ¬ (1 : Int32) = 0 by decide, ite_false, ite_true, ci2, cc2, s6, (eq_lit10 hnf).mpr hf]
    · have hlt : nf < 10 := by omega
      refine ⟨nI (nf + 1), fx_st (fx_st Mc 5 nf (nI dt)) 1 5 (nI (nf + 1)), fx_st (fx_st Mm 1 (160 + nf) (nI dt)) 1 2 (nI (nf + 1)), ?_, ?_, ?_⟩
      · simp only [bs, bin hdt (by decide : 64 < 2 ^ 31), p1, show ¬ (1 : Int32) = 0 by decide, ite_false, ite_true, s5, (lt_lit10 hnf).mpr hlt, gin hlt (by decide), fx_lt, mm_row (show 1 ≠ 5 by decide), nI_clamp (show nf < 2 ^ 31 by omega), n1, mm_same]
      · simp only [bs, din hdt, p2, show ¬ (1 : Int32) = 0 by decide, ite_false, ite_true, ci2, cc2, s6, (show ¬ nI nf = (10 : Int32) from fun z => hf ((eq_lit10 hnf).mp z)), la160, gin (show 160 + nf < 900 by omega) (by decide), fx_lt, nI_clamp (show 160 + nf < 2 ^ 31 by omega), mm_col (show 2 ≠ 160 + nf by omega), n1, mm_same]
      · refine PX_now h1 h2 h3 hG (fun k hk => by rw [mm_row (by omega), mm_row (by omega)]) (fun k hk => by rw [mm_row hk, mm_row hk]) (Nat.le_refl ns) (rF_mk (nf' := nf + 1) (nd' := nd) hF ?_ (by omega) hF.1.2.2.1 (by rw [mm_row (by decide), mm_row (by decide)]) (by rw [mm_row (by decide), mm_row (by decide)]) (by rw [mm_row (by decide), mm_row (by decide)]) (fun k hk => by rw [mm_row (by omega), mm_row (by omega)]) (fun j _ _ => by rw [mm_col (by omega), mm_col (by omega)]) ?_ ?_ ?_ ?_ ?_)
        · have em : ∀ j, j ≠ 2 → j ≠ 160 + nf → (fx_st (fx_st Mm 1 (160 + nf) (nI dt)) 1 2 (nI (nf + 1))) 1 j = Mm 1 j := fun j z1 z2 => by rw [mm_col z1, mm_col z2]
          have ec : ∀ j, j ≠ 5 → (fx_st (fx_st Mc 5 nf (nI dt)) 1 5 (nI (nf + 1))) 1 j = Mc 1 j := fun j z1 => by rw [mm_col z1, mm_row (by decide)]
          exact ⟨by rw [ec _ (by decide)]; exact s1, by rw [em _ (by decide) (by omega)]; exact s2, by rw [ec _ (by decide)]; exact s3, by rw [em _ (by decide) (by omega)]; exact s4, mm_same _ _ _ _, mm_same _ _ _ _, by rw [ec _ (by decide)]; exact s7, by rw [em _ (by decide) (by omega)]; exact s8, by rw [ec _ (by decide)]; exact s9, by rw [em _ (by decide) (by omega)]; exact s10, by rw [ec _ (by decide)]; exact s11, by rw [em _ (by decide) (by omega)]; exact s12, by rw [em _ (by decide) (by omega)]; exact s13⟩
        · rw [mm_row (by decide), mm_row (by decide)]
          exact rA_cong hF.2.2.2.2.1 (fun p hp => by rw [mm_col (by omega), mm_col (by have := hF.1.1; omega)])
        · rw [mm_row (by decide), mm_row (by decide)]
          exact hF.2.2.2.2.2.1
        · rw [mm_row (by decide), mm_r]
          exact rA_push hF.2.2.2.2.2.2.1 (fun p hp => by rw [mm_col (by omega), mm_col (by omega)]) (by rw [mm_col (by omega), mm_same]) hdt rfl
        · rw [mm_row (by decide), mm_r]
          exact rI_push hF.2.2.2.2.2.2.2.1 q2
        · rw [mm_row (by decide), mm_row (by decide)]
          exact rA_cong hF.2.2.2.2.2.2.2.2.1 (fun p hp => by rw [mm_col (by omega), mm_col (by omega)])
  · rw [q3, ie (nIn p (by omega))] at p1
    simp only [q3, nIn p (show p < 2 ^ 31 by omega), if_false] at p2
    refine ⟨-3, Mc, Mm, ?_, ?_, h⟩
    · simp only [bs, bin hdt (by decide : 64 < 2 ^ 31), p1, show ¬ (1 : Int32) = 0 by decide, ite_false]
    · simp only [bs, din hdt, p2, show ¬ (1 : Int32) = 0 by decide, ite_false]
theorem px_seen (x : Int32) : st2 PX (CX6_seen x) (CX7_seen x) := by
  intro Mc Mm h
  obtain ⟨h1, h2, h3, np, nf, nd, nb, ns, d, hF, hG⟩ := id h
  obtain ⟨s1, s2, s3, s4, s5, s6, s7, s8, s9, s10, s11, s12, s13⟩ := hF.2.1
  have hnd := hF.1.2.2.1
  rw [CX6_seen, CX7_seen, show (64 : Int32) = nI 64 from rfl]
  by_cases e0 : x = -1
  · refine ⟨0, fx_st Mc 1 7 0, fx_st Mm 1 3 0, ?_, ?_, ?_⟩
    · rw [it e0]
    · rw [it e0, it ci3, cc3]
    · refine PX_now h1 h2 h3 hG (fun k hk => mm_row (by omega) _ _ _) (fun k hk => mm_row hk _ _ _) (Nat.le_refl ns) (rF_sc hF (fun k hk => mm_row hk _ _ _) (fun j' hj' => mm_col (by omega) _ _ _) (np' := np) (nf' := nf) (nd' := 0) (nb' := nb) (ns' := ns) (d' := d) ?_ (by omega) (by omega) (by omega) (by omega) (by omega) hF.1.2.2.2.2.2)
      rw [mm_r, mm_r]
      exact ⟨by rw [pk_un (by decide)]; exact s1, by rw [pk_un (by decide)]; exact s2, by rw [pk_un (by decide)]; exact s3, by rw [pk_un (by decide)]; exact s4, by rw [pk_un (by decide)]; exact s5, by rw [pk_un (by decide)]; exact s6, pk_us, pk_us, by rw [pk_un (by decide)]; exact s9, by rw [pk_un (by decide)]; exact s10, by rw [pk_un (by decide)]; exact s11, by rw [pk_un (by decide)]; exact s12, by rw [pk_un (by decide)]; exact s13⟩
  rw [ie e0, ie e0]
  rcases arg3 x (n := 64) (by decide) with hx | ⟨dt, hdt, rfl⟩
  · refine ⟨-1, Mc, Mm, ?_, ?_, h⟩
    · simp [bs, blo (by decide) hx]
    · simp [bs, dlo hx]
  by_cases hf : nd = 10
  · refine ⟨-4, Mc, Mm, ?_, ?_, h⟩
    · simp only [bs, bin hdt (by decide : 64 < 2 ^ 31), show ¬ (1 : Int32) = 0 by decide, ite_false, ite_true, s7, hf, show ¬ (nI 10 < (10 : Int32)) by decide]
    · simp only [bs, din hdt, show ¬ (1 : Int32) = 0 by decide, ite_false, ite_true, ci3, cc3, s8, (eq_lit10 hnd).mpr hf]
  · have hlt : nd < 10 := by omega
    refine ⟨nI (nd + 1), fx_st (fx_st Mc 6 nd (nI dt)) 1 7 (nI (nd + 1)), fx_st (fx_st Mm 1 (170 + nd) (nI dt)) 1 3 (nI (nd + 1)), ?_, ?_, ?_⟩
    · simp only [bs, bin hdt (by decide : 64 < 2 ^ 31), show ¬ (1 : Int32) = 0 by decide, ite_false, ite_true, s7, (lt_lit10 hnd).mpr hlt, gin hlt (by decide), fx_lt, mm_row (show 1 ≠ 6 by decide), nI_clamp (show nd < 2 ^ 31 by omega), n1, mm_same]
    · simp only [bs, din hdt, show ¬ (1 : Int32) = 0 by decide, ite_false, ite_true, ci3, cc3, s8, (show ¬ nI nd = (10 : Int32) from fun z => hf ((eq_lit10 hnd).mp z)), la170, gin (show 170 + nd < 900 by omega) (by decide), fx_lt, nI_clamp (show 170 + nd < 2 ^ 31 by omega), mm_col (show 3 ≠ 170 + nd by omega), n1, mm_same]
    · refine PX_now h1 h2 h3 hG (fun k hk => by rw [mm_row (by omega), mm_row (by omega)]) (fun k hk => by rw [mm_row hk, mm_row hk]) (Nat.le_refl ns) (rF_mk (nf' := nf) (nd' := nd + 1) hF ?_ hF.1.2.1 (by omega) (by rw [mm_row (by decide), mm_row (by decide)]) (by rw [mm_row (by decide), mm_row (by decide)]) (by rw [mm_row (by decide), mm_row (by decide)]) (fun k hk => by rw [mm_row (by omega), mm_row (by omega)]) (fun j _ _ => by rw [mm_col (by omega), mm_col (by omega)]) ?_ ?_ ?_ ?_ ?_)
      · have em : ∀ j, j ≠ 3 → j ≠ 170 + nd → (fx_st (fx_st Mm 1 (170 + nd) (nI dt)) 1 3 (nI (nd + 1))) 1 j = Mm 1 j := fun j z1 z2 => by rw [mm_col z1, mm_col z2]
        have ec : ∀ j, j ≠ 7 → (fx_st (fx_st Mc 6 nd (nI dt)) 1 7 (nI (nd + 1))) 1 j = Mc 1 j := fun j z1 => by rw [mm_col z1, mm_row (by decide)]
        exact ⟨by rw [ec _ (by decide)]; exact s1, by rw [em _ (by decide) (by omega)]; exact s2, by rw [ec _ (by decide)]; exact s3, by rw [em _ (by decide) (by omega)]; exact s4, by rw [ec _ (by decide)]; exact s5, by rw [em _ (by decide) (by omega)]; exact s6, mm_same _ _ _ _, mm_same _ _ _ _, by rw [ec _ (by decide)]; exact s9, by rw [em _ (by decide) (by omega)]; exact s10, by rw [ec _ (by decide)]; exact s11, by rw [em _ (by decide) (by omega)]; exact s12, by rw [em _ (by decide) (by omega)]; exact s13⟩
      · rw [mm_row (by decide), mm_row (by decide)]
        exact rA_cong hF.2.2.2.2.1 (fun p hp => by rw [mm_col (by omega), mm_col (by have := hF.1.1; omega)])
      · rw [mm_row (by decide), mm_row (by decide)]
        exact hF.2.2.2.2.2.1
      · rw [mm_row (by decide), mm_row (by decide)]
        exact rA_cong hF.2.2.2.2.2.2.1 (fun p hp => by rw [mm_col (by omega), mm_col (by have := hF.1.2.1; omega)])
      · rw [mm_row (by decide), mm_row (by decide)]
        exact hF.2.2.2.2.2.2.2.1
      · rw [mm_row (by decide), mm_r]
        exact rA_push hF.2.2.2.2.2.2.2.2.1 (fun p hp => by rw [mm_col (by omega), mm_col (by omega)]) (by rw [mm_col (by omega), mm_same]) hdt rfl
