/-! player, put, form, seen, march -/
theorem lt_lit10 {n : Nat} (h : n ≤ 10) : (nI n < (10 : Int32)) ↔ n < 10 := nI_ltI (a := n) (b := 10) (by omega) (by decide)
theorem eq_lit10 {n : Nat} (h : n ≤ 10) : (nI n = (10 : Int32)) ↔ n = 10 := nI_eq (a := n) (b := 10) (by omega) (by decide)
theorem px_player (x y z : Int32) : st2 PX (CX6_player x y z) (CX7_player x y z) := by
  intro Mc Mm h
  obtain ⟨h1, h2, h3, np, nf, nd, nb, ns, d, hF, hG⟩ := id h
  obtain ⟨s1, s2, s3, s4, s5, s6, s7, s8, s9, s10, s11, s12, s13⟩ := hF.2.1
  have hnp := hF.1.1
  rw [CX6_player, CX7_player, show (7 : Int32) = nI 7 from rfl, show (6 : Int32) = nI 7 - 1 by decide, show (64 : Int32) = nI 64 from rfl, show (9 : Int32) = nI 10 - 1 by decide]
  rcases arg3 x (n := 7) (by decide) with hx | ⟨kd, hkd, rfl⟩
  · refine ⟨-1, Mc, Mm, ?_, ?_, h⟩
    · rw [blo (by decide) hx]; simp [bs]
    · rw [ilo (by decide) hx]; simp [bs]
  rw [bin hkd (by decide), iin hkd (by decide)]
  rcases arg3 z (n := 64) (by decide) with hz | ⟨dt, hdt, rfl⟩
  · refine ⟨-1, Mc, Mm, ?_, ?_, h⟩
    · simp [bs, blo (by decide) hz]
    · simp [bs, dlo hz]
  rcases arg3 y (n := 10) (by decide) with hy | ⟨v, hv, rfl⟩
  · refine ⟨-2, Mc, Mm, ?_, ?_, h⟩
    · have e := blo (x := y) (n := 10) (by decide) hy Mc
      rw [show nI 10 = (10 : Int32) from rfl] at e
      simp [bs, bin hdt (by decide), e]
    · simp [bs, din hdt, ilo (by decide) hy]
  have e10 := bin hv (by decide) Mc
  rw [show nI 10 = (10 : Int32) from rfl] at e10
  obtain ⟨p1, p2⟩ := pon_both hF (nI dt)
  have A : ∀ (P : Prop) [Decidable P], P → True := fun _ _ _ => trivial
  rcases pon_cases (Mc 4) (nI dt) np with ⟨q1, q2⟩ | ⟨p, hp, q2, q3⟩
  · rw [q1] at p1 p2
    by_cases hf : np = 10
    · refine ⟨-4, Mc, Mm, ?_, ?_, h⟩
      · simp [bs, bin hdt (by decide), e10, p1, s1, hf, show ¬ (nI 10 < (10 : Int32)) by decide]
      · simp only [bs, din hdt, iin hv (by decide : 10 < 2 ^ 30), p2, ci0, cc0, s2, show ¬ (1 : Int32) = 0 by decide, ite_false, ite_true, (eq_lit10 hnp).mpr hf]
    · have hlt : np < 10 := by omega
      have g1 : fx_in (nI np) 10 = true := gin hlt (by decide)
      have l1 : nI np < (10 : Int32) := (lt_lit10 hnp).mpr hlt
      have l2 : ¬ nI np = (10 : Int32) := fun z => hf ((eq_lit10 hnp).mp z)
      refine ⟨nI np, fx_st (fx_st (fx_st (fx_st Mc 2 np (nI kd)) 3 np (nI v)) 4 np (nI dt)) 1 0 (nI (np + 1)), fx_st (fx_st (fx_st (fx_st Mm 1 (130 + np) (nI kd)) 1 (140 + np) (nI v)) 1 (150 + np) (nI dt)) 1 0 (nI (np + 1)), ?_, ?_, ?_⟩
      · simp only [bs, bin hdt (by decide : 64 < 2 ^ 31), e10, p1, s1, show ¬ (1 : Int32) = 0 by decide, ite_false, l1, fx_lt, mm_row (show 1 ≠ 2 by decide), mm_row (show 1 ≠ 3 by decide), mm_row (show 1 ≠ 4 by decide), s1, g1, nI_clamp (show np < 2 ^ 31 by omega), mm_same, n1, nI_pred, ite_true]
      · simp only [bs, din hdt, iin hv (by decide : 10 < 2 ^ 30), p2, ci0, cc0, s2, show ¬ (1 : Int32) = 0 by decide, ite_false, l2, la130, la140, la150, gin (show 130 + np < 900 by omega) (by decide), gin (show 140 + np < 900 by omega) (by decide), gin (show 150 + np < 900 by omega) (by decide), nI_clamp (show 130 + np < 2 ^ 31 by omega), nI_clamp (show 140 + np < 2 ^ 31 by omega), nI_clamp (show 150 + np < 2 ^ 31 by omega), fx_lt, ite_true, mm_col (show 0 ≠ 130 + np by omega), mm_col (show 0 ≠ 140 + np by omega), mm_col (show 0 ≠ 150 + np by omega), s2, n1]
      · obtain ⟨a1, a2, a3, a4, a5, a6, a7, a8, a9, a10, a11⟩ := hF
        obtain ⟨b1, b2, b3, b4, b5, b6⟩ := a1
        refine PX_now h1 h2 h3 hG (fun k hk => by rw [mm_row (by omega), mm_row (by omega), mm_row (by omega), mm_row (by omega)]) (fun k hk => by rw [mm_row hk, mm_row hk, mm_row hk, mm_row hk]) (Nat.le_refl ns) (np' := np + 1) (nf' := nf) (nd' := nd) (nb' := nb) (d' := d) ?_
        have em : ∀ j, j ≠ 0 → j ≠ 130 + np → j ≠ 140 + np → j ≠ 150 + np → (fx_st (fx_st (fx_st (fx_st Mm 1 (130 + np) (nI kd)) 1 (140 + np) (nI v)) 1 (150 + np) (nI dt)) 1 0 (nI (np + 1))) 1 j = Mm 1 j := fun j z1 z2 z3 z4 => by rw [mm_col z1, mm_col z4, mm_col z3, mm_col z2]
        have r1 : (fx_st (fx_st (fx_st (fx_st Mc 2 np (nI kd)) 3 np (nI v)) 4 np (nI dt)) 1 0 (nI (np + 1))) 1 = upd (Mc 1) 0 (nI (np + 1)) := by rw [mm_r, mm_row (by decide), mm_row (by decide), mm_row (by decide)]
        have r2 : (fx_st (fx_st (fx_st (fx_st Mc 2 np (nI kd)) 3 np (nI v)) 4 np (nI dt)) 1 0 (nI (np + 1))) 2 = upd (Mc 2) np (nI kd) := by rw [mm_row (by decide), mm_row (by decide), mm_row (by decide), mm_r]
        have r3 : (fx_st (fx_st (fx_st (fx_st Mc 2 np (nI kd)) 3 np (nI v)) 4 np (nI dt)) 1 0 (nI (np + 1))) 3 = upd (Mc 3) np (nI v) := by rw [mm_row (by decide), mm_row (by decide), mm_r, mm_row (by decide)]
        have r4 : (fx_st (fx_st (fx_st (fx_st Mc 2 np (nI kd)) 3 np (nI v)) 4 np (nI dt)) 1 0 (nI (np + 1))) 4 = upd (Mc 4) np (nI dt) := by rw [mm_row (by decide), mm_r, mm_row (by decide), mm_row (by decide)]
        have ro : ∀ k, k ≠ 1 → k ≠ 2 → k ≠ 3 → k ≠ 4 → (fx_st (fx_st (fx_st (fx_st Mc 2 np (nI kd)) 3 np (nI v)) 4 np (nI dt)) 1 0 (nI (np + 1))) k = Mc k := fun k z1 z2 z3 z4 => by rw [mm_row z1, mm_row z4, mm_row z3, mm_row z2]
        refine ⟨⟨by omega, b2, b3, b4, b5, b6⟩, ?_, ?_, ?_, ?_, ?_, ?_, ?_, ?_, ?_, ?_⟩
        · rw [r1]
          exact ⟨pk_us, mm_same _ _ _ _, by rw [pk_un (by decide)]; exact s3, by rw [em _ (by omega) (by omega) (by omega) (by omega)]; exact s4, by rw [pk_un (by decide)]; exact s5, by rw [em _ (by omega) (by omega) (by omega) (by omega)]; exact s6, by rw [pk_un (by decide)]; exact s7, by rw [em _ (by omega) (by omega) (by omega) (by omega)]; exact s8, by rw [pk_un (by decide)]; exact s9, by rw [em _ (by omega) (by omega) (by omega) (by omega)]; exact s10, by rw [pk_un (by decide)]; exact s11, by rw [em _ (by omega) (by omega) (by omega) (by omega)]; exact s12, by rw [em _ (by omega) (by omega) (by omega) (by omega)]; exact s13⟩
        · rw [r2]
          exact rA_push a3 (fun p hp => em _ (by omega) (by omega) (by omega) (by omega)) (by rw [mm_col (by omega), mm_col (by omega), mm_col (by omega), mm_same]) hkd rfl
        · rw [r3]
          exact rA_push a4 (fun p hp => em _ (by omega) (by omega) (by omega) (by omega)) (by rw [mm_col (by omega), mm_col (by omega), mm_same]) hv rfl
        · rw [r4]
          exact rA_push a5 (fun p hp => em _ (by omega) (by omega) (by omega) (by omega)) (by rw [mm_col (by omega), mm_same]) hdt rfl
        · rw [r4]
          exact rI_push a6 q2
        · rw [ro 5 (by decide) (by decide) (by decide) (by decide)]
          exact fun p hp => ⟨by rw [em _ (by omega) (by omega) (by omega) (by omega)]; exact (a7 p hp).1, (a7 p hp).2⟩
        · rw [ro 5 (by decide) (by decide) (by decide) (by decide)]
          exact a8
        · rw [ro 6 (by decide) (by decide) (by decide) (by decide)]
          exact fun p hp => ⟨by rw [em _ (by omega) (by omega) (by omega) (by omega)]; exact (a9 p hp).1, (a9 p hp).2⟩
        · rw [ro 7 (by decide) (by decide) (by decide) (by decide)]
          exact ⟨fun i hi => by rw [em _ (by omega) (by omega) (by omega) (by omega)]; exact a10.1 i hi, a10.2⟩
        · exact rW_m (fun j hj => em j (by omega) (by omega) (by omega) (by omega)) (rW_c b5 (fun k z1 z2 => ro k (by omega) (by omega) (by omega) (by omega)) a11)
  · rw [q3] at p1 p2
    refine ⟨-3, Mc, Mm, ?_, ?_, h⟩
    · simp [bs, bin hdt (by decide), e10, p1, nIn p (by omega)]
    · simp [bs, din hdt, iin hv (by decide), p2, nIn p (by omega)]

/-- a row with one place changed, and the reference's likewise -/
theorem rA_set {c m m' : Nat → Int32} {off n B p k : Nat} {x : Int32} (h : rA c m off n B) (hp : p < n) (h1 : ∀ q, q < n → q ≠ p → m' (off + q) = m (off + q)) (h2 : m' (off + p) = x) (hk : k < B) (hx : x = nI k) : rA (upd c p x) m' off n B := by
  intro q hq
  by_cases e : q = p
  · subst e
    rw [pk_us]
    exact ⟨h2, k, hk, hx⟩
  · rw [pk_un e, h1 q hq e]
    exact h q hq
theorem rI_set {c : Nat → Int32} {n p : Nat} {x : Int32} (h : rI c n) (hx : ∀ q, q < n → q ≠ p → c q ≠ x) : rI (upd c p x) n := by
  intro a b ha hb e
  by_cases e1 : a = p
  · by_cases e2 : b = p
    · omega
    · subst e1
      rw [pk_us, pk_un e2] at e
      exact absurd e.symm (hx b hb e2)
  · by_cases e2 : b = p
    · subst e2
      rw [pk_us, pk_un e1] at e
      exact absurd e (hx a ha e1)
    · rw [pk_un e1, pk_un e2] at e
      exact h a b ha hb e
theorem px_put (x y : Int32) : st2 PX (CX6_put x y) (CX7_put x y) := by
  intro Mc Mm h
  obtain ⟨h1, h2, h3, np, nf, nd, nb, ns, d, hF, hG⟩ := id h
  obtain ⟨s1, s2, s3, s4, s5, s6, s7, s8, s9, s10, s11, s12, s13⟩ := hF.2.1
  have hnp := hF.1.1
  rw [CX6_put, CX7_put, show (64 : Int32) = nI 64 from rfl]
  rcases arg3 x (n := np) (by omega) with hx | ⟨p, hp, rfl⟩
  · refine ⟨-1, Mc, Mm, ?_, ?_, h⟩
    · simp [bs, plo hnp s1 hx]
    · simp [bs, qlo hnp s2 hx]
  rcases arg3 y (n := 64) (by decide) with hy | ⟨dt, hdt, rfl⟩
  · refine ⟨-1, Mc, Mm, ?_, ?_, h⟩
    · simp [bs, pin hnp s1 hp, blo (by decide) hy]
    · simp [bs, qin hnp s2 hp, dlo hy]
  obtain ⟨p1, p2⟩ := pon_both hF (nI dt)
  have jc : ∀ r, CX6_put_J41 (nI p) (nI dt) r Mc = some (Mc 4 p, fx_st Mc 4 p (nI dt)) := fun r => by rw [CX6_put_J41, it (gin (by omega) (by decide)), nI_clamp (by omega)]
  have jm : CX7_put_J38 (nI p) (nI dt) Mm = some (Mc 4 p, fx_st Mm 1 (150 + p) (nI dt)) := by rw [CX7_put_J38, la150, it (gin (by omega) (by decide)), nI_clamp (by omega), (hF.2.2.2.2.1 p hp).1]
  have fin : (∀ q, q < np → q ≠ p → Mc 4 q ≠ nI dt) → PX (fx_st Mc 4 p (nI dt)) (fx_st Mm 1 (150 + p) (nI dt)) := by
    intro hq
    obtain ⟨a1, a2, a3, a4, a5, a6, a7, a8, a9, a10, a11⟩ := hF
    refine PX_now h1 h2 h3 hG (fun k hk => mm_row (by omega) _ _ _) (fun k hk => mm_row hk _ _ _) (Nat.le_refl ns) (np' := np) (nf' := nf) (nd' := nd) (nb' := nb) (d' := d) ?_
    have em : ∀ j, j ≠ 150 + p → (fx_st Mm 1 (150 + p) (nI dt)) 1 j = Mm 1 j := fun j z => mm_col z _ _ _
    refine ⟨a1, ?_, ?_, ?_, ?_, ?_, ?_, ?_, ?_, ?_, ?_⟩
    · rw [mm_row (by decide)]
      exact ⟨s1, by rw [em _ (by omega)]; exact s2, s3, by rw [em _ (by omega)]; exact s4, s5, by rw [em _ (by omega)]; exact s6, s7, by rw [em _ (by omega)]; exact s8, s9, by rw [em _ (by omega)]; exact s10, s11, by rw [em _ (by omega)]; exact s12, by rw [em _ (by omega)]; exact s13⟩
    · rw [mm_row (by decide)]
      exact fun q hq => ⟨by rw [em _ (by omega)]; exact (a3 q hq).1, (a3 q hq).2⟩
    · rw [mm_row (by decide)]
      exact fun q hq => ⟨by rw [em _ (by omega)]; exact (a4 q hq).1, (a4 q hq).2⟩
    · rw [mm_r]
      exact rA_set a5 hp (fun q hq e => em _ (by omega)) (mm_same _ _ _ _) hdt rfl
    · rw [mm_r]
      exact rI_set a6 hq
    · rw [mm_row (by decide)]
      exact fun q hq => ⟨by rw [em _ (by omega)]; exact (a7 q hq).1, (a7 q hq).2⟩
    · rw [mm_row (by decide)]
      exact a8
    · rw [mm_row (by decide)]
      exact fun q hq => ⟨by rw [em _ (by omega)]; exact (a9 q hq).1, (a9 q hq).2⟩
    · rw [mm_row (by decide)]
      exact ⟨fun i hi => by rw [em _ (by have := a1.2.2.2.1; omega)]; exact a10.1 i hi, a10.2⟩
    · exact rW_m (fun j hj => em j (by omega)) (rW_c a1.2.2.2.2.1 (fun k z1 z2 => mm_row (by omega) _ _ _) a11)
  rcases pon_cases (Mc 4) (nI dt) np with ⟨q1, q2⟩ | ⟨p', hp', q2, q3⟩
  · rw [q1] at p1 p2
    refine ⟨Mc 4 p, _, _, ?_, ?_, fin (fun q hq _ => q2 q hq)⟩
    · simp only [bs, pin hnp s1 hp, bin hdt (by decide : 64 < 2 ^ 31), p1, jc, show ¬ (1 : Int32) = 0 by decide, ite_false, ite_true]
    · simp only [bs, qin hnp s2 hp, din hdt, p2, jm, show ¬ (1 : Int32) = 0 by decide, ite_false, ite_true]
  · rw [q3] at p1 p2
    by_cases e : p' = p
    · subst e
      refine ⟨Mc 4 p', _, _, ?_, ?_, fin (fun q hq ne z => ne (hF.2.2.2.2.2.1 q p' hq hp' (z.trans q2.symm)))⟩
      · simp only [bs, pin hnp s1 hp, bin hdt (by decide : 64 < 2 ^ 31), p1, jc, show ¬ (1 : Int32) = 0 by decide, ite_false, ite_true, nIn p' (show p' < 2 ^ 31 by omega)]
      · simp only [bs, qin hnp s2 hp, din hdt, p2, jm, show ¬ (1 : Int32) = 0 by decide, ite_false, ite_true, nIn p' (show p' < 2 ^ 31 by omega)]
    · have ne : ¬ nI p' = nI p := fun z => e ((nI_eq (by omega) (by omega)).mp z)
      refine ⟨-3, Mc, Mm, ?_, ?_, h⟩
      · simp only [bs, pin hnp s1 hp, bin hdt (by decide : 64 < 2 ^ 31), p1, show ¬ (1 : Int32) = 0 by decide, ite_false, nIn p' (show p' < 2 ^ 31 by omega), ne]
      · simp only [bs, qin hnp s2 hp, din hdt, p2, show ¬ (1 : Int32) = 0 by decide, ite_false, nIn p' (show p' < 2 ^ 31 by omega), ne]
