/-! factor, and all three by the number of open signs -/
theorem DP.mono {ops : List Nat} {h h' : Nat} (hd : DP ops h) (e : h ≤ h') : DP ops h' := fun d r z => hd d r (by omega)
theorem OKx.mono {A B : fxMem} {S ns nb a opn h h' : Nat} {T : Nat → Nat} {us : List Nat} {es : List Int32} {rc : Option (Int32 × fxMem)} {rm : Option fxMem} (hk : OKx A B S ns nb T a opn us es h rc rm) (e : h ≤ h') : OKx A B S ns nb T a opn us es h' rc rm := by
  rcases hk with ⟨Mc, Mm, a', ops, h1, h2, h3, h4, h5, h6, h7⟩ | hk
  · exact Or.inl ⟨Mc, Mm, a', ops, h1, h2, h3, h4, h5, h6.mono e, h7⟩
  · exact Or.inr hk
theorem j75 {rec : Nat → Int32 → fxMem → Option (Int32 × fxMem)} {x : Int32} {M : fxMem} {A B : fxMem} {S ns nb a opn h : Nat} {T : Nat → Nat} {us : List Nat} {es : List Int32} {rm : Option fxMem} (hk : OKx A B S ns nb T a opn us es h (CX2_readTest M) rm) : OKx A B S ns nb T a opn us es h (CX2_readFactor_J75 rec x M) rm := by
  rcases hk with ⟨Mc, Mm, a', ops, h1, h2⟩ | ⟨Mc, Mm, a', h1, h2⟩
  · refine Or.inl ⟨Mc, Mm, a', ops, ?_, h2⟩
    rw [CX2_readFactor_J75, h1, bs, it f11]
  · refine Or.inr ⟨Mc, Mm, a', ?_, h2⟩
    rw [CX2_readFactor_J75, h1, bs, it f01]
theorem fac {A B : fxMem} {S ns nb a opn m f : Nat} {T : Nat → Nat} {us : List Nat} {es : List Int32} {Mc Mm : fxMem} (hS : fx_isSh S = true) (hns : ns < 5) (hS16 : S ≠ 16 ∧ S + 5 ≠ 16 ∧ 7 < S) (hS60 : S < 60) (hm : opn + m = 5) (hf : 3 ≤ f) (hN : m ≠ 0 → ∀ (a : Nat) (us : List Nat) (es : List Int32) (Mc Mm : fxMem), RS A B S ns nb T a (opn + 1) us es Mc Mm → OKx A B S ns nb T a (opn + 1) us es (2 * m - 1) (gX2 f 2 (nI (opn + 1)) Mc) (gX7f f 2 Mm)) (hP : m ≠ 0 → ∀ (a : Nat) (us : List Nat) (es : List Int32) (Mc Mm : fxMem), RS A B S ns nb T a (opn + 1) us es Mc Mm → OKx A B S ns nb T a (opn + 1) us es (2 * m + 1) (gX2 f 0 (nI (opn + 1)) Mc) (gX7f f 0 Mm)) (hR : RS A B S ns nb T a opn us es Mc Mm) : OKx A B S ns nb T a opn us es (1 + 2 * m) (gX2 (f + 1) 2 (nI opn) Mc) (gX7f (f + 1) 2 Mm) := by
  have hC := hR.1
  have hM := hR.2.1
  have a4 := hC.2.2.2.1
  have h8 := hR.2.2.2.1.2.1
  rw [gX2, gX7f, ie (show ¬ (2 : Nat) = 0 by decide), ie (show ¬ (2 : Nat) = 0 by decide), ie (show ¬ (2 : Nat) = 1 by decide), ie (show ¬ (2 : Nat) = 1 by decide), BX2_readFactor, BX7_factor, it hM.2.2.1, hM.he, bs]
  have c33 : (hr7 T nb a = (33 : Int32)) ↔ cur T nb a = 33 := hr_c hM.t (ch := 33) (by decide)
  have c40 : (hr7 T nb a = (40 : Int32)) ↔ cur T nb a = 40 := hr_c hM.t (ch := 40) (by decide)
  cases m with
  | zero =>
    have ho : opn = 5 := by omega
    subst ho
    rw [it (show (5 : Int32) ≤ nI 5 by decide), CX2_readFactor_J36, it (show (5 : Int32) ≤ nI 5 by decide)]
    by_cases z : cur T nb a = 33 ∨ cur T nb a = 40
    · -- the reference fails at the sign
      have hx : iLt (cur T nb a) = none := by rcases z with z | z <;> rw [z] <;> rfl
      have et : CX2_readTest Mc = some (0, Mc) := by
        rw [CX2_readTest, tk6 hC (by decide) kLt (fun t q z => by have := iLt_b t q z; omega) rfl, bs, hx, show nx iLt T nb a = a from by unfold nx; rw [hx]; rfl, at6_s hC.2.1]
        rfl
      have ej : ∀ x, ∃ M', CX7_factor_J25 (fun t M => gX7f f t M) x Mm = some M' ∧ FM (fl Mm) M' := by
        intro x
        obtain ⟨f', rfl⟩ : ∃ f', f = f' + 3 := ⟨f - 3, by omega⟩
        have hfl : (fx_st (fx_st (fx_st Mm 0 7 1) 0 8 (nI 5 + 1)) 0 5 (Mm 0 5 + 0)) 0 7 = 1 := by rw [mm_col (by decide), mm_col (by decide), mm_same]
        have hFM : FM (fl Mm) (fx_st (fx_st (fx_st Mm 0 7 1) 0 8 (nI 5 + 1)) 0 5 (Mm 0 5 + 0)) := ⟨by rw [mm_same, Int32.add_zero]; exact (mm_col (by decide) _ _ _).symm, hfl, fun k hk => by rw [mm_row hk, mm_row hk]; rfl, fun j z1 z2 z3 => by rw [mm_col z1, mm_col z3]; rfl⟩
        rw [CX7_factor_J25, h8, it (show nI 5 = (5 : Int32) from rfl), fx_lt, fx_lt, mm_col (show 8 ≠ 7 by decide), h8, mm_col (show 7 ≠ 8 by decide), mm_same, ie one_ne, mm_col (show 5 ≠ 8 by decide), mm_col (show 5 ≠ 7 by decide)]
        by_cases zx : x = 33
        · rw [it zx, fc_f (d := f' + 2) hfl, bs, em_f _ hfl, bs, CX7_factor_J101]
          exact ⟨_, rfl, ⟨by rw [mm_col (by decide)]; exact hFM.1, by rw [mm_col (by decide)]; exact hfl, fun k hk => by rw [mm_row hk]; exact hFM.2.2.1 k hk, fun j z1 z2 z3 => by rw [mm_col z3]; exact hFM.2.2.2 j z1 z2 z3⟩⟩
        · obtain ⟨M2, g1, g2⟩ := ms_f (41 : Int32) hfl
          rw [ie zx, so_f (d := f') hfl, bs, g1, bs, CX7_factor_J101]
          have g3 := hFM.tr g2
          exact ⟨_, rfl, ⟨by rw [mm_col (by decide)]; exact g3.1, by rw [mm_col (by decide)]; exact g3.2.1, fun k hk => by rw [mm_row hk]; exact g3.2.2.1 k hk, fun j z1 z2 z3 => by rw [mm_col z3]; exact g3.2.2.2 j z1 z2 z3⟩⟩
      obtain ⟨M', e1, e2⟩ := ej (hr7 T nb a)
      refine j75 (Or.inr ⟨Mc, M', a, et, ?_, hR.fail e2⟩)
      dsimp only
      by_cases z33 : cur T nb a = 33
      · rw [it (c33.mpr z33)]; exact e1
      · rw [ie (fun q => z33 (c33.mp q)), it (c40.mpr (by omega))]; exact e1
    · dsimp only
      rw [ie (fun q => z (Or.inl (c33.mp q))), ie (fun q => z (Or.inr (c40.mp q)))]
      exact j75 ((tst2 hR hS hns hS16 hS60).mono (by omega))
  | succ m =>
    have h5 : ¬ (5 : Int32) ≤ nI opn := nI_ge (b := 5) (by omega) (by decide)
    have h5' : ¬ nI opn = (5 : Int32) := fun z => by have := (nI_eq (b := 5) (by omega) (by decide)).mp z; omega
    rw [ie h5, on6 hC (by decide) kNo (by decide), bs]
    by_cases z33 : cur T nb a = 33
    · have ha := cur_lt (T := T) (nb := nb) (a := a) (by omega)
      have h1 := (hR.op (opn + 1)).go (b := a + 1) ⟨hS16.1, hS16.2.1⟩ (by omega) (by omega)
      rw [it z33]
      dsimp only
      rw [ie one_ne, it (c33.mpr z33), CX7_factor_J25, h8, ie h5', f70 hM.2.2.1, fx_lt, h8, fx_lt, n1 opn, it (c33.mpr z33), mm_col (show 7 ≠ 8 by decide), hM.2.2.1, it rfl, mm_col (show 5 ≠ 8 by decide), hM.1, n1 a, show fx_st (fx_st Mm 0 8 (nI (opn + 1))) 0 5 (nI (a + 1)) = at7 (fx_st Mm 0 8 (nI (opn + 1))) (a + 1) from rfl]
      rcases hN (by omega) _ _ _ _ _ h1 with ⟨Mc1, Mm1, a', ops2, e1, e2, e3, e4, e5, e6, e7⟩ | ⟨Mc1, Mm1, a', e1, e2, e3⟩
      · have lu := hR.2.2.2.2.1
        obtain ⟨Mc2, Mm2, w1, w2, w3⟩ := wr (o := 1500) e3 hS hns (by rw [List.length_append]; omega) (by rw [List.length_append, List.length_map]; omega) hS16
        have w1' : CX3_write S (-1) Mc1 = some Mc2 := w1
        have w2' : CX7_emits (-1) Mm1 = some Mm2 := w2
        rw [e1, bs, e2, bs]
        simp only [one_ne, if_false, e3.1.1, nI_clamp (show S < 2 ^ 31 by omega), hS, if_true]
        rw [w1', bs, w2', bs, CX7_factor_J101, w3.2.2.2.1.2.1, nI_pred]
        have w4 := w3.op opn
        rw [List.append_assoc, List.append_assoc] at w4
        refine Or.inl ⟨Mc2, _, a', ops2 ++ [1500], rfl, rfl, ?_, by rw [List.length_append, List.length_singleton]; omega, by omega, fun d r hd => ?_, fun o h' => ?_⟩
        · rw [List.map_append]; exact w4
        · rw [List.append_assoc, e6 _ _ (by omega)]
          show dpt (1500 :: r) (d + 1) = _
          rw [dpt, ie (by decide), it rfl, it (by omega)]
        · rcases List.mem_append.mp h' with h' | h'
          · exact e7 o h'
          · rw [List.mem_singleton.mp h']; decide
      · rw [e1, bs, e2, bs]
        dsimp only
        rw [it rfl, em_f _ e3.2.2.1.2.2, bs, CX7_factor_J101]
        exact Or.inr ⟨Mc1, _, a', rfl, rfl, e3.op _⟩
    · rw [ie z33]
      dsimp only
      rw [it rfl, CX2_readFactor_J36, ie h5, on6 hC (by decide) kOp (by decide), bs, ie (fun q => z33 (c33.mp q))]
      by_cases z40 : cur T nb a = 40
      · have ha := cur_lt (T := T) (nb := nb) (a := a) (by omega)
        have h1 := (hR.op (opn + 1)).go (b := a + 1) ⟨hS16.1, hS16.2.1⟩ (by omega) (by omega)
        rw [it z40]
        dsimp only
        rw [ie one_ne, it (c40.mpr z40), CX7_factor_J25, h8, ie h5', f70 hM.2.2.1, fx_lt, h8, fx_lt, n1 opn, ie (fun q => z33 (c33.mp q)), mm_col (show 7 ≠ 8 by decide), hM.2.2.1, it rfl, mm_col (show 5 ≠ 8 by decide), hM.1, n1 a, show fx_st (fx_st Mm 0 8 (nI (opn + 1))) 0 5 (nI (a + 1)) = at7 (fx_st Mm 0 8 (nI (opn + 1))) (a + 1) from rfl]
        rcases hP (by omega) _ _ _ _ _ h1 with ⟨Mc1, Mm1, a', ops2, e1, e2, e3, e4, e5, e6, e7⟩ | ⟨Mc1, Mm1, a', e1, e2, e3⟩
        · rw [e1, bs, e2, bs]
          dsimp only
          rw [ie one_ne, on6 e3.1 (by decide) kCl (by decide), bs, show (41 : Int32) = nI 41 from rfl, ms7 e3.2.1 (by decide), bs, f70 e3.2.1.2.2.1, CX7_factor_J101]
          by_cases z41 : cur T nb a' = 41
          · have ha' := cur_lt (T := T) (nb := nb) (a := a') (by omega)
            rw [it z41, it z41]
            have e9 := (e3.go (b := a' + 1) ⟨hS16.1, hS16.2.1⟩ (by omega) (by omega))
            have e10 := e9.op opn
            dsimp only
            rw [ie one_ne, e9.2.2.2.1.2.1, nI_pred]
            exact Or.inl ⟨_, _, a' + 1, ops2, rfl, rfl, e10, by omega, by omega, e6.mono (by omega), e7⟩
          · rw [ie z41, ie z41]
            dsimp only
            rw [it rfl]
            refine Or.inr ⟨Mc1, _, a', rfl, rfl, (e3.fail (Mm' := at7 (fl Mm1) a') ⟨?_, ?_, ?_, ?_⟩).op _⟩
            · unfold at7 fl; rw [mm_same, mm_col (by decide)]; exact e3.2.1.1.symm
            · unfold at7 fl; rw [mm_col (by decide), mm_same]
            · intro k hk; unfold at7; exact mm_row hk _ _ _
            · intro j z1 z2 z3; unfold at7; exact mm_col z1 _ _ _
        · rw [e1, bs, e2, bs]
          dsimp only
          obtain ⟨M2, g1, g2⟩ := ms_f (41 : Int32) e3.2.2.1.2.2
          rw [it rfl, g1, bs, CX7_factor_J101]
          exact Or.inr ⟨Mc1, _, a', rfl, rfl, (e3.fm g2).op _⟩
      · rw [ie z40]
        dsimp only
        rw [it rfl, ie (fun q => z40 (c40.mp q))]
        exact j75 ((tst2 hR hS hns hS16 hS60).mono (by omega))
