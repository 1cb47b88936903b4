/-! both, either, factor: side by side -/
theorem bo_L {A B : fxMem} {S ns nb a0 opn h : Nat} {T : Nat → Nat} {us : List Nat} {es : List Int32} (hS : fx_isSh S = true) (hns : ns < 5) (hS16 : S ≠ 16 ∧ S + 5 ≠ 16 ∧ 7 < S) (hS60 : S < 60) {rc : Nat → Int32 → fxMem → Option (Int32 × fxMem)} {rm : Nat → fxMem → Option fxMem} (hF : ∀ (a : Nat) (us : List Nat) (es : List Int32) (Mc Mm : fxMem), RS A B S ns nb T a opn us es Mc Mm → OKx A B S ns nb T a opn us es h (rc 2 (nI opn) Mc) (rm 2 Mm)) : ∀ (n i a : Nat) (ops : List Nat) (Mc Mm : fxMem), nb - a < n → i < a → RS A B S ns nb T a opn (us ++ ops) (es ++ ops.map opM) Mc Mm → ops.length + a0 ≤ a → a0 < a → DP ops (h + 1) → (∀ o ∈ ops, o < 1503) → OKx A B S ns nb T a0 opn us es (h + 1) (CX2_readBoth_L12 rc (nI opn) n (nI i) Mc (fun _ M => some (1, M))) (CX7_every_L4 rm n Mm (fun M => some M))
  | 0, i, a, ops, Mc, Mm, hn, _, _, _, _, _, _ => absurd hn (Nat.not_lt_zero _)
  | n + 1, i, a, ops, Mc, Mm, hn, hi, hR, hl, h0, hD, ho => by
    have hC := hR.1
    have hM := hR.2.1
    have a4 := hC.2.2.2.1
    have a5 := hC.2.2.2.2.1
    rw [CX2_readBoth_L12, CX7_every_L4, ie (show ¬ (120 : Int32) ≤ nI i from nI_ge (b := 120) (by omega) (by decide)), it hM.2.2.1, on6 hC (by decide) kAn (by decide), bs, hM.he, bs]
    by_cases z : cur T nb a = 38
    · have ha := cur_lt (T := T) (nb := nb) (a := a) (by omega)
      have h1 := hR.go (b := a + 1) ⟨hS16.1, hS16.2.1⟩ (by omega) (by omega)
      rw [it z]
      dsimp only
      rw [ie one_ne, it (show hr7 T nb a = (38 : Int32) from (hr_c hM.t (ch := 38) (by decide)).mpr z), hM.1, n1 a, show fx_st Mm 0 5 (nI (a + 1)) = at7 Mm (a + 1) from rfl]
      rcases hF _ _ _ _ _ h1 with ⟨Mc1, Mm1, a', ops2, e1, e2, e3, e4, e5, e6, e7⟩ | ⟨Mc1, Mm1, a', e1, e2, e3⟩
      · have lu := hR.2.2.2.2.1
        have l1 : ((us ++ ops) ++ ops2).length < a' := by rw [List.length_append]; omega
        have l2 : ((es ++ ops.map opM) ++ ops2.map opM).length < a' := by rw [List.length_append, List.length_map]; omega
        obtain ⟨Mc2, Mm2, w1, w2, w3⟩ := wr (o := 1501) e3 hS hns l1 l2 hS16
        rw [e1, bs, e2, bs]
        dsimp only
        have w1' : CX3_write S (-2) Mc1 = some Mc2 := w1
        have w2' : CX7_emits (-2) Mm1 = some Mm2 := w2
        simp only [one_ne, if_false, e3.1.1, nI_clamp (show S < 2 ^ 31 by omega), hS, if_true]
        rw [w1', bs, w2', bs, n1 i]
        have eu : us ++ (ops ++ (ops2 ++ [1501])) = ((us ++ ops) ++ ops2) ++ [1501] := by simp [List.append_assoc]
        have ee : es ++ (ops ++ (ops2 ++ [1501])).map opM = ((es ++ ops.map opM) ++ ops2.map opM) ++ [opM 1501] := by simp [List.append_assoc]
        rw [← eu, ← ee] at w3
        refine bo_L hS hns hS16 hS60 hF n (i + 1) a' (ops ++ (ops2 ++ [1501])) Mc2 Mm2 (by omega) (by omega) w3 (by rw [List.length_append, List.length_append, List.length_singleton]; omega) (by omega) (fun d r hd => ?_) (fun o h' => ?_)
        · rw [List.append_assoc, hD _ _ hd, List.append_assoc, e6 _ _ (by omega)]
          show dpt (1501 :: r) (d + 1 + 1) = _
          rw [dpt, ie (by decide), ie (by decide), it (by omega)]
          rfl
        · rcases List.mem_append.mp h' with h' | h'
          · exact ho o h'
          · rcases List.mem_append.mp h' with h' | h'
            · exact e7 o h'
            · rw [List.mem_singleton.mp h']; decide
      · rw [e1, bs, e2, bs]
        dsimp only
        rw [it rfl, em_f _ e3.2.2.1.2.2, bs, show CX7_every_L4 rm n Mm1 (fun M => some M) = some Mm1 from ?_]
        · exact Or.inr ⟨Mc1, Mm1, a', rfl, rfl, e3⟩
        · cases n with
          | zero => omega
          | succ n => rw [CX7_every_L4, e3.2.2.1.2.2, ie one_ne]
    · rw [ie z]
      dsimp only
      rw [it rfl, ie (show ¬ hr7 T nb a = (38 : Int32) from fun z2 => z ((hr_c hM.t (ch := 38) (by decide)).mp z2))]
      exact Or.inl ⟨Mc, Mm, a, ops, rfl, rfl, hR, hl, h0, hD, ho⟩
theorem ei_L {A B : fxMem} {S ns nb a0 opn h : Nat} {T : Nat → Nat} {us : List Nat} {es : List Int32} (hS : fx_isSh S = true) (hns : ns < 5) (hS16 : S ≠ 16 ∧ S + 5 ≠ 16 ∧ 7 < S) (hS60 : S < 60) {rc : Nat → Int32 → fxMem → Option (Int32 × fxMem)} {rm : Nat → fxMem → Option fxMem} (hF : ∀ (a : Nat) (us : List Nat) (es : List Int32) (Mc Mm : fxMem), RS A B S ns nb T a opn us es Mc Mm → OKx A B S ns nb T a opn us es h (rc 1 (nI opn) Mc) (rm 1 Mm)) : ∀ (n i a : Nat) (ops : List Nat) (Mc Mm : fxMem), nb - a < n → i < a → RS A B S ns nb T a opn (us ++ ops) (es ++ ops.map opM) Mc Mm → ops.length + a0 ≤ a → a0 < a → DP ops (h + 1) → (∀ o ∈ ops, o < 1503) → OKx A B S ns nb T a0 opn us es (h + 1) (CX2_readEither_L12 rc (nI opn) n (nI i) Mc (fun _ M => some (1, M))) (CX7_some_L4 rm n Mm (fun M => some M))
  | 0, i, a, ops, Mc, Mm, hn, _, _, _, _, _, _ => absurd hn (Nat.not_lt_zero _)
  | n + 1, i, a, ops, Mc, Mm, hn, hi, hR, hl, h0, hD, ho => by
    have hC := hR.1
    have hM := hR.2.1
    have a4 := hC.2.2.2.1
    have a5 := hC.2.2.2.2.1
    rw [CX2_readEither_L12, CX7_some_L4, ie (show ¬ (120 : Int32) ≤ nI i from nI_ge (b := 120) (by omega) (by decide)), it hM.2.2.1, on6 hC (by decide) kOr (by decide), bs, hM.he, bs]
    by_cases z : cur T nb a = 124
    · have ha := cur_lt (T := T) (nb := nb) (a := a) (by omega)
      have h1 := hR.go (b := a + 1) ⟨hS16.1, hS16.2.1⟩ (by omega) (by omega)
      rw [it z]
      dsimp only
      rw [ie one_ne, it (show hr7 T nb a = (124 : Int32) from (hr_c hM.t (ch := 124) (by decide)).mpr z), hM.1, n1 a, show fx_st Mm 0 5 (nI (a + 1)) = at7 Mm (a + 1) from rfl]
      rcases hF _ _ _ _ _ h1 with ⟨Mc1, Mm1, a', ops2, e1, e2, e3, e4, e5, e6, e7⟩ | ⟨Mc1, Mm1, a', e1, e2, e3⟩
      · have lu := hR.2.2.2.2.1
        have l1 : ((us ++ ops) ++ ops2).length < a' := by rw [List.length_append]; omega
        have l2 : ((es ++ ops.map opM) ++ ops2.map opM).length < a' := by rw [List.length_append, List.length_map]; omega
        obtain ⟨Mc2, Mm2, w1, w2, w3⟩ := wr (o := 1502) e3 hS hns l1 l2 hS16
        rw [e1, bs, e2, bs]
        dsimp only
        have w1' : CX3_write S (-3) Mc1 = some Mc2 := w1
        have w2' : CX7_emits (-3) Mm1 = some Mm2 := w2
        simp only [one_ne, if_false, e3.1.1, nI_clamp (show S < 2 ^ 31 by omega), hS, if_true]
        rw [w1', bs, w2', bs, n1 i]
        have eu : us ++ (ops ++ (ops2 ++ [1502])) = ((us ++ ops) ++ ops2) ++ [1502] := by simp [List.append_assoc]
        have ee : es ++ (ops ++ (ops2 ++ [1502])).map opM = ((es ++ ops.map opM) ++ ops2.map opM) ++ [opM 1502] := by simp [List.append_assoc]
        rw [← eu, ← ee] at w3
        refine ei_L hS hns hS16 hS60 hF n (i + 1) a' (ops ++ (ops2 ++ [1502])) Mc2 Mm2 (by omega) (by omega) w3 (by rw [List.length_append, List.length_append, List.length_singleton]; omega) (by omega) (fun d r hd => ?_) (fun o h' => ?_)
        · rw [List.append_assoc, hD _ _ hd, List.append_assoc, e6 _ _ (by omega)]
          show dpt (1502 :: r) (d + 1 + 1) = _
          rw [dpt, ie (by decide), ie (by decide), it (by omega)]
          rfl
        · rcases List.mem_append.mp h' with h' | h'
          · exact ho o h'
          · rcases List.mem_append.mp h' with h' | h'
            · exact e7 o h'
            · rw [List.mem_singleton.mp h']; decide
      · rw [e1, bs, e2, bs]
        dsimp only
        rw [it rfl, em_f _ e3.2.2.1.2.2, bs, show CX7_some_L4 rm n Mm1 (fun M => some M) = some Mm1 from ?_]
        · exact Or.inr ⟨Mc1, Mm1, a', rfl, rfl, e3⟩
        · cases n with
          | zero => omega
          | succ n => rw [CX7_some_L4, e3.2.2.1.2.2, ie one_ne]
    · rw [ie z]
      dsimp only
      rw [it rfl, ie (show ¬ hr7 T nb a = (124 : Int32) from fun z2 => z ((hr_c hM.t (ch := 124) (by decide)).mp z2))]
      exact Or.inl ⟨Mc, Mm, a, ops, rfl, rfl, hR, hl, h0, hD, ho⟩
theorem RS.op {A B : fxMem} {S ns nb a opn : Nat} {T : Nat → Nat} {us : List Nat} {es : List Int32} {Mc Mm : fxMem} (h : RS A B S ns nb T a opn us es Mc Mm) (o' : Nat) : RS A B S ns nb T a o' us es Mc (fx_st Mm 0 8 (nI o')) := by
  obtain ⟨h1, ⟨b1, b2, b3, b4, b5, b6⟩, cc, ⟨d1, d2, d3, d4⟩, ll, ff, f3, f4, f5⟩ := h
  exact ⟨h1, ⟨by rw [mm_col (by decide)]; exact b1, by rw [mm_col (by decide)]; exact b2, by rw [mm_col (by decide)]; exact b3, b4, b5, by rw [mm_row (by decide)]; exact b6⟩, cc, ⟨by rw [mm_col (by decide)]; exact d1, mm_same _ _ _ _, by rw [mm_row (by decide)]; exact ⟨d3, d4⟩⟩, ll, ff, fun k z1 z2 => by rw [mm_row z1]; exact f3 k z1 z2, fun j z1 z2 z3 => by rw [mm_col z3]; exact f4 j z1 z2 z3, fun j z1 z2 => by rw [mm_row (by decide)]; exact f5 j z1 z2⟩
theorem FS.op {A B : fxMem} {S ns nb a : Nat} {Mc Mm : fxMem} (h : FS A B S ns nb a Mc Mm) (x : Int32) : FS A B S ns nb a Mc (fx_st Mm 0 8 x) := by
  obtain ⟨h1, h2, ⟨d1, d2, d3⟩, ff, f3, f4, f5⟩ := h
  exact ⟨h1, h2, ⟨by rw [mm_col (by decide)]; exact d1, by rw [mm_col (by decide)]; exact d2, by rw [mm_col (by decide)]; exact d3⟩, ff, fun k z1 z2 => by rw [mm_row z1]; exact f3 k z1 z2, fun j z1 z2 z3 => by rw [mm_col z3]; exact f4 j z1 z2 z3, fun j z1 z2 => by rw [mm_row (by decide)]; exact f5 j z1 z2⟩
theorem FS.fm {A B : fxMem} {S ns nb a : Nat} {Mc Mm Mm' : fxMem} (h : FS A B S ns nb a Mc Mm) (hf : FM Mm Mm') : FS A B S ns nb a Mc Mm' := by
  obtain ⟨h1, h2, ⟨d1, d2, d3⟩, ff, f3, f4, f5⟩ := h
  exact ⟨h1, h2, ⟨by rw [hf.2.2.2 4 (by decide) (by decide) (by decide)]; exact d1, hf.1.trans d2, hf.2.1⟩, ff, fun k z1 z2 => by rw [hf.2.2.1 k z1]; exact f3 k z1 z2, fun j z1 z2 z3 => by rw [hf.2.2.2 j z1 z2 z3]; exact f4 j z1 z2 z3, fun j z1 z2 => by rw [hf.2.2.1 1 (by decide)]; exact f5 j z1 z2⟩
