/-! a test, on both sides -/
def fnd : List Nat → Nat → Nat → Option Nat
  | [], _, _ => none
  | c :: r, t, i => if t = c then some i else fnd r t (i + 1)
theorem am_L {M : fxMem} {a nb x : Nat} {T : Nat → Nat} (h : MR M a nb T) (hx : fx_isS x = true) : ∀ (r : List Nat) (n i : Nat), (∀ j c, r[j]? = some c → kx_c x (nI (i + j)) = nI c ∧ c < 900) → (kx_b (x - 1000)).length = i + r.length → i + r.length < 100 → r.length < n → CX7_among_L2 x n (nI i) M (fun _ M => some (-1, M)) = some (match fnd r (cur T nb a) i with
    | none => ((-1 : Int32), M)
    | some q => (nI q, at7 M (a + 1)))
  | r, 0, i, _, _, _, hn => absurd hn (Nat.not_lt_zero _)
  | [], n + 1, i, hc, hl, h1, hn => by
    have hl' : (kx_b (x - 1000)).length = i := hl
    rw [CX7_among_L2, it hx, kx_l, hl', it (Int32.le_refl _)]
    rfl
  | c :: r, n + 1, i, hc, hl, h1, hn => by
    rw [List.length_cons] at hl h1 hn
    obtain ⟨c1, c2⟩ := hc 0 c rfl
    rw [Nat.add_zero] at c1
    rw [CX7_among_L2, it hx, kx_l, hl, ie (nI_ge (by omega) (by omega)), h.he, bs, it (gin (by omega) (by omega)), c1]
    dsimp only
    rw [fnd]
    by_cases z : cur T nb a = c
    · rw [it ((hr_c h.t c2).mpr z), it z, h.1, n1]
      rfl
    · rw [ie (fun z2 => z ((hr_c h.t c2).mp z2)), ie z, n1 i]
      exact am_L h hx r n (i + 1) (fun j c' hj => by
        have := hc (j + 1) c' hj
        rw [show i + 1 + j = i + (j + 1) by omega]; exact this) (by omega) (by omega) (by omega)
theorem fLt (t : Nat) : fnd [112, 114, 99, 107, 118] t 0 = iLt t := rfl
theorem fSg (t : Nat) : fnd [60, 61, 62] t 0 = iSg t := by
  unfold fnd fnd fnd fnd iSg
  by_cases h0 : t = 60
  · subst h0; rfl
  · rw [ie h0]
    by_cases h1 : t = 61
    · subst h1; rfl
    · rw [ie h1]
      by_cases h2 : t = 62
      · subst h2; rfl
      · rw [ie h2, ie (by omega)]
theorem c17 : ∀ j, j < 5 → kx_c (1000 + 17) (nI (0 + j)) = nI ([112, 114, 99, 107, 118].getD j 0) := by decide +kernel
theorem c18 : ∀ j, j < 3 → kx_c (1000 + 18) (nI (0 + j)) = nI ([60, 61, 62].getD j 0) := by decide +kernel
theorem am17 {M : fxMem} {a nb : Nat} {T : Nat → Nat} (h : MR M a nb T) : CX7_among (1000 + 17) M = some (match iLt (cur T nb a) with
    | none => ((-1 : Int32), M)
    | some q => (nI q, at7 M (a + 1))) := by
  rw [CX7_among, ← fLt]
  refine am_L h (by decide) [112, 114, 99, 107, 118] 1000 0 (fun j c hj => ?_) (by decide) (by decide) (by decide)
  match j, hj with
  | 0, hj => exact ⟨by rw [c17 0 (by decide), ← Option.some.inj hj]; rfl, by rw [← Option.some.inj hj]; decide⟩
  | 1, hj => exact ⟨by rw [c17 1 (by decide), ← Option.some.inj hj]; rfl, by rw [← Option.some.inj hj]; decide⟩
  | 2, hj => exact ⟨by rw [c17 2 (by decide), ← Option.some.inj hj]; rfl, by rw [← Option.some.inj hj]; decide⟩
  | 3, hj => exact ⟨by rw [c17 3 (by decide), ← Option.some.inj hj]; rfl, by rw [← Option.some.inj hj]; decide⟩
  | 4, hj => exact ⟨by rw [c17 4 (by decide), ← Option.some.inj hj]; rfl, by rw [← Option.some.inj hj]; decide⟩
  | j + 5, hj => exact absurd hj (by simp)
theorem am18 {M : fxMem} {a nb : Nat} {T : Nat → Nat} (h : MR M a nb T) : CX7_among (1000 + 18) M = some (match iSg (cur T nb a) with
    | none => ((-1 : Int32), M)
    | some q => (nI q, at7 M (a + 1))) := by
  rw [CX7_among, ← fSg]
  refine am_L h (by decide) [60, 61, 62] 1000 0 (fun j c hj => ?_) (by decide) (by decide) (by decide)
  match j, hj with
  | 0, hj => exact ⟨by rw [c18 0 (by decide), ← Option.some.inj hj]; rfl, by rw [← Option.some.inj hj]; decide⟩
  | 1, hj => exact ⟨by rw [c18 1 (by decide), ← Option.some.inj hj]; rfl, by rw [← Option.some.inj hj]; decide⟩
  | 2, hj => exact ⟨by rw [c18 2 (by decide), ← Option.some.inj hj]; rfl, by rw [← Option.some.inj hj]; decide⟩
  | j + 3, hj => exact absurd hj (by simp)
theorem f70 {M : fxMem} (h : M 0 7 = 0) : fx_st M 0 7 0 = M := by
  funext k j
  by_cases hk : k = 0
  · subst hk
    by_cases hj : j = 7
    · subst hj; rw [mm_same]; exact h.symm
    · rw [mm_col hj]
  · rw [mm_row hk]
theorem RS.go {A B : fxMem} {S ns nb a b opn : Nat} {T : Nat → Nat} {us : List Nat} {es : List Int32} {Mc Mm : fxMem} (h : RS A B S ns nb T a opn us es Mc Mm) (hS : S ≠ 16 ∧ S + 5 ≠ 16) (hb : a ≤ b) (hn : b ≤ nb) : RS A B S ns nb T b opn us es (at6 Mc b) (at7 Mm b) := by
  obtain ⟨h1, h2, ⟨c1, c2⟩, ⟨d1, d2, d3, d4⟩, ⟨l1, l2⟩, ⟨f1, f2⟩, f3, f4, f5⟩ := h
  refine ⟨h1.go hn, h2.go hn, ?_, ?_, ⟨by omega, by omega⟩, ⟨fun k z1 z2 z3 => ?_, fun j hj => ?_⟩, fun k z1 z2 => ?_, fun j z1 z2 z3 => ?_, fun j z1 z2 => ?_⟩
  · unfold at6; rw [mm_row hS.1, mm_row hS.2]; exact ⟨c1, c2⟩
  · unfold at7; rw [mm_col (by decide), mm_col (by decide), mm_row (by decide)]; exact ⟨d1, d2, d3, d4⟩
  · unfold at6; rw [mm_row z1]; exact f1 k z1 z2 z3
  · unfold at6; rw [mm_row hS.1]; exact f2 j hj
  · unfold at7; rw [mm_row z1]; exact f3 k z1 z2
  · unfold at7; rw [mm_col z1]; exact f4 j z1 z2 z3
  · unfold at7; rw [mm_row (by decide)]; exact f5 j z1 z2
theorem RS.fail {A B : fxMem} {S ns nb a opn : Nat} {T : Nat → Nat} {us : List Nat} {es : List Int32} {Mc Mm Mm' : fxMem} (h : RS A B S ns nb T a opn us es Mc Mm) (hf : FM (fl Mm) Mm') : FS A B S ns nb a Mc Mm' := by
  obtain ⟨h1, h2, ⟨c1, c2⟩, ⟨d1, d2, d3, d4⟩, ⟨l1, l2⟩, ff, f3, f4, f5⟩ := h
  obtain ⟨g1, g2, g3, g4⟩ := hf
  unfold fl at g1 g3 g4
  refine ⟨h1.2.1, h1.2.2.2.1, ⟨by rw [g4 4 (by decide) (by decide) (by decide), mm_col (by decide)]; exact d1, by rw [g1, mm_col (by decide)]; exact h2.1, g2⟩, ff, fun k z1 z2 => by rw [g3 k z1, mm_row z1]; exact f3 k z1 z2, fun j z1 z2 z3 => by rw [g4 j z1 z2 z3, mm_col z2]; exact f4 j z1 z2 z3, fun j z1 z2 => by rw [g3 1 (by decide), mm_row (by decide)]; exact f5 j z1 z2⟩
def DP (ops : List Nat) (h : Nat) : Prop := ∀ d r, d + h ≤ 13 → dpt (ops ++ r) d = dpt r (d + 1)
def OKx (A B : fxMem) (S ns nb : Nat) (T : Nat → Nat) (a opn : Nat) (us : List Nat) (es : List Int32) (h : Nat) (rc : Option (Int32 × fxMem)) (rm : Option fxMem) : Prop := (∃ Mc Mm a' ops, rc = some (1, Mc) ∧ rm = some Mm ∧ RS A B S ns nb T a' opn (us ++ ops) (es ++ ops.map opM) Mc Mm ∧ ops.length + a ≤ a' ∧ a < a' ∧ DP ops h ∧ ∀ o ∈ ops, o < 1503) ∨ ∃ Mc Mm a', rc = some (0, Mc) ∧ rm = some Mm ∧ FS A B S ns nb a' Mc Mm
theorem cdT : ∀ l, l < 5 → ∀ s, s < 3 → ∀ n, n < 100 → ((nI l * (3 : Int32)) + nI s) * (100 : Int32) + nI n = opC ((l * 3 + s) * 100 + n) ∧ (nI l + (8 : Int32) * nI s) + (32 : Int32) * nI n = opM ((l * 3 + s) * 100 + n) := by decide +kernel
def tb7 (rec : Nat → fxMem → Option fxMem) (x : Int32) (M : fxMem) : Option fxMem := Option.bind (CX7_among (1000 + 17) M) fun q115 => fx_lt (fx_st q115.2 0 7 (if q115.1 = (-1 : Int32) then (1 : Int32) else (0 : Int32))) fun M134 => if M134 0 7 = (0 : Int32) then Option.bind (CX7_among (1000 + 18) M134) fun q147 => CX7_factor_J150 rec x q115.1 q147.1 q147.2 else CX7_factor_J150 rec x q115.1 (0 : Int32) M134
theorem j150_f {rec : Nat → fxMem → Option fxMem} {x y z : Int32} {M : fxMem} (h : M 0 7 = 1 ∨ (M 0 7 = 0 ∧ z = -1)) : ∃ M', CX7_factor_J150 rec x y z M = some M' ∧ FM (fl M) M' := by
  have e : (if M 0 7 = (0 : Int32) then (if z = (-1 : Int32) then (1 : Int32) else (0 : Int32)) else (1 : Int32)) = 1 := by
    rcases h with h | ⟨h1, h2⟩
    · rw [h, ie one_ne]
    · rw [h1, it rfl, it h2]
  rw [CX7_factor_J150, e]
  obtain ⟨r, M', e1, e2⟩ := fg_f (M := fx_st M 0 7 1) (mm_same _ _ _ _)
  exact ⟨M', by rw [e1, bs]; exact congrArg (fun q => Option.bind q fun q191 => some q191) (em_f _ e2.2.1), e2⟩
theorem tst2 {A B : fxMem} {S ns nb a opn : Nat} {T : Nat → Nat} {us : List Nat} {es : List Int32} {Mc Mm : fxMem} {rec : Nat → fxMem → Option fxMem} {x : Int32} (h : RS A B S ns nb T a opn us es Mc Mm) (hS : fx_isSh S = true) (hns : ns < 5) (hS16 : S ≠ 16 ∧ S + 5 ≠ 16 ∧ 7 < S) (hS60 : S < 60) : OKx A B S ns nb T a opn us es 1 (CX2_readTest Mc) (tb7 rec x Mm) := by
  have hC := h.1
  have hM := h.2.1
  rw [CX2_readTest, tb7, tk6 hC (by decide) kLt (fun t q z => by have := iLt_b t q z; omega) rfl, bs, am17 hM, bs]
  cases e1 : iLt (cur T nb a) with
  | none =>
    have en : nx iLt T nb a = a := by unfold nx; rw [e1]; rfl
    rw [en, at6_s hC.2.1]
    obtain ⟨M', f1, f2⟩ := j150_f (rec := rec) (x := x) (y := -1) (z := 0) (M := fl Mm) (Or.inl (mm_same _ _ _ _))
    refine Or.inr ⟨Mc, M', a, rfl, ?_, h.fail ⟨f2.1.trans (mm_col (by decide) _ _ _), f2.2.1, fun k hk => by rw [f2.2.2.1 k hk]; exact mm_row hk _ _ _, fun j z1 z2 z3 => by rw [f2.2.2.2 j z1 z2 z3]; exact mm_col z2 _ _ _⟩⟩
    show (if (fl Mm) 0 7 = (0 : Int32) then Option.bind (CX7_among (1000 + 18) (fl Mm)) fun q147 => CX7_factor_J150 rec x (-1) q147.1 q147.2 else CX7_factor_J150 rec x (-1) 0 (fl Mm)) = _
    rw [show (fl Mm) 0 7 = 1 from mm_same _ _ _ _, ie one_ne, f1]
  | some l =>
    have hl := iLt_b _ _ e1
    have ha := cur_some (I := iLt) rfl e1
    have en : nx iLt T nb a = a + 1 := by unfold nx; rw [e1]; rfl
    have h1 := h.go (b := a + 1) ⟨hS16.1, hS16.2.1⟩ (by omega) (by omega)
    have hC1 := h1.1
    have hM1 := h1.2.1
    rw [en]
    dsimp only
    rw [show oi (some l) = nI l from rfl, ie (nIn l (by omega)), tk6 hC1 (by decide) kSg (fun t q z => by have := iSg_b t q z; omega) rfl, bs, ie (nIn l (by omega)), f70 hM1.2.2.1, fx_lt, it hM1.2.2.1, am18 hM1, bs, at6_2]
    cases e2 : iSg (cur T nb (a + 1)) with
    | none =>
      have en2 : nx iSg T nb (a + 1) = a + 1 := by unfold nx; rw [e2]; rfl
      rw [en2]
      obtain ⟨M', f1, f2⟩ := j150_f (rec := rec) (x := x) (y := nI l) (z := -1) (M := at7 Mm (a + 1)) (Or.inr ⟨hM1.2.2.1, rfl⟩)
      exact Or.inr ⟨at6 Mc (a + 1), M', a + 1, rfl, f1, h1.fail f2⟩
    | some s =>
      have hs := iSg_b _ _ e2
      have ha2 := cur_some (I := iSg) rfl e2
      have en2 : nx iSg T nb (a + 1) = a + 2 := by unfold nx; rw [e2]; rfl
      have h2 := h.go (b := a + 2) ⟨hS16.1, hS16.2.1⟩ (by omega) (by omega)
      have hC2 := h2.1
      have hM2 := h2.2.1
      rw [en2, at7_2]
      dsimp only
      rw [show oi (some s) = nI s from rfl, ie (nIn s (by omega)), num6 hC2, bs, CX7_factor_J150, it hM2.2.2.1, ie (nIn s (by omega)), f70 hM2.2.2.1]
      obtain ⟨r, e3⟩ := fg7 hM2
      rw [e3, bs]
      cases e4 : num T nb (a + 2) with
      | none =>
        refine Or.inr ⟨at6 Mc (a + 2), fl (at7 Mm (a + 2)), a + 2, rfl, ?_, h2.fail (FM.rf (mm_same _ _ _ _))⟩
        exact congrArg (fun q => Option.bind q fun q191 => some q191) (em_f _ (mm_same _ _ _ _))
      | some q =>
        obtain ⟨n, b⟩ := q
        obtain ⟨n1', n2, n3, n4⟩ := num_b e4
        have h3 := h.go (b := b) ⟨hS16.1, hS16.2.1⟩ (by omega) (by omega)
        obtain ⟨cd1, cd2⟩ := cdT l hl s hs n n1'
        have lu := h.2.2.2.2.1
        obtain ⟨Mc', Mm', w1, w2, w3⟩ := wr (o := (l * 3 + s) * 100 + n) h3 hS hns (by omega) (by omega) hS16
        refine Or.inl ⟨Mc', Mm', b, [(l * 3 + s) * 100 + n], ?_, ?_, w3, by simp; omega, by omega, fun d r hd => ?_, fun o ho => by rw [List.mem_singleton.mp ho]; omega⟩
        · show (if nI n = (-1 : Int32) then _ else Option.bind (CX3_codeOfTest (nI l) (nI s) (nI n) (at6 (at6 Mc (a + 2)) b)) fun q47 => if fx_isSh (((at6 (at6 Mc (a + 2)) b) 16 1).toNatClampNeg) = true then Option.bind (CX3_write (((at6 (at6 Mc (a + 2)) b) 16 1).toNatClampNeg) q47.1 q47.2) fun q50 => some ((1 : Int32), q50) else none) = _
          rw [ie (nIn n (by omega)), at6_2, CX3_codeOfTest, bs, h3.1.1, nI_clamp (by omega), it hS, cd1, w1, bs]
        · show (Option.bind (CX7_emits ((nI l + (8 : Int32) * nI s) + (32 : Int32) * nI n) (at7 (fx_st (at7 Mm (a + 2)) 0 7 0) b)) fun q191 => some q191) = _
          rw [f70 hM2.2.2.1, at7_2, cd2, w2, bs]
        · show dpt (((l * 3 + s) * 100 + n) :: r) d = _
          rw [dpt, it (by omega), it (by omega)]
