/-! a clause, on both sides -/
def CST (A B : fxMem) (S ns nb : Nat) (T : Nat → Nat) (a : Nat) (cl : List Cls) (rc : Option (Int32 × fxMem)) (rm : Option fxMem) : Prop := (∃ Mc' Mm' a' q spd bt stp, rc = some (1, Mc') ∧ rm = some Mm' ∧ CLR A B S ns nb T a' (cl ++ [q]) spd bt stp Mc' Mm' ∧ a < a') ∨ ∃ Mc' Mm' p, rc = some (0, Mc') ∧ rm = some Mm' ∧ CLF A B S ns nb p Mc' Mm'
/-- the reference goes on failing behind a number that isn't one -/
theorem wK_n {w : Nat} {M : fxMem} {r : Int32} (h : CX7_figures M = some (r, fl M)) : ∃ M', wK w M = some M' ∧ FM (fl M) M' := by
  have hf : (fl M) 0 7 = 1 := mm_same _ _ _ _
  have hm : ∀ x, ∃ M', muchK x M = some M' ∧ FM (fl M) M' := by
    intro x
    obtain ⟨M2, g1, g2⟩ := ms_f (32 : Int32) hf
    refine ⟨M2, ?_, g2⟩
    rw [muchK, h, bs]
    dsimp only
    rw [g1, bs, CX7_some, so_f (d := 37) g2.2.1, bs, em_f _ g2.2.1, bs]
  have ht : ∀ x, ∃ M', tellK x M = some M' ∧ FM (fl M) M' := by
    intro x
    refine ⟨fl M, ?_, FM.rf hf⟩
    have hz : ¬ (fl M) 0 7 = (0 : Int32) := by rw [hf]; exact one_ne
    rw [tellK, h, bs, ie hz]
  match w with
  | 0 => exact hm _
  | 1 => exact hm _
  | 2 => exact ht _
  | 3 => exact ht _
  | n + 4 => exact ht _
theorem at_fl {M : fxMem} {c : Nat} (h : M 0 5 = nI c) : FM (fl M) (at7 (fl M) c) := by
  refine ⟨?_, ?_, ?_, ?_⟩
  · unfold at7 fl; rw [mm_same, mm_col (by decide)]; exact h.symm
  · unfold at7 fl; rw [mm_col (by decide), mm_same]
  · intro k hk; unfold at7; exact mm_row hk _ _ _
  · intro j z1 z2 z3; unfold at7; exact mm_col z1 _ _ _
/-- the class adds a clause -/
theorem j69 {M : fxMem} {S c w n : Nat} {x3 : Int32} (hS : fx_isSh S = true) (hS60 : S < 60) (h16 : M 16 1 = nI S) (h3 : M S 3 = nI c) (hc : c < 10) (hw : w < 5) (hn : n < 100) : CX2_readClause_J69 (nI w) (nI n) x3 M = some (1, adC M S c w n x3) := by
  rw [CX2_readClause_J69, h16, nI_clamp (by omega), it hS, ac6 hS h3 hc hw hn, bs]
  rfl
/-- loud, late: a blank and E behind the number -/
theorem muchS {A B : fxMem} {S ns nb a c spd bt stp w n : Nat} {T : Nat → Nat} {cl : List Cls} {Mc Mm N : fxMem} {x : Int32} (h : CLR A B S ns nb T a cl spd bt stp Mc Mm) (hS : fx_isSh S = true) (hns : ns < 5) (hS26 : 26 ≤ S) (hS60 : S < 60) (hl : cl.length < 10) (hw : w < 2) (hn : n < 100) (hx : x = if w = 0 then (-10 : Int32) else -200) (hac : a < c) (hcn : c ≤ nb) (hfg : CX7_figures N = some (nI n, at7 Mm c)) : CST A B S ns nb T a cl (CX2_readClause_J50 (nI w) (nI n) (nI (flC cl).length) (at6 Mc c)) (muchK x N) := by
  have hS16 : S ≠ 16 ∧ S + 5 ≠ 16 ∧ 7 < S := by omega
  have lu := h.2.2.2.2.1
  have h3 := h.2.2.2.2.2.1.1
  have hR := h.rs.go (b := c) ⟨hS16.1, hS16.2.1⟩ (by omega) hcn
  rw [CX2_readClause_J50, on6 hR.1 (by decide) kSp (by decide), bs, muchK, hfg, bs]
  dsimp only
  rw [show (32 : Int32) = nI 32 from rfl, ms7 hR.2.1 (by decide), bs, f70 hR.2.1.2.2.1]
  by_cases z : cur T nb c = 32
  · have hc := cur_lt (T := T) (nb := nb) (a := c) (by omega)
    have hR1 := h.rs.go (b := c + 1) ⟨hS16.1, hS16.2.1⟩ (by omega) hc
    rw [it z, it z, at6_2, at7_2]
    dsimp only
    rw [ie one_ne]
    rcases readE hS hns hS16 hS60 hR1 with ⟨Mc3, Mm3, a', ops, e1, e2, e3, e4, e5, e6, e7⟩ | ⟨Mc3, Mm3, a', e1, e2, e3⟩
    · obtain ⟨Mm4, g1, g2⟩ := em7 (x := x - nI n) e3 hns (by rw [List.length_append, List.length_map]; omega)
      rw [e1, bs, e2, bs, g1, bs]
      dsimp only
      rw [ie one_ne, j69 (c := cl.length) hS hS60 e3.1.1 (by rw [e3.2.2.2.2.2.1.2 3 (by decide)]; exact h3) hl (by omega) hn]
      have em : flM cl ++ ops.map opM ++ [x - nI n] = flM cl ++ mkM (w, n, ops) := by
        have : mkM (w, n, ops) = ops.map opM ++ [x - nI n] := by rw [hx]; exact it hw _ _
        rw [this, List.append_assoc]
      rw [em] at g2
      have hk := h.add g2 ⟨by show w < 5; omega, hn, fun _ => e6.one, fun q => absurd (show 2 ≤ w from q) (by omega), e7⟩ hns hS26 (by omega)
      have et : tom Mm4 ns w n = Mm4 := by unfold tom; rw [ie (by omega), ie (by omega), ie (by omega)]
      rw [et] at hk
      exact Or.inl ⟨_, _, a', (w, n, ops), _, _, _, rfl, rfl, hk, by omega⟩
    · rw [e1, bs, e2, bs, em_f _ e3.2.2.1.2.2, bs]
      dsimp only
      rw [it rfl]
      exact Or.inr ⟨_, _, a', rfl, rfl, h.bad e3⟩
  · rw [ie z, ie z]
    dsimp only
    have hf := at_fl hR.2.1.1
    rw [it rfl, CX7_some, so_f (d := 37) hf.2.1, bs, em_f _ hf.2.1, bs]
    exact Or.inr ⟨_, _, c, rfl, rfl, h.bad (hR.fail hf)⟩
/-- speed, beat, step: the number alone -/
theorem tellS {A B : fxMem} {S ns nb a c spd bt stp w n : Nat} {T : Nat → Nat} {cl : List Cls} {Mc Mm N : fxMem} {x : Int32} (h : CLR A B S ns nb T a cl spd bt stp Mc Mm) (hS : fx_isSh S = true) (hns : ns < 5) (hS26 : 26 ≤ S) (hS60 : S < 60) (hl : cl.length < 10) (hw : 2 ≤ w) (hw5 : w < 5) (hn : n < 100) (hx : x = nI (170 + 5 * w)) (hac : a < c) (hcn : c ≤ nb) (hfg : CX7_figures N = some (nI n, at7 Mm c)) : CST A B S ns nb T a cl (CX2_readClause_J69 (nI w) (nI n) (nI (flC cl).length) (at6 Mc c)) (tellK x N) := by
  have hS16 : S ≠ 16 ∧ S + 5 ≠ 16 ∧ 7 < S := by omega
  have h3 := h.2.2.2.2.2.1.1
  have hR := h.rs.go (b := c) ⟨hS16.1, hS16.2.1⟩ (by omega) hcn
  have h30 : (at6 Mc c) S 3 = nI cl.length := by unfold at6; rw [mm_row (by omega)]; exact h3
  rw [j69 (c := cl.length) hS hS60 hR.1.1 h30 hl hw5 hn, tellK, hfg, bs]
  show CST A B S ns nb T a cl _ (if (at7 Mm c) 0 7 = (0 : Int32) then if fx_in (x + ((at7 Mm c) 0 4)) 900 = true then some (fx_st (at7 Mm c) 1 (x + ((at7 Mm c) 0 4)).toNatClampNeg (nI n)) else none else some (at7 Mm c))
  rw [it hR.2.1.2.2.1, hR.2.2.2.1.1, hx, nI_add, it (gin (by omega) (by decide)), nI_clamp (by omega)]
  have e1 : flC cl ++ [] = flC cl := List.append_nil _
  have e2 : flM cl ++ mkM (w, n, []) = flM cl := by
    have : mkM (w, n, []) = [] := ie (show ¬ w < 2 by omega) _ _
    rw [this, List.append_nil]
  rw [← e1, ← e2] at hR
  have hk := h.add hR ⟨hw5, hn, fun q => absurd (show w < 2 from q) (by omega), fun _ => rfl, fun o ho => absurd ho (by simp)⟩ hns hS26 (by omega)
  have et : tom (at7 Mm c) ns w n = fx_st (at7 Mm c) 1 (170 + 5 * w + ns) (nI n) := by
    unfold tom
    by_cases z2 : w = 2
    · rw [it z2, z2]
    · rw [ie z2]
      by_cases z3 : w = 3
      · rw [it z3, z3]
      · rw [ie z3, it (by omega), show w = 4 by omega]
  rw [et] at hk
  exact Or.inl ⟨_, _, c, (w, n, []), _, _, _, rfl, rfl, hk, hac⟩
theorem clause2 {A B : fxMem} {S ns nb a spd bt stp : Nat} {T : Nat → Nat} {cl : List Cls} {Mc Mm : fxMem} (h : CLR A B S ns nb T a cl spd bt stp Mc Mm) (hS : fx_isSh S = true) (hns : ns < 5) (hS26 : 26 ≤ S) (hS60 : S < 60) (hl : cl.length < 10) : CST A B S ns nb T a cl (CX2_readClause Mc) (CX7_clauseHere Mm) := by
  have hS16 : S ≠ 16 ∧ S + 5 ≠ 16 ∧ 7 < S := by omega
  have h8 := h.2.2.1.1
  rcases wr2 h.1 h.2.1 with ⟨w, b, w1, w2, w3, w4, w5, w6⟩ | ⟨p, M', p1, p2, p3, p4, p5⟩
  · have hR := h.rs.go (b := b) ⟨hS16.1, hS16.2.1⟩ (by omega) w3
    have hC0 := h.1.go (b := b - 1) (by omega)
    have et : CX2_take (1000 + 6) (at6 Mc (b - 1)) = some (1, at6 Mc b) := by
      rw [on6 hC0 (by decide) kSp (by decide), it w5, at6_2, show b - 1 + 1 = b by omega]
    obtain ⟨r, fg⟩ := fg7 hR.2.1
    rw [CX2_readClause, w4, bs]
    dsimp only
    rw [ie (nIn w (by omega)), et, bs]
    dsimp only
    rw [ie one_ne, num6 hR.1, bs, w6]
    cases e : num T nb b with
    | none =>
      rw [e] at fg
      dsimp only at fg ⊢
      rw [it rfl]
      obtain ⟨M', g1, g2⟩ := wK_n (w := w) fg
      exact Or.inr ⟨_, M', b, rfl, g1, h.bad (hR.fail g2)⟩
    | some q =>
      obtain ⟨n, c⟩ := q
      obtain ⟨n1', n2, n3, n4⟩ := num_b e
      rw [e] at fg
      dsimp only at fg ⊢
      rw [f70 hR.2.1.2.2.1, at7_2] at fg
      have h16 : (at6 Mc c) 16 1 = nI S := by unfold at6; rw [mm_col (by decide)]; exact h.1.1
      have h88 : (at6 Mc c) S 8 = nI (flC cl).length := by unfold at6; rw [mm_row (by omega)]; exact h8
      rw [ie (nIn n (by omega))]
      simp only [at6_2, h16, nI_clamp (show S < 2 ^ 31 by omega), hS, if_true, h88]
      have b0 : (nI w = (0 : Int32)) ↔ w = 0 := kk (k := 0) (by omega) (by decide)
      have b1 : (nI w = (1 : Int32)) ↔ w = 1 := kk (k := 1) (by omega) (by decide)
      by_cases z0 : w = 0
      · subst z0
        rw [it (b0.mpr rfl)]
        exact muchS (x := -10) h hS hns hS26 hS60 hl (by decide) n1' rfl (by omega) n3 fg
      rw [ie (fun z => z0 (b0.mp z))]
      by_cases z1 : w = 1
      · subst z1
        rw [it (b1.mpr rfl)]
        exact muchS (x := -200) h hS hns hS26 hS60 hl (by decide) n1' rfl (by omega) n3 fg
      rw [ie (fun z => z1 (b1.mp z))]
      by_cases z2 : w = 2
      · subst z2
        exact tellS (x := 180) h hS hns hS26 hS60 hl (by decide) w1 n1' rfl (by omega) n3 fg
      by_cases z3 : w = 3
      · subst z3
        exact tellS (x := 185) h hS hns hS26 hS60 hl (by decide) w1 n1' rfl (by omega) n3 fg
      · have z4 : w = 4 := by omega
        subst z4
        exact tellS (x := 190) h hS hns hS26 hS60 hl (by decide) w1 n1' rfl (by omega) n3 fg
  · have hR := h.rs.go (b := p) ⟨hS16.1, hS16.2.1⟩ p2 p1
    have ec : CX2_readClause Mc = some (0, at6 Mc p) := by
      rcases p3 with p3 | ⟨w, q1, q2, q3⟩
      · rw [CX2_readClause, p3, bs]
        rfl
      · rw [CX2_readClause, q2, bs]
        dsimp only
        rw [ie (nIn w (by omega)), on6 hR.1 (by decide) kSp (by decide), bs, ie q3]
        rfl
    exact Or.inr ⟨_, M', p, ec, p4, h.bad (hR.fail p5)⟩
