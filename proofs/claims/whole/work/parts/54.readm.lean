/-! the reference's reader: signs and numbers -/
def MR (M : fxMem) (a nb : Nat) (T : Nat → Nat) : Prop := M 0 5 = nI a ∧ M 0 6 = nI nb ∧ M 0 7 = 0 ∧ a ≤ nb ∧ nb ≤ 120 ∧ ∀ i, i < nb → T i < 256 ∧ M 1 (10 + i) = nI (T i)
def at7 (M : fxMem) (a : Nat) : fxMem := fx_st M 0 5 (nI a)
theorem at7_2 (M : fxMem) (a b : Nat) : at7 (at7 M a) b = at7 M b := by
  funext k j
  unfold at7
  by_cases hk : k = 0
  · subst hk
    by_cases hj : j = 5
    · subst hj; rw [mm_same, mm_same]
    · rw [mm_col hj, mm_col hj, mm_col hj]
  · rw [mm_row hk, mm_row hk, mm_row hk]
def hr7 (T : Nat → Nat) (nb a : Nat) : Int32 := if a < nb then nI (T a) else -1
theorem he7 {M : fxMem} {a nb : Nat} {T : Nat → Nat} (h5 : M 0 5 = nI a) (h6 : M 0 6 = nI nb) (hn : nb ≤ 120) (ha : a ≤ nb) (ht : ∀ i, i < nb → T i < 256 ∧ M 1 (10 + i) = nI (T i)) : CX7_here M = some (hr7 T nb a, M) := by
  rw [CX7_here, h5, h6]
  unfold hr7
  by_cases z : a < nb
  · rw [ie (nI_ge z (by omega)), la10, it (gin (by omega) (by decide)), nI_clamp (by omega), (ht a z).2, it z]
  · rw [it (nI_le (by omega) (by omega)), ie z]
theorem MR.he {M : fxMem} {a nb : Nat} {T : Nat → Nat} (h : MR M a nb T) : CX7_here M = some (hr7 T nb a, M) := he7 h.1 h.2.1 h.2.2.2.2.1 h.2.2.2.1 h.2.2.2.2.2
theorem hr_c {T : Nat → Nat} {nb a ch : Nat} (ht : ∀ i, i < nb → T i < 256) (hc : ch < 900) : (hr7 T nb a = nI ch) ↔ cur T nb a = ch := by
  unfold hr7 cur
  by_cases z : a < nb
  · rw [it z, it z]
    exact nI_eq (by have := ht a z; omega) (by omega)
  · rw [ie z, ie z]
    constructor
    · intro e; exact absurd e.symm (nIn ch (by omega))
    · intro e; omega
theorem MR.go {M : fxMem} {a b nb : Nat} {T : Nat → Nat} (h : MR M a nb T) (hb : b ≤ nb) : MR (at7 M b) b nb T := by
  obtain ⟨h1, h2, h3, h4, h5, h6⟩ := h
  unfold at7
  exact ⟨mm_same _ _ _ _, by rw [mm_col (by decide)]; exact h2, by rw [mm_col (by decide)]; exact h3, hb, h5, by rw [mm_row (by decide)]; exact h6⟩
theorem MR.t {M : fxMem} {a nb : Nat} {T : Nat → Nat} (h : MR M a nb T) : ∀ i, i < nb → T i < 256 := fun i hi => (h.2.2.2.2.2 i hi).1
/-- failed -/
def fl (M : fxMem) : fxMem := fx_st M 0 7 1
theorem ms7 {M : fxMem} {a nb ch : Nat} {T : Nat → Nat} (h : MR M a nb T) (hc : ch < 900) : CX7_must (nI ch) M = some (if cur T nb a = ch then at7 (fx_st M 0 7 0) (a + 1) else at7 (fl M) a) := by
  obtain ⟨h1, h2, h3, h4, h5, h6⟩ := id h
  rw [CX7_must, it h3, h.he, bs]
  dsimp only
  rw [fx_lt]
  by_cases z : cur T nb a = ch
  · rw [it ((hr_c h.t hc).mpr z), it z, mm_same, it rfl, mm_col (by decide), h1, n1]
    rfl
  · rw [ie (fun z2 => z ((hr_c h.t hc).mp z2)), ie z, mm_same, ie (by decide), mm_col (by decide), h1, Int32.add_zero]
    rfl
theorem dg7 {T : Nat → Nat} {nb a : Nat} (ht : ∀ i, i < nb → T i < 256) (M : fxMem) : CX7_in (hr7 T nb a) 48 57 M = some ((if (iDg (cur T nb a)).isSome then 1 else 0), M) := by
  rw [CX7_in]
  unfold hr7 cur iDg
  by_cases z : a < nb
  · have := ht a z
    rw [it z, it z]
    by_cases z1 : T a < 48
    · rw [it (show nI (T a) < (48 : Int32) from nI_lt (b := 48) z1 (by decide)), ie (show ¬ (48 ≤ T a ∧ T a ≤ 57) by omega)]; rfl
    · rw [ie (show ¬ nI (T a) < (48 : Int32) from fun z2 => z1 ((nI_ltI (b := 48) (by omega) (by decide)).mp z2))]
      by_cases z3 : T a ≤ 57
      · rw [ie (show ¬ (57 : Int32) < nI (T a) from fun z2 => by have := (nI_ltI (a := 57) (by decide) (by omega)).mp z2; omega), it (show 48 ≤ T a ∧ T a ≤ 57 by omega)]; rfl
      · rw [it (show (57 : Int32) < nI (T a) from nI_lt (a := 57) (by omega) (by omega)), ie (show ¬ (48 ≤ T a ∧ T a ≤ 57) by omega)]; rfl
  · rw [ie z, ie z, it (by decide)]; rfl
theorem hr_d {T : Nat → Nat} {nb a d : Nat} (h : iDg (cur T nb a) = some d) : hr7 T nb a = nI (48 + d) ∧ a < nb := by
  have ha := cur_some (I := iDg) rfl h
  unfold hr7
  unfold cur at h
  rw [it ha] at h ⊢
  unfold iDg at h
  split at h
  · have := Option.some.inj h
    exact ⟨by congr 1; omega, ha⟩
  · exact absurd h (by simp)
theorem f48 : ∀ x, x < 10 → ∀ d, d < 10 → ((10 : Int32) * nI x + nI (48 + d)) - (48 : Int32) = nI (10 * x + d) := by decide +kernel
theorem f480 : ∀ d, d < 10 → ((10 : Int32) * 0 + nI (48 + d)) - (48 : Int32) = nI d := by decide +kernel
theorem fg7 {M : fxMem} {a nb : Nat} {T : Nat → Nat} (h : MR M a nb T) : ∃ r : Int32, CX7_figures M = some (match num T nb a with
    | none => (r, fl M)
    | some q => (nI q.1, at7 (fx_st M 0 7 0) q.2)) := by
  obtain ⟨h1, h2, h3, h4, h5, h6⟩ := id h
  rw [CX7_figures, it h3, h.he, bs]
  dsimp only
  rw [dg7 h.t, bs]
  unfold num
  cases e1 : iDg (cur T nb a) with
  | none =>
    refine ⟨0, ?_⟩
    show CX7_figures_L34 1000 0 0 (fx_st M 0 7 1) _ = _
    rw [CX7_figures_L34, ie (by decide), mm_same, ie (by decide)]
    rfl
  | some d =>
    have hd := iDg_b _ _ e1
    obtain ⟨q1, q2⟩ := hr_d e1
    refine ⟨0, ?_⟩
    show CX7_figures_L34 1000 0 0 (fx_st M 0 7 0) (fun y1 y2 M => some (y1, M)) = _
    have hM0 : MR (fx_st M 0 7 0) a nb T := ⟨by rw [mm_col (by decide)]; exact h1, by rw [mm_col (by decide)]; exact h2, mm_same _ _ _ _, h4, h5, by rw [mm_row (by decide)]; exact h6⟩
    rw [CX7_figures_L34, ie (by decide), it (mm_same _ _ _ _), hM0.he, bs]
    dsimp only
    rw [dg7 h.t, bs, e1]
    dsimp only
    rw [ie (show ¬ (if (some d).isSome = true then (1 : Int32) else 0) = 0 from (by decide : ¬ (1 : Int32) = 0)), it rfl, CX7_figures_J68, hM0.he, bs]
    dsimp only
    rw [q1, f480 d hd, hM0.1, n1]
    have hM1 : MR (at7 (fx_st M 0 7 0) (a + 1)) (a + 1) nb T := hM0.go (by omega)
    show CX7_figures_L34 999 (nI d) (nI 1) (at7 (fx_st M 0 7 0) (a + 1)) (fun y1 y2 M => some (y1, M)) = _
    rw [CX7_figures_L34, ie (by decide), it hM1.2.2.1, hM1.he, bs]
    dsimp only
    have hM2 : ∀ b, at7 (at7 (fx_st M 0 7 0) (a + 1)) b = at7 (fx_st M 0 7 0) b := fun b => at7_2 _ _ _
    rw [dg7 h.t, bs]
    by_cases z0 : d = 0
    · subst z0
      cases e2 : iDg (cur T nb (a + 1)) with
      | none => rfl
      | some e => rfl
    · cases e2 : iDg (cur T nb (a + 1)) with
      | none =>
        simp only [z0, if_false]
        rfl
      | some e =>
        have he := iDg_b _ _ e2
        obtain ⟨r1, r2⟩ := hr_d e2
        dsimp only
        rw [ie (show ¬ (if (some e).isSome = true then (1 : Int32) else 0) = 0 from (by decide : ¬ (1 : Int32) = 0)), ie (show ¬ nI 1 = (0 : Int32) by decide), ie (show ¬ nI d ≤ (0 : Int32) from nI_ge (a := 0) (by omega) (by omega)), CX7_figures_J68, hM1.he, bs]
        dsimp only
        rw [r1, f48 d hd e he, hM1.1, n1 (a + 1), n1 1]
        show CX7_figures_L34 998 (nI (10 * d + e)) (nI 2) (at7 (at7 (fx_st M 0 7 0) (a + 1)) (a + 2)) (fun y1 y2 M => some (y1, M)) = _
        rw [CX7_figures_L34, it (show (2 : Int32) ≤ nI 2 by decide), hM2, ie z0]
