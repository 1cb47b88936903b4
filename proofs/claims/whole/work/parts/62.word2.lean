/-! a word, both readers -/
theorem bsome {α : Type} (X : Option α) : (Option.bind X fun q => some q) = X := by cases X <;> rfl
theorem lgs_eq {T : Nat → Nat} {nb a w0 : Nat} (hw : w0 < 5) (hv : ∀ v, v < 5 → v ≠ w0 → mt T nb (wL v) a ≤ mt T nb (wL w0) a) : lgs T nb a 5 = mt T nb (wL w0) a := by
  have h : ∀ i, i ≤ 5 → lgs T nb a i ≤ mt T nb (wL w0) a ∧ (w0 < i → mt T nb (wL w0) a ≤ lgs T nb a i) := by
    intro i
    induction i with
    | zero => intro _; exact ⟨Nat.zero_le _, fun z => absurd z (Nat.not_lt_zero _)⟩
    | succ i ih =>
      intro hi
      obtain ⟨h1, h2⟩ := ih (by omega)
      rw [lgs]
      by_cases e : i = w0
      · subst e; exact ⟨Nat.max_le.mpr ⟨h1, Nat.le_refl _⟩, fun _ => Nat.le_max_right _ _⟩
      · have := hv i (by omega) e
        exact ⟨Nat.max_le.mpr ⟨h1, this⟩, fun z => Nat.le_trans (h2 (by omega)) (Nat.le_max_left _ _)⟩
  have := h 5 (Nat.le_refl _)
  exact Nat.le_antisymm this.1 (this.2 hw)
theorem cls {M : fxMem} {S a nb w0 : Nat} {T : Nat → Nat} (h : CR M S a nb T) (hw : w0 < 5) (hv : ∀ v, v < 5 → v ≠ w0 → mt T nb (wL v) a ≤ mt T nb (wL w0) a ∧ mt T nb (wL v) a < (wL v).length) : CX2_readWord M = if mt T nb (wL w0) a = (wL w0).length then some (nI w0, at6 M (a + (wL w0).length)) else some (-1, at6 M (a + mt T nb (wL w0) a)) := by
  rcases rdw_L h 1000 0 (by omega) (by omega) with ⟨w, w1, w2, w3, w4, w5⟩ | ⟨w1, w2⟩
  · have e : w = w0 := by
      by_cases e : w = w0
      · exact e
      · have := (hv w w2 e).2; omega
    subst e
    rw [it w4]
    exact w5
  · rw [ie (w1 w0 (Nat.zero_le _) hw), ← lgs_eq hw (fun v a b => (hv v a b).1)]
    exact w2
/-- a word: both go on behind it, or both fail at the same place -/
def WR (T : Nat → Nat) (nb a : Nat) (Mc Mm : fxMem) : Prop := (∃ w b, w < 5 ∧ a + 1 < b ∧ b ≤ nb ∧ CX2_readWord Mc = some (nI w, at6 Mc (b - 1)) ∧ cur T nb (b - 1) = 32 ∧ CX7_clauseHere Mm = wK w (at7 Mm b)) ∨ ∃ p M', p ≤ nb ∧ a ≤ p ∧ (CX2_readWord Mc = some (-1, at6 Mc p) ∨ ∃ w, w < 5 ∧ CX2_readWord Mc = some (nI w, at6 Mc p) ∧ cur T nb p ≠ 32) ∧ CX7_clauseHere Mm = some M' ∧ FM (fl (at7 Mm p)) M'
theorem unify {Mc Mm : fxMem} {S a nb k x : Nat} {T : Nat → Nat} {tl : List Nat} (hC : CR Mc S a nb T) (hM : MR Mm a nb T) (hx : x ∈ [16, 19, 20, 21, 22]) (hw : (sL x).1 < 5) (hv : ∀ v, v < 5 → v ≠ (sL x).1 → mt T nb (wL v) a ≤ mt T nb (wL (sL x).1) a ∧ mt T nb (wL v) a < (wL v).length) (hk : a + k ≤ nb) (e1 : mt T nb (wL (sL x).1) a = k + mt T nb tl (a + k)) (e2 : (sL x).2 = tl ++ [32]) (e3 : (wL (sL x).1).length = k + tl.length) (hl : 1 ≤ (wL (sL x).1).length) (htl : ∀ c ∈ tl, c < 900) (em : CX7_clauseHere Mm = Option.bind (CX7_spells (1000 + x) (at7 Mm (a + k))) (wK (sL x).1)) : WR T nb a Mc Mm := by
  have hc := cls hC hw hv
  have hM1 := hM.go hk
  have hle := mt_le (T := T) (nb := nb) tl (a + k)
  have hnb := mt_nb (T := T) (nb := nb) tl (a + k) htl hk
  have ma := mt_app (T := T) (nb := nb) (c := 32) tl (a + k)
  rw [← e2] at ma
  have el : (sL x).2.length = tl.length + 1 := by rw [e2]; simp
  rcases spK (T := T) hx hM1 with ⟨q1, q2⟩ | ⟨q1, M', q2, q3⟩
  · rw [el] at q1 q2
    rw [at7_2] at q2
    rw [q1] at ma
    by_cases z : mt T nb tl (a + k) = tl.length
    · rw [it z] at ma
      have z2 : cur T nb (a + k + tl.length) = 32 := by
        by_cases z2 : cur T nb (a + k + tl.length) = 32
        · exact z2
        · rw [ie z2] at ma; omega
      have hb := cur_lt (T := T) (nb := nb) (a := a + k + tl.length) (by omega)
      rw [it (by omega)] at hc
      refine Or.inl ⟨(sL x).1, a + k + (tl.length + 1), hw, by omega, by omega, ?_, ?_, by rw [em, q2]⟩
      · rw [hc, e3, show a + k + (tl.length + 1) - 1 = a + (k + tl.length) by omega]
      · rw [show a + k + (tl.length + 1) - 1 = a + k + tl.length by omega]; exact z2
    · rw [ie z] at ma; omega
  · rw [at7_2] at q3
    by_cases z : mt T nb tl (a + k) = tl.length
    · rw [it z] at ma
      have z2 : cur T nb (a + k + tl.length) ≠ 32 := fun z2 => by rw [it z2] at ma; omega
      rw [ie z2] at ma
      rw [it (by omega)] at hc
      refine Or.inr ⟨a + k + tl.length, M', by omega, by omega, Or.inr ⟨(sL x).1, hw, ?_, z2⟩, by rw [em, q2], ?_⟩
      · rw [hc, e3, show a + k + tl.length = a + (k + tl.length) by omega]
      · rw [ma] at q3; exact q3
    · rw [ie z] at ma
      rw [ie (by omega)] at hc
      refine Or.inr ⟨a + k + mt T nb tl (a + k), M', hnb, by omega, Or.inl ?_, by rw [em, q2], ?_⟩
      · rw [hc, e1, show a + k + mt T nb tl (a + k) = a + (k + mt T nb tl (a + k)) by omega]
      · rw [ma] at q3; exact q3
