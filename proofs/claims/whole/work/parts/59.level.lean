/-! by the number of open signs -/
def LV (A B : fxMem) (S ns nb : Nat) (T : Nat → Nat) (m : Nat) : Prop := ∀ opn, opn + m = 5 → ∀ d a us es Mc Mm, RS A B S ns nb T a opn us es Mc Mm → OKx A B S ns nb T a opn us es (1 + 2 * m) (gX2 (d + 3 * m + 4) 2 (nI opn) Mc) (gX7f (d + 3 * m + 4) 2 Mm) ∧ OKx A B S ns nb T a opn us es (2 + 2 * m) (gX2 (d + 3 * m + 5) 1 (nI opn) Mc) (gX7f (d + 3 * m + 5) 1 Mm) ∧ OKx A B S ns nb T a opn us es (3 + 2 * m) (gX2 (d + 3 * m + 6) 0 (nI opn) Mc) (gX7f (d + 3 * m + 6) 0 Mm)
theorem bo2 {A B : fxMem} {S ns nb a opn h f : Nat} {T : Nat → Nat} {us : List Nat} {es : List Int32} {Mc Mm : fxMem} (hS : fx_isSh S = true) (hns : ns < 5) (hS16 : S ≠ 16 ∧ S + 5 ≠ 16 ∧ 7 < S) (hS60 : S < 60) (hF : ∀ (a : Nat) (us : List Nat) (es : List Int32) (Mc Mm : fxMem), RS A B S ns nb T a opn us es Mc Mm → OKx A B S ns nb T a opn us es h (gX2 f 2 (nI opn) Mc) (gX7f f 2 Mm)) (hR : RS A B S ns nb T a opn us es Mc Mm) : OKx A B S ns nb T a opn us es (h + 1) (gX2 (f + 1) 1 (nI opn) Mc) (gX7f (f + 1) 1 Mm) := by
  rw [gX2, gX7f, ie (show ¬ (1 : Nat) = 0 by decide), ie (show ¬ (1 : Nat) = 0 by decide), it (show (1 : Nat) = 1 from rfl), it (show (1 : Nat) = 1 from rfl), BX2_readBoth, BX7_every]
  rcases hF _ _ _ _ _ hR with ⟨Mc1, Mm1, a', ops, e1, e2, e3, e4, e5, e6, e7⟩ | ⟨Mc1, Mm1, a', e1, e2, e3⟩
  · rw [e1, bs, e2, bs]
    dsimp only
    rw [ie one_ne]
    have hn := e3.1.2.2.2.2.1
    exact bo_L (rc := fun t a0 M => gX2 f t a0 M) (rm := fun t M => gX7f f t M) hS hns hS16 hS60 hF 1000 0 a' ops Mc1 Mm1 (by omega) (by omega) e3 e4 e5 (e6.mono (by omega)) e7
  · rw [e1, bs, e2, bs]
    dsimp only
    rw [it rfl, CX7_every_L4, e3.2.2.1.2.2, ie one_ne]
    exact Or.inr ⟨Mc1, Mm1, a', rfl, rfl, e3⟩
theorem ei2 {A B : fxMem} {S ns nb a opn h f : Nat} {T : Nat → Nat} {us : List Nat} {es : List Int32} {Mc Mm : fxMem} (hS : fx_isSh S = true) (hns : ns < 5) (hS16 : S ≠ 16 ∧ S + 5 ≠ 16 ∧ 7 < S) (hS60 : S < 60) (hF : ∀ (a : Nat) (us : List Nat) (es : List Int32) (Mc Mm : fxMem), RS A B S ns nb T a opn us es Mc Mm → OKx A B S ns nb T a opn us es h (gX2 f 1 (nI opn) Mc) (gX7f f 1 Mm)) (hR : RS A B S ns nb T a opn us es Mc Mm) : OKx A B S ns nb T a opn us es (h + 1) (gX2 (f + 1) 0 (nI opn) Mc) (gX7f (f + 1) 0 Mm) := by
  rw [gX2, gX7f, it (show (0 : Nat) = 0 from rfl), it (show (0 : Nat) = 0 from rfl), BX2_readEither, BX7_some]
  rcases hF _ _ _ _ _ hR with ⟨Mc1, Mm1, a', ops, e1, e2, e3, e4, e5, e6, e7⟩ | ⟨Mc1, Mm1, a', e1, e2, e3⟩
  · rw [e1, bs, e2, bs]
    dsimp only
    rw [ie one_ne]
    have hn := e3.1.2.2.2.2.1
    exact ei_L (rc := fun t a0 M => gX2 f t a0 M) (rm := fun t M => gX7f f t M) hS hns hS16 hS60 hF 1000 0 a' ops Mc1 Mm1 (by omega) (by omega) e3 e4 e5 (e6.mono (by omega)) e7
  · rw [e1, bs, e2, bs]
    dsimp only
    rw [it rfl, CX7_some_L4, e3.2.2.1.2.2, ie one_ne]
    exact Or.inr ⟨Mc1, Mm1, a', rfl, rfl, e3⟩
theorem lev {A B : fxMem} {S ns nb : Nat} {T : Nat → Nat} (hS : fx_isSh S = true) (hns : ns < 5) (hS16 : S ≠ 16 ∧ S + 5 ≠ 16 ∧ 7 < S) (hS60 : S < 60) : ∀ m, LV A B S ns nb T m
  | 0 => fun opn ho d a us es Mc Mm hR => by
    have F : ∀ a us es Mc Mm, RS A B S ns nb T a opn us es Mc Mm → OKx A B S ns nb T a opn us es (1 + 2 * 0) (gX2 (d + 3 * 0 + 4) 2 (nI opn) Mc) (gX7f (d + 3 * 0 + 4) 2 Mm) := fun a us es Mc Mm h => fac (m := 0) (f := d + 3 * 0 + 3) hS hns hS16 hS60 ho (by omega) (fun z => absurd rfl z) (fun z => absurd rfl z) h
    have Bo : ∀ a us es Mc Mm, RS A B S ns nb T a opn us es Mc Mm → OKx A B S ns nb T a opn us es (2 + 2 * 0) (gX2 (d + 3 * 0 + 5) 1 (nI opn) Mc) (gX7f (d + 3 * 0 + 5) 1 Mm) := fun a us es Mc Mm h => (bo2 hS hns hS16 hS60 F h).mono (by omega)
    exact ⟨F _ _ _ _ _ hR, Bo _ _ _ _ _ hR, (ei2 hS hns hS16 hS60 Bo hR).mono (by omega)⟩
  | m + 1 => fun opn ho d a us es Mc Mm hR => by
    have IH := lev (A := A) (B := B) (nb := nb) (T := T) hS hns hS16 hS60 m (opn + 1) (by omega)
    have F : ∀ a us es Mc Mm, RS A B S ns nb T a opn us es Mc Mm → OKx A B S ns nb T a opn us es (1 + 2 * (m + 1)) (gX2 (d + 3 * (m + 1) + 4) 2 (nI opn) Mc) (gX7f (d + 3 * (m + 1) + 4) 2 Mm) := fun a us es Mc Mm h => by
      refine fac (m := m + 1) (f := d + 3 * (m + 1) + 3) hS hns hS16 hS60 ho (by omega) (fun _ a us es Mc Mm h => ?_) (fun _ a us es Mc Mm h => ?_) h
      · have := (IH (d + 2) a us es Mc Mm h).1
        rw [show d + 2 + 3 * m + 4 = d + 3 * (m + 1) + 3 by omega] at this
        exact this.mono (by omega)
      · have := (IH d a us es Mc Mm h).2.2
        rw [show d + 3 * m + 6 = d + 3 * (m + 1) + 3 by omega] at this
        exact this.mono (by omega)
    have Bo : ∀ a us es Mc Mm, RS A B S ns nb T a opn us es Mc Mm → OKx A B S ns nb T a opn us es (2 + 2 * (m + 1)) (gX2 (d + 3 * (m + 1) + 5) 1 (nI opn) Mc) (gX7f (d + 3 * (m + 1) + 5) 1 Mm) := fun a us es Mc Mm h => (bo2 hS hns hS16 hS60 F h).mono (by omega)
    exact ⟨F _ _ _ _ _ hR, Bo _ _ _ _ _ hR, (ei2 hS hns hS16 hS60 Bo hR).mono (by omega)⟩
/-- E whole -/
theorem readE {A B : fxMem} {S ns nb a : Nat} {T : Nat → Nat} {us : List Nat} {es : List Int32} {Mc Mm : fxMem} (hS : fx_isSh S = true) (hns : ns < 5) (hS16 : S ≠ 16 ∧ S + 5 ≠ 16 ∧ 7 < S) (hS60 : S < 60) (hR : RS A B S ns nb T a 0 us es Mc Mm) : OKx A B S ns nb T a 0 us es 13 (CX2_readEither 0 Mc) (CX7_some Mm) := by
  rw [CX2_readEither, CX7_some]
  exact (lev hS hns hS16 hS60 5 0 rfl 19 a us es Mc Mm hR).2.2
