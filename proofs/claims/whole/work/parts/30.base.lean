/-! PURE PART. Base: memory, guards, small numbers -/
theorem mm_same (M : fxMem) (k j : Nat) (x : Int32) : fx_st M k j x k j = x := by simp [fx_st, fx_up, upd]
theorem mm_row {k k' : Nat} (h : k' ≠ k) (M : fxMem) (j : Nat) (x : Int32) : fx_st M k j x k' = M k' := by simp [fx_st, fx_up, h]
theorem mm_col {j j' : Nat} (h : j' ≠ j) (M : fxMem) (k : Nat) (x : Int32) : fx_st M k j x k j' = M k j' := by simp [fx_st, fx_up, upd, h]
theorem mm_r (M : fxMem) (k j : Nat) (x : Int32) : fx_st M k j x k = upd (M k) j x := by simp [fx_st, fx_up]
theorem gin {p n : Nat} (h : p < n) (hn : n < 2 ^ 31) : fx_in (nI p) n = true := by
  simp only [fx_in, Bool.and_eq_true, decide_eq_true_eq]
  exact ⟨nI_pos' (by omega), by rw [nI_clamp (by omega)]; exact h⟩
theorem la10 (p : Nat) : (10 : Int32) + nI p = nI (10 + p) := nI_add 10 p
theorem la130 (p : Nat) : (130 : Int32) + nI p = nI (130 + p) := nI_add 130 p
theorem la140 (p : Nat) : (140 : Int32) + nI p = nI (140 + p) := nI_add 140 p
theorem la150 (p : Nat) : (150 : Int32) + nI p = nI (150 + p) := nI_add 150 p
theorem la160 (p : Nat) : (160 : Int32) + nI p = nI (160 + p) := nI_add 160 p
theorem la170 (p : Nat) : (170 : Int32) + nI p = nI (170 + p) := nI_add 170 p
theorem la180 (p : Nat) : (180 : Int32) + nI p = nI (180 + p) := nI_add 180 p
theorem la185 (p : Nat) : (185 : Int32) + nI p = nI (185 + p) := nI_add 185 p
theorem la190 (p : Nat) : (190 : Int32) + nI p = nI (190 + p) := nI_add 190 p
theorem la195 (p : Nat) : (195 : Int32) + nI p = nI (195 + p) := nI_add 195 p
theorem n1 (p : Nat) : nI p + (1 : Int32) = nI (p + 1) := nI_add p 1
theorem ci0 : fx_in (0 : Int32) 900 = true := by decide
theorem ci1 : fx_in (1 : Int32) 900 = true := by decide
theorem ci2 : fx_in (2 : Int32) 900 = true := by decide
theorem ci3 : fx_in (3 : Int32) 900 = true := by decide
theorem ci4 : fx_in (4 : Int32) 900 = true := by decide
theorem ci5 : fx_in (5 : Int32) 900 = true := by decide
theorem ci6 : fx_in (6 : Int32) 900 = true := by decide
theorem cc0 : (0 : Int32).toNatClampNeg = 0 := by decide
theorem cc1 : (1 : Int32).toNatClampNeg = 1 := by decide
theorem cc2 : (2 : Int32).toNatClampNeg = 2 := by decide
theorem cc3 : (3 : Int32).toNatClampNeg = 3 := by decide
theorem cc4 : (4 : Int32).toNatClampNeg = 4 := by decide
theorem cc5 : (5 : Int32).toNatClampNeg = 5 := by decide
theorem cc6 : (6 : Int32).toNatClampNeg = 6 := by decide
theorem f01 : fx_01 0 = true := by decide
theorem f11 : fx_01 1 = true := by decide
theorem nIz : nI 0 = (0 : Int32) := rfl
theorem nIn (p : Nat) (h : p < 2 ^ 31) : ¬ nI p = (-1 : Int32) := by
  intro e
  have h1 := congrArg Int32.toInt e
  rw [nI_toInt h] at h1
  have h2 : ((-1 : Int32)).toInt = -1 := by decide
  omega
theorem it {α : Type} {c : Prop} [Decidable c] (h : c) (a b : α) : (if c then a else b) = a := if_pos h
theorem ie {α : Type} {c : Prop} [Decidable c] (h : ¬ c) (a b : α) : (if c then a else b) = b := if_neg h
theorem blo {x : Int32} {n : Nat} (hn : n < 2 ^ 31) (h : x < 0 ∨ nI n ≤ x) (M : fxMem) : CX6_isBelow x (nI n) M = some (0, M) := by
  rw [CX6_isBelow]
  by_cases h0 : x < 0
  · rw [it h0]
  · rw [ie h0, it (h.resolve_left h0)]
theorem bin {j n : Nat} (h : j < n) (hn : n < 2 ^ 31) (M : fxMem) : CX6_isBelow (nI j) (nI n) M = some (1, M) := by
  rw [CX6_isBelow, ie (nI_pos (by omega)), ie (nI_ge h hn)]
theorem sub1 {n : Nat} (h : n < 2 ^ 30) : (nI n - 1).toInt = (n : Int) - 1 := pk_sub_toInt (a := n) (b := 1) h (by decide)
theorem ilo {x : Int32} {n : Nat} (hn : n < 2 ^ 30) (h : x < 0 ∨ nI n ≤ x) (M : fxMem) : CX7_in x 0 (nI n - 1) M = some (0, M) := by
  rw [CX7_in]
  by_cases h0 : x < 0
  · rw [it h0]
  · rw [ie h0, it]
    have h1 := h.resolve_left h0
    rw [Int32.le_iff_toInt_le, nI_toInt (by omega)] at h1
    rw [Int32.lt_iff_toInt_lt, sub1 hn]
    omega
theorem iin {j n : Nat} (h : j < n) (hn : n < 2 ^ 30) (M : fxMem) : CX7_in (nI j) 0 (nI n - 1) M = some (1, M) := by
  rw [CX7_in, ie (nI_pos (by omega)), ie]
  rw [Int32.lt_iff_toInt_lt, sub1 hn, nI_toInt (by omega)]
  omega
theorem dlo {x : Int32} (h : x < 0 ∨ nI 64 ≤ x) (M : fxMem) : CX7_isDot x M = some (0, M) := by
  rw [CX7_isDot, show (63 : Int32) = nI 64 - 1 by decide, ilo (by decide) h]
  rfl
theorem din {j : Nat} (h : j < 64) (M : fxMem) : CX7_isDot (nI j) M = some (1, M) := by
  rw [CX7_isDot, show (63 : Int32) = nI 64 - 1 by decide, iin h (by decide)]
  rfl
theorem slo {x : Int32} (h : x < 0 ∨ nI 8 ≤ x) (M : fxMem) : CX7_isSeat x M = some (0, M) := by
  rw [CX7_isSeat, show (7 : Int32) = nI 8 - 1 by decide, ilo (by decide) h]
  rfl
theorem sin {j : Nat} (h : j < 8) (M : fxMem) : CX7_isSeat (nI j) M = some (1, M) := by
  rw [CX7_isSeat, show (7 : Int32) = nI 8 - 1 by decide, iin h (by decide)]
  rfl
theorem plo {M : fxMem} {x : Int32} {np : Nat} (hn : np ≤ 10) (e : M 1 0 = nI np) (h : x < 0 ∨ nI np ≤ x) : CX6_isPlayer x M = some (0, M) := by
  rw [CX6_isPlayer, e, blo (by omega) h]
  rfl
theorem pin {M : fxMem} {j np : Nat} (hn : np ≤ 10) (e : M 1 0 = nI np) (h : j < np) : CX6_isPlayer (nI j) M = some (1, M) := by
  rw [CX6_isPlayer, e, bin h (by omega)]
  rfl
theorem qlo {M : fxMem} {x : Int32} {np : Nat} (hn : np ≤ 10) (e : M 1 0 = nI np) (h : x < 0 ∨ nI np ≤ x) : CX7_isPlayer x M = some (0, M) := by
  rw [CX7_isPlayer, it ci0, cc0, e, ilo (by omega) h]
  rfl
theorem qin {M : fxMem} {j np : Nat} (hn : np ≤ 10) (e : M 1 0 = nI np) (h : j < np) : CX7_isPlayer (nI j) M = some (1, M) := by
  rw [CX7_isPlayer, it ci0, cc0, e, iin h (by omega)]
  rfl
/-- an argument: too small, too large, or one of n -/
theorem arg3 (x : Int32) {n : Nat} (hn : n < 2 ^ 31) : (x < 0 ∨ nI n ≤ x) ∨ ∃ j : Nat, j < n ∧ x = nI j := by
  rcases pk_ix x hn with h | h | h
  · exact Or.inl (Or.inl h)
  · exact Or.inl (Or.inr h)
  · exact Or.inr h
/-! the invariant -/
def opC (o : Nat) : Int32 := if o < 1500 then nI o else if o = 1500 then -1 else if o = 1501 then -2 else -3
def opM (o : Nat) : Int32 := if o < 1500 then nI (o / 300 + 8 * (o / 100 % 3) + 32 * (o % 100)) else if o = 1500 then -1 else if o = 1501 then -2 else -3
abbrev Cls : Type := Nat × Nat × List Nat
def flC (cl : List Cls) : List Nat := cl.flatMap (fun q => q.2.2)
def mkM (q : Cls) : List Int32 := if q.1 < 2 then q.2.2.map opM ++ [(if q.1 = 0 then (-10 : Int32) else -200) - nI q.2.1] else []
def flM (cl : List Cls) : List Int32 := cl.flatMap mkM
/-- how deep the stack of truths is behind a row of codes (at most 13) -/
def dpt : List Nat → Nat → Option Nat
  | [], d => some d
  | o :: r, d => if o < 1500 then (if d < 13 then dpt r (d + 1) else none) else if o = 1500 then (if 1 ≤ d then dpt r d else none) else if 2 ≤ d then dpt r (d - 1) else none
def okQ (q : Cls) : Prop := q.1 < 5 ∧ q.2.1 < 100 ∧ (q.1 < 2 → dpt q.2.2 0 = some 1) ∧ (2 ≤ q.1 → q.2.2 = []) ∧ ∀ o ∈ q.2.2, o < 1503
/-- a show in the class's rows, and the same one in the reference's -/
def shR (c0 c1 c2 c3 c4 c5 m : Nat → Int32) (i : Nat) : Prop := ∃ (cl : List Cls) (spd bt stp : Nat), cl.length ≤ 10 ∧ spd < 100 ∧ bt < 100 ∧ stp < 100 ∧ c0 0 = nI spd ∧ m (180 + i) = nI spd ∧ c0 1 = nI (max 1 bt) ∧ m (185 + i) = nI bt ∧ c0 2 = nI (max 1 stp) ∧ m (190 + i) = nI stp ∧ c0 3 = nI cl.length ∧ (∀ j q, cl[j]? = some q → c1 j = nI q.1 ∧ c2 j = nI q.2.1 ∧ c3 j = nI (flC (cl.take j)).length ∧ c4 j = nI (flC (cl.take (j + 1))).length) ∧ (∀ t o, (flC cl)[t]? = some o → c5 t = opC o) ∧ m (195 + i) = nI (flM cl).length ∧ (∀ t x, (flM cl)[t]? = some x → m (200 + 140 * i + t) = x) ∧ (flC cl).length ≤ 120 ∧ (flM cl).length ≤ 140 ∧ ∀ q ∈ cl, okQ q
theorem shR_m {c0 c1 c2 c3 c4 c5 m m' : Nat → Int32} {i : Nat} (hm : ∀ j, 180 ≤ j → m' j = m j) (h : shR c0 c1 c2 c3 c4 c5 m i) : shR c0 c1 c2 c3 c4 c5 m' i := by
  obtain ⟨cl, spd, bt, stp, h1, h2, h3, h4, h5, h6, h7, h8, h9, h10, h11, h12, h13, h14, h15, h16⟩ := h
  refine ⟨cl, spd, bt, stp, h1, h2, h3, h4, h5, by rw [hm _ (by omega)]; exact h6, h7, by rw [hm _ (by omega)]; exact h8, h9, by rw [hm _ (by omega)]; exact h10, h11, h12, h13, by rw [hm _ (by omega)]; exact h14, fun t x ht => by rw [hm _ (by omega)]; exact h15 t x ht, h16⟩
def rN (np nf nd nb ns d : Nat) : Prop := np ≤ 10 ∧ nf ≤ 10 ∧ nd ≤ 10 ∧ nb ≤ 120 ∧ ns ≤ 5 ∧ d < 64
def rS (c m : Nat → Int32) (np nf nd nb ns d : Nat) : Prop := c 0 = nI np ∧ m 0 = nI np ∧ c 11 = nI ns ∧ m 1 = nI ns ∧ c 5 = nI nf ∧ m 2 = nI nf ∧ c 7 = nI nd ∧ m 3 = nI nd ∧ c 9 = nI nb ∧ m 4 = nI nb ∧ c 4 = nI d ∧ m 5 = nI d ∧ m 6 = nI ns - 1
def rA (c m : Nat → Int32) (off n B : Nat) : Prop := ∀ p, p < n → m (off + p) = c p ∧ ∃ k, k < B ∧ c p = nI k
def rI (c : Nat → Int32) (n : Nat) : Prop := ∀ p q, p < n → q < n → c p = c q → p = q
def rT (c m : Nat → Int32) (nb : Nat) : Prop := (∀ i, i < nb → m (10 + i) = c i &&& 255) ∧ ∀ i, i < 120 → fits .byte (.int (c i)) = true
def rW (M : fxMem) (m : Nat → Int32) (ns : Nat) : Prop := ∀ i, i < ns → shR (M (26 + 6 * i)) (M (26 + 6 * i + 1)) (M (26 + 6 * i + 2)) (M (26 + 6 * i + 3)) (M (26 + 6 * i + 4)) (M (26 + 6 * i + 5)) m i
def rF (Mc Mm : fxMem) (o a np nf nd nb ns d : Nat) : Prop := rN np nf nd nb ns d ∧ rS (Mc o) (Mm a) np nf nd nb ns d ∧ rA (Mc (o + 1)) (Mm a) 130 np 7 ∧ rA (Mc (o + 2)) (Mm a) 140 np 10 ∧ rA (Mc (o + 3)) (Mm a) 150 np 64 ∧ rI (Mc (o + 3)) np ∧ rA (Mc (o + 4)) (Mm a) 160 nf 64 ∧ rI (Mc (o + 4)) nf ∧ rA (Mc (o + 5)) (Mm a) 170 nd 64 ∧ rT (Mc (o + 6)) (Mm a) nb ∧ rW Mc (Mm a) ns
def rZ (Mc : fxMem) : Prop := Mc 20 0 = 3 ∧ Mc 20 1 = 50 ∧ Mc 20 2 = 2 ∧ Mc 20 3 = 0
def rG (Mc Mm : fxMem) (ns : Nat) : Prop := (Mc 0 2 = 0 ∧ Mm 0 3 = 0) ∨ (Mc 0 2 = 1 ∧ Mm 0 3 = 1 ∧ ∃ np nf nd nb ns' d, rF Mc Mm 8 2 np nf nd nb ns' d ∧ ns' ≤ ns)
def rD (Mc Mm : fxMem) : Prop := ∃ t : Nat, t ≤ 100 ∧ Mc 17 3 = nI t ∧ Mm 0 20 = nI t ∧ ∀ i, i < t → i < 20 → Mc 18 i = Mm 7 i
def PX (Mc Mm : fxMem) : Prop := Mm 0 13 = -1 ∧ rZ Mc ∧ rD Mc Mm ∧ ∃ np nf nd nb ns d, rF Mc Mm 1 1 np nf nd nb ns d ∧ rG Mc Mm ns
theorem rW_c {M M' : fxMem} {m : Nat → Int32} {ns : Nat} (hn : ns ≤ 5) (h : ∀ k, 26 ≤ k → k < 56 → M' k = M k) (hw : rW M m ns) : rW M' m ns := by
  intro i hi
  have := hw i hi
  rw [h _ (by omega) (by omega), h _ (by omega) (by omega), h _ (by omega) (by omega), h _ (by omega) (by omega), h _ (by omega) (by omega), h _ (by omega) (by omega)]
  exact this
theorem rW_m {M : fxMem} {m m' : Nat → Int32} {ns : Nat} (h : ∀ j, 180 ≤ j → m' j = m j) (hw : rW M m ns) : rW M m' ns := fun i hi => shR_m h (hw i hi)
theorem rF_c {Mc Mc' Mm Mm' : fxMem} {o a np nf nd nb ns d : Nat} (h1 : ∀ k, o ≤ k → k ≤ o + 6 → Mc' k = Mc k) (h2 : ∀ k, 26 ≤ k → k < 56 → Mc' k = Mc k) (h3 : Mm' a = Mm a) (h : rF Mc Mm o a np nf nd nb ns d) : rF Mc' Mm' o a np nf nd nb ns d := by
  obtain ⟨a1, a2, a3, a4, a5, a6, a7, a8, a9, a10, a11⟩ := h
  unfold rF
  rw [h3, h1 o (by omega) (by omega), h1 (o + 1) (by omega) (by omega), h1 (o + 2) (by omega) (by omega), h1 (o + 3) (by omega) (by omega), h1 (o + 4) (by omega) (by omega), h1 (o + 5) (by omega) (by omega), h1 (o + 6) (by omega) (by omega)]
  exact ⟨a1, a2, a3, a4, a5, a6, a7, a8, a9, a10, rW_c a1.2.2.2.2.1 h2 a11⟩
theorem rG_c {Mc Mc' Mm Mm' : fxMem} {ns : Nat} (h1 : ∀ k, 8 ≤ k → k ≤ 14 → Mc' k = Mc k) (h2 : ∀ k, 26 ≤ k → k < 56 → Mc' k = Mc k) (h3 : Mm' 2 = Mm 2) (h4 : Mc' 0 2 = Mc 0 2) (h5 : Mm' 0 3 = Mm 0 3) (h : rG Mc Mm ns) : rG Mc' Mm' ns := by
  rcases h with ⟨a, b⟩ | ⟨a, b, np, nf, nd, nb, ns', d, hF, hn⟩
  · exact Or.inl ⟨by rw [h4]; exact a, by rw [h5]; exact b⟩
  · exact Or.inr ⟨by rw [h4]; exact a, by rw [h5]; exact b, np, nf, nd, nb, ns', d, rF_c h1 h2 h3 hF, hn⟩
theorem rD_c {Mc Mc' Mm Mm' : fxMem} (h1 : Mc' 17 3 = Mc 17 3) (h2 : Mc' 18 = Mc 18) (h3 : Mm' 0 20 = Mm 0 20) (h4 : Mm' 7 = Mm 7) (h : rD Mc Mm) : rD Mc' Mm' := by
  obtain ⟨t, a, b, c, d⟩ := h
  exact ⟨t, a, by rw [h1]; exact b, by rw [h3]; exact c, fun i hi hj => by rw [h2, h4]; exact d i hi hj⟩
theorem rZ_c {Mc Mc' : fxMem} (h : Mc' 20 = Mc 20) (hz : rZ Mc) : rZ Mc' := by
  unfold rZ
  rw [h]
  exact hz
/-- scratch alone has changed -/
def SameC (M M' : fxMem) : Prop := ∀ k, k < 58 → k ≠ 16 → k ≠ 19 → k ≠ 56 → k ≠ 57 → M' k = M k
def SameM (M M' : fxMem) : Prop := M' 1 = M 1 ∧ M' 2 = M 2 ∧ M' 7 = M 7 ∧ M' 0 3 = M 0 3 ∧ M' 0 13 = M 0 13 ∧ M' 0 20 = M 0 20
theorem PX_same {Mc Mc' Mm Mm' : fxMem} (h : PX Mc Mm) (hc : SameC Mc Mc') (hm : SameM Mm Mm') : PX Mc' Mm' := by
  obtain ⟨h1, h2, h3, np, nf, nd, nb, ns, d, h4, h5⟩ := h
  obtain ⟨m1, m2, m3, m4, m5, m6⟩ := hm
  refine ⟨by rw [m5]; exact h1, rZ_c (hc 20 (by decide) (by decide) (by decide) (by decide) (by decide)) h2, rD_c (by rw [hc 17 (by decide) (by decide) (by decide) (by decide) (by decide)]) (hc 18 (by decide) (by decide) (by decide) (by decide) (by decide)) m6 m3 h3, np, nf, nd, nb, ns, d, rF_c (fun k a b => hc k (by omega) (by omega) (by omega) (by omega) (by omega)) (fun k a b => hc k (by omega) (by omega) (by omega) (by omega) (by omega)) m1 h4, rG_c (fun k a b => hc k (by omega) (by omega) (by omega) (by omega) (by omega)) (fun k a b => hc k (by omega) (by omega) (by omega) (by omega) (by omega)) m2 (by rw [hc 0 (by decide) (by decide) (by decide) (by decide) (by decide)]) m4 h5⟩
theorem SameC.rf (M : fxMem) : SameC M M := fun _ _ _ _ _ _ => rfl
theorem SameM.rf (M : fxMem) : SameM M M := ⟨rfl, rfl, rfl, rfl, rfl, rfl⟩
/-- the start -/
theorem px_init : PX fxM0 fxM1 := by
  refine ⟨by decide, ⟨by decide, by decide, by decide, by decide⟩, ⟨0, by decide, by decide, by decide, fun i hi => absurd hi (by omega)⟩, 0, 0, 0, 0, 0, 60, ⟨⟨by decide, by decide, by decide, by decide, by decide, by decide⟩, ⟨by decide, by decide, by decide, by decide, by decide, by decide, by decide, by decide, by decide, by decide, by decide, by decide, by decide⟩, fun p hp => absurd hp (by omega), fun p hp => absurd hp (by omega), fun p hp => absurd hp (by omega), fun p q hp => absurd hp (by omega), fun p hp => absurd hp (by omega), fun p q hp => absurd hp (by omega), fun p hp => absurd hp (by omega), ⟨fun i hi => absurd hi (by omega), fun i _ => rfl⟩, fun i hi => absurd hi (by omega)⟩, Or.inl ⟨by decide, by decide⟩⟩
