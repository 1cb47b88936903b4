/-! the reader: signs and numbers -/
def TP (T : Nat → Nat) (nb : Nat) (c m : Nat → Int32) : Prop := ∀ i, i < nb → T i < 256 ∧ c i &&& 255 = nI (T i) ∧ m (10 + i) = nI (T i) ∧ ∀ ch, ch < 128 → (c i = nI ch ↔ T i = ch)
theorem by1 : ∀ u, u < 256 → (nI u - (128 : Int32)) &&& 255 = nI (if 128 ≤ u then u - 128 else u + 128) := by decide +kernel
theorem by2 {c : Int32} (h : fits .byte (.int c) = true) : ∃ t, t < 256 ∧ c &&& 255 = nI t ∧ ∀ ch, ch < 128 → (c = nI ch ↔ t = ch) := by
  have h' : (decide ((-128 : Int32) ≤ c) && decide (c ≤ (127 : Int32))) = true := h
  rw [Bool.and_eq_true, decide_eq_true_eq, decide_eq_true_eq] at h'
  obtain ⟨h1, h2⟩ := h'
  rw [Int32.le_iff_toInt_le] at h1 h2
  have k1 : (-128 : Int32).toInt = -128 := by decide
  have k2 : (127 : Int32).toInt = 127 := by decide
  rw [k1] at h1
  rw [k2] at h2
  obtain ⟨u, hu⟩ : ∃ u : Nat, c.toInt = (u : Int) - 128 := ⟨(c.toInt + 128).toNat, by omega⟩
  have e : c = nI u - 128 := by
    apply Int32.toInt_inj.mp
    have := pk_sub_toInt (a := u) (b := 128) (by omega) (by decide)
    rw [hu]
    exact this.symm
  refine ⟨if 128 ≤ u then u - 128 else u + 128, by split <;> omega, by rw [e]; exact by1 u (by omega), fun ch hch => ?_⟩
  rw [← Int32.toInt_inj, hu, nI_toInt (by omega)]
  split <;> omega
theorem tp_of {c m : Nat → Int32} {nb : Nat} (h : rT c m nb) (hn : nb ≤ 120) : ∃ T, TP T nb c m := by
  have : ∀ i, ∃ t, i < nb → (t < 256 ∧ c i &&& 255 = nI t ∧ ∀ ch, ch < 128 → (c i = nI ch ↔ t = ch)) := fun i => by
    by_cases hi : i < nb
    · obtain ⟨t, ht⟩ := by2 (h.2 i (by omega))
      exact ⟨t, fun _ => ht⟩
    · exact ⟨0, fun z => absurd z hi⟩
  refine ⟨fun i => Classical.choose (this i), fun i hi => ?_⟩
  obtain ⟨a1, a2, a3⟩ := Classical.choose_spec (this i) hi
  exact ⟨a1, a2, (h.1 i hi).trans a2, a3⟩
def cur (T : Nat → Nat) (nb a : Nat) : Nat := if a < nb then T a else 999
def oN : Option Nat → Bool
  | none => true
  | some _ => false
theorem m16 : ∀ t, t < 256 → ((nI t).toUInt32 % 65536).toInt32 = nI t := by decide +kernel
/-- the class's reader stands at a place -/
def CR (M : fxMem) (S a nb : Nat) (T : Nat → Nat) : Prop := M 16 1 = nI S ∧ M 16 2 = nI a ∧ M 1 9 = nI nb ∧ a ≤ nb ∧ nb ≤ 120 ∧ ∀ i, i < nb → T i < 256 ∧ M 7 i &&& 255 = nI (T i) ∧ ∀ ch, ch < 128 → (M 7 i = nI ch ↔ T i = ch)
def at6 (M : fxMem) (a : Nat) : fxMem := fx_st M 16 2 (nI a)
theorem at6_s {M : fxMem} {a : Nat} (h : M 16 2 = nI a) : at6 M a = M := by
  funext k j
  unfold at6
  by_cases hk : k = 16
  · subst hk
    by_cases hj : j = 2
    · subst hj; rw [mm_same]; exact h.symm
    · rw [mm_col hj]
  · rw [mm_row hk]
theorem at6_2 (M : fxMem) (a b : Nat) : at6 (at6 M a) b = at6 M b := by
  funext k j
  unfold at6
  by_cases hk : k = 16
  · subst hk
    by_cases hj : j = 2
    · subst hj; rw [mm_same, mm_same]
    · rw [mm_col hj, mm_col hj, mm_col hj]
  · rw [mm_row hk, mm_row hk, mm_row hk]
theorem CR.go {M : fxMem} {S a nb b : Nat} {T : Nat → Nat} (h : CR M S a nb T) (hb : b ≤ nb) : CR (at6 M b) S b nb T := by
  obtain ⟨h1, h2, h3, h4, h5, h6⟩ := h
  exact ⟨by unfold at6; rw [mm_col (by decide)]; exact h1, mm_same _ _ _ _, by unfold at6; rw [mm_row (by decide)]; exact h3, hb, h5, by unfold at6; rw [mm_row (by decide)]; exact h6⟩
def nx (I : Nat → Option Nat) (T : Nat → Nat) (nb a : Nat) : Nat := if (I (cur T nb a)).isSome then a + 1 else a
theorem nx_le {I : Nat → Option Nat} {T : Nat → Nat} {nb a : Nat} (h9 : I 999 = none) (h : a ≤ nb) : nx I T nb a ≤ nb := by
  unfold nx cur
  by_cases z : a < nb
  · rw [it z]; split <;> omega
  · rw [ie z, h9]; exact h
theorem tk6 {M : fxMem} {S a nb x : Nat} {T : Nat → Nat} {I : Nat → Option Nat} (h : CR M S a nb T) (hx : fx_isS x = true) (hI : ∀ t, t < 256 → kx_i x (nI t) = oi (I t)) (hb : ∀ t q, I t = some q → q < 100) (h9 : I 999 = none) : CX2_takeOneOf x M = some (oi (I (cur T nb a)), at6 M (nx I T nb a)) := by
  obtain ⟨h1, h2, h3, h4, h5, h6⟩ := id h
  rw [CX2_takeOneOf, h2, h3]
  unfold nx cur
  by_cases z : a < nb
  · obtain ⟨t1, t2, t3⟩ := h6 a z
    rw [it (nI_lt z (by omega)), it (gin (by omega) (by decide)), it hx, nI_clamp (by omega), t2, m16 _ t1, hI _ t1, it z]
    cases hi : I (T a) with
    | none =>
      rw [ie (show ¬ (0 : Int32) ≤ oi none by decide)]
      rw [show (if (none : Option Nat).isSome = true then a + 1 else a) = a from rfl, at6_s h2]
      rfl
    | some q =>
      have hq := hb _ _ hi
      rw [it (show (0 : Int32) ≤ oi (some q) from nI_pos' (by omega)), n1]
      rfl
  · rw [ie (fun z2 => z ((nI_ltI (by omega) (by omega)).mp z2)), ie z, h9]
    rw [show (if (none : Option Nat).isSome = true then a + 1 else a) = a from rfl, at6_s h2]
    rfl
def iDg (t : Nat) : Option Nat := if 48 ≤ t ∧ t ≤ 57 then some (t - 48) else none
def iLt (t : Nat) : Option Nat := if t = 112 then some 0 else if t = 114 then some 1 else if t = 99 then some 2 else if t = 107 then some 3 else if t = 118 then some 4 else none
def iSg (t : Nat) : Option Nat := if 60 ≤ t ∧ t ≤ 62 then some (t - 60) else none
def iOn (ch t : Nat) : Option Nat := if t = ch then some 0 else none
theorem kDg : ∀ t, t < 256 → kx_i (1000 + 7) (nI t) = oi (iDg t) := by decide +kernel
theorem kLt : ∀ t, t < 256 → kx_i (1000 + 11) (nI t) = oi (iLt t) := by decide +kernel
theorem kSg : ∀ t, t < 256 → kx_i (1000 + 12) (nI t) = oi (iSg t) := by decide +kernel
theorem kSp : ∀ t, t < 256 → kx_i (1000 + 6) (nI t) = oi (iOn 32 t) := by decide +kernel
theorem kNo : ∀ t, t < 256 → kx_i (1000 + 8) (nI t) = oi (iOn 33 t) := by decide +kernel
theorem kOp : ∀ t, t < 256 → kx_i (1000 + 9) (nI t) = oi (iOn 40 t) := by decide +kernel
theorem kCl : ∀ t, t < 256 → kx_i (1000 + 10) (nI t) = oi (iOn 41 t) := by decide +kernel
theorem kAn : ∀ t, t < 256 → kx_i (1000 + 13) (nI t) = oi (iOn 38 t) := by decide +kernel
theorem kOr : ∀ t, t < 256 → kx_i (1000 + 14) (nI t) = oi (iOn 124 t) := by decide +kernel
theorem kSe : ∀ t, t < 256 → kx_i (1000 + 15) (nI t) = oi (iOn 59 t) := by decide +kernel
theorem iOn_b (ch t q : Nat) (h : iOn ch t = some q) : q < 100 := by
  unfold iOn at h
  split at h
  · have := Option.some.inj h; omega
  · exact absurd h (by simp)
theorem iDg_b (t q : Nat) (h : iDg t = some q) : q < 10 := by
  unfold iDg at h
  split at h
  · have := Option.some.inj h; omega
  · exact absurd h (by simp)
theorem iLt_b (t q : Nat) (h : iLt t = some q) : q < 5 := by
  unfold iLt at h
  repeat' split at h
  all_goals first
    | (have := Option.some.inj h; omega)
    | exact absurd h (by simp)
theorem iSg_b (t q : Nat) (h : iSg t = some q) : q < 3 := by
  unfold iSg at h
  split at h
  · have := Option.some.inj h; omega
  · exact absurd h (by simp)
/-- one sign: taken or not -/
theorem on6 {M : fxMem} {S a nb x ch : Nat} {T : Nat → Nat} (h : CR M S a nb T) (hx : fx_isS x = true) (hI : ∀ t, t < 256 → kx_i x (nI t) = oi (iOn ch t)) (hc : ch < 900) : CX2_take x M = some (if cur T nb a = ch then (1, at6 M (a + 1)) else (0, M)) := by
  rw [CX2_take, tk6 h hx hI (iOn_b ch) (by unfold iOn; rw [ie (by omega)]), bs]
  unfold nx iOn
  by_cases z : cur T nb a = ch
  · rw [it z, it z]; rfl
  · rw [ie z, ie z, show (if (none : Option Nat).isSome = true then a + 1 else a) = a from rfl, at6_s h.2.1]; rfl
theorem cur_lt {T : Nat → Nat} {nb a : Nat} (h : cur T nb a < 900) : a < nb := by
  unfold cur at h
  by_cases z : a < nb
  · exact z
  · rw [ie z] at h; omega
theorem cur_some {I : Nat → Option Nat} {T : Nat → Nat} {nb a q : Nat} (h9 : I 999 = none) (h : I (cur T nb a) = some q) : a < nb := by
  unfold cur at h
  by_cases z : a < nb
  · exact z
  · rw [ie z, h9] at h; exact absurd h (by simp)
/-- a number: its value and the place behind it -/
def num (T : Nat → Nat) (nb a : Nat) : Option (Nat × Nat) := match iDg (cur T nb a) with
  | none => none
  | some d => if d = 0 then some (0, a + 1) else (match iDg (cur T nb (a + 1)) with
    | none => some (d, a + 1)
    | some e => some (10 * d + e, a + 2))
theorem num_b {T : Nat → Nat} {nb a n b : Nat} (h : num T nb a = some (n, b)) : n < 100 ∧ a < b ∧ b ≤ nb ∧ a < nb := by
  unfold num at h
  cases h1 : iDg (cur T nb a) with
  | none => rw [h1] at h; exact absurd h (by simp)
  | some d =>
    rw [h1] at h
    have hd := iDg_b _ _ h1
    have ha : a < nb := cur_some (I := iDg) rfl h1
    have h' : (if d = 0 then some (0, a + 1) else (match iDg (cur T nb (a + 1)) with
      | none => some (d, a + 1)
      | some e => some (10 * d + e, a + 2))) = some (n, b) := h
    by_cases z : d = 0
    · rw [it z] at h'
      have := Prod.mk.inj (Option.some.inj h')
      omega
    · rw [ie z] at h'
      cases h2 : iDg (cur T nb (a + 1)) with
      | none =>
        rw [h2] at h'
        have := Prod.mk.inj (Option.some.inj h')
        omega
      | some e =>
        rw [h2] at h'
        have he := iDg_b _ _ h2
        have ha2 : a + 1 < nb := cur_some (I := iDg) rfl h2
        have := Prod.mk.inj (Option.some.inj h')
        omega
theorem num6 {M : fxMem} {S a nb : Nat} {T : Nat → Nat} (h : CR M S a nb T) : CX2_readNumber M = some (match num T nb a with
    | none => ((-1 : Int32), M)
    | some q => (nI q.1, at6 M q.2)) := by
  have i9 : iDg 999 = none := rfl
  rw [CX2_readNumber, tk6 h (by decide) kDg (fun t q z => by have := iDg_b t q z; omega) i9, bs]
  unfold num
  cases h1 : iDg (cur T nb a) with
  | none =>
    have e : nx iDg T nb a = a := by unfold nx; rw [h1]; rfl
    rw [e, at6_s h.2.1]
    rfl
  | some d =>
    have hd := iDg_b _ _ h1
    have ha : a < nb := cur_some (I := iDg) rfl h1
    have e : nx iDg T nb a = a + 1 := by unfold nx; rw [h1]; rfl
    have hC : CR (at6 M (a + 1)) S (a + 1) nb T := h.go (by omega)
    rw [e]
    show (if nI d = (-1 : Int32) then some (nI d, at6 M (a + 1)) else if nI d = (0 : Int32) then some (nI d, at6 M (a + 1)) else Option.bind (CX2_takeOneOf (1000 + 7) (at6 M (a + 1))) fun q21 => some ((if q21.1 = (-1 : Int32) then nI d else ((10 : Int32) * nI d) + q21.1), q21.2)) = some (match (if d = 0 then some (0, a + 1) else (match iDg (cur T nb (a + 1)) with
      | none => some (d, a + 1)
      | some e => some (10 * d + e, a + 2))) with
      | none => ((-1 : Int32), M)
      | some q => (nI q.1, at6 M q.2))
    rw [ie (nIn d (by omega))]
    by_cases z : d = 0
    · subst z
      rw [it rfl, it nIz]
    · rw [ie (show ¬ nI d = (0 : Int32) from fun z2 => z ((nI_eq (b := 0) (by omega) (by decide)).mp z2)), ie z, tk6 hC (by decide) kDg (fun t q z => by have := iDg_b t q z; omega) i9, bs]
      cases h2 : iDg (cur T nb (a + 1)) with
      | none =>
        have e2 : nx iDg T nb (a + 1) = a + 1 := by unfold nx; rw [h2]; rfl
        rw [e2, at6_2]
        rfl
      | some e =>
        have he := iDg_b _ _ h2
        have e2 : nx iDg T nb (a + 1) = a + 2 := by unfold nx; rw [h2]; rfl
        rw [e2, at6_2]
        show some ((if nI e = (-1 : Int32) then nI d else ((10 : Int32) * nI d) + nI e), at6 M (a + 2)) = some (nI (10 * d + e), at6 M (a + 2))
        have m10 : ∀ d, d < 10 → (10 : Int32) * nI d = nI (10 * d) := by decide +kernel
        rw [ie (nIn e (by omega)), m10 d hd, nI_add]
