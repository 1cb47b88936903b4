/-! the nearest in a column -/
def cnd (f : Nat → Nat) (ab : Int32) (p : Nat) (up : Bool) (q : Nat) : Bool := !(nI q == ab) && (f q % 8 == f p % 8) && (if up then decide (f p / 8 < f q / 8) else decide (f q / 8 < f p / 8))
def nsL (f : Nat → Nat) (ab : Int32) (p : Nat) (up : Bool) : Nat → Option Nat
  | 0 => none
  | i + 1 => if cnd f ab p up i = true then (match nsL f ab p up i with
    | none => some i
    | some q => if ds (f i / 8) (f p / 8) < ds (f q / 8) (f p / 8) then some i else some q) else nsL f ab p up i
def oi : Option Nat → Int32
  | none => -1
  | some q => nI q
def tw (up : Bool) : Int32 := if up then 1 else -1
def tz (up : Bool) : Int32 := if up then 1 else 0
theorem ap_u : ∀ a, a < 8 → ∀ b, b < 8 → (b < a → (1 : Int32) * (nI a - nI b) = nI (ds a b)) ∧ (¬ b < a → (1 : Int32) * (nI a - nI b) ≤ 0) := by decide +kernel
theorem ap_d : ∀ a, a < 8 → ∀ b, b < 8 → (a < b → (-1 : Int32) * (nI a - nI b) = nI (ds a b)) ∧ (¬ a < b → (-1 : Int32) * (nI a - nI b) ≤ 0) := by decide +kernel
theorem aq_u : ∀ a, a < 8 → ∀ b, b < 8 → (b < a → ¬ (nI a - nI b) ≤ 0) ∧ (¬ b < a → (nI a - nI b) ≤ 0) := by decide +kernel
theorem aq_d : ∀ a, a < 8 → ∀ b, b < 8 → (a < b → ¬ (0 : Int32) ≤ (nI a - nI b)) ∧ (¬ a < b → (0 : Int32) ≤ (nI a - nI b)) := by decide +kernel
theorem nsL_p {f : Nat → Nat} {ab : Int32} {p : Nat} {up : Bool} : ∀ {n q : Nat}, nsL f ab p up n = some q → q < n ∧ cnd f ab p up q = true ∧ ∀ i, i < n → cnd f ab p up i = true → ds (f q / 8) (f p / 8) ≤ ds (f i / 8) (f p / 8)
  | 0, q, h => by simp [nsL] at h
  | n + 1, q, h => by
    rw [nsL] at h
    by_cases hc : cnd f ab p up n = true
    · rw [it hc] at h
      cases hr : nsL f ab p up n with
      | none =>
        rw [hr] at h
        have e : n = q := Option.some.inj h
        subst e
        refine ⟨by omega, hc, fun i hi hci => ?_⟩
        by_cases e : i = n
        · subst e; exact Nat.le_refl _
        · exfalso
          exact nsL_n hr i (by omega) hci
      | some r =>
        rw [hr] at h
        obtain ⟨r1, r2, r3⟩ := nsL_p hr
        have h' : (if ds (f n / 8) (f p / 8) < ds (f r / 8) (f p / 8) then some n else some r) = some q := h
        by_cases hd : ds (f n / 8) (f p / 8) < ds (f r / 8) (f p / 8)
        · rw [it hd] at h'
          have e : n = q := Option.some.inj h'
          subst e
          refine ⟨by omega, hc, fun i hi hci => ?_⟩
          by_cases e : i = n
          · subst e; exact Nat.le_refl _
          · have := r3 i (by omega) hci; omega
        · rw [ie hd] at h'
          have e : r = q := Option.some.inj h'
          subst e
          refine ⟨by omega, r2, fun i hi hci => ?_⟩
          by_cases e : i = n
          · subst e; omega
          · exact r3 i (by omega) hci
    · rw [ie hc] at h
      obtain ⟨r1, r2, r3⟩ := nsL_p h
      refine ⟨by omega, r2, fun i hi hci => ?_⟩
      by_cases e : i = n
      · subst e; exact absurd hci hc
      · exact r3 i (by omega) hci
where
  nsL_n {f : Nat → Nat} {ab : Int32} {p : Nat} {up : Bool} : ∀ {n : Nat}, nsL f ab p up n = none → ∀ i, i < n → ¬ cnd f ab p up i = true
    | 0, _, i, hi => absurd hi (Nat.not_lt_zero i)
    | n + 1, h, i, hi => by
      rw [nsL] at h
      by_cases hc : cnd f ab p up n = true
      · rw [it hc] at h
        cases hr : nsL f ab p up n with
        | none => rw [hr] at h; exact absurd h (by simp)
        | some r =>
          rw [hr] at h
          have h' : (if ds (f n / 8) (f p / 8) < ds (f r / 8) (f p / 8) then some n else some r) = none := h
          split at h' <;> exact absurd h' (by simp)
      · rw [ie hc] at h
        by_cases e : i = n
        · subst e; exact hc
        · exact nsL_n h i (by omega)
def lz (f : Nat → Nat) (p : Nat) : Option Nat → Int32
  | none => 8
  | some q => nI (ds (f q / 8) (f p / 8))
theorem ds_lt8 {x y : Nat} (hx : x < 8) (hy : y < 8) : ds x y < 8 := by unfold ds; omega
theorem ns6_L {M : fxMem} {f : Nat → Nat} {np p : Nat} {ab : Int32} (up : Bool) (hn : np ≤ 10) (e : M 1 0 = nI np) (hf : ∀ p, p < np → f p < 64 ∧ M 4 p = nI (f p)) (ha : M 58 3 = ab) (hp : p < np) {k : Int32 → Int32 → Int32 → fxMem → Option (Int32 × fxMem)} : ∀ (n i : Nat), np - i < n → i ≤ np → CX4_nearestInColumn_L9 (nI p) (tw up) n (oi (nsL f ab p up i)) (lz f p (nsL f ab p up i)) (nI i) M k = k (oi (nsL f ab p up np)) (lz f p (nsL f ab p up np)) (nI np) M
  | 0, i, h, _ => absurd h (Nat.not_lt_zero _)
  | n + 1, i, h, hi => by
    rw [CX4_nearestInColumn_L9, e]
    by_cases z : i = np
    · subst z
      rw [it (Int32.le_refl _)]
    · obtain ⟨a1, a2⟩ := hf i (by omega)
      obtain ⟨b1, b2⟩ := hf p hp
      have r1 : f i / 8 < 8 := by omega
      have r2 : f p / 8 < 8 := by omega
      rw [ie (nI_ge (by omega) (by omega)), ← ns6_L (k := k) up hn e hf ha hp n (i + 1) (by omega) (by omega)]
      simp only [gin (show i < 10 by omega) (by decide), gin (show p < 10 by omega) (by decide), if_true, CX6_rowOf, CX6_columnOf, bs, nI_clamp (show i < 2 ^ 31 by omega), nI_clamp (show p < 2 ^ 31 by omega), a2, b2, rw6 _ a1, rw6 _ b1, cl6 _ a1, cl6 _ b1, ha, n1 i]
      by_cases z1 : nI i = ab
      · have hc : ¬ cnd f ab p up i = true := by simp [cnd, z1]
        rw [it z1, CX4_nearestInColumn_J92, CX4_nearestInColumn_J93, nsL, ie hc]
        simp only [if_true, n1 i]
      · rw [ie z1]
        by_cases z2 : f i % 8 = f p % 8
        · have w2 : nI (f i % 8) = nI (f p % 8) := by rw [z2]
          simp only [w2, if_true, show ¬ (1 : Int32) = 0 by decide, if_false]
          have hap : (cnd f ab p up i = true ∧ tw up * (nI (f i / 8) - nI (f p / 8)) = nI (ds (f i / 8) (f p / 8)) ∧ 0 < ds (f i / 8) (f p / 8)) ∨ (¬ cnd f ab p up i = true ∧ tw up * (nI (f i / 8) - nI (f p / 8)) ≤ 0) := by
            cases up with
            | true =>
              by_cases z3 : f p / 8 < f i / 8
              · exact Or.inl ⟨by simp [cnd, z1, z2, z3], (ap_u _ r1 _ r2).1 z3, by unfold ds; omega⟩
              · exact Or.inr ⟨by simp [cnd, z1, z2, z3], (ap_u _ r1 _ r2).2 z3⟩
            | false =>
              by_cases z3 : f i / 8 < f p / 8
              · exact Or.inl ⟨by simp [cnd, z1, z2, z3], (ap_d _ r1 _ r2).1 z3, by unfold ds; omega⟩
              · exact Or.inr ⟨by simp [cnd, z1, z2, z3], (ap_d _ r1 _ r2).2 z3⟩
          rcases hap with ⟨hc, e1, hpos⟩ | ⟨hc, e1⟩
          · have d1 := ds_lt8 r1 r2
            rw [e1, nsL, it hc]
            have g0 : ¬ nI (ds (f i / 8) (f p / 8)) ≤ (0 : Int32) := nI_ge (a := 0) hpos (by omega)
            simp only [g0, if_false]
            cases hr : nsL f ab p up i with
            | none =>
              have g8 : ¬ lz f p none ≤ nI (ds (f i / 8) (f p / 8)) := nI_ge (b := 8) d1 (by decide)
              simp only [g8, if_false]
              rfl
            | some q =>
              obtain ⟨q1, q2, q3⟩ := nsL_p hr
              have dq := ds_lt8 (x := f q / 8) (y := f p / 8) (by have := (hf q (by omega)).1; omega) r2
              show CX4_nearestInColumn_L9 _ _ n (if nI (ds (f q / 8) (f p / 8)) ≤ nI (ds (f i / 8) (f p / 8)) then oi (some q) else nI i) (if nI (ds (f q / 8) (f p / 8)) ≤ nI (ds (f i / 8) (f p / 8)) then lz f p (some q) else nI (ds (f i / 8) (f p / 8))) _ _ _ = CX4_nearestInColumn_L9 _ _ n (oi (if ds (f i / 8) (f p / 8) < ds (f q / 8) (f p / 8) then some i else some q)) (lz f p (if ds (f i / 8) (f p / 8) < ds (f q / 8) (f p / 8) then some i else some q)) _ _ _
              by_cases z4 : ds (f i / 8) (f p / 8) < ds (f q / 8) (f p / 8)
              · have g4 : ¬ nI (ds (f q / 8) (f p / 8)) ≤ nI (ds (f i / 8) (f p / 8)) := nI_ge z4 (by omega)
                simp only [g4, z4, if_false, if_true]
                rfl
              · have g4 : nI (ds (f q / 8) (f p / 8)) ≤ nI (ds (f i / 8) (f p / 8)) := nI_le (by omega) (by omega)
                simp only [g4, z4, if_false, if_true]
          · rw [nsL, ie hc]
            simp only [e1, if_true]
        · have w2 : ¬ nI (f i % 8) = nI (f p % 8) := fun z => z2 ((nI_eq (by omega) (by omega)).mp z)
          have hc : ¬ cnd f ab p up i = true := by simp [cnd, z2]
          simp only [w2, if_false, if_true]
          rw [nsL, ie hc]
theorem ns6 {M : fxMem} {f : Nat → Nat} {np p : Nat} {ab : Int32} (up : Bool) (hn : np ≤ 10) (e : M 1 0 = nI np) (hf : ∀ p, p < np → f p < 64 ∧ M 4 p = nI (f p)) (ha : M 58 3 = ab) (hp : p < np) : CX4_nearestInColumn (nI p) (tw up) M = some (oi (nsL f ab p up np), M) := by
  rw [CX4_nearestInColumn]
  exact ns6_L (k := fun y3 y4 y5 M => some (y3, M)) up hn e hf ha hp 1000 0 (by omega) (Nat.zero_le _)
theorem sz7 {a b : Nat} (ha : a < 8) (hb : b < 8) (M : fxMem) : CX7_size (nI a - nI b) M = some (nI (ds a b), M) := by
  rw [CX7_size, ab7 a (by omega) b (by omega)]
theorem ns7_L {M : fxMem} {f : Nat → Nat} {np p : Nat} {ab : Int32} (up : Bool) (hn : np ≤ 10) (e : M 1 0 = nI np) (hf : ∀ p, p < np → f p < 64 ∧ M 1 (150 + p) = nI (f p)) (ha : M 0 13 = ab) (hp : p < np) {k : Int32 → Int32 → fxMem → Option (Int32 × fxMem)} : ∀ (n i : Nat), np - i < n → i ≤ np → CX7_nearestInColumn_L5 (nI p) (tz up) n (oi (nsL f ab p up i)) (nI i) M k = k (oi (nsL f ab p up np)) (nI np) M
  | 0, i, h, _ => absurd h (Nat.not_lt_zero _)
  | n + 1, i, h, hi => by
    rw [CX7_nearestInColumn_L5, it ci0, cc0, e]
    by_cases z : i = np
    · subst z
      rw [it (Int32.le_refl _)]
    · obtain ⟨a1, a2⟩ := hf i (by omega)
      obtain ⟨b1, b2⟩ := hf p hp
      have r1 : f i / 8 < 8 := by omega
      have r2 : f p / 8 < 8 := by omega
      rw [ie (nI_ge (by omega) (by omega)), ← ns7_L (k := k) up hn e hf ha hp n (i + 1) (by omega) (by omega)]
      simp only [la150, gin (show 150 + i < 900 by omega) (by decide), gin (show 150 + p < 900 by omega) (by decide), if_true, nI_clamp (show 150 + i < 2 ^ 31 by omega), nI_clamp (show 150 + p < 2 ^ 31 by omega), a2, b2, rw7 _ a1, rw7 _ b1, cl7 _ a1, cl7 _ b1, ha, n1 i]
      have key : (cnd f ab p up i = true ∧ (if nI i = ab then (0 : Int32) else (if nI (f i % 8) = nI (f p % 8) then (if tz up = (0 : Int32) then (if (0 : Int32) ≤ nI (f i / 8) - nI (f p / 8) then (0 : Int32) else (1 : Int32)) else (if nI (f i / 8) - nI (f p / 8) ≤ (0 : Int32) then (0 : Int32) else (1 : Int32))) else (0 : Int32))) = 1) ∨ (¬ cnd f ab p up i = true ∧ (if nI i = ab then (0 : Int32) else (if nI (f i % 8) = nI (f p % 8) then (if tz up = (0 : Int32) then (if (0 : Int32) ≤ nI (f i / 8) - nI (f p / 8) then (0 : Int32) else (1 : Int32)) else (if nI (f i / 8) - nI (f p / 8) ≤ (0 : Int32) then (0 : Int32) else (1 : Int32))) else (0 : Int32))) = 0) := by
        by_cases z1 : nI i = ab
        · exact Or.inr ⟨by simp [cnd, z1], by rw [it z1]⟩
        · rw [ie z1]
          by_cases z2 : f i % 8 = f p % 8
          · rw [it (show nI (f i % 8) = nI (f p % 8) by rw [z2])]
            cases up with
            | true =>
              rw [ie (show ¬ tz true = (0 : Int32) by decide)]
              by_cases z3 : f p / 8 < f i / 8
              · exact Or.inl ⟨by simp [cnd, z1, z2, z3], ie ((aq_u _ r1 _ r2).1 z3) _ _⟩
              · exact Or.inr ⟨by simp [cnd, z1, z2, z3], it ((aq_u _ r1 _ r2).2 z3) _ _⟩
            | false =>
              rw [it (show tz false = (0 : Int32) by decide)]
              by_cases z3 : f i / 8 < f p / 8
              · exact Or.inl ⟨by simp [cnd, z1, z2, z3], ie ((aq_d _ r1 _ r2).1 z3) _ _⟩
              · exact Or.inr ⟨by simp [cnd, z1, z2, z3], it ((aq_d _ r1 _ r2).2 z3) _ _⟩
          · exact Or.inr ⟨by simp [cnd, z2], ie (fun z => z2 ((nI_eq (by omega) (by omega)).mp z)) _ _⟩
      rcases key with ⟨hc, e1⟩ | ⟨hc, e1⟩
      · rw [e1, ie (show ¬ (1 : Int32) = 0 by decide), nsL, it hc]
        cases hr : nsL f ab p up i with
        | none =>
          rw [it (show oi none = (-1 : Int32) from rfl)]
          rfl
        | some q =>
          obtain ⟨q1, q2, q3⟩ := nsL_p hr
          obtain ⟨c1, c2⟩ := hf q (by omega)
          have dq := ds_lt8 (x := f q / 8) (y := f p / 8) (by omega) r2
          have d1 := ds_lt8 r1 r2
          rw [ie (show ¬ oi (some q) = (-1 : Int32) from nIn q (by omega)), sz7 r1 r2, bs, show oi (some q) = nI q from rfl, la150, it (gin (by omega) (by decide)), nI_clamp (by omega)]
          simp only [c2, b2, rw7 _ c1, rw7 _ b1, sz7 (show f q / 8 < 8 by omega) r2, bs]
          by_cases z4 : ds (f i / 8) (f p / 8) < ds (f q / 8) (f p / 8)
          · rw [ie (nI_ge z4 (by omega)), it z4]; rfl
          · rw [it (nI_le (by omega) (by omega)), ie z4]; rfl
      · rw [e1, it rfl, nsL, ie hc]
theorem ns7 {M : fxMem} {f : Nat → Nat} {np p : Nat} {ab : Int32} (up : Bool) (hn : np ≤ 10) (e : M 1 0 = nI np) (hf : ∀ p, p < np → f p < 64 ∧ M 1 (150 + p) = nI (f p)) (ha : M 0 13 = ab) (hp : p < np) : CX7_nearestInColumn (nI p) (tz up) M = some (oi (nsL f ab p up np), M) := by
  rw [CX7_nearestInColumn]
  exact ns7_L (k := fun y3 y4 M => some (y3, M)) up hn e hf ha hp 1000 0 (by omega) (Nat.zero_le _)
