/-! heard, spread -/
def hv (K f v : Nat → Nat) (ab s : Int32) (np dr : Nat) (ev : Nat → Nat → Nat → Int32) (st p : Nat) : Int32 := pv K f v ab s np dr (fun p => ev 1 p (K p)) 10 p + s * nI (FR st (f p + 8))
theorem sf_seat {st d : Nat} (h1 : st < 8) (h2 : d < 64) (M : fxMem) : CX6_far (nI st - 8) (nI d) M = some (nI (FR st (d + 8)), M) := by
  rw [pl_seat st h1, pl_dot d h2]
  exact far6 (by omega) (by omega) M
theorem sf_seat7 {st d : Nat} (h1 : st < 8) (h2 : d < 64) (M : fxMem) : CX7_far (nI st - 8) (nI d) M = some (nI (FR st (d + 8)), M) := by
  rw [pl_seat st h1, pl_dot d h2]
  exact far7 (by omega) (by omega) M
theorem av6 {A M : fxMem} {K f v : Nat → Nat} {np S dr st p : Nat} {ab s : Int32} {ev : Nat → Nat → Nat → Int32} (hW : CW A f v np S s ev) (hC : SC A M K f v np S dr ab s ev) (hs : st < 8) (hp : p < np) (ha : nI p ≠ ab) : CX4_arrival (nI st) (nI p) M = some (hv K f v ab s np dr ev st p, M) := by
  obtain ⟨w1, w2, w3, w4, w5, w6, w7, w8⟩ := id hW
  obtain ⟨c1, c2, c3, c4, c5, c6, c7, c8⟩ := hC
  obtain ⟨f1, f2⟩ := w3 p hp
  rw [CX4_arrival, it (gin (by omega) (by decide)), c2, nI_clamp (by omega), nI_clamp (by omega), it w5, CX6_placeOfSeat, bs]
  dsimp only
  rw [c1 4 (by decide), f2, sf_seat hs f1, bs, c8 p hp ha, c1 S w6, w7]
  rfl
theorem hd7 {B M : fxMem} {K f v : Nat → Nat} {np dr st p : Nat} {ab s : Int32} {ev : Nat → Nat → Nat → Int32} (hW : MW B K f v np dr ab s ev) (hinj : ∀ a b, a < np → b < np → f a = f b → a = b) (hM : MSc B M) (hs : st < 8) (hp : p < np) (ha : nI p ≠ ab) : ∃ M', CX7_heardAt (nI st) (nI p) M = some (hv K f v ab s np dr ev st p, M') ∧ MSc M M' ∧ M' 0 14 = M 0 14 := by
  obtain ⟨w1, w2, w3, w4, w5, w6, w7, w8, w9, w10⟩ := id hW
  obtain ⟨f1, f2⟩ := w3 p hp
  obtain ⟨k1, k2⟩ := w5 p hp
  have e1 : ∀ M, MSc B M → M 1 = B 1 := fun M h => h.1 1 (by decide) (by decide) (by decide)
  obtain ⟨M', g1, g2, g3⟩ := pl7 hW 10 p 10 M hp hM (tm_le (tm_10 (fun p hp => (w3 p hp).1) hinj hp ha) 2)
  have hM' := hM.tr g2
  refine ⟨M', ?_, g2, g3⟩
  have g1' : CX7_playsAs (nI p) (nI (K p)) M = some (pv K f v ab s np dr (fun p => ev 1 p (K p)) 10 p, M') := g1
  rw [CX7_heardAt, CX7_playsOf, la130, it (gin (by omega) (by decide)), nI_clamp (by omega), e1 M hM, k2, g1', bs, bs]
  simp only [w9 M' hM', bs, la150, gin (show 150 + p < 900 by omega) (by decide), if_true, nI_clamp (show 150 + p < 2 ^ 31 by omega), e1 M' hM', f2, sf_seat7 hs f1]
  rfl
/-- least and greatest -/
def mnx (h : Nat → Int32) (ab : Int32) : Nat → Option (Int32 × Int32)
  | 0 => none
  | i + 1 => if nI i = ab then mnx h ab i else (match mnx h ab i with
    | none => some (h i, h i)
    | some q => some (if h i < q.1 then h i else q.1, if q.2 < h i then h i else q.2))
theorem mnx_le {h : Nat → Int32} {ab : Int32} : ∀ {n : Nat} {q : Int32 × Int32}, mnx h ab n = some q → q.1 ≤ q.2
  | 0, q, e => by simp [mnx] at e
  | n + 1, q, e => by
    rw [mnx] at e
    by_cases z : nI n = ab
    · rw [it z] at e; exact mnx_le e
    · rw [ie z] at e
      cases hr : mnx h ab n with
      | none =>
        rw [hr] at e
        have := Option.some.inj e
        rw [← this]
        exact Int32.le_refl _
      | some r =>
        rw [hr] at e
        have e' := Option.some.inj e
        rw [← e']
        have hl := mnx_le hr
        dsimp only
        split
        · split
          · exact Int32.le_refl _
          · rename_i z1 z2
            exact Int32.not_lt.mp z2
        · split
          · rename_i z1 z2
            exact Int32.not_lt.mp z1
          · exact hl
def mn6 : Option (Int32 × Int32) → Int32
  | none => 2147483647
  | some q => q.1
def mx6 : Option (Int32 × Int32) → Int32
  | none => -2147483648
  | some q => q.2
def fl7 : Option (Int32 × Int32) → Int32
  | none => 0
  | some _ => 1
def mn7 : Option (Int32 × Int32) → Int32
  | none => 0
  | some q => q.1
def mx7 : Option (Int32 × Int32) → Int32
  | none => 0
  | some q => q.2
def spv : Option (Int32 × Int32) → Int32
  | none => 0
  | some q => q.2 - q.1
theorem ltM (h : Int32) : (if h < (2147483647 : Int32) then h else 2147483647) = h := by
  split
  · rfl
  · rename_i z
    have z1 := Int32.not_lt.mp z
    rw [Int32.le_iff_toInt_le] at z1
    have z2 := Int32.toInt_lt h
    have z3 : (2147483647 : Int32).toInt = 2147483647 := by decide
    apply Int32.toInt_inj.mp
    omega
theorem ltN (h : Int32) : (if (-2147483648 : Int32) < h then h else -2147483648) = h := by
  split
  · rfl
  · rename_i z
    have z1 := Int32.not_lt.mp z
    rw [Int32.le_iff_toInt_le] at z1
    have z2 := Int32.le_toInt h
    have z3 : (-2147483648 : Int32).toInt = -2147483648 := by decide
    apply Int32.toInt_inj.mp
    omega
theorem mnLe (h a : Int32) : (if a ≤ h then a else h) = if h < a then h else a := by
  by_cases z : h < a
  · rw [it z, ie (Int32.not_le.mpr z)]
  · rw [ie z, it (Int32.not_lt.mp z)]
theorem mxLe (h a : Int32) : (if h ≤ a then a else h) = if a < h then h else a := by
  by_cases z : a < h
  · rw [it z, ie (Int32.not_le.mpr z)]
  · rw [ie z, it (Int32.not_lt.mp z)]
theorem sp6_L {M : fxMem} {h : Nat → Int32} {np : Nat} {ab x1 : Int32} (hn : np ≤ 10) (e : M 1 0 = nI np) (ea : M 58 3 = ab) (hh : ∀ p, p < np → nI p ≠ ab → CX4_arrival x1 (nI p) M = some (h p, M)) {k : Int32 → Int32 → Int32 → fxMem → Option (Int32 × fxMem)} : ∀ (n i : Nat), np - i < n → i ≤ np → CX4_spreadAt_L9 x1 n (mn6 (mnx h ab i)) (mx6 (mnx h ab i)) (nI i) M k = k (mn6 (mnx h ab np)) (mx6 (mnx h ab np)) (nI np) M
  | 0, i, h, _ => absurd h (Nat.not_lt_zero _)
  | n + 1, i, hni, hi => by
    rw [CX4_spreadAt_L9, e]
    by_cases z : i = np
    · subst z
      rw [it (Int32.le_refl _)]
    · rw [ie (nI_ge (by omega) (by omega)), ea, ← sp6_L (k := k) hn e ea hh n (i + 1) (by omega) (by omega), mnx, n1 i]
      by_cases za : nI i = ab
      · rw [it za, it za]
      · rw [ie za, ie za, hh i (by omega) za, bs]
        dsimp only
        cases hr : mnx h ab i with
        | none =>
          show CX4_spreadAt_L9 x1 n (if h i < (2147483647 : Int32) then h i else 2147483647) (if (-2147483648 : Int32) < h i then h i else -2147483648) _ _ _ = _
          rw [ltM, ltN]
          rfl
        | some q => rfl
theorem er6_L {M : fxMem} {h : Nat → Int32} {np : Nat} {ab x1 : Int32} (hn : np ≤ 10) (e : M 1 0 = nI np) (ea : M 58 3 = ab) (hh : ∀ p, p < np → nI p ≠ ab → CX4_arrival x1 (nI p) M = some (h p, M)) {k : Int32 → Int32 → fxMem → Option (Int32 × fxMem)} : ∀ (n i : Nat), np - i < n → i ≤ np → CX4_earliest_L5 x1 n (mn6 (mnx h ab i)) (nI i) M k = k (mn6 (mnx h ab np)) (nI np) M
  | 0, i, h, _ => absurd h (Nat.not_lt_zero _)
  | n + 1, i, hni, hi => by
    rw [CX4_earliest_L5, e]
    by_cases z : i = np
    · subst z
      rw [it (Int32.le_refl _)]
    · rw [ie (nI_ge (by omega) (by omega)), ea, ← er6_L (k := k) hn e ea hh n (i + 1) (by omega) (by omega), mnx, n1 i]
      by_cases za : nI i = ab
      · rw [it za, it za]
      · rw [ie za, ie za, hh i (by omega) za, bs]
        dsimp only
        cases hr : mnx h ab i with
        | none =>
          show CX4_earliest_L5 x1 n (if h i < (2147483647 : Int32) then h i else 2147483647) _ _ _ = _
          rw [ltM]
          rfl
        | some q => rfl
theorem sp6 {M : fxMem} {h : Nat → Int32} {np : Nat} {ab x1 : Int32} (hn : np ≤ 10) (e : M 1 0 = nI np) (ea : M 58 3 = ab) (hh : ∀ p, p < np → nI p ≠ ab → CX4_arrival x1 (nI p) M = some (h p, M)) : CX4_spreadAt x1 M = some (spv (mnx h ab np), M) := by
  rw [CX4_spreadAt]
  refine (sp6_L hn e ea hh 1000 0 (by omega) (Nat.zero_le _)).trans ?_
  cases hr : mnx h ab np with
  | none => rfl
  | some q =>
    show some ((if q.1 ≤ q.2 then q.2 - q.1 else (0 : Int32)), M) = _
    rw [it (mnx_le hr)]
    rfl
theorem er6 {M : fxMem} {h : Nat → Int32} {np : Nat} {ab x1 : Int32} (hn : np ≤ 10) (e : M 1 0 = nI np) (ea : M 58 3 = ab) (hh : ∀ p, p < np → nI p ≠ ab → CX4_arrival x1 (nI p) M = some (h p, M)) : CX4_earliest x1 M = some (mn6 (mnx h ab np), M) := by
  rw [CX4_earliest]
  exact er6_L (k := fun y2 y3 M => some (y2, M)) hn e ea hh 1000 0 (by omega) (Nat.zero_le _)
theorem MSc14 {B M : fxMem} (h : MSc B M) (x : Int32) : MSc B (fx_st M 0 14 x) := ⟨fun k z1 z2 z3 => by rw [mm_row z1]; exact h.1 k z1 z2 z3, fun j z1 z2 z3 => by rw [mm_col z3]; exact h.2 j z1 z2 z3⟩
theorem sp7_L {B : fxMem} {h : Nat → Int32} {np : Nat} {ab x1 : Int32} (hn : np ≤ 10) (e : B 1 0 = nI np) (ea : B 0 13 = ab) (hh : ∀ p, p < np → nI p ≠ ab → ∀ M, MSc B M → ∃ M', CX7_heardAt x1 (nI p) M = some (h p, M') ∧ MSc M M' ∧ M' 0 14 = M 0 14) {k : Int32 → Int32 → Int32 → fxMem → Option (Int32 × fxMem)} : ∀ (n i : Nat) (M : fxMem), np - i < n → i ≤ np → MSc B M → M 0 14 = mn7 (mnx h ab i) → ∃ M', CX7_spreadAt_L12 x1 n (fl7 (mnx h ab i)) (mx7 (mnx h ab i)) (nI i) M k = k (fl7 (mnx h ab np)) (mx7 (mnx h ab np)) (nI np) M' ∧ MSc B M' ∧ M' 0 14 = mn7 (mnx h ab np)
  | 0, i, M, h, _, _, _ => absurd h (Nat.not_lt_zero _)
  | n + 1, i, M, hni, hi, hM, h14 => by
    rw [CX7_spreadAt_L12, it ci0, cc0, hM.1 1 (by decide) (by decide) (by decide), e]
    by_cases z : i = np
    · subst z
      exact ⟨M, it (Int32.le_refl _) _ _, hM, h14⟩
    · rw [ie (nI_ge (by omega) (by omega)), hM.2 13 (by decide) (by decide) (by decide), ea, n1 i]
      by_cases za : nI i = ab
      · have em : mnx h ab (i + 1) = mnx h ab i := by rw [mnx, it za]
        rw [it za, ← em]
        exact sp7_L hn e ea hh n (i + 1) M (by omega) (by omega) hM (by rw [em]; exact h14)
      · obtain ⟨M1, g1, g2, g3⟩ := hh i (by omega) za M hM
        rw [ie za, g1, bs]
        dsimp only
        have em : mnx h ab (i + 1) = (match mnx h ab i with
          | none => some (h i, h i)
          | some q => some (if h i < q.1 then h i else q.1, if q.2 < h i then h i else q.2)) := by rw [mnx, ie za]
        have h14' : M1 0 14 = mn7 (mnx h ab i) := g3.trans h14
        have f1 : (1 : Int32) = fl7 (mnx h ab (i + 1)) := by
          rw [em]
          cases mnx h ab i <;> rfl
        have f2 : (if fl7 (mnx h ab i) = (0 : Int32) then h i else (if h i ≤ mx7 (mnx h ab i) then mx7 (mnx h ab i) else h i)) = mx7 (mnx h ab (i + 1)) := by
          rw [em]
          cases mnx h ab i with
          | none => rfl
          | some q =>
            show (if (1 : Int32) = 0 then h i else (if h i ≤ q.2 then q.2 else h i)) = if q.2 < h i then h i else q.2
            rw [ie (by decide), mxLe]
        have f3 : (if fl7 (mnx h ab i) = (0 : Int32) then h i else (if M1 0 14 ≤ h i then M1 0 14 else h i)) = mn7 (mnx h ab (i + 1)) := by
          rw [em, h14']
          cases mnx h ab i with
          | none => rfl
          | some q =>
            show (if (1 : Int32) = 0 then h i else (if q.1 ≤ h i then q.1 else h i)) = if h i < q.1 then h i else q.1
            rw [ie (by decide), mnLe]
        rw [f2, f3]
        conv => enter [1, M', 1, 1, 3]; rw [f1]
        exact sp7_L hn e ea hh n (i + 1) _ (by omega) (by omega) (MSc14 (hM.tr g2) _) (mm_same _ _ _ _)
theorem sp7 {B M : fxMem} {h : Nat → Int32} {np : Nat} {ab x1 : Int32} (hn : np ≤ 10) (e : B 1 0 = nI np) (ea : B 0 13 = ab) (hh : ∀ p, p < np → nI p ≠ ab → ∀ M, MSc B M → ∃ M', CX7_heardAt x1 (nI p) M = some (h p, M') ∧ MSc M M' ∧ M' 0 14 = M 0 14) (hM : MSc B M) : ∃ M', CX7_spreadAt x1 M = some (spv (mnx h ab np), M') ∧ MSc B M' ∧ M' 0 14 = mn7 (mnx h ab np) := by
  obtain ⟨M', g1, g2, g3⟩ := sp7_L (k := fun y2 y3 y4 M12 => some (y3 - (M12 0 14), M12)) hn e ea hh 1000 0 (fx_st M 0 14 0) (by omega) (Nat.zero_le _) (MSc14 hM _) (mm_same _ _ _ _)
  refine ⟨M', ?_, g2, g3⟩
  rw [CX7_spreadAt]
  refine g1.trans ?_
  rw [g3]
  cases mnx h ab np <;> rfl
