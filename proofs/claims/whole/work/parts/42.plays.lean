/-! who is listened to, and when a PLAYER PLAYS -/
def src (K f : Nat → Nat) (ab : Int32) (np p : Nat) : Option (Option Nat) := if K p = 0 then some none else if K p = 2 ∨ K p = 5 then (match nsL f ab p true np with
  | none => some none
  | some q => some (some q)) else if K p = 3 then (match nsL f ab p false np with
  | none => none
  | some q => if K q = 2 ∨ K q = 5 then some none else some (some q)) else none
def sr : Option (Option Nat) → Int32
  | none => -1
  | some none => -2
  | some (some q) => nI q
def tm (K f : Nat → Nat) (ab : Int32) (np : Nat) : Nat → Nat → Prop
  | 0, _ => False
  | n + 1, p => match src K f ab np p with
    | none => True
    | some none => True
    | some (some q) => tm K f ab np n q
theorem tm_up {K f : Nat → Nat} {ab : Int32} {np : Nat} : ∀ {n p : Nat}, tm K f ab np n p → tm K f ab np (n + 1) p
  | 0, p, h => absurd h id
  | n + 1, p, h => by
    rw [tm] at h
    rw [tm]
    cases hs : src K f ab np p with
    | none => trivial
    | some o => cases o with
      | none => trivial
      | some q => rw [hs] at h; exact tm_up (n := n) h
theorem tm_le {K f : Nat → Nat} {ab : Int32} {np p n : Nat} (h : tm K f ab np n p) : ∀ m, tm K f ab np (n + m) p
  | 0 => h
  | m + 1 => tm_up (tm_le h m)
theorem src_q {K f : Nat → Nat} {ab : Int32} {np p q : Nat} (h : src K f ab np p = some (some q)) : (nsL f ab p true np = some q ∧ (K p = 2 ∨ K p = 5)) ∨ (nsL f ab p false np = some q ∧ K p = 3 ∧ ¬ (K q = 2 ∨ K q = 5)) := by
  unfold src at h
  by_cases h0 : K p = 0
  · rw [it h0] at h; exact absurd h (by simp)
  rw [ie h0] at h
  by_cases h1 : K p = 2 ∨ K p = 5
  · rw [it h1] at h
    cases hn : nsL f ab p true np with
    | none => rw [hn] at h; exact absurd h (by simp)
    | some r =>
      rw [hn] at h
      have : r = q := Option.some.inj (Option.some.inj h)
      rw [this]
      exact Or.inl ⟨rfl, h1⟩
  rw [ie h1] at h
  by_cases h2 : K p = 3
  · rw [it h2] at h
    cases hn : nsL f ab p false np with
    | none => rw [hn] at h; exact absurd h (by simp)
    | some r =>
      rw [hn] at h
      have h' : (if K r = 2 ∨ K r = 5 then some none else some (some r)) = some (some q) := h
      by_cases h3 : K r = 2 ∨ K r = 5
      · rw [it h3] at h'; exact absurd h' (by simp)
      · rw [ie h3] at h'
        have : r = q := Option.some.inj (Option.some.inj h')
        rw [this] at h3 ⊢
        exact Or.inr ⟨rfl, h2, h3⟩
  · rw [ie h2] at h; exact absurd h (by simp)
theorem cnd_t {f : Nat → Nat} {ab : Int32} {p q : Nat} : cnd f ab p true q = true ↔ nI q ≠ ab ∧ f q % 8 = f p % 8 ∧ f p / 8 < f q / 8 := by
  simp [cnd, and_assoc]
theorem cnd_f {f : Nat → Nat} {ab : Int32} {p q : Nat} : cnd f ab p false q = true ↔ nI q ≠ ab ∧ f q % 8 = f p % 8 ∧ f q / 8 < f p / 8 := by
  simp [cnd, and_assoc]
theorem tm_D {K f : Nat → Nat} {ab : Int32} {np : Nat} : ∀ (r p : Nat), ¬ (K p = 2 ∨ K p = 5) → f p / 8 ≤ r → tm K f ab np (r + 1) p
  | r, p, hk, hr => by
    rw [tm]
    cases hs : src K f ab np p with
    | none => trivial
    | some o => cases o with
      | none => trivial
      | some q =>
        rcases src_q hs with ⟨_, h⟩ | ⟨h1, h2, h3⟩
        · exact absurd h hk
        · have hc := cnd_f.mp (nsL_p h1).2.1
          cases r with
          | zero => omega
          | succ r => exact tm_D r q h3 (by omega)
theorem back_is {K f : Nat → Nat} {ab : Int32} {np p q : Nat} (hinj : ∀ a b, a < np → b < np → f a = f b → a = b) (hp : p < np) (ha : nI p ≠ ab) (hq : nsL f ab p true np = some q) : nsL f ab q false np = some p := by
  obtain ⟨q1, q2, q3⟩ := nsL_p hq
  obtain ⟨c1, c2, c3⟩ := cnd_t.mp q2
  have pc : cnd f ab q false p = true := cnd_f.mpr ⟨ha, c2.symm, c3⟩
  cases hr : nsL f ab q false np with
  | none => exact absurd pc (nsL_p.nsL_n hr p hp)
  | some r =>
    obtain ⟨r1, r2, r3⟩ := nsL_p hr
    obtain ⟨d1, d2, d3⟩ := cnd_f.mp r2
    have h3 := r3 p hp pc
    unfold ds at h3
    congr 1
    by_cases e : f r / 8 = f p / 8
    · exact hinj r p r1 hp (by omega)
    · have rc : cnd f ab p true r = true := cnd_t.mpr ⟨d1, by omega, by omega⟩
      have h4 := q3 r r1 rc
      unfold ds at h4
      omega
theorem tm_U {K f : Nat → Nat} {ab : Int32} {np : Nat} (hf : ∀ p, p < np → f p < 64) (hinj : ∀ a b, a < np → b < np → f a = f b → a = b) : ∀ (r p : Nat), p < np → nI p ≠ ab → (K p = 2 ∨ K p = 5) → 7 - f p / 8 ≤ r → tm K f ab np (r + 1) p
  | r, p, hp, ha, hk, hr => by
    rw [tm]
    cases hs : src K f ab np p with
    | none => trivial
    | some o => cases o with
      | none => trivial
      | some q =>
        rcases src_q hs with ⟨h1, h2⟩ | ⟨h1, h2, h3⟩
        · obtain ⟨q1, q2, q3⟩ := nsL_p h1
          obtain ⟨c1, c2, c3⟩ := cnd_t.mp q2
          have := hf q q1
          cases r with
          | zero => omega
          | succ r =>
            by_cases hk2 : K q = 2 ∨ K q = 5
            · exact tm_U hf hinj r q q1 c1 hk2 (by omega)
            · show tm K f ab np (r + 1) q
              rw [tm]
              cases hs2 : src K f ab np q with
              | none => trivial
              | some o2 => cases o2 with
                | none => trivial
                | some q' =>
                  rcases src_q hs2 with ⟨_, h⟩ | ⟨g1, g2, g3⟩
                  · exact absurd h hk2
                  · rw [back_is (K := K) hinj hp ha h1] at g1
                    have : p = q' := Option.some.inj g1
                    rw [← this] at g3
                    exact absurd hk g3
        · omega
theorem tm_10 {K f : Nat → Nat} {ab : Int32} {np p : Nat} (hf : ∀ p, p < np → f p < 64) (hinj : ∀ a b, a < np → b < np → f a = f b → a = b) (hp : p < np) (ha : nI p ≠ ab) : tm K f ab np 8 p := by
  have := hf p hp
  by_cases hk : K p = 2 ∨ K p = 5
  · exact tm_U hf hinj 7 p hp ha hk (by omega)
  · exact tm_D 7 p hk (by omega)
def own (K f v : Nat → Nat) (s : Int32) (p : Nat) : Int32 := if K p = 4 then -(nI (v p)) else if K p = 5 then s * nI (f p / 8) else if K p = 6 then nI (v p) * nI p else 0
def pv (K f v : Nat → Nat) (ab s : Int32) (np dr : Nat) (sl : Nat → Int32) : Nat → Nat → Int32
  | 0, _ => 0
  | n + 1, p => (sl p + own K f v s p) + (match src K f ab np p with
    | none => 0
    | some none => s * nI (fd (f p) dr)
    | some (some q) => s * nI (fd (f p) (f q)) + pv K f v ab s np dr sl n q)
theorem pv_up {K f v : Nat → Nat} {ab s : Int32} {np dr : Nat} {sl : Nat → Int32} : ∀ {n p : Nat}, tm K f ab np n p → pv K f v ab s np dr sl (n + 1) p = pv K f v ab s np dr sl n p
  | 0, p, h => absurd h id
  | n + 1, p, h => by
    rw [pv, pv]
    rw [tm] at h
    cases hs : src K f ab np p with
    | none => rfl
    | some o => cases o with
      | none => rfl
      | some q =>
        rw [hs] at h
        show _ + (_ + pv K f v ab s np dr sl (n + 1) q) = _ + (_ + pv K f v ab s np dr sl n q)
        rw [pv_up (n := n) h]
/-- the class's view -/
def CW (A : fxMem) (f v : Nat → Nat) (np S : Nat) (s : Int32) (ev : Nat → Nat → Nat → Int32) : Prop := np ≤ 10 ∧ A 1 0 = nI np ∧ (∀ p, p < np → f p < 64 ∧ A 4 p = nI (f p)) ∧ (∀ p, p < np → A 3 p = nI (v p)) ∧ fx_isSh S = true ∧ S < 58 ∧ A S 0 = s ∧ ∀ M, (∀ k, k < 58 → M k = A k) → M 58 1 = nI S → ∀ w p k, w < 2 → p < np → k < 7 → M 59 p = nI k → ∃ M', CX4_sumFor (nI w) (nI p) M = some (ev w p k, M') ∧ ∀ j, j ≠ 63 → M' j = M j
theorem kk {n k : Nat} (h : n < 100) (hk : k < 100) : (nI n = nI k) ↔ n = k := nI_eq (by omega) (by omega)
theorem sf6 {A M : fxMem} {K f v : Nat → Nat} {np S p : Nat} {s ab : Int32} {ev : Nat → Nat → Nat → Int32} (hW : CW A f v np S s ev) (hA : ∀ k, k < 58 → M k = A k) (ha : M 58 3 = ab) (hK : ∀ p, p < np → K p < 7 ∧ M 59 p = nI (K p)) (hp : p < np) : CX4_sourceOf (nI p) M = some (sr (src K f ab np p), M) := by
  obtain ⟨w1, w2, w3, w4, w5, w6, w7, w8⟩ := hW
  have e0 : M 1 0 = nI np := by rw [hA 1 (by decide)]; exact w2
  have ef : ∀ p, p < np → f p < 64 ∧ M 4 p = nI (f p) := fun p hp => by rw [hA 4 (by decide)]; exact w3 p hp
  have nu := ns6 (p := p) true w1 e0 ef ha hp
  have nd := ns6 (p := p) false w1 e0 ef ha hp
  rw [show tw true = (1 : Int32) from rfl] at nu
  rw [show tw false = (-1 : Int32) from rfl] at nd
  obtain ⟨k1, k2⟩ := hK p hp
  rw [CX4_sourceOf, it (gin (by omega) (by decide)), nI_clamp (by omega), k2]
  unfold src
  have b0 : (nI (K p) = (0 : Int32)) ↔ K p = 0 := kk (k := 0) (by omega) (by decide)
  have b2 : (nI (K p) = (2 : Int32)) ↔ K p = 2 := kk (k := 2) (by omega) (by decide)
  have b3 : (nI (K p) = (3 : Int32)) ↔ K p = 3 := kk (k := 3) (by omega) (by decide)
  have b5 : (nI (K p) = (5 : Int32)) ↔ K p = 5 := kk (k := 5) (by omega) (by decide)
  have up : (Option.bind (CX4_nearestInColumn (nI p) (1 : Int32) M) fun q50 => some ((if q50.1 = (-1 : Int32) then (-2 : Int32) else q50.1), q50.2)) = some (sr (match nsL f ab p true np with
      | none => some none
      | some q => some (some q)), M) := by
    rw [nu, bs]
    cases hr : nsL f ab p true np with
    | none => rfl
    | some q =>
      have := (nsL_p hr).1
      show some ((if nI q = (-1 : Int32) then (-2 : Int32) else nI q), M) = _
      rw [ie (nIn q (by omega))]
      rfl
  by_cases h0 : K p = 0
  · rw [it (b0.mpr h0), it h0]; rfl
  rw [ie (fun z => h0 (b0.mp z)), ie h0]
  by_cases h2 : K p = 2
  · rw [it (b2.mpr h2), it (Or.inl h2)]; exact up
  rw [ie (fun z => h2 (b2.mp z))]
  by_cases h5 : K p = 5
  · have h3 : ¬ K p = 3 := by omega
    rw [ie (fun z => h3 (b3.mp z)), it (b5.mpr h5), it (Or.inr h5)]; exact up
  rw [ie (show ¬ (K p = 2 ∨ K p = 5) by omega)]
  by_cases h3 : K p = 3
  · rw [it (b3.mpr h3), it h3, nd, bs]
    cases hr : nsL f ab p false np with
    | none => rfl
    | some q =>
      have hq := (nsL_p hr).1
      obtain ⟨k3, k4⟩ := hK q hq
      show (if nI q = (-1 : Int32) then some (nI q, M) else if fx_in (nI q) 10 = true then Option.bind (CX6_isUnder (M 59 (nI q).toNatClampNeg) (2 : Int32) M) fun q85 => some ((if q85.1 = (0 : Int32) then nI q else (-2 : Int32)), q85.2) else none) = some (sr (if K q = 2 ∨ K q = 5 then some none else some (some q)), M)
      rw [ie (nIn q (by omega)), it (gin (by omega) (by decide)), nI_clamp (by omega), k4]
      have hu := und6 k3 (show 2 < 7 by decide) M
      rw [show nI 2 = (2 : Int32) from rfl] at hu
      rw [hu, bs]
      by_cases hq2 : K q = 2 ∨ K q = 5
      · rw [it hq2]
        have : und (K q) 2 = 1 := by unfold und; rw [it (by omega)]
        rw [this]
        rfl
      · rw [ie hq2]
        have : und (K q) 2 = 0 := by unfold und; rw [ie (by omega)]
        rw [this]
        rfl
  · rw [ie (fun z => h3 (b3.mp z)), ie (fun z => h5 (b5.mp z)), ie h3]; rfl
theorem om6 {A M : fxMem} {K f v : Nat → Nat} {np S p : Nat} {s : Int32} {ev : Nat → Nat → Nat → Int32} (hW : CW A f v np S s ev) (hA : ∀ k, k < 58 → M k = A k) (hS : M 58 1 = nI S) (hK : ∀ p, p < np → K p < 7 ∧ M 59 p = nI (K p)) (hp : p < np) : CX4_ownMore (nI p) M = some (own K f v s p, M) := by
  obtain ⟨w1, w2, w3, w4, w5, w6, w7, w8⟩ := hW
  obtain ⟨k1, k2⟩ := hK p hp
  obtain ⟨f1, f2⟩ := w3 p hp
  have b4 : (nI (K p) = (4 : Int32)) ↔ K p = 4 := kk (k := 4) (by omega) (by decide)
  have b5 : (nI (K p) = (5 : Int32)) ↔ K p = 5 := kk (k := 5) (by omega) (by decide)
  have b6 : (nI (K p) = (6 : Int32)) ↔ K p = 6 := kk (k := 6) (by omega) (by decide)
  rw [CX4_ownMore, it (gin (by omega) (by decide)), nI_clamp (by omega), k2, hS, nI_clamp (by omega), hA 3 (by decide), w4 p hp, hA 4 (by decide), f2, hA S w6, w7, it w5]
  unfold own
  by_cases h4 : K p = 4
  · rw [it (b4.mpr h4), it h4]
  rw [ie (fun z => h4 (b4.mp z)), ie h4]
  by_cases h5 : K p = 5
  · rw [it (b5.mpr h5), it h5, CX6_rowOf, bs, rw6 _ f1]
  rw [ie (fun z => h5 (b5.mp z)), ie h5]
  by_cases h6 : K p = 6
  · rw [it (b6.mpr h6), it h6]
  · rw [ie (fun z => h6 (b6.mp z)), ie h6]
theorem ad3 (a b c : Int32) : a + b + c = a + (b + c) := Int32.add_assoc a b c
theorem pb6_L {A M : fxMem} {K f v : Nat → Nat} {np S dr : Nat} {s ab x1 : Int32} {sl : Nat → Int32} {ev : Nat → Nat → Nat → Int32} (hW : CW A f v np S s ev) (hA : ∀ k, k < 58 → M k = A k) (hS : M 58 1 = nI S) (hd : M 58 2 = nI dr) (hdr : dr < 64) (hK : ∀ p, p < np → K p < 7 ∧ M 59 p = nI (K p)) (hsl : ∀ p, p < np → M 60 p = sl p) (hsr : ∀ p, p < np → M 61 p = sr (src K f ab np p)) {k : Int32 → Int32 → Int32 → fxMem → Option (Int32 × fxMem)} : ∀ (m n p i : Nat) (x2 : Int32), m < n → i + m = 10 → p < np → tm K f ab np m p → CX4_playedBy_L7 x1 n x2 (nI p) (nI i) M k = some (x2 + pv K f v ab s np dr sl m p, M)
  | 0, n, p, i, x2, h, hi, hp, ht => absurd ht id
  | m + 1, 0, p, i, x2, h, hi, hp, ht => absurd h (Nat.not_lt_zero _)
  | m + 1, n + 1, p, i, x2, h, hi, hp, ht => by
    obtain ⟨w1, w2, w3, w4, w5, w6, w7, w8⟩ := id hW
    obtain ⟨f1, f2⟩ := w3 p hp
    rw [CX4_playedBy_L7, ie (show ¬ (10 : Int32) ≤ nI i from nI_ge (b := 10) (by omega) (by decide)), it (gin (by omega) (by decide)), nI_clamp (by omega), om6 hW hA hS hK hp, bs]
    simp only [hsr p hp, hsl p hp, hS, nI_clamp (show S < 2 ^ 31 by omega), hd, hA 4 (by decide), f2, hA S w6, w7, w5, if_true]
    rw [tm] at ht
    rw [pv]
    cases hs : src K f ab np p with
    | none =>
      simp only [show sr none = (-1 : Int32) from rfl, if_true, Int32.add_zero]
    | some o => cases o with
      | none =>
        simp only [show sr (some none) = (-2 : Int32) from rfl, show ¬ (-2 : Int32) = -1 by decide, if_false, if_true, fd6 f1 hdr, bs, ad3]
      | some q =>
        rw [hs] at ht
        have hq : q < np := by rcases src_q hs with ⟨h1, _⟩ | ⟨h1, _⟩ <;> exact (nsL_p h1).1
        obtain ⟨g1, g2⟩ := w3 q hq
        have hn2 : ¬ nI q = (-2 : Int32) := fun z => by
          have h1 := congrArg Int32.toInt z
          rw [nI_toInt (by omega)] at h1
          have h2 : ((-2 : Int32)).toInt = -2 := by decide
          omega
        simp only [show sr (some (some q)) = nI q from rfl, nIn q (show q < 2 ^ 31 by omega), hn2, if_false, gin (show q < 10 by omega) (by decide), if_true, nI_clamp (show q < 2 ^ 31 by omega), g2, fd6 f1 g1, bs, n1 i]
        rw [pb6_L hW hA hS hd hdr hK hsl hsr m n q (i + 1) _ (by omega) (by omega) hq ht, ad3, ad3]
theorem pb6_any {A M : fxMem} {K f v : Nat → Nat} {np S dr : Nat} {s ab x1 : Int32} {ev : Nat → Nat → Nat → Int32} (hW : CW A f v np S s ev) (hA : ∀ k, k < 58 → M k = A k) (hS : M 58 1 = nI S) (hd : M 58 2 = nI dr) (hdr : dr < 64) (hK : ∀ p, p < np → K p < 7 ∧ M 59 p = nI (K p)) (hsr : ∀ p, p < np → M 61 p = sr (src K f ab np p)) : ∀ (n p i : Nat) (x2 : Int32), 10 - i < n → i ≤ 10 → p < np → ∃ r, CX4_playedBy_L7 x1 n x2 (nI p) (nI i) M (fun y2 y3 y4 M => some (y2, M)) = some (r, M)
  | 0, p, i, x2, h, hi, hp => absurd h (Nat.not_lt_zero _)
  | n + 1, p, i, x2, h, hi, hp => by
    obtain ⟨w1, w2, w3, w4, w5, w6, w7, w8⟩ := id hW
    obtain ⟨f1, f2⟩ := w3 p hp
    rw [CX4_playedBy_L7]
    by_cases z : i = 10
    · subst z
      exact ⟨x2, it (show (10 : Int32) ≤ nI 10 by decide) _ _⟩
    rw [ie (show ¬ (10 : Int32) ≤ nI i from nI_ge (b := 10) (by omega) (by decide)), it (gin (by omega) (by decide)), nI_clamp (by omega), om6 hW hA hS hK hp, bs]
    simp only [hsr p hp, hS, nI_clamp (show S < 2 ^ 31 by omega), hd, hA 4 (by decide), f2, hA S w6, w7, w5, if_true]
    cases hs : src K f ab np p with
    | none => exact ⟨_, it rfl _ _⟩
    | some o => cases o with
      | none =>
        simp only [show sr (some none) = (-2 : Int32) from rfl, show ¬ (-2 : Int32) = -1 by decide, if_false, if_true, fd6 f1 hdr, bs]
        exact ⟨_, rfl⟩
      | some q =>
        have hq : q < np := by rcases src_q hs with ⟨h1, _⟩ | ⟨h1, _⟩ <;> exact (nsL_p h1).1
        obtain ⟨g1, g2⟩ := w3 q hq
        have hn2 : ¬ nI q = (-2 : Int32) := fun z => by
          have h1 := congrArg Int32.toInt z
          rw [nI_toInt (by omega)] at h1
          have h2 : ((-2 : Int32)).toInt = -2 := by decide
          omega
        simp only [show sr (some (some q)) = nI q from rfl, nIn q (show q < 2 ^ 31 by omega), hn2, if_false, gin (show q < 10 by omega) (by decide), if_true, nI_clamp (show q < 2 ^ 31 by omega), g2, fd6 f1 g1, bs, n1 i]
        exact pb6_any hW hA hS hd hdr hK hsr n q (i + 1) _ (by omega) (by omega) hq
