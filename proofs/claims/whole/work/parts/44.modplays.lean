/-! the reference's scene -/
def MSc (B M : fxMem) : Prop := (∀ k, k ≠ 0 → k ≠ 3 → k ≠ 4 → M k = B k) ∧ ∀ j, j ≠ 11 → j ≠ 12 → j ≠ 14 → M 0 j = B 0 j
theorem MSc.rf (B : fxMem) : MSc B B := ⟨fun _ _ _ _ => rfl, fun _ _ _ _ => rfl⟩
theorem MSc.tr {B M M' : fxMem} (h : MSc B M) (h' : MSc M M') : MSc B M' := ⟨fun k a b c => by rw [h'.1 k a b c]; exact h.1 k a b c, fun j a b c => by rw [h'.2 j a b c]; exact h.2 j a b c⟩
def MW (B : fxMem) (K f v : Nat → Nat) (np dr : Nat) (ab s : Int32) (ev : Nat → Nat → Nat → Int32) : Prop := np ≤ 10 ∧ B 1 0 = nI np ∧ (∀ p, p < np → f p < 64 ∧ B 1 (150 + p) = nI (f p)) ∧ (∀ p, p < np → B 1 (140 + p) = nI (v p)) ∧ (∀ p, p < np → K p < 7 ∧ B 1 (130 + p) = nI (K p)) ∧ B 1 5 = nI dr ∧ dr < 64 ∧ B 0 13 = ab ∧ (∀ M, MSc B M → CX7_speed M = some (s, M)) ∧ ∀ M, MSc B M → ∀ p k, p < np → k < 7 → ∃ M', CX7_looks (nI p) (nI k) M = some M' ∧ MSc M M' ∧ M' 0 14 = M 0 14 ∧ M' 0 11 = 1 + ev 0 p k ∧ M' 0 12 = ev 1 p k
theorem ls7 {B M : fxMem} {K f v : Nat → Nat} {np dr p : Nat} {ab s : Int32} {ev : Nat → Nat → Nat → Int32} (hW : MW B K f v np dr ab s ev) (hM : MSc B M) (hp : p < np) : CX7_listening (nI p) M = some (s * nI (fd (f p) dr), M) := by
  obtain ⟨w1, w2, w3, w4, w5, w6, w7, w8, w9, w10⟩ := hW
  obtain ⟨f1, f2⟩ := w3 p hp
  have e : M 1 = B 1 := hM.1 1 (by decide) (by decide) (by decide)
  rw [CX7_listening, w9 M hM, bs, la150, it (gin (by omega) (by decide)), it ci5, cc5, nI_clamp (by omega)]
  simp only [e, f2, w6, fd7 f1 w7, bs]
/-- what a KIND's base is -/
def bv (K f v : Nat → Nat) (ab s : Int32) (np dr : Nat) (sl : Nat → Int32) (n p : Nat) : Int32 := match src K f ab np p with
    | none => 0
    | some none => s * nI (fd (f p) dr)
    | some (some q) => s * nI (fd (f p) (f q)) + pv K f v ab s np dr sl n q
theorem pv_bv {K f v : Nat → Nat} {ab s : Int32} {np dr : Nat} {sl : Nat → Int32} {n p : Nat} : pv K f v ab s np dr sl (n + 1) p = (sl p + own K f v s p) + bv K f v ab s np dr sl n p := rfl
theorem J130 {B M : fxMem} {K f v : Nat → Nat} {np dr p k : Nat} {ab s x : Int32} {ev : Nat → Nat → Nat → Int32} {rec : Nat → Int32 → Int32 → fxMem → Option (Int32 × fxMem)} (hW : MW B K f v np dr ab s ev) (hM : MSc B M) (hp : p < np) (hk : k < 7) : ∃ M', CX7_playsAs_J130 rec (nI p) (nI k) x M = some (ev 1 p k + x, M') ∧ MSc M M' ∧ M' 0 14 = M 0 14 := by
  obtain ⟨w1, w2, w3, w4, w5, w6, w7, w8, w9, w10⟩ := hW
  obtain ⟨M', e1, e2, e3, e4, e5⟩ := w10 M hM p k hp hk
  exact ⟨M', by rw [CX7_playsAs_J130, e1, bs, e5], e2, e3⟩
theorem pl7 {B : fxMem} {K f v : Nat → Nat} {np dr : Nat} {ab s : Int32} {ev : Nat → Nat → Nat → Int32} (hW : MW B K f v np dr ab s ev) : ∀ (m p d : Nat) (M : fxMem), p < np → MSc B M → tm K f ab np m p → ∃ M', gX7p (d + 3 * m) 0 (nI p) (nI (K p)) M = some (pv K f v ab s np dr (fun p => ev 1 p (K p)) m p, M') ∧ MSc M M' ∧ M' 0 14 = M 0 14
  | 0, p, d, M, hp, hM, ht => absurd ht id
  | m + 1, p, d, M, hp, hM, ht => by
    obtain ⟨w1, w2, w3, w4, w5, w6, w7, w8, w9, w10⟩ := id hW
    obtain ⟨f1, f2⟩ := w3 p hp
    obtain ⟨k1, k2⟩ := w5 p hp
    have e1 : ∀ M, MSc B M → M 1 = B 1 := fun M h => h.1 1 (by decide) (by decide) (by decide)
    rw [tm] at ht
    -- heard from another
    have HF : ∀ q M, src K f ab np p = some (some q) → MSc B M → q < np → tm K f ab np m q → ∃ M', gX7p (d + 3 * m + 1) 3 (nI p) (nI q) M = some (pv K f v ab s np dr (fun p => ev 1 p (K p)) m q + s * nI (fd (f p) (f q)), M') ∧ MSc M M' ∧ M' 0 14 = M 0 14 := by
      intro q M hs hM hq htq
      obtain ⟨g1, g2⟩ := w3 q hq
      obtain ⟨l1, l2⟩ := w5 q hq
      obtain ⟨M', h1, h2, h3⟩ := pl7 hW m q d M hq hM htq
      have hM' := hM.tr h2
      refine ⟨M', ?_, h2, h3⟩
      rw [gX7p, ie (by decide), ie (by decide), ie (by decide), BX7_heardFrom, la130, it (gin (by omega) (by decide)), nI_clamp (by omega), e1 M hM, l2]
      refine (congrArg (fun z => Option.bind z _) h1).trans ?_
      rw [bs]
      simp only [w9 M' hM', bs, la150, gin (show 150 + p < 900 by omega) (by decide), gin (show 150 + q < 900 by omega) (by decide), if_true, nI_clamp (show 150 + p < 2 ^ 31 by omega), nI_clamp (show 150 + q < 2 ^ 31 by omega), e1 M' hM', f2, g2, fd7 f1 g1]
    -- backward
    have BK : ∀ M, MSc B M → (K p = 2 ∨ K p = 5) → ∃ M', gX7p (d + 3 * m + 2) 1 (nI p) 0 M = some (bv K f v ab s np dr (fun p => ev 1 p (K p)) m p, M') ∧ MSc M M' ∧ M' 0 14 = M 0 14 := by
      intro M hM hk
      have h0 : ¬ K p = 0 := by omega
      have hn := ns7 (ab := ab) (M := M) (p := p) true w1 (by rw [e1 M hM]; exact w2) (fun p hp => by rw [e1 M hM]; exact w3 p hp) (by rw [hM.2 13 (by decide) (by decide) (by decide)]; exact w8) hp
      rw [show tz true = (1 : Int32) from rfl] at hn
      rw [gX7p, ie (by decide), it rfl, BX7_backward, hn, bs]
      dsimp only
      cases hr : nsL f ab p true np with
      | none =>
        have hs : src K f ab np p = some none := by unfold src; rw [ie h0, it hk, hr]
        refine ⟨M, ?_, MSc.rf M, rfl⟩
        rw [it (show oi none = (-1 : Int32) from rfl), ls7 hW hM hp, bs]
        unfold bv
        rw [hs]
      | some q =>
        have hs : src K f ab np p = some (some q) := by unfold src; rw [ie h0, it hk, hr]
        have hq := (nsL_p hr).1
        rw [hs] at ht
        obtain ⟨M', h1, h2, h3⟩ := HF q M hs hM hq ht
        refine ⟨M', ?_, h2, h3⟩
        rw [ie (show ¬ oi (some q) = (-1 : Int32) from nIn q (by omega))]
        refine (congrArg (fun z => Option.bind z fun q23 => some (q23.1, q23.2)) h1).trans ?_
        unfold bv
        rw [hs, bs, Int32.add_comm]
    -- forward
    have FW : ∀ M, MSc B M → K p = 3 → ∃ M', gX7p (d + 3 * m + 2) 2 (nI p) 0 M = some (bv K f v ab s np dr (fun p => ev 1 p (K p)) m p, M') ∧ MSc M M' ∧ M' 0 14 = M 0 14 := by
      intro M hM hk
      have h0 : ¬ K p = 0 := by omega
      have h2' : ¬ (K p = 2 ∨ K p = 5) := by omega
      have hn := ns7 (ab := ab) (M := M) (p := p) false w1 (by rw [e1 M hM]; exact w2) (fun p hp => by rw [e1 M hM]; exact w3 p hp) (by rw [hM.2 13 (by decide) (by decide) (by decide)]; exact w8) hp
      rw [show tz false = (0 : Int32) from rfl] at hn
      rw [gX7p, ie (by decide), ie (by decide), it rfl, BX7_forward, hn, bs]
      dsimp only
      cases hr : nsL f ab p false np with
      | none =>
        have hs : src K f ab np p = none := by unfold src; rw [ie h0, ie h2', it hk, hr]
        refine ⟨M, ?_, MSc.rf M, rfl⟩
        rw [it (show oi none = (-1 : Int32) from rfl)]
        unfold bv
        rw [hs]
      | some q =>
        have hq := (nsL_p hr).1
        obtain ⟨l1, l2⟩ := w5 q hq
        have b2 : (nI (K q) = (2 : Int32)) ↔ K q = 2 := kk (k := 2) (by omega) (by decide)
        have b5 : (nI (K q) = (5 : Int32)) ↔ K q = 5 := kk (k := 5) (by omega) (by decide)
        simp only [show oi (some q) = nI q from rfl, nIn q (show q < 2 ^ 31 by omega), if_false, la130, gin (show 130 + q < 900 by omega) (by decide), if_true, nI_clamp (show 130 + q < 2 ^ 31 by omega), e1 M hM, l2]
        by_cases hq2 : K q = 2 ∨ K q = 5
        · have hs : src K f ab np p = some none := by
            unfold src
            rw [ie h0, ie h2', it hk, hr]
            exact it hq2 _ _
          have ej : CX7_forward_J42 (fun t a0 a1 M => gX7p (d + 3 * m + 1) t a0 a1 M) (nI p) (nI q) M = some (bv K f v ab s np dr (fun p => ev 1 p (K p)) m p, M) := by
            rw [CX7_forward_J42, ls7 hW hM hp, bs]
            unfold bv
            rw [hs]
          refine ⟨M, ?_, MSc.rf M, rfl⟩
          by_cases z2 : K q = 2
          · rw [it (b2.mpr z2)]; exact ej
          · rw [ie (fun z => z2 (b2.mp z)), it (b5.mpr (by omega))]; exact ej
        · have hs : src K f ab np p = some (some q) := by
            unfold src
            rw [ie h0, ie h2', it hk, hr]
            exact ie hq2 _ _
          rw [hs] at ht
          obtain ⟨M', h1, h2, h3⟩ := HF q M hs hM hq ht
          refine ⟨M', ?_, h2, h3⟩
          rw [ie (fun z => hq2 (Or.inl (b2.mp z))), ie (fun z => hq2 (Or.inr (b5.mp z)))]
          refine (congrArg (fun z => Option.bind z fun q23 => some (q23.1, q23.2)) h1).trans ?_
          unfold bv
          rw [hs, bs, Int32.add_comm]
    have b0 : (nI (K p) = (0 : Int32)) ↔ K p = 0 := kk (k := 0) (by omega) (by decide)
    have b2 : (nI (K p) = (2 : Int32)) ↔ K p = 2 := kk (k := 2) (by omega) (by decide)
    have b3 : (nI (K p) = (3 : Int32)) ↔ K p = 3 := kk (k := 3) (by omega) (by decide)
    have b4 : (nI (K p) = (4 : Int32)) ↔ K p = 4 := kk (k := 4) (by omega) (by decide)
    have b5 : (nI (K p) = (5 : Int32)) ↔ K p = 5 := kk (k := 5) (by omega) (by decide)
    have b6 : (nI (K p) = (6 : Int32)) ↔ K p = 6 := kk (k := 6) (by omega) (by decide)
    rw [show d + 3 * (m + 1) = d + 3 * m + 2 + 1 by omega, gX7p, it rfl, BX7_playsAs, pv_bv]
    have fin : ∀ (x : Int32) M1, MSc M M1 → M1 0 14 = M 0 14 → x = own K f v s p + bv K f v ab s np dr (fun p => ev 1 p (K p)) m p → ∃ M', CX7_playsAs_J130 (fun t a0 a1 M => gX7p (d + 3 * m + 2) t a0 a1 M) (nI p) (nI (K p)) x M1 = some (ev 1 p (K p) + own K f v s p + bv K f v ab s np dr (fun p => ev 1 p (K p)) m p, M') ∧ MSc M M' ∧ M' 0 14 = M 0 14 := by
      intro x M1 hM1 h14 hx
      obtain ⟨M', j1, j2, j3⟩ := J130 (rec := fun t a0 a1 M => gX7p (d + 3 * m + 2) t a0 a1 M) (x := x) hW (hM.tr hM1) hp k1
      exact ⟨M', by rw [j1, hx, ad3], hM1.tr j2, j3.trans h14⟩
    by_cases h0 : K p = 0
    · rw [it (b0.mpr h0), ls7 hW hM hp, bs]
      refine fin _ M (MSc.rf M) rfl ?_
      unfold own bv src
      rw [ie (by omega), ie (by omega), ie (by omega), it h0, Int32.zero_add]
    rw [ie (fun z => h0 (b0.mp z))]
    by_cases h2 : K p = 2
    · obtain ⟨M1, g1, g2, g3⟩ := BK M hM (Or.inl h2)
      rw [it (b2.mpr h2)]
      rw [g1, bs]
      refine fin _ M1 g2 g3 ?_
      unfold own
      rw [ie (by omega), ie (by omega), ie (by omega), Int32.zero_add]
    rw [ie (fun z => h2 (b2.mp z))]
    by_cases h3 : K p = 3
    · obtain ⟨M1, g1, g2, g3⟩ := FW M hM h3
      rw [it (b3.mpr h3)]
      rw [g1, bs]
      refine fin _ M1 g2 g3 ?_
      unfold own
      rw [ie (by omega), ie (by omega), ie (by omega), Int32.zero_add]
    rw [ie (fun z => h3 (b3.mp z))]
    by_cases h4 : K p = 4
    · rw [it (b4.mpr h4), la140, it (gin (by omega) (by decide)), nI_clamp (by omega), e1 M hM, w4 p hp]
      refine fin _ M (MSc.rf M) rfl ?_
      unfold own bv src
      rw [it h4, ie (by omega), ie (by omega), ie (by omega), Int32.add_zero]
    rw [ie (fun z => h4 (b4.mp z))]
    by_cases h5 : K p = 5
    · obtain ⟨M1, g1, g2, g3⟩ := BK M hM (Or.inr h5)
      rw [it (b5.mpr h5)]
      rw [g1, bs]
      simp only [bs, w9 M1 (hM.tr g2), la150, gin (show 150 + p < 900 by omega) (by decide), if_true, nI_clamp (show 150 + p < 2 ^ 31 by omega), e1 M1 (hM.tr g2), f2, rw7 _ f1]
      refine fin _ M1 g2 g3 ?_
      unfold own
      rw [ie (by omega), it h5, Int32.add_comm]
    rw [ie (fun z => h5 (b5.mp z))]
    by_cases h6 : K p = 6
    · rw [it (b6.mpr h6), la140, it (gin (by omega) (by decide)), nI_clamp (by omega), e1 M hM, w4 p hp]
      refine fin _ M (MSc.rf M) rfl ?_
      unfold own bv src
      rw [ie (by omega), ie (by omega), it h6, ie (by omega), ie (by omega), ie (by omega), Int32.add_zero]
    rw [ie (fun z => h6 (b6.mp z))]
    refine fin _ M (MSc.rf M) rfl ?_
    unfold own bv src
    rw [ie h4, ie h5, ie h6, ie h0, ie (by omega), ie h3]
    rfl
