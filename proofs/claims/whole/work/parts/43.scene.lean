/-! the class's scene -/
theorem sa_L {A : fxMem} {K f v : Nat → Nat} {np S : Nat} {s : Int32} {ev : Nat → Nat → Nat → Int32} (hW : CW A f v np S s ev) {k : Int32 → fxMem → Option fxMem} : ∀ (n i : Nat) (M : fxMem), np - i < n → i ≤ np → (∀ k, k < 58 → M k = A k) → M 58 1 = nI S → (∀ p, p < np → K p < 7 ∧ M 59 p = nI (K p)) → (∀ p, p < i → M 60 p = ev 1 p (K p)) → ∃ M', CX4_slipAll_L2 n (nI i) M k = k (nI np) M' ∧ (∀ j, j ≠ 60 → j ≠ 63 → M' j = M j) ∧ ∀ p, p < np → M' 60 p = ev 1 p (K p)
  | 0, i, M, h, _, _, _, _, _ => absurd h (Nat.not_lt_zero _)
  | n + 1, i, M, h, hi, hA, hS, hK, hs => by
    obtain ⟨w1, w2, w3, w4, w5, w6, w7, w8⟩ := id hW
    rw [CX4_slipAll_L2, hA 1 (by decide), w2]
    by_cases z : i = np
    · subst z
      exact ⟨M, it (Int32.le_refl _) _ _, fun _ _ _ => rfl, hs⟩
    · obtain ⟨k1, k2⟩ := hK i (by omega)
      obtain ⟨M1, e1, e2⟩ := w8 M hA hS 1 i (K i) (by decide) (by omega) k1 k2
      rw [show nI 1 = (1 : Int32) from rfl] at e1
      rw [ie (nI_ge (by omega) (by omega)), e1, bs, it (gin (by omega) (by decide)), nI_clamp (by omega), n1 i]
      dsimp only
      have eo : ∀ j, j ≠ 60 → j ≠ 63 → fx_st M1 60 i (ev 1 i (K i)) j = M j := fun j z1 z2 => by rw [mm_row z1, e2 j z2]
      obtain ⟨M2, g1, g2, g3⟩ := sa_L hW (k := k) n (i + 1) (fx_st M1 60 i (ev 1 i (K i))) (by omega) (by omega) (fun j hj => by rw [eo j (by omega) (by omega)]; exact hA j hj) (by rw [eo 58 (by decide) (by decide)]; exact hS) (fun p hp => by rw [eo 59 (by decide) (by decide)]; exact hK p hp) (fun p hp => by
        by_cases e : p = i
        · subst e; rw [mm_same]
        · rw [mm_col e, e2 60 (by decide)]; exact hs p (by omega))
      exact ⟨M2, g1, fun j z1 z2 => by rw [g2 j z1 z2, eo j z1 z2], g3⟩
theorem sa6 {A M : fxMem} {K f v : Nat → Nat} {np S : Nat} {s : Int32} {ev : Nat → Nat → Nat → Int32} (hW : CW A f v np S s ev) (hA : ∀ k, k < 58 → M k = A k) (hS : M 58 1 = nI S) (hK : ∀ p, p < np → K p < 7 ∧ M 59 p = nI (K p)) : ∃ M', CX4_slipAll M = some M' ∧ (∀ j, j ≠ 60 → j ≠ 63 → M' j = M j) ∧ ∀ p, p < np → M' 60 p = ev 1 p (K p) := by
  have h1 := hW.1
  obtain ⟨M', e1, e2, e3⟩ := sa_L hW (k := fun _ M => some M) 1000 0 M (by omega) (Nat.zero_le _) hA hS hK (fun p hp => absurd hp (Nat.not_lt_zero p))
  exact ⟨M', e1, e2, e3⟩
theorem ar_L {A : fxMem} {K f v : Nat → Nat} {np S : Nat} {s ab : Int32} {ev : Nat → Nat → Nat → Int32} (hW : CW A f v np S s ev) {k : Int32 → fxMem → Option fxMem} : ∀ (n i : Nat) (M : fxMem), np - i < n → i ≤ np → (∀ k, k < 58 → M k = A k) → M 58 3 = ab → (∀ p, p < np → K p < 7 ∧ M 59 p = nI (K p)) → (∀ p, p < i → M 61 p = sr (src K f ab np p)) → ∃ M', CX4_arrange_L2 n (nI i) M k = k (nI np) M' ∧ (∀ j, j ≠ 61 → M' j = M j) ∧ ∀ p, p < np → M' 61 p = sr (src K f ab np p)
  | 0, i, M, h, _, _, _, _, _ => absurd h (Nat.not_lt_zero _)
  | n + 1, i, M, h, hi, hA, hS, hK, hs => by
    obtain ⟨w1, w2, w3, w4, w5, w6, w7, w8⟩ := id hW
    rw [CX4_arrange_L2, hA 1 (by decide), w2]
    by_cases z : i = np
    · subst z
      exact ⟨M, it (Int32.le_refl _) _ _, fun _ _ => rfl, hs⟩
    · rw [ie (nI_ge (by omega) (by omega)), sf6 hW hA hS hK (show i < np by omega), bs, it (gin (by omega) (by decide)), nI_clamp (by omega), n1 i]
      dsimp only
      have eo : ∀ j, j ≠ 61 → fx_st M 61 i (sr (src K f ab np i)) j = M j := fun j z1 => by rw [mm_row z1]
      obtain ⟨M2, g1, g2, g3⟩ := ar_L (ab := ab) hW (k := k) n (i + 1) (fx_st M 61 i (sr (src K f ab np i))) (by omega) (by omega) (fun j hj => by rw [eo j (by omega)]; exact hA j hj) (by rw [eo 58 (by decide)]; exact hS) (fun p hp => by rw [eo 59 (by decide)]; exact hK p hp) (fun p hp => by
        by_cases e : p = i
        · subst e; rw [mm_same]
        · rw [mm_col e]; exact hs p (by omega))
      exact ⟨M2, g1, fun j z1 => by rw [g2 j z1, eo j z1], g3⟩
theorem ar6 {A M : fxMem} {K f v : Nat → Nat} {np S : Nat} {s ab : Int32} {ev : Nat → Nat → Nat → Int32} (hW : CW A f v np S s ev) (hA : ∀ k, k < 58 → M k = A k) (ha : M 58 3 = ab) (hK : ∀ p, p < np → K p < 7 ∧ M 59 p = nI (K p)) : ∃ M', CX4_arrange M = some M' ∧ (∀ j, j ≠ 61 → M' j = M j) ∧ ∀ p, p < np → M' 61 p = sr (src K f ab np p) := by
  have h1 := hW.1
  obtain ⟨M', e1, e2, e3⟩ := ar_L hW (k := fun _ M => some M) 1000 0 M (by omega) (Nat.zero_le _) hA ha hK (fun p hp => absurd hp (Nat.not_lt_zero p))
  exact ⟨M', e1, e2, e3⟩
theorem pa_L {A : fxMem} {K f v : Nat → Nat} {np S dr : Nat} {s ab : Int32} {sl : Nat → Int32} {ev : Nat → Nat → Nat → Int32} (hW : CW A f v np S s ev) (hinj : ∀ a b, a < np → b < np → f a = f b → a = b) (hdr : dr < 64) {k : Int32 → fxMem → Option fxMem} : ∀ (n i : Nat) (M : fxMem), np - i < n → i ≤ np → (∀ k, k < 58 → M k = A k) → M 58 1 = nI S → M 58 2 = nI dr → (∀ p, p < np → K p < 7 ∧ M 59 p = nI (K p)) → (∀ p, p < np → M 60 p = sl p) → (∀ p, p < np → M 61 p = sr (src K f ab np p)) → (∀ p, p < i → nI p ≠ ab → M 62 p = pv K f v ab s np dr sl 10 p) → ∃ M', CX4_playAll_L2 n (nI i) M k = k (nI np) M' ∧ (∀ j, j ≠ 62 → M' j = M j) ∧ ∀ p, p < np → nI p ≠ ab → M' 62 p = pv K f v ab s np dr sl 10 p
  | 0, i, M, h, _, _, _, _, _, _, _, _ => absurd h (Nat.not_lt_zero _)
  | n + 1, i, M, h, hi, hA, hS, hd, hK, hsl, hsr, hs => by
    obtain ⟨w1, w2, w3, w4, w5, w6, w7, w8⟩ := id hW
    rw [CX4_playAll_L2, hA 1 (by decide), w2]
    by_cases z : i = np
    · subst z
      exact ⟨M, it (Int32.le_refl _) _ _, fun _ _ => rfl, hs⟩
    · have key : ∃ r, CX4_playedBy (nI i) M = some (r, M) ∧ (nI i ≠ ab → r = pv K f v ab s np dr sl 10 i) := by
        by_cases za : nI i = ab
        · obtain ⟨r, er⟩ := pb6_any (x1 := nI i) hW hA hS hd hdr hK hsr 1000 i 0 0 (by omega) (by omega) (by omega)
          exact ⟨r, er, fun z => absurd za z⟩
        · refine ⟨_, pb6_L (x1 := nI i) hW hA hS hd hdr hK hsl hsr 10 1000 i 0 0 (by omega) (by omega) (by omega) (tm_le (tm_10 (fun p hp => (w3 p hp).1) hinj (by omega) za) 2), fun _ => Int32.zero_add _⟩
      obtain ⟨r, e1, e2⟩ := key
      rw [ie (nI_ge (by omega) (by omega)), e1, bs, it (gin (by omega) (by decide)), nI_clamp (by omega), n1 i]
      dsimp only
      have eo : ∀ j, j ≠ 62 → fx_st M 62 i r j = M j := fun j z1 => by rw [mm_row z1]
      obtain ⟨M2, g1, g2, g3⟩ := pa_L (ab := ab) (sl := sl) hW hinj hdr (k := k) n (i + 1) (fx_st M 62 i r) (by omega) (by omega) (fun j hj => by rw [eo j (by omega)]; exact hA j hj) (by rw [eo 58 (by decide)]; exact hS) (by rw [eo 58 (by decide)]; exact hd) (fun p hp => by rw [eo 59 (by decide)]; exact hK p hp) (fun p hp => by rw [eo 60 (by decide)]; exact hsl p hp) (fun p hp => by rw [eo 61 (by decide)]; exact hsr p hp) (fun p hp hpa => by
        by_cases e : p = i
        · subst e; rw [mm_same]; exact e2 hpa
        · rw [mm_col e]; exact hs p (by omega) hpa)
      exact ⟨M2, g1, fun j z1 => by rw [g2 j z1, eo j z1], g3⟩
/-- a class memory in which all has been heard -/
def SC (A M : fxMem) (K f v : Nat → Nat) (np S dr : Nat) (ab s : Int32) (ev : Nat → Nat → Nat → Int32) : Prop := (∀ k, k < 58 → M k = A k) ∧ M 58 1 = nI S ∧ M 58 2 = nI dr ∧ M 58 3 = ab ∧ (∀ p, p < np → K p < 7 ∧ M 59 p = nI (K p)) ∧ (∀ p, p < np → M 60 p = ev 1 p (K p)) ∧ (∀ p, p < np → M 61 p = sr (src K f ab np p)) ∧ ∀ p, p < np → nI p ≠ ab → M 62 p = pv K f v ab s np dr (fun p => ev 1 p (K p)) 10 p
theorem pa6 {A M : fxMem} {K f v : Nat → Nat} {np S dr : Nat} {s ab : Int32} {ev : Nat → Nat → Nat → Int32} (hW : CW A f v np S s ev) (hinj : ∀ a b, a < np → b < np → f a = f b → a = b) (hdr : dr < 64) (hA : ∀ k, k < 58 → M k = A k) (hS : M 58 1 = nI S) (hd : M 58 2 = nI dr) (ha : M 58 3 = ab) (hK : ∀ p, p < np → K p < 7 ∧ M 59 p = nI (K p)) (hsl : ∀ p, p < np → M 60 p = ev 1 p (K p)) (hsr : ∀ p, p < np → M 61 p = sr (src K f ab np p)) : ∃ M', CX4_playAll M = some M' ∧ SC A M' K f v np S dr ab s ev := by
  have h1 := hW.1
  obtain ⟨M', e1, e2, e3⟩ := pa_L (sl := fun p => ev 1 p (K p)) hW hinj hdr (k := fun _ M => some M) 1000 0 M (by omega) (Nat.zero_le _) hA hS hd hK hsl hsr (fun p hp => absurd hp (Nat.not_lt_zero p))
  exact ⟨M', e1, fun j hj => by rw [e2 j (by omega)]; exact hA j hj, by rw [e2 58 (by decide)]; exact hS, by rw [e2 58 (by decide)]; exact hd, by rw [e2 58 (by decide)]; exact ha, fun p hp => by rw [e2 59 (by decide)]; exact hK p hp, fun p hp => by rw [e2 60 (by decide)]; exact hsl p hp, fun p hp => by rw [e2 61 (by decide)]; exact hsr p hp, e3⟩
/-- arranged and played anew -/
theorem ap6 {A M : fxMem} {K f v : Nat → Nat} {np S dr : Nat} {s ab : Int32} {ev : Nat → Nat → Nat → Int32} (hW : CW A f v np S s ev) (hinj : ∀ a b, a < np → b < np → f a = f b → a = b) (hdr : dr < 64) (hA : ∀ k, k < 58 → M k = A k) (hS : M 58 1 = nI S) (hd : M 58 2 = nI dr) (ha : M 58 3 = ab) (hK : ∀ p, p < np → K p < 7 ∧ M 59 p = nI (K p)) (hsl : ∀ p, p < np → M 60 p = ev 1 p (K p)) : ∃ M1 M', CX4_arrange M = some M1 ∧ CX4_playAll M1 = some M' ∧ SC A M' K f v np S dr ab s ev := by
  obtain ⟨M1, e1, e2, e3⟩ := ar6 hW hA ha hK
  obtain ⟨M', g1, g2⟩ := pa6 hW hinj hdr (fun j hj => by rw [e2 j (by omega)]; exact hA j hj) (by rw [e2 58 (by decide)]; exact hS) (by rw [e2 58 (by decide)]; exact hd) (by rw [e2 58 (by decide)]; exact ha) (fun p hp => by rw [e2 59 (by decide)]; exact hK p hp) (fun p hp => by rw [e2 60 (by decide)]; exact hsl p hp) e3
  exact ⟨M1, M', e1, g1, g2⟩
theorem ha6 {A : fxMem} {K f v : Nat → Nat} {np S dr : Nat} {s : Int32} {ev : Nat → Nat → Nat → Int32} (hW : CW A f v np S s ev) (hinj : ∀ a b, a < np → b < np → f a = f b → a = b) (hdr : dr < 64) (hK : ∀ p, p < np → K p < 7 ∧ A 2 p = nI (K p)) (hd : A 1 4 = nI dr) : ∃ M', CX4_hearAll S A = some M' ∧ SC A M' K f v np S dr (-1) s ev := by
  obtain ⟨w1, w2, w3, w4, w5, w6, w7, w8⟩ := id hW
  rw [CX4_hearAll, it w5, fx_lt, mm_row (by decide), hd]
  have hr : ∀ k, k ≠ 58 → k ≠ 59 → (fx_cp (fx_st (fx_st (fx_st A 58 1 (nI S)) 58 2 (nI dr)) 58 3 (-1)) 2 59 10) k = A k := fun k z1 z2 => by
    simp only [fx_cp, fx_up, z2, if_false]
    rw [mm_row z1, mm_row z1, mm_row z1]
  have h58 : ∀ j, (fx_cp (fx_st (fx_st (fx_st A 58 1 (nI S)) 58 2 (nI dr)) 58 3 (-1)) 2 59 10) 58 j = (fx_st (fx_st (fx_st A 58 1 (nI S)) 58 2 (nI dr)) 58 3 (-1)) 58 j := fun j => rfl
  have h59 : ∀ p, p < np → K p < 7 ∧ (fx_cp (fx_st (fx_st (fx_st A 58 1 (nI S)) 58 2 (nI dr)) 58 3 (-1)) 2 59 10) 59 p = nI (K p) := fun p hp => by
    obtain ⟨k1, k2⟩ := hK p hp
    refine ⟨k1, ?_⟩
    rw [← k2]
    have : p < 10 := by omega
    simp [fx_cp, fx_up, fx_st, va_cpy, this]
  obtain ⟨M1, e1, e2, e3⟩ := sa6 hW (fun j hj => hr j (by omega) (by omega)) (by rw [h58, mm_col (by decide), mm_col (by decide), mm_same]) h59
  obtain ⟨M2, M3, g1, g2, g3⟩ := ap6 (M := M1) (ab := -1) hW hinj hdr (fun j hj => by rw [e2 j (by omega) (by omega)]; exact hr j (by omega) (by omega)) (by rw [e2 58 (by decide) (by decide), h58, mm_col (by decide), mm_col (by decide), mm_same]) (by rw [e2 58 (by decide) (by decide), h58, mm_col (by decide), mm_same]) (by rw [e2 58 (by decide) (by decide), h58, mm_same]) (fun p hp => by rw [e2 59 (by decide) (by decide)]; exact h59 p hp) e3
  refine ⟨M3, ?_, g3⟩
  rw [e1, bs, g1, bs, g2, bs]
