/-! off, hard, meet -/
theorem il2 : ∀ {x : Int32}, (x < 0 ∨ nI 2 ≤ x) → ∀ M, CX7_in x 0 1 M = some (0, M) := fun h M => by
  have := ilo (n := 2) (by decide) h M
  rwa [show nI 2 - 1 = (1 : Int32) by decide] at this
theorem ii2 : ∀ {j : Nat}, j < 2 → ∀ M, CX7_in (nI j) 0 1 M = some (1, M) := fun h M => by
  have := iin (n := 2) h (by decide) M
  rwa [show nI 2 - 1 = (1 : Int32) by decide] at this
theorem rA_at {c m : Nat → Int32} {off n B p : Nat} (h : rA c m off n B) (hp : p < n) : ∃ u, u < B ∧ c p = nI u ∧ m (off + p) = nI u := by
  obtain ⟨a, k, hk, e⟩ := h p hp
  exact ⟨k, hk, e, a.trans e⟩
theorem off_L {Mc Mm : fxMem} {np nf nd nb ns d : Nat} (hF : rF Mc Mm 1 1 np nf nd nb ns d) {kc km : Int32 → Int32 → Int32 → Int32 → fxMem → Option (Int32 × fxMem)} {x : Int32} : ∀ (n i : Nat) (x2 x3 x4 : Int32), np - i < n → i ≤ np → ∃ y2 y3 y4 y5, CX6_off_L21 x n x2 x3 x4 (nI i) Mc kc = kc y2 y3 y4 y5 Mc ∧ CX7_off_L22 x n x2 x3 x4 (nI i) Mm km = km y2 y3 y4 y5 Mm
  | 0, i, _, _, _, h, _ => absurd h (Nat.not_lt_zero _)
  | n + 1, i, x2, x3, x4, h, hi => by
    obtain ⟨s1, s2, s3, s4, s5, s6, s7, s8, s9, s10, s11, s12, s13⟩ := hF.2.1
    have hnp := hF.1.1
    have hnd := hF.1.2.2.1
    rw [CX6_off_L21, CX7_off_L22]
    simp only [it ci0, cc0, it ci3, cc3, s1, s2, s7, s8]
    by_cases z : i = np
    · subst z
      simp only [Int32.le_refl, if_true]
      exact ⟨_, _, _, _, rfl, rfl⟩
    have g1 : ¬ nI np ≤ nI i := nI_ge (by omega) (by omega)
    by_cases z2 : nd ≤ i
    · have g2 : nI nd ≤ nI i := nI_le z2 (by omega)
      simp only [g1, g2, if_true, if_false]
      exact ⟨_, _, _, _, rfl, rfl⟩
    have g2 : ¬ nI nd ≤ nI i := nI_ge (by omega) (by omega)
    obtain ⟨u, u1, u2, u3⟩ := rA_at hF.2.2.2.2.1 (show i < np by omega)
    obtain ⟨v, v1, v2, v3⟩ := rA_at hF.2.2.2.2.2.2.2.2.1 (show i < nd by omega)
    rw [show Mc (1 + 3) i = Mc 4 i from rfl] at u2
    rw [show Mc (1 + 5) i = Mc 6 i from rfl] at v2
    simp only [g1, g2, if_false, if_true, gin (show i < 10 by omega) (by decide), la150, la170, gin (show 150 + i < 900 by omega) (by decide), gin (show 170 + i < 900 by omega) (by decide), nI_clamp (show i < 2 ^ 31 by omega), nI_clamp (show 150 + i < 2 ^ 31 by omega), nI_clamp (show 170 + i < 2 ^ 31 by omega), u2, u3, v2, v3, fd6 u1 v1, fd7 u1 v1, bs, n1 i]
    generalize nI (fd u v) = f
    have e : (if f ≤ (0 : Int32) then x2 else x2 + (1 : Int32)) = x2 + (if f ≤ (0 : Int32) then (0 : Int32) else (1 : Int32)) := by
      split
      · exact (Int32.add_zero x2).symm
      · rfl
    rw [e]
    exact off_L hF n (i + 1) _ _ _ (by omega) (by omega)
theorem px_off (x : Int32) : st2 PX (CX6_off x) (CX7_off x) := by
  intro Mc Mm h
  obtain ⟨h1, h2, h3, np, nf, nd, nb, ns, d, hF, hG⟩ := id h
  have hnp := hF.1.1
  rw [CX6_off, CX7_off, show (2 : Int32) = nI 2 from rfl]
  rcases arg3 x (n := 2) (by decide) with hx | ⟨j, hj, rfl⟩
  · refine ⟨-1, Mc, Mm, ?_, ?_, h⟩
    · simp [bs, blo (by decide) hx]
    · simp [bs, il2 hx]
  obtain ⟨y2, y3, y4, y5, e1, e2⟩ := off_L hF (x := nI j) (kc := fun a b c e M => CX6_off_J98 (nI j) a b c e M) (km := fun a b c e M => CX7_off_J120 (nI j) a b c e M) 1000 0 0 (-5) 0 (by omega) (Nat.zero_le _)
  rw [nIz] at e1 e2
  refine ⟨(if nI j = 0 then y2 else y3), Mc, Mm, ?_, ?_, h⟩
  · rw [bin hj (by decide), bs, ie (show ¬ (1 : Int32) = 0 by decide)]
    exact e1
  · rw [ii2 hj, bs, ie (show ¬ (1 : Int32) = 0 by decide)]
    exact e2
/-- the greatest FAR and whose it is -/
def hG (f : Nat → Nat) : Nat → Nat
  | 0 => 0
  | n + 1 => max (hG f n) (f n)
def hB (f : Nat → Nat) (g : Nat) : Nat → Int32
  | 0 => 0
  | n + 1 => hB f g n ||| (if f n = g then (1 : Int32) <<< (nI n &&& 31) else 0)
theorem hG_ge (f : Nat → Nat) : ∀ n p, p < n → f p ≤ hG f n
  | 0, _, h => absurd h (Nat.not_lt_zero _)
  | n + 1, p, h => by
    rw [hG]
    by_cases e : p = n
    · subst e; exact Nat.le_max_right _ _
    · exact Nat.le_trans (hG_ge f n p (by omega)) (Nat.le_max_left _ _)
theorem hG_lt {f : Nat → Nat} {B : Nat} (hB : 0 < B) : ∀ n, (∀ p, p < n → f p < B) → hG f n < B
  | 0, _ => hB
  | n + 1, h => by
    rw [hG]
    exact Nat.max_lt.mpr ⟨hG_lt hB n (fun p hp => h p (by omega)), h n (by omega)⟩
theorem or_zero (x : Int32) : x ||| 0 = x := Int32.or_zero
theorem hB_0 {f : Nat → Nat} {g : Nat} : ∀ n, (∀ p, p < n → f p ≠ g) → hB f g n = 0
  | 0, _ => rfl
  | n + 1, h => by rw [hB, hB_0 n (fun p hp => h p (by omega)), ie (h n (by omega))]; rfl
theorem hd6_L {M : fxMem} {f : Nat → Nat} {np : Nat} (hn : np ≤ 10) (e : M 1 0 = nI np) (hf : ∀ p, p < np → f p < 9 ∧ CX6_far (M 4 p) (M 5 p) M = some (nI (f p), M)) {x : Int32} {k : Int32 → Int32 → Int32 → fxMem → Option (Int32 × fxMem)} : ∀ (n i : Nat), np - i < n → i ≤ np → CX6_hard_L30 x n (nI (hG f i)) (hB f (hG f i) i) (nI i) M k = k (nI (hG f np)) (hB f (hG f np) np) (nI np) M
  | 0, i, h, _ => absurd h (Nat.not_lt_zero _)
  | n + 1, i, h, hi => by
    rw [CX6_hard_L30, e]
    by_cases z : i = np
    · subst z
      rw [it (Int32.le_refl _)]
    · have hg := hG_lt (f := f) (B := 9) (by decide) i (fun p hp => (hf p (by omega)).1)
      obtain ⟨f1, f2⟩ := hf i (by omega)
      rw [ie (nI_ge (by omega) (by omega)), it (gin (by omega) (by decide)), nI_clamp (by omega), f2, bs, n1, ← hd6_L (k := k) hn e hf n (i + 1) (by omega) (by omega), hG, hB]
      dsimp only
      by_cases z1 : f i ≤ hG f i
      · simp only [nI_le z1 (by omega), if_true, Nat.max_eq_left z1]
        by_cases z2 : f i = hG f i
        · rw [it (by rw [z2]), it z2]
        · rw [ie (fun z => z2 ((nI_eq (by omega) (by omega)).mp z)), ie z2, or_zero]
      · simp only [nI_ge (show hG f i < f i by omega) (show f i < 2 ^ 31 by omega), if_false, if_true, Nat.max_eq_right (show hG f i ≤ f i by omega)]
        rw [hB_0 i (fun p hp => by have := hG_ge f i p hp; omega)]
theorem hd7a_L {M : fxMem} {f : Nat → Nat} {np : Nat} (hn : np ≤ 10) (e : M 1 0 = nI np) (hf : ∀ p, p < np → f p < 9 ∧ CX7_farTo (nI p) (nI p) M = some (nI (f p), M)) {x : Int32} {k : Int32 → Int32 → fxMem → Option (Int32 × fxMem)} : ∀ (n i : Nat), np - i < n → i ≤ np → CX7_hard_L25 x n (nI (hG f i)) (nI i) M k = k (nI (hG f np)) (nI np) M
  | 0, i, h, _ => absurd h (Nat.not_lt_zero _)
  | n + 1, i, h, hi => by
    rw [CX7_hard_L25, it ci0, cc0, e]
    by_cases z : i = np
    · subst z
      rw [it (Int32.le_refl _)]
    · have hg := hG_lt (f := f) (B := 9) (by decide) i (fun p hp => (hf p (by omega)).1)
      obtain ⟨f1, f2⟩ := hf i (by omega)
      rw [ie (nI_ge (by omega) (by omega)), f2, bs, n1, ← hd7a_L (k := k) (x := x) hn e hf n (i + 1) (by omega) (by omega), hG]
      dsimp only
      by_cases z1 : f i ≤ hG f i
      · rw [it (nI_le z1 (by omega)), Nat.max_eq_left z1]
      · rw [ie (nI_ge (by omega) (by omega)), Nat.max_eq_right (by omega), f2, bs]
theorem hd7b_L {M : fxMem} {f : Nat → Nat} {g np : Nat} (hg : g < 9) (hn : np ≤ 10) (e : M 1 0 = nI np) (hf : ∀ p, p < np → f p < 9 ∧ CX7_farTo (nI p) (nI p) M = some (nI (f p), M)) {x : Int32} {k : Int32 → Int32 → fxMem → Option (Int32 × fxMem)} : ∀ (n i : Nat), np - i < n → i ≤ np → CX7_hard_L67 x (nI g) n (hB f g i) (nI i) M k = k (hB f g np) (nI np) M
  | 0, i, h, _ => absurd h (Nat.not_lt_zero _)
  | n + 1, i, h, hi => by
    rw [CX7_hard_L67, it ci0, cc0, e]
    by_cases z : i = np
    · subst z
      rw [it (Int32.le_refl _)]
    · obtain ⟨f1, f2⟩ := hf i (by omega)
      rw [ie (nI_ge (by omega) (by omega)), f2, bs, n1, ← hd7b_L (k := k) (x := x) hg hn e hf n (i + 1) (by omega) (by omega), hB]
      dsimp only
      by_cases z1 : f i = g
      · rw [it (by rw [z1]), it z1]
      · rw [ie (fun z => z1 ((nI_eq (by omega) (by omega)).mp z)), ie z1]
theorem px_hard (x : Int32) : st2 PX (CX6_hard x) (CX7_hard x) := by
  intro Mc Mm h
  obtain ⟨h1, h2, h3, np, nf, nd, nb, ns, d, hF, hG'⟩ := id h
  obtain ⟨s1, s2, s3, s4, s5, s6, s7, s8, s9, s10, s11, s12, s13⟩ := hF.2.1
  have hnp := hF.1.1
  have hnf := hF.1.2.1
  rw [CX6_hard, CX7_hard, show (2 : Int32) = nI 2 from rfl]
  rcases arg3 x (n := 2) (by decide) with hx | ⟨j, hj, rfl⟩
  · refine ⟨-1, Mc, Mm, ?_, ?_, h⟩
    · simp [bs, blo (by decide) hx]
    · simp [bs, il2 hx]
  rw [bin hj (by decide), ii2 hj, bs, bs, ie (show ¬ (1 : Int32) = 0 by decide), ie (show ¬ (1 : Int32) = 0 by decide)]
  dsimp only
  rw [few6 hnp hnf s1 s5, few7 hnp hnf s2 s6, bs, bs]
  by_cases hle : np ≤ nf
  · rw [it hle]
    dsimp only
    rw [it rfl, it rfl]
    have hc : ∀ p, p < np → fd (Mc 4 p).toNatClampNeg (Mc 5 p).toNatClampNeg < 9 ∧ CX6_far (Mc 4 p) (Mc 5 p) Mc = some (nI (fd (Mc 4 p).toNatClampNeg (Mc 5 p).toNatClampNeg), Mc) := fun p hp => by
      obtain ⟨u1, u2, u3⟩ := nr_ok (by decide) hF.2.2.2.2.1 hp
      obtain ⟨v1, v2, v3⟩ := nr_ok (by decide) hF.2.2.2.2.2.2.1 (show p < nf by omega)
      refine ⟨fd_lt u1 v1, ?_⟩
      rw [show Mc 4 p = nI ((Mc (1 + 3) p).toNatClampNeg) from u2, show Mc 5 p = nI ((Mc (1 + 4) p).toNatClampNeg) from v2, nI_clamp (by omega), nI_clamp (by omega), fd6 u1 v1]
    have hm : ∀ p, p < np → fd (Mc 4 p).toNatClampNeg (Mc 5 p).toNatClampNeg < 9 ∧ CX7_farTo (nI p) (nI p) Mm = some (nI (fd (Mc 4 p).toNatClampNeg (Mc 5 p).toNatClampNeg), Mm) := fun p hp => by
      obtain ⟨u1, u2, u3⟩ := nr_ok (by decide) hF.2.2.2.2.1 hp
      obtain ⟨v1, v2, v3⟩ := nr_ok (by decide) hF.2.2.2.2.2.2.1 (show p < nf by omega)
      refine ⟨fd_lt u1 v1, ?_⟩
      rw [CX7_farTo, la150, la160, it (gin (by omega) (by decide)), it (gin (by omega) (by decide)), nI_clamp (by omega), nI_clamp (by omega), u3, v3, fd7 u1 v1]
      rfl
    have a1 := hd6_L hnp s1 hc (x := nI j) (k := fun y2 y3 y4 M => some ((if nI j = (0 : Int32) then y3 else y2), M)) 1000 0 (by omega) (Nat.zero_le _)
    have a2 := fun k => hd7a_L hnp s2 hm (x := nI j) (k := k) 1000 0 (by omega) (Nat.zero_le _)
    have a3 := fun k => hd7b_L (hG_lt (f := fun p => fd (Mc 4 p).toNatClampNeg (Mc 5 p).toNatClampNeg) (B := 9) (by decide) np (fun p hp => (hc p hp).1)) hnp s2 hm (x := nI j) (k := k) 1000 0 (by omega) (Nat.zero_le _)
    refine ⟨_, Mc, Mm, a1, ?_, h⟩
    exact (a2 _).trans (a3 _)
  · rw [ie hle]
    dsimp only
    refine ⟨-5, Mc, Mm, ?_, ?_, h⟩ <;> rfl
