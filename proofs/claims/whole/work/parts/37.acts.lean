/-! meet, as, trace, act -/
def sm (f : Nat → Nat) : Nat → Nat
  | 0 => 0
  | n + 1 => sm f n + f n
theorem sm_cg {f g : Nat → Nat} : ∀ n, (∀ i, i < n → f i = g i) → sm f n = sm g n
  | 0, _ => rfl
  | n + 1, h => by rw [sm, sm, sm_cg n (fun i hi => h i (by omega)), h n (by omega)]
theorem sm_add (f g : Nat → Nat) : ∀ n, sm (fun i => f i + g i) n = sm f n + sm g n
  | 0 => rfl
  | n + 1 => by rw [sm, sm, sm, sm_add f g n]; omega
theorem sm_0 {f : Nat → Nat} : ∀ n, (∀ i, i < n → f i = 0) → sm f n = 0
  | 0, _ => rfl
  | n + 1, h => by rw [sm, sm_0 n (fun i hi => h i (by omega)), h n (by omega)]
theorem sm_tri (p : Nat → Nat → Nat) : ∀ n, sm (fun a => sm (fun b => if a < b then p a b else 0) n) n = sm (fun a => sm (fun b => p b a) a) n
  | 0 => rfl
  | n + 1 => by
    have e1 : sm (fun b => if n < b then p n b else 0) (n + 1) = 0 := sm_0 (n + 1) (fun i hi => ie (by omega) _ _)
    have e2 : sm (fun a => sm (fun b => if a < b then p a b else 0) (n + 1)) n = sm (fun a => sm (fun b => if a < b then p a b else 0) n + p a n) n := sm_cg n (fun a ha => by rw [sm, it ha])
    rw [sm.eq_2 (fun a => sm (fun b => if a < b then p a b else 0) (n + 1)) n, e1, e2, sm_add, sm_tri p n]
    rfl
def hw (f g : Nat → Nat) (a b : Nat) : Nat := if f a / 8 + g a / 8 = f b / 8 + g b / 8 then (if f a % 8 + g a % 8 = f b % 8 + g b % 8 then 1 else 0) else 0
theorem hw_c (f g : Nat → Nat) (a b : Nat) : hw f g a b = hw f g b a := by
  unfold hw
  by_cases h1 : f a / 8 + g a / 8 = f b / 8 + g b / 8
  · rw [it h1, it h1.symm]
    by_cases h2 : f a % 8 + g a % 8 = f b % 8 + g b % 8
    · rw [it h2, it h2.symm]
    · rw [ie h2, ie (fun z => h2 z.symm)]
  · rw [ie h1, ie (fun z => h1 z.symm)]
theorem mh6 {M : fxMem} {f g : Nat → Nat} {np a b : Nat} (hn : np ≤ 10) (hf : ∀ p, p < np → f p < 64 ∧ M 4 p = nI (f p)) (hg : ∀ p, p < np → g p < 64 ∧ M 5 p = nI (g p)) (ha : a < np) (hb : b < np) : CX1_meetHalfWay (nI a) (nI b) M = some (nI (hw f g a b), M) := by
  obtain ⟨a1, a2⟩ := hf a ha
  obtain ⟨b1, b2⟩ := hf b hb
  obtain ⟨c1, c2⟩ := hg a ha
  obtain ⟨d1, d2⟩ := hg b hb
  rw [CX1_meetHalfWay]
  simp only [gin (show a < 10 by omega) (by decide), gin (show b < 10 by omega) (by decide), if_true, nI_clamp (show a < 2 ^ 31 by omega), nI_clamp (show b < 2 ^ 31 by omega), CX6_rowOf, CX6_columnOf, bs, a2, b2, c2, d2, rw6 _ a1, rw6 _ b1, rw6 _ c1, rw6 _ d1, cl6 _ a1, cl6 _ b1, cl6 _ c1, cl6 _ d1, nI_add]
  unfold hw
  by_cases h1 : f a / 8 + g a / 8 = f b / 8 + g b / 8
  · rw [it (by rw [h1]), it h1]
    by_cases h2 : f a % 8 + g a % 8 = f b % 8 + g b % 8
    · rw [it (by rw [h2]), it h2]; rfl
    · rw [ie (fun z => h2 ((nI_eq (by omega) (by omega)).mp z)), ie h2]; rfl
  · rw [ie (fun z => h1 ((nI_eq (by omega) (by omega)).mp z)), ie h1]; rfl
theorem hw_01 (f g : Nat → Nat) (a b : Nat) : hw f g a b = 0 ∨ hw f g a b = 1 := by
  unfold hw
  split
  · split
    · exact Or.inr rfl
    · exact Or.inl rfl
  · exact Or.inl rfl
theorem me6_i {M : fxMem} {f g : Nat → Nat} {np a : Nat} (hn : np ≤ 10) (e : M 1 0 = nI np) (hf : ∀ p, p < np → f p < 64 ∧ M 4 p = nI (f p)) (hg : ∀ p, p < np → g p < 64 ∧ M 5 p = nI (g p)) (ha : a < np) {k : Int32 → Int32 → fxMem → Option (Int32 × fxMem)} (s : Nat) : ∀ (n i : Nat), np - i < n → i ≤ np → a < i → CX6_meet_L32 (nI a) n (nI (s + sm (fun b => if a < b then hw f g a b else 0) i)) (nI i) M k = k (nI (s + sm (fun b => if a < b then hw f g a b else 0) np)) (nI np) M
  | 0, i, h, _, _ => absurd h (Nat.not_lt_zero _)
  | n + 1, i, h, hi, hai => by
    rw [CX6_meet_L32, e]
    by_cases z : i = np
    · subst z
      rw [it (Int32.le_refl _)]
    · rw [ie (nI_ge (by omega) (by omega)), mh6 hn hf hg ha (show i < np by omega), bs, ← me6_i (k := k) hn e hf hg ha s n (i + 1) (by omega) (by omega) (by omega), sm, it hai]
      dsimp only
      rw [n1 i]
      rcases hw_01 f g a i with h0 | h0
      · rw [h0, it nIz]; rfl
      · rw [h0, ie (show ¬ nI 1 = (0 : Int32) by decide), n1, Nat.add_assoc]
theorem me6_L {M : fxMem} {f g : Nat → Nat} {np : Nat} (hn : np ≤ 10) (e : M 1 0 = nI np) (hf : ∀ p, p < np → f p < 64 ∧ M 4 p = nI (f p)) (hg : ∀ p, p < np → g p < 64 ∧ M 5 p = nI (g p)) {k : Int32 → Int32 → fxMem → Option (Int32 × fxMem)} : ∀ (n i : Nat), np - i < n → i ≤ np → CX6_meet_L17 n (nI (sm (fun a => sm (fun b => if a < b then hw f g a b else 0) np) i)) (nI i) M k = k (nI (sm (fun a => sm (fun b => if a < b then hw f g a b else 0) np) np)) (nI np) M
  | 0, i, h, _ => absurd h (Nat.not_lt_zero _)
  | n + 1, i, h, hi => by
    rw [CX6_meet_L17, e]
    by_cases z : i = np
    · subst z
      rw [it (Int32.le_refl _)]
    · have e0 : sm (fun b => if i < b then hw f g i b else 0) (i + 1) = 0 := sm_0 (i + 1) (fun b hb => ie (by omega) _ _)
      have e1 := me6_i (k := fun y1 _ M' => CX6_meet_L17 n y1 (nI i + 1) M' k) hn e hf hg (show i < np by omega) (sm (fun a => sm (fun b => if a < b then hw f g a b else 0) np) i) 1000 (i + 1) (by omega) (by omega) (by omega)
      rw [e0] at e1
      rw [ie (nI_ge (by omega) (by omega)), n1 i]
      rw [n1 i] at e1
      refine e1.trans ?_
      exact me6_L hn e hf hg n (i + 1) (by omega) (by omega)
theorem me7_i {M : fxMem} {f g : Nat → Nat} {np a : Nat} (hn : np ≤ 10) (hf : ∀ p, p < np → f p < 64 ∧ M 1 (150 + p) = nI (f p)) (hg : ∀ p, p < np → g p < 64 ∧ M 1 (160 + p) = nI (g p)) (ha : a < np) {k : Int32 → Int32 → fxMem → Option (Int32 × fxMem)} (s : Nat) : ∀ (n i : Nat), a - i < n → i ≤ a → CX7_meet_L26 (nI a) n (nI (s + sm (fun b => hw f g b a) i)) (nI i) M k = k (nI (s + sm (fun b => hw f g b a) a)) (nI a) M
  | 0, i, h, _ => absurd h (Nat.not_lt_zero _)
  | n + 1, i, h, hi => by
    rw [CX7_meet_L26]
    by_cases z : i = a
    · subst z
      rw [it (Int32.le_refl _)]
    · obtain ⟨a1, a2⟩ := hf a ha
      obtain ⟨b1, b2⟩ := hf i (by omega)
      obtain ⟨c1, c2⟩ := hg a ha
      obtain ⟨d1, d2⟩ := hg i (by omega)
      rw [ie (nI_ge (by omega) (by omega)), ← me7_i (k := k) hn hf hg ha s n (i + 1) (by omega) (by omega), sm]
      simp only [la150, la160, gin (show 150 + a < 900 by omega) (by decide), gin (show 160 + a < 900 by omega) (by decide), gin (show 150 + i < 900 by omega) (by decide), gin (show 160 + i < 900 by omega) (by decide), if_true, nI_clamp (show 150 + a < 2 ^ 31 by omega), nI_clamp (show 160 + a < 2 ^ 31 by omega), nI_clamp (show 150 + i < 2 ^ 31 by omega), nI_clamp (show 160 + i < 2 ^ 31 by omega), a2, b2, c2, d2, rw7 _ a1, rw7 _ b1, rw7 _ c1, rw7 _ d1, cl7 _ a1, cl7 _ b1, cl7 _ c1, cl7 _ d1, nI_add, n1 i]
      rw [← Nat.add_assoc, ← nI_add _ (hw f g i a), hw_c f g i a]
      congr 2
      unfold hw
      by_cases h1 : f a / 8 + g a / 8 = f i / 8 + g i / 8
      · have w1 : nI (f a / 8 + g a / 8) = nI (f i / 8 + g i / 8) := by rw [h1]
        simp only [w1, h1, if_true, show ¬ (1 : Int32) = 0 by decide, if_false]
        by_cases h2 : f a % 8 + g a % 8 = f i % 8 + g i % 8
        · have w2 : nI (f a % 8 + g a % 8) = nI (f i % 8 + g i % 8) := by rw [h2]
          simp only [w2, h2, if_true, show ¬ (1 : Int32) = 0 by decide, if_false]
          rfl
        · have w2 : ¬ nI (f a % 8 + g a % 8) = nI (f i % 8 + g i % 8) := fun z => h2 ((nI_eq (by omega) (by omega)).mp z)
          simp only [w2, h2, if_true, if_false]
          rfl
      · have w1 : ¬ nI (f a / 8 + g a / 8) = nI (f i / 8 + g i / 8) := fun z => h1 ((nI_eq (by omega) (by omega)).mp z)
        simp only [w1, h1, if_true, if_false]
        rfl
theorem me7_L {M : fxMem} {f g : Nat → Nat} {np : Nat} (hn : np ≤ 10) (e : M 1 0 = nI np) (hf : ∀ p, p < np → f p < 64 ∧ M 1 (150 + p) = nI (f p)) (hg : ∀ p, p < np → g p < 64 ∧ M 1 (160 + p) = nI (g p)) {k : Int32 → Int32 → fxMem → Option (Int32 × fxMem)} : ∀ (n i : Nat), np - i < n → i ≤ np → CX7_meet_L14 n (nI (sm (fun a => sm (fun b => hw f g b a) a) i)) (nI i) M k = k (nI (sm (fun a => sm (fun b => hw f g b a) a) np)) (nI np) M
  | 0, i, h, _ => absurd h (Nat.not_lt_zero _)
  | n + 1, i, h, hi => by
    rw [CX7_meet_L14, it ci0, cc0, e]
    by_cases z : i = np
    · subst z
      rw [it (Int32.le_refl _)]
    · have e1 := me7_i (k := fun y1 _ M' => CX7_meet_L14 n y1 (nI i + 1) M' k) hn hf hg (show i < np by omega) (sm (fun a => sm (fun b => hw f g b a) a) i) 1000 0 (by omega) (by omega)
      rw [ie (nI_ge (by omega) (by omega))]
      refine e1.trans ?_
      rw [n1 i]
      exact me7_L hn e hf hg n (i + 1) (by omega) (by omega)
theorem px_meet : st2 PX CX6_meet CX7_meet := by
  intro Mc Mm h
  obtain ⟨h1, h2, h3, np, nf, nd, nb, ns, d, hF, hG'⟩ := id h
  obtain ⟨s1, s2, s3, s4, s5, s6, s7, s8, s9, s10, s11, s12, s13⟩ := hF.2.1
  have hnp := hF.1.1
  have hnf := hF.1.2.1
  rw [CX6_meet, CX7_meet, few6 hnp hnf s1 s5, few7 hnp hnf s2 s6, bs, bs]
  by_cases hle : np ≤ nf
  · rw [it hle]
    dsimp only
    rw [it rfl, it rfl]
    have hf : ∀ p, p < np → (Mc 4 p).toNatClampNeg < 64 ∧ Mc 4 p = nI (Mc 4 p).toNatClampNeg := fun p hp => by
      obtain ⟨u1, u2, u3⟩ := nr_ok (by decide) hF.2.2.2.2.1 hp
      exact ⟨u1, u2⟩
    have hg : ∀ p, p < np → (Mc 5 p).toNatClampNeg < 64 ∧ Mc 5 p = nI (Mc 5 p).toNatClampNeg := fun p hp => by
      obtain ⟨u1, u2, u3⟩ := nr_ok (by decide) hF.2.2.2.2.2.2.1 (show p < nf by omega)
      exact ⟨u1, u2⟩
    have hf' : ∀ p, p < np → (Mc 4 p).toNatClampNeg < 64 ∧ Mm 1 (150 + p) = nI (Mc 4 p).toNatClampNeg := fun p hp => by
      obtain ⟨u1, u2, u3⟩ := nr_ok (by decide) hF.2.2.2.2.1 hp
      exact ⟨u1, u3⟩
    have hg' : ∀ p, p < np → (Mc 5 p).toNatClampNeg < 64 ∧ Mm 1 (160 + p) = nI (Mc 5 p).toNatClampNeg := fun p hp => by
      obtain ⟨u1, u2, u3⟩ := nr_ok (by decide) hF.2.2.2.2.2.2.1 (show p < nf by omega)
      exact ⟨u1, u3⟩
    have a1 := me6_L (f := fun p => (Mc 4 p).toNatClampNeg) (g := fun p => (Mc 5 p).toNatClampNeg) hnp s1 hf hg (k := fun y1 y2 M => some (y1, M)) 1000 0 (by omega) (Nat.zero_le _)
    have a2 := me7_L (f := fun p => (Mc 4 p).toNatClampNeg) (g := fun p => (Mc 5 p).toNatClampNeg) hnp s2 hf' hg' (k := fun y1 y2 M => some (y1, M)) 1000 0 (by omega) (Nat.zero_le _)
    rw [sm_tri] at a1
    exact ⟨_, Mc, Mm, a1, a2, h⟩
  · rw [ie hle]
    dsimp only
    refine ⟨-5, Mc, Mm, ?_, ?_, h⟩ <;> rfl
