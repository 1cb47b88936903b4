/-! the WAY -/
def NS (p : Nat) (M M' : fxMem) : Prop := (∀ k, k ≠ 5 → M' k = M k) ∧ ∀ j, j < p → M' 5 j = M 5 j
theorem NS.rf (p : Nat) (M : fxMem) : NS p M M := ⟨fun _ _ => rfl, fun _ _ => rfl⟩
def fldM (f h : Nat → Nat) (np : Nat) (M : fxMem) : Prop := M 1 0 = nI np ∧ (∀ q, q < np → f q < 64 ∧ M 1 (150 + q) = nI (f q)) ∧ ∀ q, q < np → h q < 64 ∧ M 1 (160 + q) = nI (h q)
theorem fldM_c {f h : Nat → Nat} {np : Nat} {M M' : fxMem} (e : M' 1 = M 1) (hM : fldM f h np M) : fldM f h np M' := by
  unfold fldM
  rw [e]
  exact hM
theorem ft7 {f h : Nat → Nat} {np p i : Nat} {M : fxMem} (hn : np ≤ 6) (hM : fldM f h np M) (hp : p < np) (hi : i < np) : CX7_farTo (nI p) (nI i) M = some (nI (fd (f p) (h i)), M) := by
  obtain ⟨a1, a2⟩ := hM.2.1 p hp
  obtain ⟨b1, b2⟩ := hM.2.2 i hi
  rw [CX7_farTo, la150, la160, it (gin (by omega) (by decide)), it (gin (by omega) (by decide)), nI_clamp (by omega), nI_clamp (by omega), a2, b2, fd7 a1 b1]
  rfl
theorem N_L {f h : Nat → Nat} {np p g s : Nat} {x2 : Int32} (hn : np ≤ 6) (hp : p < np) (hg : g < 9) (hs : s ≤ 9 * p) {rec : Int32 → Int32 → Int32 → Int32 → fxMem → Option fxMem} {B : fxMem} (hB : fldM f h np B) (hrec : ∀ (x2' : Int32) (g' s' : Nat) (M : fxMem), (∀ k, k ≠ 5 → M k = B k) → g ≤ g' → s ≤ s' → g' < 9 → s' ≤ 9 * (p + 1) → ∃ M', rec (nI (p + 1)) x2' (nI g') (nI s') M = some M' ∧ NS (p + 1) M M') : ∀ (n i : Nat) (M : fxMem), np - i < n → i ≤ np → (∀ k, k ≠ 5 → M k = B k) → ∃ M', CX7_rowsFrom_L87 rec (nI p) x2 (nI g) (nI s) n (nI i) M (fun _ M => some M) = some M' ∧ NS p M M'
  | 0, i, M, h, _, _ => absurd h (Nat.not_lt_zero _)
  | n + 1, i, M, hni, hi, hM => by
    have e1 : M 1 = B 1 := hM 1 (by decide)
    rw [CX7_rowsFrom_L87, it ci0, cc0, e1, hB.1]
    by_cases z : i = np
    · subst z
      exact ⟨M, it (Int32.le_refl _) _ _, NS.rf p M⟩
    · rw [ie (nI_ge (by omega) (by omega)), n1 i]
      by_cases zb : (x2 >>> (nI i &&& 31)) &&& (1 : Int32) = (0 : Int32)
      · have hl := fd_lt (hB.2.1 p hp).1 (hB.2.2 i (by omega)).1
        rw [it zb, it (gin (by omega) (by decide)), nI_clamp (by omega), ft7 hn (fldM_c (by rw [mm_row (by decide)]; exact e1) hB) hp (show i < np by omega), bs]
        dsimp only
        rw [mx_le (by omega) (by omega), nI_add, n1 p, Nat.max_comm]
        obtain ⟨M1, g1, g2⟩ := hrec (x2 ||| ((1 : Int32) <<< (nI i &&& 31))) (max g (fd (f p) (h i))) (s + fd (f p) (h i)) (fx_st M 5 p (nI i)) (fun k hk => by rw [mm_row hk]; exact hM k hk) (by omega) (by omega) (by omega) (by omega)
        rw [g1, bs]
        obtain ⟨M2, j1, j2⟩ := N_L hn hp hg hs hB hrec n (i + 1) M1 (by omega) (by omega) (fun k hk => by rw [g2.1 k hk, mm_row hk]; exact hM k hk)
        exact ⟨M2, j1, fun k hk => by rw [j2.1 k hk, g2.1 k hk, mm_row hk], fun j hj => by rw [j2.2 j hj, g2.2 j (by omega), mm_col (by omega)]⟩
      · rw [ie zb]
        exact N_L hn hp hg hs hB hrec n (i + 1) M (by omega) (by omega) hM
theorem N_R {f h : Nat → Nat} {np G S : Nat} (hn : np ≤ 6) (hG : G < 100) (hS : S < 100) : ∀ (m p d g s : Nat) (x2 : Int32) (M : fxMem), p + m = np → fldM f h np M → M 0 17 = nI G → M 0 18 = nI S → ¬ (g < G ∨ (g = G ∧ s < S)) → g < 9 → s ≤ 9 * p → ∃ M', gX7r (d + m + 1) (nI p) x2 (nI g) (nI s) M = some M' ∧ NS p M M'
  | 0, p, d, g, s, x2, M, hm, hM, h17, h18, hb, hg, hs => by
    rw [gX7r, BX7_rowsFrom, it ci0, cc0, hM.1, show p = np by omega, it rfl, h17, ie (nIn G (by omega)), h18]
    refine ⟨M, ?_, NS.rf _ M⟩
    by_cases z1 : g < G
    · exact absurd (Or.inl z1) hb
    · rw [ie (fun z => z1 ((nI_ltI (by omega) (by omega)).mp z))]
      by_cases z2 : g = G
      · rw [it (by rw [z2]), it (nI_le (by omega) (by omega))]
      · rw [ie (fun z => z2 ((nI_eq (by omega) (by omega)).mp z))]
  | m + 1, p, d, g, s, x2, M, hm, hM, h17, h18, hb, hg, hs => by
    rw [gX7r, BX7_rowsFrom, it ci0, cc0, hM.1, ie (fun z => by have := (nI_eq (by omega) (by omega)).mp z; omega)]
    refine N_L hn (by omega) hg hs hM (fun x2' g' s' M1 hM1 z1 z2 z3 z4 => ?_) 1000 0 M (by omega) (by omega) (fun _ _ => rfl)
    exact N_R hn hG hS m (p + 1) d g' s' x2' M1 (by omega) (fldM_c (hM1 1 (by decide)) hM) (by rw [hM1 0 (by decide)]; exact h17) (by rw [hM1 0 (by decide)]; exact h18) (by omega) z3 z4
/-- both at a row in the making -/
def WS (A B : fxMem) (np p : Nat) (Mc Mm : fxMem) : Prop := (∀ k, k ≠ 19 → k ≠ 56 → k ≠ 57 → Mc k = A k) ∧ (∀ k, k ≠ 0 → k ≠ 5 → k ≠ 6 → Mm k = B k) ∧ (∀ j, j ≠ 17 → j ≠ 18 → Mm 0 j = B 0 j) ∧ (∀ j, j < p → Mc 56 j = Mm 5 j) ∧ ((Mc 19 3 = 2147483647 ∧ Mm 0 17 = -1) ∨ ∃ g s : Nat, g < 100 ∧ s < 100 ∧ Mc 19 3 = nI g ∧ Mm 0 17 = nI g ∧ Mc 19 4 = nI s ∧ Mm 0 18 = nI s ∧ ∀ j, j < np → Mc 57 j = Mm 6 j)
def bst (Mm : fxMem) : Prop := ∃ g : Nat, g < 100 ∧ Mm 0 17 = nI g
theorem cp5_L {rec : Int32 → Int32 → Int32 → Int32 → fxMem → Option fxMem} {x2 x3 x4 : Int32} {p : Nat} (hp : p ≤ 6) : ∀ (n i : Nat) (M : fxMem), p - i < n → i ≤ p → (∀ j, j < i → M 6 j = M 5 j) → ∃ M', CX7_rowsFrom_L57 rec (nI p) x2 x3 x4 n (nI i) M (fun _ M => some M) = some M' ∧ (∀ k, k ≠ 6 → M' k = M k) ∧ ∀ j, j < p → M' 6 j = M 5 j
  | 0, i, M, h, _, _ => absurd h (Nat.not_lt_zero _)
  | n + 1, i, M, h, hi, hs => by
    rw [CX7_rowsFrom_L57]
    by_cases z : i = p
    · subst z
      exact ⟨M, it (Int32.le_refl _) _ _, fun _ _ => rfl, hs⟩
    · rw [ie (nI_ge (by omega) (by omega)), it (gin (by omega) (by decide)), nI_clamp (by omega), n1 i]
      obtain ⟨M', e1, e2, e3⟩ := cp5_L (rec := rec) (x2 := x2) (x3 := x3) (x4 := x4) hp n (i + 1) (fx_st M 6 i (M 5 i)) (by omega) (by omega) (fun j hj => by
        rw [mm_row (show 5 ≠ 6 by decide)]
        by_cases e : j = i
        · subst e; rw [mm_same]
        · rw [mm_col e]; exact hs j (by omega))
      exact ⟨M', e1, fun k hk => by rw [e2 k hk, mm_row hk], fun j hj => by rw [e3 j hj, mm_row (by decide)]⟩
def fldC (f h : Nat → Nat) (np : Nat) (M : fxMem) : Prop := M 1 0 = nI np ∧ (∀ q, q < np → f q < 64 ∧ M 4 q = nI (f q)) ∧ ∀ q, q < np → h q < 64 ∧ M 5 q = nI (h q)
/-- better, on both sides -/
theorem btr6 {M : fxMem} {g s : Nat} (hg : g < 100) (hs : s < 100) (h : (M 19 3 = 2147483647) ∨ ∃ G S : Nat, G < 100 ∧ S < 100 ∧ M 19 3 = nI G ∧ M 19 4 = nI S ∧ (g < G ∨ (g = G ∧ s < S))) : CX5_isBetter (nI g) (nI s) M = some (1, M) := by
  rw [CX5_isBetter]
  rcases h with h | ⟨G, S, h1, h2, h3, h4, h5⟩
  · rw [h, it (show nI g < (2147483647 : Int32) from nI_lt (b := 2147483647) (by omega) (by decide))]
  · rw [h3, h4]
    rcases h5 with h5 | ⟨h5, h6⟩
    · rw [it (nI_lt h5 (by omega))]
    · rw [ie (fun z => by have := (nI_ltI (by omega) (by omega)).mp z; omega), it (by rw [h5]), ie (nI_ge h6 (by omega))]
theorem btr6n {M : fxMem} {g s G S : Nat} (hg : g < 100) (hs : s < 100) (h1 : G < 100) (h2 : S < 100) (h3 : M 19 3 = nI G) (h4 : M 19 4 = nI S) (h5 : ¬ (g < G ∨ (g = G ∧ s < S))) : CX5_isBetter (nI g) (nI s) M = some (0, M) := by
  rw [CX5_isBetter, h3, h4, ie (fun z => h5 (Or.inl ((nI_ltI (by omega) (by omega)).mp z)))]
  by_cases e : g = G
  · rw [it (by rw [e]), it (nI_le (by omega) (by omega))]
  · rw [ie (fun z => e ((nI_eq (by omega) (by omega)).mp z))]
def pc (t : Nat) : Nat := t % 2 + t / 2 % 2 + t / 4 % 2 + t / 8 % 2 + t / 16 % 2 + t / 32 % 2
theorem pc_add' : ∀ np, np < 7 → ∀ i, i < np → ∀ t, t < 2 ^ np → (¬ ((nI t >>> (nI i &&& 31)) &&& (1 : Int32) = (0 : Int32))) ∨ (nI t ||| ((1 : Int32) <<< (nI i &&& 31)) = nI (t + 2 ^ i) ∧ pc (t + 2 ^ i) = pc t + 1 ∧ t + 2 ^ i < 2 ^ np) := by decide +kernel
theorem pc_add (np : Nat) (h1 : np < 7) (i : Nat) (h2 : i < np) (t : Nat) (h3 : t < 2 ^ np) (h4 : (nI t >>> (nI i &&& 31)) &&& (1 : Int32) = (0 : Int32)) : nI t ||| ((1 : Int32) <<< (nI i &&& 31)) = nI (t + 2 ^ i) ∧ pc (t + 2 ^ i) = pc t + 1 ∧ t + 2 ^ i < 2 ^ np := (pc_add' np h1 i h2 t h3).resolve_left (fun z => z h4)
theorem pc_free : ∀ np, np < 7 → ∀ t, t < 2 ^ np → pc t < np → ∃ j, j < np ∧ (nI t >>> (nI j &&& 31)) &&& (1 : Int32) = (0 : Int32) := by decide +kernel
theorem R_L {A B : fxMem} {f h : Nat → Nat} {np p g s t : Nat} (ht : t < 2 ^ np) (htp : pc t = p) (hn : np ≤ 6) (hp : p < np) (hg : g < 9) (hs : s ≤ 9 * p) (hA : fldC f h np A) (hB : fldM f h np B) {rc rm : Int32 → Int32 → Int32 → Int32 → fxMem → Option fxMem} (hrec : ∀ (t' g' s' : Nat) (Mc Mm : fxMem), t' < 2 ^ np → pc t' = p + 1 → WS A B np (p + 1) Mc Mm → g' < 9 → s' ≤ 9 * (p + 1) → ∃ Mc' Mm', rc (nI (p + 1)) (nI t') (nI g') (nI s') Mc = some Mc' ∧ rm (nI (p + 1)) (nI t') (nI g') (nI s') Mm = some Mm' ∧ WS A B np (p + 1) Mc' Mm' ∧ bst Mm') : ∀ (n i : Nat) (Mc Mm : fxMem), np - i < n → i ≤ np → WS A B np p Mc Mm → ∃ Mc' Mm', CX5_tryPlaces_L58 rc (nI p) (nI t) (nI g) (nI s) n (nI i) Mc (fun _ M => some M) = some Mc' ∧ CX7_rowsFrom_L87 rm (nI p) (nI t) (nI g) (nI s) n (nI i) Mm (fun _ M => some M) = some Mm' ∧ WS A B np p Mc' Mm' ∧ (bst Mm → bst Mm') ∧ (((∃ j, i ≤ j ∧ j < np ∧ (nI t >>> (nI j &&& 31)) &&& (1 : Int32) = (0 : Int32))) → bst Mm')
  | 0, i, Mc, Mm, h, _, _ => absurd h (Nat.not_lt_zero _)
  | n + 1, i, Mc, Mm, hni, hi, hW => by
    have ec : ∀ k, k ≠ 19 → k ≠ 56 → k ≠ 57 → Mc k = A k := hW.1
    have em : Mm 1 = B 1 := hW.2.1 1 (by decide) (by decide) (by decide)
    rw [CX5_tryPlaces_L58, CX7_rowsFrom_L87, it ci0, cc0, em, hB.1, ec 1 (by decide) (by decide) (by decide), hA.1]
    by_cases z : i = np
    · subst z
      rw [it (Int32.le_refl _), it (Int32.le_refl _)]
      exact ⟨Mc, Mm, rfl, rfl, hW, id, fun ⟨j, a1, a2, a3⟩ => by omega⟩
    · rw [ie (nI_ge (by omega) (by omega)), ie (nI_ge (by omega) (by omega)), n1 i]
      by_cases zb : (nI t >>> (nI i &&& 31)) &&& (1 : Int32) = (0 : Int32)
      · have hl := fd_lt (hB.2.1 p hp).1 (hB.2.2 i (by omega)).1
        obtain ⟨a1, a2⟩ := hA.2.1 p hp
        obtain ⟨b1, b2⟩ := hA.2.2 i (by omega)
        rw [it zb, it zb, it (gin (by omega) (by decide)), it (gin (by omega) (by decide)), it (gin (by omega) (by decide)), nI_clamp (by omega), nI_clamp (by omega), ec 4 (by decide) (by decide) (by decide), ec 5 (by decide) (by decide) (by decide), a2, b2, fd6 a1 b1, bs, ft7 hn (fldM_c (M := B) (by rw [mm_row (by decide)]; exact em) hB) hp (show i < np by omega), bs]
        dsimp only
        obtain ⟨u1, u2, u3⟩ := pc_add np (by omega) i (by omega) t ht zb
        rw [it (gin (show p < 6 by omega) (by decide)), u1, mx_le (by omega) (by omega), mx_lt (by omega) (by omega), nI_add, n1 p, Nat.max_comm (fd (f p) (h i)) g]
        obtain ⟨Mc1, Mm1, g1, g2, g3, g5⟩ := hrec (t + 2 ^ i) (max g (fd (f p) (h i))) (s + fd (f p) (h i)) (fx_st Mc 56 p (nI i)) (fx_st Mm 5 p (nI i)) u3 (by rw [u2, htp]) ⟨fun k a1 a2 a3 => by rw [mm_row a2]; exact ec k a1 a2 a3, fun k a1 a2 a3 => by rw [mm_row a2]; exact hW.2.1 k a1 a2 a3, fun j a1 a2 => by rw [mm_row (by decide)]; exact hW.2.2.1 j a1 a2, fun j hj => by
          by_cases e : j = p
          · subst e; rw [mm_same, mm_same]
          · rw [mm_col e, mm_col e]; exact hW.2.2.2.1 j (by omega), by
          rw [mm_row (show 19 ≠ 56 by decide), mm_row (show 0 ≠ 5 by decide), mm_row (show 57 ≠ 56 by decide), mm_row (show 6 ≠ 5 by decide)]; exact hW.2.2.2.2⟩ (by omega) (by omega)
        rw [g1, bs, g2, bs]
        obtain ⟨Mc2, Mm2, j1, j2, j3, j4, j5⟩ := R_L ht htp hn hp hg hs hA hB hrec n (i + 1) Mc1 Mm1 (by omega) (by omega) ⟨g3.1, g3.2.1, g3.2.2.1, fun j hj => g3.2.2.2.1 j (by omega), g3.2.2.2.2⟩
        exact ⟨Mc2, Mm2, j1, j2, j3, fun _ => j4 g5, fun _ => j4 g5⟩
      · rw [ie zb, ie zb]
        obtain ⟨Mc2, Mm2, j1, j2, j3, j4, j5⟩ := R_L ht htp hn hp hg hs hA hB hrec n (i + 1) Mc Mm (by omega) (by omega) hW
        exact ⟨Mc2, Mm2, j1, j2, j3, j4, fun ⟨j, a1, a2, a3⟩ => by
          by_cases e : j = i
          · subst e; exact absurd a3 zb
          · exact j5 ⟨j, by omega, a2, a3⟩⟩
theorem R_R {A B : fxMem} {f h : Nat → Nat} {np : Nat} (hn : np ≤ 6) (hA : fldC f h np A) (hB : fldM f h np B) : ∀ (m p d t g s : Nat) (Mc Mm : fxMem), p + m = np → t < 2 ^ np → pc t = p → WS A B np p Mc Mm → g < 9 → s ≤ 9 * p → ∃ Mc' Mm', gX5 (d + m + 1) (nI p) (nI t) (nI g) (nI s) Mc = some Mc' ∧ gX7r (d + m + 1) (nI p) (nI t) (nI g) (nI s) Mm = some Mm' ∧ WS A B np p Mc' Mm' ∧ bst Mm'
  | m, p, d, t, g, s, Mc, Mm, hm, ht, htp, hW, hg, hs => by
    have em : Mm 1 = B 1 := hW.2.1 1 (by decide) (by decide) (by decide)
    have ec : Mc 1 = A 1 := hW.1 1 (by decide) (by decide) (by decide)
    have key : (∃ G S : Nat, G < 100 ∧ S < 100 ∧ Mc 19 3 = nI G ∧ Mm 0 17 = nI G ∧ Mc 19 4 = nI S ∧ Mm 0 18 = nI S ∧ ¬ (g < G ∨ (g = G ∧ s < S))) ∨ (CX5_isBetter (nI g) (nI s) Mc = some (1, Mc) ∧ ((Mc 19 3 = 2147483647 ∧ Mm 0 17 = -1) ∨ ∃ G S : Nat, G < 100 ∧ S < 100 ∧ Mc 19 3 = nI G ∧ Mm 0 17 = nI G ∧ Mc 19 4 = nI S ∧ Mm 0 18 = nI S ∧ (g < G ∨ (g = G ∧ s < S)))) := by
      rcases hW.2.2.2.2 with ⟨a1, a2⟩ | ⟨G, S, a1, a2, a3, a4, a5, a6, a7⟩
      · exact Or.inr ⟨btr6 (by omega) (by omega) (Or.inl a1), Or.inl ⟨a1, a2⟩⟩
      · by_cases hb : g < G ∨ (g = G ∧ s < S)
        · exact Or.inr ⟨btr6 (by omega) (by omega) (Or.inr ⟨G, S, a1, a2, a3, a5, hb⟩), Or.inr ⟨G, S, a1, a2, a3, a4, a5, a6, hb⟩⟩
        · exact Or.inl ⟨G, S, a1, a2, a3, a4, a5, a6, hb⟩
    rcases key with ⟨G, S, a1, a2, a3, a4, a5, a6, hb⟩ | ⟨hbt, hst⟩
    · obtain ⟨Mm', n1', n2⟩ := N_R (f := f) (h := h) hn a1 a2 m p d g s (nI t) Mm hm (fldM_c em hB) a4 a6 hb hg hs
      refine ⟨Mc, Mm', ?_, n1', ⟨hW.1, fun k z1 z2 z3 => by rw [n2.1 k z2]; exact hW.2.1 k z1 z2 z3, fun j z1 z2 => by rw [n2.1 0 (by decide)]; exact hW.2.2.1 j z1 z2, fun j hj => by rw [n2.2 j hj]; exact hW.2.2.2.1 j hj, by rw [n2.1 0 (by decide), n2.1 6 (by decide)]; exact hW.2.2.2.2⟩, ⟨G, a1, by rw [n2.1 0 (by decide)]; exact a4⟩⟩
      rw [gX5, BX5_tryPlaces, btr6n (by omega) (by omega) a1 a2 a3 a5 hb, bs]
      rfl
    · rw [gX5, gX7r, BX5_tryPlaces, hbt, bs, ie (show ¬ (1 : Int32) = 0 by decide), BX7_rowsFrom, it ci0, cc0, em, hB.1]
      have e10 : Mc 1 0 = nI np := by rw [ec]; exact hA.1
      simp only [e10]
      cases m with
      | zero =>
        have hp : p = np := by omega
        subst hp
        rw [it (Int32.le_refl _), it rfl, CX5_tryPlaces_J28]
        have ej : ∃ M', CX7_rowsFrom_J43 (fun a0 a1 a2 a3 M => gX7r (d + 0) a0 a1 a2 a3 M) (nI p) (nI t) (nI g) (nI s) Mm = some M' ∧ (∀ k, k ≠ 0 → k ≠ 6 → M' k = Mm k) ∧ (∀ j, j ≠ 17 → j ≠ 18 → M' 0 j = Mm 0 j) ∧ M' 0 17 = nI g ∧ M' 0 18 = nI s ∧ ∀ j, j < p → M' 6 j = Mm 5 j := by
          obtain ⟨M', e1, e2, e3⟩ := cp5_L (rec := fun a0 a1 a2 a3 M => gX7r (d + 0) a0 a1 a2 a3 M) (x2 := nI t) (x3 := nI g) (x4 := nI s) hn 1000 0 (fx_st (fx_st Mm 0 17 (nI g)) 0 18 (nI s)) (by omega) (by omega) (fun j hj => absurd hj (Nat.not_lt_zero j))
          exact ⟨M', e1, fun k z1 z2 => by rw [e2 k z2, mm_row z1, mm_row z1], fun j z1 z2 => by rw [e2 0 (by decide), mm_col z2, mm_col z1], by rw [e2 0 (by decide), mm_col (by decide), mm_same], by rw [e2 0 (by decide), mm_same], fun j hj => by rw [e3 j hj, mm_row (by decide), mm_row (by decide)]⟩
        obtain ⟨M', e1, e2, e3, e4, e5, e6⟩ := ej
        refine ⟨_, M', rfl, ?_, ⟨fun k z1 z2 z3 => ?_, fun k z1 z2 z3 => by rw [e2 k z1 z3]; exact hW.2.1 k z1 z2 z3, fun j z1 z2 => by rw [e3 j z1 z2]; exact hW.2.2.1 j z1 z2, fun j hj => ?_, Or.inr ⟨g, s, by omega, by omega, ?_, e4, ?_, e5, fun j hj => ?_⟩⟩, ⟨g, by omega, e4⟩⟩
        · rcases hst with ⟨a1, a2⟩ | ⟨G, S, a1, a2, a3, a4, a5, a6, hb⟩
          · rw [a2, it rfl]; exact e1
          · rw [a4, ie (nIn G (by omega)), a6]
            rcases hb with hb | ⟨hb, hb2⟩
            · rw [it (nI_lt hb (by omega))]; exact e1
            · rw [ie (fun z => by have := (nI_ltI (by omega) (by omega)).mp z; omega), it (by rw [hb]), ie (nI_ge hb2 (by omega))]; exact e1
        · simp only [fx_cp, fx_up, z3, if_false]
          rw [mm_row z1, mm_row z1]; exact hW.1 k z1 z2 z3
        · rw [e2 5 (by decide) (by decide)]
          have : (fx_cp (fx_st (fx_st Mc 19 3 (nI g)) 19 4 (nI s)) 56 57 6) 56 j = Mc 56 j := by
            simp [fx_cp, fx_up, fx_st]
          rw [this]; exact hW.2.2.2.1 j hj
        · simp [fx_cp, fx_up, fx_st, upd]
        · simp [fx_cp, fx_up, fx_st, upd]
        · have hj6 : j < 6 := by omega
          have : (fx_cp (fx_st (fx_st Mc 19 3 (nI g)) 19 4 (nI s)) 56 57 6) 57 j = Mc 56 j := by
            simp [fx_cp, fx_up, fx_st, va_cpy, hj6]
          rw [this, e6 j hj]; exact hW.2.2.2.1 j hj
      | succ m =>
        rw [ie (nI_ge (by omega) (by omega)), it (show nI p < (6 : Int32) from nI_lt (b := 6) (by omega) (by decide)), ie (fun z => by have := (nI_eq (by omega) (by omega)).mp z; omega)]
        obtain ⟨Mc', Mm', j1, j2, j3, j4, j5⟩ := R_L (rc := fun a0 a1 a2 a3 M => gX5 (d + (m + 1)) a0 a1 a2 a3 M) (rm := fun a0 a1 a2 a3 M => gX7r (d + (m + 1)) a0 a1 a2 a3 M) ht htp hn (show p < np by omega) hg hs hA hB (fun t' g' s' Mc Mm q1 q2 q3 q4 q5 => R_R hn hA hB m (p + 1) d t' g' s' Mc Mm (by omega) q1 q2 q3 q4 q5) 1000 0 Mc Mm (by omega) (by omega) hW
        obtain ⟨j, f1, f2⟩ := pc_free np (by omega) t ht (by omega)
        exact ⟨Mc', Mm', j1, j2, j3, j5 ⟨j, by omega, f1, f2⟩⟩
