/-! spread together, back, sums -/
def ldL (g : Nat → Int32) : Nat → Option Nat
  | 0 => none
  | i + 1 => match ldL g i with
    | none => some i
    | some q => if g i ≤ g q then some q else some i
def lv (g : Nat → Int32) : Option Nat → Int32
  | none => 0
  | some q => g q
theorem ldL_lt {g : Nat → Int32} : ∀ {n q : Nat}, ldL g n = some q → q < n
  | 0, q, h => by simp [ldL] at h
  | n + 1, q, h => by
    rw [ldL] at h
    cases hr : ldL g n with
    | none =>
      rw [hr] at h
      have := Option.some.inj h
      omega
    | some r =>
      rw [hr] at h
      have h' : (if g n ≤ g r then some r else some n) = some q := h
      have := ldL_lt hr
      split at h'
      · have := Option.some.inj h'; omega
      · have := Option.some.inj h'; omega
theorem ldL_some {g : Nat → Int32} : ∀ n, ∃ q, ldL g (n + 1) = some q := fun n => by
  rw [ldL]
  cases ldL g n with
  | none => exact ⟨_, rfl⟩
  | some r =>
    show ∃ q, (if g n ≤ g r then some r else some n) = some q
    split
    · exact ⟨_, rfl⟩
    · exact ⟨_, rfl⟩
theorem lt8_L {A : fxMem} {K f v : Nat → Nat} {np S dr : Nat} {ab s x1 x2 : Int32} {ev : Nat → Nat → Nat → Int32} (hW : CW A f v np S s ev) {k : Int32 → Int32 → Int32 → fxMem → Option (Int32 × fxMem)} : ∀ (n i : Nat) (M : fxMem), np - i < n → i ≤ np → SC A M K f v np S dr ab s ev → ∃ M', CX4_loudTogether_L8 x1 x2 n (oi (ldL (fun p => 1 + ev 0 p (K p)) i)) (lv (fun p => 1 + ev 0 p (K p)) (ldL (fun p => 1 + ev 0 p (K p)) i)) (nI i) M k = k (oi (ldL (fun p => 1 + ev 0 p (K p)) np)) (lv (fun p => 1 + ev 0 p (K p)) (ldL (fun p => 1 + ev 0 p (K p)) np)) (nI np) M' ∧ SC A M' K f v np S dr ab s ev
  | 0, i, M, h, _, _ => absurd h (Nat.not_lt_zero _)
  | n + 1, i, M, h, hi, hC => by
    have hn := hW.1
    rw [CX4_loudTogether_L8, hC.1 1 (by decide), hW.2.1]
    by_cases z : i = np
    · subst z
      exact ⟨M, it (Int32.le_refl _) _ _, hC⟩
    · obtain ⟨M1, g1, g2⟩ := ld6 hW hC (show i < np by omega)
      rw [ie (nI_ge (by omega) (by omega)), g1, bs, n1 i]
      obtain ⟨M2, j1, j2⟩ := lt8_L (x1 := x1) (x2 := x2) (k := k) hW n (i + 1) M1 (by omega) (by omega) g2
      refine ⟨M2, ?_, j2⟩
      rw [← j1, ldL]
      dsimp only
      cases hr : ldL (fun p => 1 + ev 0 p (K p)) i with
      | none => rfl
      | some q =>
        have hq := ldL_lt hr
        have e : ¬ oi (some q) = (-1 : Int32) := nIn q (by omega)
        simp only [e, if_false]
        show CX4_loudTogether_L8 x1 x2 n (if 1 + ev 0 i (K i) ≤ 1 + ev 0 q (K q) then nI q else nI i) (if 1 + ev 0 i (K i) ≤ 1 + ev 0 q (K q) then 1 + ev 0 q (K q) else 1 + ev 0 i (K i)) _ _ _ = CX4_loudTogether_L8 x1 x2 n (oi (if 1 + ev 0 i (K i) ≤ 1 + ev 0 q (K q) then some q else some i)) (lv (fun p => 1 + ev 0 p (K p)) (if 1 + ev 0 i (K i) ≤ 1 + ev 0 q (K q) then some q else some i)) _ _ _
        by_cases z2 : 1 + ev 0 i (K i) ≤ 1 + ev 0 q (K q)
        · simp only [z2, if_true]; rfl
        · simp only [z2, if_false]; rfl
theorem lt5_L {B : fxMem} {K f v : Nat → Nat} {np dr : Nat} {ab s x1 x2 : Int32} {ev : Nat → Nat → Nat → Int32} (hW : MW B K f v np dr ab s ev) {k : Int32 → Int32 → fxMem → Option (Int32 × fxMem)} : ∀ (n i : Nat) (M : fxMem), np - i < n → i ≤ np → MSc B M → ∃ M', CX7_together_L5 x1 x2 n (oi (ldL (fun p => 1 + ev 0 p (K p)) i)) (nI i) M k = k (oi (ldL (fun p => 1 + ev 0 p (K p)) np)) (nI np) M' ∧ MSc B M'
  | 0, i, M, h, _, _ => absurd h (Nat.not_lt_zero _)
  | n + 1, i, M, h, hi, hM => by
    have hn := hW.1
    rw [CX7_together_L5, it ci0, cc0, hM.1 1 (by decide) (by decide) (by decide), hW.2.1]
    by_cases z : i = np
    · subst z
      exact ⟨M, it (Int32.le_refl _) _ _, hM⟩
    · rw [ie (nI_ge (by omega) (by omega)), n1 i]
      cases hr : ldL (fun p => 1 + ev 0 p (K p)) i with
      | none =>
        rw [it (show oi none = (-1 : Int32) from rfl)]
        have := lt5_L (x1 := x1) (x2 := x2) (k := k) hW n (i + 1) M (by omega) (by omega) hM
        rw [ldL, hr] at this
        exact this
      | some q =>
        have hq := ldL_lt hr
        obtain ⟨M1, g1, g2⟩ := ld7 hW hM (show i < np by omega)
        obtain ⟨M2, g3, g4⟩ := ld7 hW g2 (show q < np by omega)
        rw [ie (show ¬ oi (some q) = (-1 : Int32) from nIn q (by omega)), g1, bs, show oi (some q) = nI q from rfl]
        dsimp only
        rw [g3, bs]
        dsimp only
        have := lt5_L (x1 := x1) (x2 := x2) (k := k) hW n (i + 1) M2 (by omega) (by omega) g4
        rw [ldL, hr] at this
        have e : (if 1 + ev 0 i (K i) ≤ 1 + ev 0 q (K q) then nI q else nI i) = oi (if 1 + ev 0 i (K i) ≤ 1 + ev 0 q (K q) then some q else some i) := by split <;> rfl
        rw [e]
        exact this
def abz (d : Int32) : Int32 := if (0 : Int32) ≤ d then d else (0 : Int32) - d
theorem abz7 (d : Int32) (M : fxMem) : CX7_size d M = some (abz d, M) := by
  rw [CX7_size, abz, Int32.zero_sub]
def tg (h g : Nat → Int32) (x : Int32) (q : Nat) : Nat → Int32
  | 0 => 0
  | i + 1 => if x < abz (h i - h q) then tg h g x q i else tg h g x q i + g i
theorem lt59_L {A : fxMem} {K f v : Nat → Nat} {np S dr st q : Nat} {ab s x2 x4 : Int32} {ev : Nat → Nat → Nat → Int32} (hW : CW A f v np S s ev) (hs : st < 8) (hq : q < np) (ha : ∀ p, p < np → nI p ≠ ab) {k : Int32 → Int32 → fxMem → Option (Int32 × fxMem)} : ∀ (n i : Nat) (M : fxMem), np - i < n → i ≤ np → SC A M K f v np S dr ab s ev → ∃ M', CX4_loudTogether_L59 (nI st) x2 (nI q) x4 n (tg (hv K f v ab s np dr ev st) (fun p => 1 + ev 0 p (K p)) x2 q i) (nI i) M k = k (tg (hv K f v ab s np dr ev st) (fun p => 1 + ev 0 p (K p)) x2 q np) (nI np) M' ∧ SC A M' K f v np S dr ab s ev
  | 0, i, M, h, _, _ => absurd h (Nat.not_lt_zero _)
  | n + 1, i, M, h, hi, hC => by
    have hn := hW.1
    rw [CX4_loudTogether_L59, hC.1 1 (by decide), hW.2.1]
    by_cases z : i = np
    · subst z
      exact ⟨M, it (Int32.le_refl _) _ _, hC⟩
    · rw [ie (nI_ge (by omega) (by omega)), av6 hW hC hs (show i < np by omega) (ha i (by omega)), bs]
      dsimp only
      rw [av6 hW hC hs hq (ha q hq), bs, n1 i]
      dsimp only
      rw [show (if (0 : Int32) ≤ hv K f v ab s np dr ev st i - hv K f v ab s np dr ev st q then hv K f v ab s np dr ev st i - hv K f v ab s np dr ev st q else (0 : Int32) - (hv K f v ab s np dr ev st i - hv K f v ab s np dr ev st q)) = abz (hv K f v ab s np dr ev st i - hv K f v ab s np dr ev st q) from rfl]
      by_cases z1 : x2 < abz (hv K f v ab s np dr ev st i - hv K f v ab s np dr ev st q)
      · rw [it z1]
        have := lt59_L (x2 := x2) (x4 := x4) (k := k) hW hs hq ha n (i + 1) M (by omega) (by omega) hC
        rw [tg, it z1] at this
        exact this
      · obtain ⟨M1, g1, g2⟩ := ld6 hW hC (show i < np by omega)
        rw [ie z1, g1, bs]
        have := lt59_L (x2 := x2) (x4 := x4) (k := k) hW hs hq ha n (i + 1) M1 (by omega) (by omega) g2
        rw [tg, ie z1] at this
        exact this
theorem lt54_L {B : fxMem} {K f v : Nat → Nat} {np dr st q : Nat} {ab s x2 : Int32} {ev : Nat → Nat → Nat → Int32} (hW : MW B K f v np dr ab s ev) (hinj : ∀ a b, a < np → b < np → f a = f b → a = b) (hs : st < 8) (hq : q < np) (ha : ∀ p, p < np → nI p ≠ ab) {k : Int32 → Int32 → fxMem → Option (Int32 × fxMem)} : ∀ (n i : Nat) (M : fxMem), np - i < n → i ≤ np → MSc B M → ∃ M', CX7_together_L54 (nI st) x2 (nI q) n (tg (hv K f v ab s np dr ev st) (fun p => 1 + ev 0 p (K p)) x2 q i) (nI i) M k = k (tg (hv K f v ab s np dr ev st) (fun p => 1 + ev 0 p (K p)) x2 q np) (nI np) M' ∧ MSc B M'
  | 0, i, M, h, _, _ => absurd h (Nat.not_lt_zero _)
  | n + 1, i, M, h, hi, hM => by
    have hn := hW.1
    rw [CX7_together_L54, it ci0, cc0, hM.1 1 (by decide) (by decide) (by decide), hW.2.1]
    by_cases z : i = np
    · subst z
      exact ⟨M, it (Int32.le_refl _) _ _, hM⟩
    · obtain ⟨M1, g1, g2, g3⟩ := hd7 hW hinj hM hs (show i < np by omega) (ha i (by omega))
      obtain ⟨M2, g4, g5, g6⟩ := hd7 hW hinj (hM.tr g2) hs hq (ha q hq)
      have hM2 := (hM.tr g2).tr g5
      rw [ie (nI_ge (by omega) (by omega)), g1, bs]
      dsimp only
      rw [g4, bs, n1 i]
      dsimp only
      rw [abz7, bs]
      dsimp only
      by_cases z1 : x2 < abz (hv K f v ab s np dr ev st i - hv K f v ab s np dr ev st q)
      · rw [it z1, Int32.add_zero]
        have := lt54_L (x2 := x2) (k := k) hW hinj hs hq ha n (i + 1) M2 (by omega) (by omega) hM2
        rw [tg, it z1] at this
        exact this
      · obtain ⟨M3, j1, j2⟩ := ld7 hW hM2 (show i < np by omega)
        rw [ie z1, j1, bs]
        have := lt54_L (x2 := x2) (k := k) hW hinj hs hq ha n (i + 1) M3 (by omega) (by omega) j2
        rw [tg, ie z1] at this
        exact this
theorem il51 : ∀ {x : Int32}, (x < 0 ∨ nI 51 ≤ x) → ∀ M, CX7_in x 0 50 M = some (0, M) := fun h M => by
  have := ilo (n := 51) (by decide) h M
  rwa [show nI 51 - 1 = (50 : Int32) by decide] at this
theorem ii51 : ∀ {j : Nat}, j < 51 → ∀ M, CX7_in (nI j) 0 50 M = some (1, M) := fun h M => by
  have := iin (n := 51) h (by decide) M
  rwa [show nI 51 - 1 = (50 : Int32) by decide] at this
theorem px_spread (x y : Int32) : st2 PX (CX6_spread x y) (CX7_spread x y) := by
  intro Mc Mm h
  obtain ⟨h1, h2, h3, np, nf, nd, nb, ns, d, hF, hG⟩ := id h
  obtain ⟨s1, s2, s3, s4, s5, s6, s7, s8, s9, s10, s11, s12, s13⟩ := hF.2.1
  have hnp := hF.1.1
  rw [CX6_spread, CX7_spread, show (8 : Int32) = nI 8 from rfl, show (51 : Int32) = nI 51 from rfl]
  rcases arg3 x (n := 8) (by decide) with hx | ⟨st, hst, rfl⟩
  · refine ⟨-1, Mc, Mm, ?_, ?_, h⟩
    · simp only [bs, blo (show 8 < 2 ^ 31 by decide) hx, if_true]
    · simp only [bs, slo hx, if_true]
  simp only [bs, bin hst (show 8 < 2 ^ 31 by decide), sin hst, show ¬ (1 : Int32) = 0 by decide, if_false]
  rcases arg3 y (n := 51) (by decide) with hy | ⟨w, hw, rfl⟩
  · refine ⟨-1, Mc, Mm, ?_, ?_, h⟩
    · simp only [bs, blo (show 51 < 2 ^ 31 by decide) hy, if_true]
    · simp only [bs, il51 hy, if_true]
  simp only [bs, bin hw (show 51 < 2 ^ 31 by decide), ii51 hw, show ¬ (1 : Int32) = 0 by decide, if_false]
  obtain ⟨s, ev, M1, hC, hB, hinj, hK, hW, hl, hS⟩ := scn h1 h2 hF
  have ha : ∀ p, p < np → nI p ≠ (-1 : Int32) := fun p hp => nIn p (by omega)
  have e1 : M1 1 0 = nI np := by rw [hS.1 1 (by decide)]; exact s1
  by_cases z0 : nI w = (0 : Int32)
  · have E := sp6 (h := fun p => hv (kN Mc) (fN Mc) (vN Mc) (-1) s np d ev st p) hnp e1 hS.2.2.2.1 (fun p hp hpa => av6 hC hS hst hp hpa)
    obtain ⟨M2, g1, g2, g3⟩ := sp7 (h := fun p => hv (kN Mc) (fN Mc) (vN Mc) (-1) s np d ev st p) hnp s2 h1 (fun p hp hpa M hM => hd7 hW hinj hM hst hp hpa) (MSc.rf Mm)
    refine ⟨spv (mnx (fun p => hv (kN Mc) (fN Mc) (vN Mc) (-1) s np d ev st p) (-1) np), M1, M2, ?_, ?_, PX_same h hS.same g2.same⟩
    · rw [it z0, hl, bs, E, bs]
    · rw [it z0, g1, bs]
  · rw [ie z0, ie z0, hl, bs]
    have key : ∃ r M2 M3, CX4_loudTogether (nI st) (nI w - 1) M1 = some (r, M2) ∧ CX7_together (nI st) (nI w - 1) Mm = some (r, M3) ∧ SameC Mc M2 ∧ SameM Mm M3 := by
      obtain ⟨M2, g1, g2⟩ := lt8_L (x1 := nI st) (x2 := nI w - 1) (k := fun y3_8 y4_8 y5_8 M8 => CX4_loudTogether_L59 (nI st) (nI w - 1) y3_8 y4_8 1000 (0 : Int32) (0 : Int32) M8 (fun y5_59 y6_59 M59 => some (y5_59, M59))) hC 1000 0 M1 (by omega) (Nat.zero_le _) hS
      obtain ⟨M3, g3, g4⟩ := lt5_L (x1 := nI st) (x2 := nI w - 1) (k := fun y3_5 y4_5 M5 => CX7_together_L54 (nI st) (nI w - 1) y3_5 1000 (0 : Int32) (0 : Int32) M5 (fun y4_54 y5_54 M54 => some (y4_54, M54))) hW 1000 0 Mm (by omega) (Nat.zero_le _) (MSc.rf Mm)
      have q1 : CX4_loudTogether (nI st) (nI w - 1) M1 = _ := g1
      have q2 : CX7_together (nI st) (nI w - 1) Mm = _ := g3
      rw [q1, q2]
      cases np with
      | zero =>
        have e2 : M2 1 0 = nI 0 := by rw [g2.1 1 (by decide)]; exact s1
        have e3 : M3 1 0 = nI 0 := by rw [g4.1 1 (by decide) (by decide) (by decide)]; exact s2
        refine ⟨0, M2, M3, ?_, ?_, g2.same, g4.same⟩
        · rw [CX4_loudTogether_L59, e2, it (show nI 0 ≤ (0 : Int32) by decide)]
        · rw [CX7_together_L54, it ci0, cc0, e3, it (show nI 0 ≤ (0 : Int32) by decide)]
      | succ n =>
        obtain ⟨q, hq⟩ := ldL_some (g := fun p => 1 + ev 0 p (kN Mc p)) n
        have hq' := ldL_lt hq
        rw [hq]
        obtain ⟨M4, j1, j2⟩ := lt59_L (x2 := nI w - 1) (x4 := lv (fun p => 1 + ev 0 p (kN Mc p)) (some q)) (k := fun y5 y6 M => some (y5, M)) hC hst hq' ha 1000 0 M2 (by omega) (Nat.zero_le _) g2
        obtain ⟨M5, j3, j4⟩ := lt54_L (x2 := nI w - 1) (k := fun y5 y6 M => some (y5, M)) hW hinj hst hq' ha 1000 0 M3 (by omega) (Nat.zero_le _) g4
        exact ⟨_, M4, M5, j1, j3, j2.same, j4.same⟩
    obtain ⟨r, M2, M3, q1, q2, q3, q4⟩ := key
    refine ⟨r, M2, M3, ?_, ?_, PX_same h q3 q4⟩
    · rw [q1, bs]
    · rw [q2, bs]
/-! the sum of the spreads -/
def ss (h : Nat → Nat → Int32) (ab : Int32) (np : Nat) : Nat → Int32
  | 0 => 0
  | i + 1 => ss h ab np i + spv (mnx (h i) ab np)
theorem ss6_L {A M : fxMem} {K f v : Nat → Nat} {np S dr : Nat} {ab s : Int32} {ev : Nat → Nat → Nat → Int32} (hW : CW A f v np S s ev) (hC : SC A M K f v np S dr ab s ev) {k : Int32 → Int32 → fxMem → Option (Int32 × fxMem)} : ∀ (n i : Nat), 8 - i < n → i ≤ 8 → CX4_sumOfSpreads_L4 n (ss (hv K f v ab s np dr ev) ab np i) (nI i) M k = k (ss (hv K f v ab s np dr ev) ab np 8) (nI 8) M
  | 0, i, h, _ => absurd h (Nat.not_lt_zero _)
  | n + 1, i, h, hi => by
    rw [CX4_sumOfSpreads_L4, show (8 : Int32) = nI 8 from rfl]
    by_cases z : i = 8
    · subst z; rw [it (Int32.le_refl _)]
    · rw [ie (nI_ge (by omega) (by decide)), sp6 (h := hv K f v ab s np dr ev i) hW.1 (by rw [hC.1 1 (by decide)]; exact hW.2.1) hC.2.2.2.1 (fun p hp hpa => av6 hW hC (by omega) hp hpa), bs, n1 i]
      exact ss6_L hW hC n (i + 1) (by omega) (by omega)
theorem ss6 {A M : fxMem} {K f v : Nat → Nat} {np S dr : Nat} {ab s : Int32} {ev : Nat → Nat → Nat → Int32} (hW : CW A f v np S s ev) (hC : SC A M K f v np S dr ab s ev) : CX4_sumOfSpreads M = some (ss (hv K f v ab s np dr ev) ab np 8, M) := by
  rw [CX4_sumOfSpreads]
  exact ss6_L (k := fun y1 y2 M => some (y1, M)) hW hC 1000 0 (by omega) (by omega)
theorem ss7_L {B : fxMem} {K f v : Nat → Nat} {np dr : Nat} {ab s : Int32} {ev : Nat → Nat → Nat → Int32} (hW : MW B K f v np dr ab s ev) (hinj : ∀ a b, a < np → b < np → f a = f b → a = b) {k : Int32 → Int32 → fxMem → Option (Int32 × fxMem)} : ∀ (n i : Nat) (M : fxMem), 8 - i < n → i ≤ 8 → MSc B M → ∃ M', CX7_allSpreads_L4 n (ss (hv K f v ab s np dr ev) ab np i) (nI i) M k = k (ss (hv K f v ab s np dr ev) ab np 8) (nI 8) M' ∧ MSc B M'
  | 0, i, M, h, _, _ => absurd h (Nat.not_lt_zero _)
  | n + 1, i, M, h, hi, hM => by
    rw [CX7_allSpreads_L4, show (8 : Int32) = nI 8 from rfl]
    by_cases z : i = 8
    · subst z; exact ⟨M, it (Int32.le_refl _) _ _, hM⟩
    · obtain ⟨M2, g1, g2, g3⟩ := sp7 (h := hv K f v ab s np dr ev i) hW.1 hW.2.1 hW.2.2.2.2.2.2.2.1 (fun p hp hpa M hM => hd7 hW hinj hM (by omega) hp hpa) hM
      rw [ie (nI_ge (by omega) (by decide)), g1, bs, n1 i]
      exact ss7_L hW hinj n (i + 1) M2 (by omega) (by omega) g2
theorem ss7 {B M : fxMem} {K f v : Nat → Nat} {np dr : Nat} {ab s : Int32} {ev : Nat → Nat → Nat → Int32} (hW : MW B K f v np dr ab s ev) (hinj : ∀ a b, a < np → b < np → f a = f b → a = b) (hM : MSc B M) : ∃ M', CX7_allSpreads M = some (ss (hv K f v ab s np dr ev) ab np 8, M') ∧ MSc B M' := by
  rw [CX7_allSpreads]
  exact ss7_L (k := fun y1 y2 M => some (y1, M)) hW hinj 1000 0 M (by omega) (by omega) hM
