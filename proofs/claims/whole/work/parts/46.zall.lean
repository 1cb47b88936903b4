/-! all CLAUSES -/
theorem mk0 : ∀ n, n < 100 → ((-10 : Int32) - nI n < 0) ∧ ¬ ((-10 : Int32) - nI n = -1) ∧ ((-10 : Int32) - nI n ≤ -10) ∧ ¬ ((-10 : Int32) - nI n ≤ -200) ∧ ((-200 : Int32) < (-10 : Int32) - nI n) ∧ (-10 : Int32) - ((-10 : Int32) - nI n) = nI n := by decide +kernel
theorem mk1 : ∀ n, n < 100 → ((-200 : Int32) - nI n < 0) ∧ ¬ ((-200 : Int32) - nI n = -1) ∧ ((-200 : Int32) - nI n ≤ -10) ∧ ((-200 : Int32) - nI n ≤ -200) ∧ ¬ ((-200 : Int32) < (-200 : Int32) - nI n) ∧ (-200 : Int32) - ((-200 : Int32) - nI n) = nI n := by decide +kernel
theorem i64 : fx_in (0 : Int32) 64 = true := by decide
theorem lkK {a : Nat → Nat} {x1 x2 : Int32} {len base n i : Nat} {q : Cls} {M : fxMem} {b : Bool} (hb : base + len ≤ 900) (hi : i < base + len) (hq : okQ q) (h2 : q.1 < 2) (hM : M 1 i = (if q.1 = 0 then (-10 : Int32) else -200) - nI q.2.1) (hs : M 4 0 = nI (bI b)) {k : Int32 → Int32 → fxMem → Option fxMem} : ∃ M', CX7_looks_L111 x1 x2 (nI len) (nI base) (n + 1) (nI 1) (nI i) M k = CX7_looks_L111 x1 x2 (nI len) (nI base) n (nI 0) (nI (i + 1)) M' k ∧ M' 0 11 = (if q.1 = 0 ∧ b = true then M 0 11 + nI q.2.1 else M 0 11) ∧ M' 0 12 = (if q.1 = 1 ∧ b = true then M 0 12 + nI q.2.1 else M 0 12) ∧ (∀ j, j ≠ 0 → M' j = M j) ∧ ∀ j, j ≠ 11 → j ≠ 12 → M' 0 j = M 0 j := by
  have hn := hq.2.1
  rw [CX7_looks_L111, nI_add, ie (nI_ge hi (by omega)), it (gin (by omega) (by decide)), nI_clamp (by omega), hM]
  rcases (show q.1 = 0 ∨ q.1 = 1 by omega) with h | h
  · obtain ⟨m1, m2, m3, m4, m5, m6⟩ := mk0 _ hn
    refine ⟨fx_st (fx_st M 0 11 (M 0 11 + (if b = true then nI q.2.1 else 0))) 0 12 (M 0 12 + 0), ?_, ?_, ?_, fun j hj => by rw [mm_row hj, mm_row hj], fun j z1 z2 => by rw [mm_col z2, mm_col z1]⟩
    · simp only [h, if_true, m1, m2, m3, m4, m5, m6, if_false, i64, cc0, hs, fx_lt, mm_row (show 4 ≠ 0 by decide), mm_col (show 12 ≠ 11 by decide), n1 i, ite_self]
      cases b
      · rfl
      · rfl
    · rw [mm_col (by decide), mm_same]
      cases b
      · rw [ie (by decide), ie (fun z => absurd z.2 (by decide)), Int32.add_zero]
      · rw [it rfl, it ⟨h, rfl⟩]
    · rw [mm_same, ie (fun z => by omega), Int32.add_zero]
  · obtain ⟨m1, m2, m3, m4, m5, m6⟩ := mk1 _ hn
    have h0 : ¬ q.1 = 0 := by omega
    refine ⟨fx_st (fx_st M 0 11 (M 0 11 + 0)) 0 12 (M 0 12 + (if b = true then nI q.2.1 else 0)), ?_, ?_, ?_, fun j hj => by rw [mm_row hj, mm_row hj], fun j z1 z2 => by rw [mm_col z2, mm_col z1]⟩
    · simp only [h0, if_true, m1, m2, m3, m4, m5, m6, if_false, i64, cc0, hs, fx_lt, mm_row (show 4 ≠ 0 by decide), mm_col (show 12 ≠ 11 by decide), n1 i, ite_self]
      cases b
      · rfl
      · rfl
    · rw [mm_col (by decide), mm_same, ie (fun z => h0 z.1), Int32.add_zero]
    · rw [mm_same]
      cases b
      · rw [ie (by decide), ie (fun z => absurd z.2 (by decide)), Int32.add_zero]
      · rw [it rfl, it ⟨h, rfl⟩]
theorem lkA {a : Nat → Nat} {x1 x2 : Int32} {len base : Nat} (hb : base + len ≤ 900) {k : Int32 → Int32 → fxMem → Option fxMem} : ∀ (cl : List Cls) (n i : Nat) (M : fxMem), LM M a → i + (flM cl).length ≤ base + len → (∀ t x, (flM cl)[t]? = some x → M 1 (i + t) = x) → (∀ q ∈ cl, okQ q) → ∃ M', CX7_looks_L111 x1 x2 (nI len) (nI base) (n + (flM cl).length) (nI 0) (nI i) M k = CX7_looks_L111 x1 x2 (nI len) (nI base) n (nI 0) (nI (i + (flM cl).length)) M' k ∧ M' 0 11 = evw a 0 cl (M 0 11) ∧ M' 0 12 = evw a 1 cl (M 0 12) ∧ (∀ j, j ≠ 0 → j ≠ 4 → M' j = M j) ∧ ∀ j, j ≠ 11 → j ≠ 12 → M' 0 j = M 0 j
  | [], n, i, M, hL, hi, hc, hq => ⟨M, rfl, rfl, rfl, fun _ _ _ => rfl, fun _ _ _ => rfl⟩
  | q :: r, n, i, M, hL, hi, hc, hqs => by
    have hq := hqs q List.mem_cons_self
    have ef : flM (q :: r) = mkM q ++ flM r := rfl
    by_cases h2 : q.1 < 2
    · have em : mkM q = q.2.2.map opM ++ [(if q.1 = 0 then (-10 : Int32) else -200) - nI q.2.1] := it h2 _ _
      have el : (mkM q).length = q.2.2.length + 1 := by rw [em]; simp
      rw [ef, List.length_append, el] at hi
      have hop : ∀ t o, q.2.2[t]? = some o → M 1 (i + t) = opM o := fun t o ht => by
        refine hc t _ ?_
        have ht' : t < q.2.2.length := by
          rcases Nat.lt_or_ge t q.2.2.length with z | z
          · exact z
          · rw [List.getElem?_eq_none z] at ht; exact absurd ht (by simp)
        rw [ef, List.getElem?_append_left (by omega), em, List.getElem?_append_left (by simp; omega), List.getElem?_map, ht]
        rfl
      have hmk : M 1 (i + q.2.2.length) = (if q.1 = 0 then (-10 : Int32) else -200) - nI q.2.1 := by
        refine hc _ _ ?_
        rw [ef, List.getElem?_append_left (by omega), em, List.getElem?_append_right (by simp)]
        simp
      obtain ⟨M1, e1, e2, e3⟩ := lkO (a := a) (x1 := x1) (x2 := x2) (len := len) (base := base) hb (k := k) q.2.2 (n + (flM r).length + 1) i [] 1 M hL (by omega) hop hq.2.2.2.2 trivial (hq.2.2.1 h2) (by decide)
      have hl := run_len (a := a) q.2.2 [] 1 hq.2.2.2.2 (hq.2.2.1 h2)
      obtain ⟨b, hbr⟩ : ∃ b, run a q.2.2 [] = [b] := by
        match hr : run a q.2.2 [] with
        | [] => rw [hr] at hl; simp at hl
        | [b] => exact ⟨b, rfl⟩
        | b1 :: b2 :: s => rw [hr] at hl; simp at hl
      rw [hbr] at e1 e2
      obtain ⟨M2, g1, g2, g3, g4, g5⟩ := lkK (a := a) (x1 := x1) (x2 := x2) (len := len) (base := base) (n := n + (flM r).length) (i := i + q.2.2.length) (k := k) hb (by omega) hq h2 (by rw [e3 1 (by decide)]; exact hmk) e2.1
      obtain ⟨M3, j1, j2, j3, j4, j5⟩ := lkA (a := a) (x1 := x1) (x2 := x2) hb (k := k) r n (i + q.2.2.length + 1) M2 (fun l hl => by rw [g4 3 (by decide), e3 3 (by decide)]; exact hL l hl) (by omega) (fun t x ht => by
        rw [g4 1 (by decide), e3 1 (by decide), show i + q.2.2.length + 1 + t = i + (q.2.2.length + 1 + t) by omega]
        refine hc _ _ ?_
        rw [ef, List.getElem?_append_right (by omega), el, show q.2.2.length + 1 + t - (q.2.2.length + 1) = t by omega]
        exact ht) (fun q' h' => hqs q' (List.mem_cons_of_mem _ h'))
      refine ⟨M3, ?_, ?_, ?_, fun j z1 z2 => by rw [j4 j z1 z2, g4 j z1, e3 j z2], fun j z1 z2 => by rw [j5 j z1 z2, g5 j z1 z2, e3 0 (by decide)]⟩
      · rw [ef, List.length_append, el, show n + (q.2.2.length + 1 + (flM r).length) = n + (flM r).length + 1 + q.2.2.length by omega]
        refine e1.trans ?_
        refine g1.trans ?_
        rw [j1, show i + q.2.2.length + 1 + (flM r).length = i + (q.2.2.length + 1 + (flM r).length) by omega]
      · rw [j2, g2, e3 0 (by decide), evw, hbr]
        rfl
      · rw [j3, g3, e3 0 (by decide), evw, hbr]
        rfl
    · have em : mkM q = [] := ie h2 _ _
      rw [ef, em, List.nil_append] at hi hc ⊢
      obtain ⟨M3, j1, j2, j3, j4, j5⟩ := lkA (a := a) (x1 := x1) (x2 := x2) hb (k := k) r n i M hL hi hc (fun q' h' => hqs q' (List.mem_cons_of_mem _ h'))
      refine ⟨M3, j1, ?_, ?_, j4, j5⟩
      · rw [j2, evw, ie (fun z => h2 (by omega))]
      · rw [j3, evw, ie (fun z => h2 (by omega))]
theorem b140 : ∀ n, n < 5 → (200 : Int32) + (140 : Int32) * nI n = nI (200 + 140 * n) := by decide +kernel
def ltr (p r c k v : Nat) : Nat → Nat
  | 0 => p
  | 1 => r
  | 2 => c
  | 3 => k
  | _ => v
theorem d50 : fx_in (0 : Int32) 5 = true := by decide
theorem d51 : fx_in (1 : Int32) 5 = true := by decide
theorem d52 : fx_in (2 : Int32) 5 = true := by decide
theorem d53 : fx_in (3 : Int32) 5 = true := by decide
theorem d54 : fx_in (4 : Int32) 5 = true := by decide
theorem c5 {P : Nat → Prop} (h0 : P 0) (h1 : P 1) (h2 : P 2) (h3 : P 3) (h4 : P 4) : ∀ a, a < 5 → P a
  | 0, _ => h0
  | 1, _ => h1
  | 2, _ => h2
  | 3, _ => h3
  | 4, _ => h4
  | n + 5, h => absurd h (by omega)
theorem sumE0 (G : Nat → Int32 → fxMem → Option (Int32 × fxMem)) {M : fxMem} {S p k f v : Nat} {x1 x2 r : Int32} (hx : x2 = nI p) (hp : p < 10) (f1 : f < 64) (hS : S < 60) (hs : fx_isSh S = true) (e4 : M 4 p = nI f) (e3 : M 3 p = nI v) (h59 : M 59 p = nI k) (h58 : M 58 1 = nI S) (E : G S x1 (fx_st (fx_st (fx_st (fx_st (fx_st M 63 0 (nI p)) 63 1 (nI (f / 8))) 63 2 (nI (f % 8))) 63 3 (nI k)) 63 4 (nI v)) = some (r, (fx_st (fx_st (fx_st (fx_st (fx_st M 63 0 (nI p)) 63 1 (nI (f / 8))) 63 2 (nI (f % 8))) 63 3 (nI k)) 63 4 (nI v)))) : (if fx_in (0 : Int32) 5 = true then fx_lt (fx_st M 63 (0 : Int32).toNatClampNeg x2) fun M20 => if fx_in x2 10 = true then Option.bind (CX6_rowOf (M20 4 x2.toNatClampNeg) M20) fun q21 => if fx_in (1 : Int32) 5 = true then fx_lt (fx_st q21.2 63 (1 : Int32).toNatClampNeg q21.1) fun M38 => Option.bind (CX6_columnOf (M38 4 x2.toNatClampNeg) M38) fun q39 => if fx_in (2 : Int32) 5 = true then fx_lt (fx_st q39.2 63 (2 : Int32).toNatClampNeg q39.1) fun M53 => if fx_in (3 : Int32) 5 = true then fx_lt (fx_st M53 63 (3 : Int32).toNatClampNeg (M53 59 x2.toNatClampNeg)) fun M68 => if fx_in (4 : Int32) 5 = true then fx_lt (fx_st M68 63 (4 : Int32).toNatClampNeg (M68 3 x2.toNatClampNeg)) fun M71 => if fx_isSh ((M71 58 1).toNatClampNeg) = true then Option.bind (G ((M71 58 1).toNatClampNeg) x1 M71) fun q79 => some (q79.1, q79.2) else none else none else none else none else none else none else none) = some (r, (fx_st (fx_st (fx_st (fx_st (fx_st M 63 0 (nI p)) 63 1 (nI (f / 8))) 63 2 (nI (f % 8))) 63 3 (nI k)) 63 4 (nI v))) := by
  subst hx
  simp only [d50, d51, d52, d53, d54, if_true, cc0, cc1, cc2, cc3, cc4, fx_lt, gin hp (show 10 < 2 ^ 31 by decide), nI_clamp (show p < 2 ^ 31 by omega), CX6_rowOf, CX6_columnOf, bs, mm_row (show 4 ≠ 63 by decide), mm_row (show 3 ≠ 63 by decide), mm_row (show 59 ≠ 63 by decide), mm_row (show 58 ≠ 63 by decide), e4, e3, h59, h58, rw6 _ f1, cl6 _ f1, nI_clamp (show S < 2 ^ 31 by omega), hs, E]
theorem sumE {M : fxMem} {S p k f v : Nat} {x r : Int32} (hp : p < 10) (f1 : f < 64) (hS : S < 60) (hs : fx_isSh S = true) (e4 : M 4 p = nI f) (e3 : M 3 p = nI v) (h59 : M 59 p = nI k) (h58 : M 58 1 = nI S) (E : CX3_sumOf S x (fx_st (fx_st (fx_st (fx_st (fx_st M 63 0 (nI p)) 63 1 (nI (f / 8))) 63 2 (nI (f % 8))) 63 3 (nI k)) 63 4 (nI v)) = some (r, (fx_st (fx_st (fx_st (fx_st (fx_st M 63 0 (nI p)) 63 1 (nI (f / 8))) 63 2 (nI (f % 8))) 63 3 (nI k)) 63 4 (nI v)))) : CX4_sumFor x (nI p) M = some (r, (fx_st (fx_st (fx_st (fx_st (fx_st M 63 0 (nI p)) 63 1 (nI (f / 8))) 63 2 (nI (f % 8))) 63 3 (nI k)) 63 4 (nI v))) := by
  rw [CX4_sumFor]
  exact sumE0 CX3_sumOf rfl hp f1 hS hs e4 e3 h59 h58 E
theorem lookE {M M2 : fxMem} {p k f v len base : Nat} (hp : p < 10) (f1 : f < 64) (e5 : M 1 (150 + p) = nI f) (e4 : M 1 (140 + p) = nI v) (t1 : CX7_tellsOf 195 0 (fx_st (fx_st (fx_st (fx_st (fx_st (fx_st (fx_st M 3 0 (nI p)) 3 1 (nI (f / 8))) 3 2 (nI (f % 8))) 3 3 (nI k)) 3 4 (nI v)) 0 11 1) 0 12 0) = some (nI len, (fx_st (fx_st (fx_st (fx_st (fx_st (fx_st (fx_st M 3 0 (nI p)) 3 1 (nI (f / 8))) 3 2 (nI (f % 8))) 3 3 (nI k)) 3 4 (nI v)) 0 11 1) 0 12 0))) (t2 : (200 : Int32) + (140 : Int32) * (fx_st (fx_st (fx_st (fx_st (fx_st (fx_st (fx_st M 3 0 (nI p)) 3 1 (nI (f / 8))) 3 2 (nI (f % 8))) 3 3 (nI k)) 3 4 (nI v)) 0 11 1) 0 12 0) 1 6 = nI base) (E : CX7_looks_L111 (nI p) (nI k) (nI len) (nI base) 1000 0 (nI base) (fx_st (fx_st (fx_st (fx_st (fx_st (fx_st (fx_st M 3 0 (nI p)) 3 1 (nI (f / 8))) 3 2 (nI (f % 8))) 3 3 (nI k)) 3 4 (nI v)) 0 11 1) 0 12 0) (fun _ _ M => some M) = some M2) : CX7_looks (nI p) (nI k) M = some M2 := by
  rw [CX7_looks, it d50, fx_lt, la150, it (gin (by omega) (by decide)), it d51, fx_lt, cc0, nI_clamp (by omega), mm_row (show 1 ≠ 3 by decide), e5, rw7 _ f1, it d52, fx_lt, cc1, mm_row (show 1 ≠ 3 by decide), mm_row (show 1 ≠ 3 by decide), e5, rw7 _ f1, cl7 _ f1, it d53, fx_lt, cc2, la140, it (gin (by omega) (by decide)), it d54, cc3, cc4, nI_clamp (by omega), mm_row (show 1 ≠ 3 by decide), mm_row (show 1 ≠ 3 by decide), mm_row (show 1 ≠ 3 by decide), mm_row (show 1 ≠ 3 by decide), e4, t1, bs, it ci6, cc6, t2]
  exact E
theorem ev_ok {Mc Mm : fxMem} {np nf nd nb ns d : Nat} (hZ : rZ Mc) (hF : rF Mc Mm 1 1 np nf nd nb ns d) : ∃ (s : Int32) (ev : Nat → Nat → Nat → Int32), CW Mc (fN Mc) (vN Mc) np (20 + 6 * ns) s ev ∧ ∀ (B : fxMem) (K : Nat → Nat) (dr : Nat) (ab : Int32), (∀ j, j ≠ 5 → (j < 130 ∨ 140 ≤ j) → B 1 j = Mm 1 j) → (∀ p, p < np → K p < 7 ∧ B 1 (130 + p) = nI (K p)) → B 1 5 = nI dr → dr < 64 → B 0 13 = ab → MW B K (fN Mc) (vN Mc) np dr ab s ev := by
  obtain ⟨s1, s2, s3, s4, s5, s6, s7, s8, s9, s10, s11, s12, s13⟩ := hF.2.1
  have hns := hF.1.2.2.2.2.1
  have hnp := hF.1.1
  have hf : ∀ p, p < np → fN Mc p < 64 ∧ Mc 4 p = nI (fN Mc p) ∧ Mm 1 (150 + p) = nI (fN Mc p) := fun p hp => nr_ok (by decide) hF.2.2.2.2.1 hp
  have hv : ∀ p, p < np → vN Mc p < 10 ∧ Mc 3 p = nI (vN Mc p) ∧ Mm 1 (140 + p) = nI (vN Mc p) := fun p hp => nr_ok (by decide) hF.2.2.2.1 hp
  -- the clauses
  obtain ⟨cl, spd, base, hbase, g0, g3, glen, gcl, gcd, gf, gok, gsp, gln⟩ : ∃ (cl : List Cls) (spd base : Nat), base + (flM cl).length ≤ 900 ∧ Mc (20 + 6 * ns) 0 = nI spd ∧ Mc (20 + 6 * ns) 3 = nI cl.length ∧ cl.length ≤ 10 ∧ (∀ j q, cl[j]? = some q → Mc (20 + 6 * ns + 1) j = nI q.1 ∧ Mc (20 + 6 * ns + 2) j = nI q.2.1 ∧ Mc (20 + 6 * ns + 3) j = nI (flC (cl.take j)).length ∧ Mc (20 + 6 * ns + 4) j = nI (flC (cl.take (j + 1))).length) ∧ (∀ t o, (flC cl)[t]? = some o → Mc (20 + 6 * ns + 5) t = opC o) ∧ (flC cl).length ≤ 120 ∧ (∀ q ∈ cl, okQ q) ∧ (∀ M : fxMem, (∀ j, j ≠ 5 → (j < 130 ∨ 140 ≤ j) → M 1 j = Mm 1 j) → CX7_tellsOf 180 3 M = some (nI spd, M)) ∧ ∀ M : fxMem, (∀ j, j ≠ 5 → (j < 130 ∨ 140 ≤ j) → M 1 j = Mm 1 j) → CX7_tellsOf 195 0 M = some (nI (flM cl).length, M) ∧ (200 : Int32) + (140 : Int32) * M 1 6 = nI base ∧ ∀ t x, (flM cl)[t]? = some x → M 1 (base + t) = x := by
    cases ns with
    | zero =>
      rw [show nI 0 - 1 = (-1 : Int32) by decide] at s13
      refine ⟨[], 3, 60, by decide, hZ.1, hZ.2.2.2, by decide, fun j q h => by simp at h, fun t o h => by simp [flC] at h, by decide, fun q h => by simp at h, fun M hM => ?_, fun M hM => ⟨?_, ?_, fun t x h => by simp [flM] at h⟩⟩
      · rw [CX7_tellsOf, it ci6, cc6, hM 6 (by decide) (by decide), s13, it rfl]; rfl
      · rw [CX7_tellsOf, it ci6, cc6, hM 6 (by decide) (by decide), s13, it rfl]; rfl
      · rw [hM 6 (by decide) (by decide), s13]; decide
    | succ n =>
      obtain ⟨cl, spd, bt, stp, h1, h2, h3, h4, h5, h6, h7, h8, h9, h10, h11, h12, h13, h14, h15, h16, h17, h18⟩ := hF.2.2.2.2.2.2.2.2.2.2 n (by omega)
      rw [nI_pred] at s13
      have e : 20 + 6 * (n + 1) = 26 + 6 * n := by omega
      rw [e]
      refine ⟨cl, spd, 200 + 140 * n, by omega, h5, h11, h1, h12, h13, h16, h18, fun M hM => ?_, fun M hM => ⟨?_, ?_, fun t x h => ?_⟩⟩
      · rw [CX7_tellsOf, it ci6, cc6, hM 6 (by decide) (by decide), s13, ie (nIn n (by omega)), la180, it (gin (by omega) (by decide)), nI_clamp (by omega), hM _ (by omega) (by omega), h6]
      · rw [CX7_tellsOf, it ci6, cc6, hM 6 (by decide) (by decide), s13, ie (nIn n (by omega)), la195, it (gin (by omega) (by decide)), nI_clamp (by omega), hM _ (by omega) (by omega), h14]
      · rw [hM 6 (by decide) (by decide), s13, b140 n (by omega)]
      · rw [hM _ (by omega) (by omega)]; exact h15 t x h
  refine ⟨nI spd, fun w p k => evw (ltr p (fN Mc p / 8) (fN Mc p % 8) k (vN Mc p)) w cl 0, ⟨hnp, s1, fun p hp => ⟨(hf p hp).1, (hf p hp).2.1⟩, fun p hp => (hv p hp).2.1, isSh_ok hns, by omega, g0, ?_⟩, ?_⟩
  · intro M hA hS w p k hw hp hk h59
    obtain ⟨f1, f2, f3⟩ := hf p hp
    obtain ⟨v1, v2, v3⟩ := hv p hp
    refine ⟨fx_st (fx_st (fx_st (fx_st (fx_st M 63 0 (nI p)) 63 1 (nI (fN Mc p / 8))) 63 2 (nI (fN Mc p % 8))) 63 3 (nI k)) 63 4 (nI (vN Mc p)), ?_, fun j hj => by rw [mm_row hj, mm_row hj, mm_row hj, mm_row hj, mm_row hj]⟩
    have e4 : M 4 p = nI (fN Mc p) := by rw [hA 4 (by decide)]; exact f2
    have e3 : M 3 p = nI (vN Mc p) := by rw [hA 3 (by decide)]; exact v2
    have LCM : LC (fx_st (fx_st (fx_st (fx_st (fx_st M 63 0 (nI p)) 63 1 (nI (fN Mc p / 8))) 63 2 (nI (fN Mc p % 8))) 63 3 (nI k)) 63 4 (nI (vN Mc p))) (ltr p (fN Mc p / 8) (fN Mc p % 8) k (vN Mc p)) := by
      refine c5 ⟨?_, ?_⟩ ⟨?_, ?_⟩ ⟨?_, ?_⟩ ⟨?_, ?_⟩ ⟨?_, ?_⟩
      · show p < 100; omega
      · rw [mm_col (by decide), mm_col (by decide), mm_col (by decide), mm_col (by decide), mm_same]; rfl
      · show fN Mc p / 8 < 100; omega
      · rw [mm_col (by decide), mm_col (by decide), mm_col (by decide), mm_same]; rfl
      · show fN Mc p % 8 < 100; omega
      · rw [mm_col (by decide), mm_col (by decide), mm_same]; rfl
      · show k < 100; omega
      · rw [mm_col (by decide), mm_same]; rfl
      · show vN Mc p < 100; omega
      · rw [mm_same]; rfl
    have ro : ∀ j, j < 58 → (fx_st (fx_st (fx_st (fx_st (fx_st M 63 0 (nI p)) 63 1 (nI (fN Mc p / 8))) 63 2 (nI (fN Mc p % 8))) 63 3 (nI k)) 63 4 (nI (vN Mc p))) j = Mc j := fun j hj => by rw [mm_row (by omega), mm_row (by omega), mm_row (by omega), mm_row (by omega), mm_row (by omega)]; exact hA j hj
    have E := so6_L (k := fun y3 y4 M => some (y3, M)) (isSh_ok hns) LCM hw (by rw [ro _ (by omega)]; exact g3) glen (fun j q h => by rw [ro _ (by omega), ro _ (by omega), ro _ (by omega), ro _ (by omega)]; exact gcl j q h) (fun t o h => by rw [ro _ (by omega)]; exact gcd t o h) gf gok cl [] 1000 0 (by omega) rfl
    exact sumE (by omega) f1 (by omega) (isSh_ok hns) e4 e3 h59 hS E
  · intro B K dr ab hB1 hBK hB5 hdr hB13
    have hsub : ∀ M, MSc B M → ∀ j, j ≠ 5 → (j < 130 ∨ 140 ≤ j) → M 1 j = Mm 1 j := fun M hM j z1 z2 => by rw [hM.1 1 (by decide) (by decide) (by decide)]; exact hB1 j z1 z2
    refine ⟨hnp, by rw [hB1 0 (by decide) (by decide)]; exact s2, fun p hp => ⟨(hf p hp).1, by rw [hB1 _ (by omega) (by omega)]; exact (hf p hp).2.2⟩, fun p hp => by rw [hB1 _ (by omega) (by omega)]; exact (hv p hp).2.2, hBK, hB5, hdr, hB13, fun M hM => by rw [CX7_speed, gsp M (hsub M hM)]; rfl, ?_⟩
    intro M hM p k hp hk
    obtain ⟨f1, f2, f3⟩ := hf p hp
    obtain ⟨v1, v2, v3⟩ := hv p hp
    have hM1 := hsub M hM
    have e150 : M 1 (150 + p) = nI (fN Mc p) := by rw [hM1 _ (by omega) (by omega)]; exact f3
    have e140 : M 1 (140 + p) = nI (vN Mc p) := by rw [hM1 _ (by omega) (by omega)]; exact v3
    have r1 : (fx_st (fx_st (fx_st (fx_st (fx_st (fx_st (fx_st M 3 0 (nI p)) 3 1 (nI (fN Mc p / 8))) 3 2 (nI (fN Mc p % 8))) 3 3 (nI k)) 3 4 (nI (vN Mc p))) 0 11 1) 0 12 0) 1 = M 1 := by rw [mm_row (by decide), mm_row (by decide), mm_row (by decide), mm_row (by decide), mm_row (by decide), mm_row (by decide), mm_row (by decide)]
    obtain ⟨t1, t2, t3⟩ := gln (fx_st (fx_st (fx_st (fx_st (fx_st (fx_st (fx_st M 3 0 (nI p)) 3 1 (nI (fN Mc p / 8))) 3 2 (nI (fN Mc p % 8))) 3 3 (nI k)) 3 4 (nI (vN Mc p))) 0 11 1) 0 12 0) (fun j z1 z2 => by rw [r1]; exact hM1 j z1 z2)
    have hL : LM (fx_st (fx_st (fx_st (fx_st (fx_st (fx_st (fx_st M 3 0 (nI p)) 3 1 (nI (fN Mc p / 8))) 3 2 (nI (fN Mc p % 8))) 3 3 (nI k)) 3 4 (nI (vN Mc p))) 0 11 1) 0 12 0) (ltr p (fN Mc p / 8) (fN Mc p % 8) k (vN Mc p)) := by
      unfold LM
      rw [mm_row (show 3 ≠ 0 by decide), mm_row (show 3 ≠ 0 by decide)]
      refine c5 ⟨?_, ?_⟩ ⟨?_, ?_⟩ ⟨?_, ?_⟩ ⟨?_, ?_⟩ ⟨?_, ?_⟩
      · show p < 100; omega
      · rw [mm_col (by decide), mm_col (by decide), mm_col (by decide), mm_col (by decide), mm_same]; rfl
      · show fN Mc p / 8 < 100; omega
      · rw [mm_col (by decide), mm_col (by decide), mm_col (by decide), mm_same]; rfl
      · show fN Mc p % 8 < 100; omega
      · rw [mm_col (by decide), mm_col (by decide), mm_same]; rfl
      · show k < 100; omega
      · rw [mm_col (by decide), mm_same]; rfl
      · show vN Mc p < 100; omega
      · rw [mm_same]; rfl
    have hlen140 : (flM cl).length ≤ 900 := by omega
    obtain ⟨M2, e1, e2, e3, e4, e5⟩ := lkA (a := ltr p (fN Mc p / 8) (fN Mc p % 8) k (vN Mc p)) (x1 := nI p) (x2 := nI k) (len := (flM cl).length) (base := base) hbase (k := fun y5 y6 M => some M) cl (1000 - (flM cl).length) base _ hL (Nat.le_refl _) t3 gok
    rw [show 1000 - (flM cl).length + (flM cl).length = 1000 by omega] at e1
    have e0 : CX7_looks (nI p) (nI k) M = some M2 := by
      refine lookE (by omega) f1 e150 e140 t1 t2 ?_
      refine e1.trans ?_
      obtain ⟨m, hm⟩ : ∃ m, 1000 - (flM cl).length = m + 1 := ⟨999 - (flM cl).length, by omega⟩
      rw [hm, CX7_looks_L111, nI_add, it (Int32.le_refl _)]
    refine ⟨M2, e0, ⟨fun j z1 z2 z3 => by rw [e4 j z1 z3, mm_row z1, mm_row z1, mm_row z2, mm_row z2, mm_row z2, mm_row z2, mm_row z2], fun j z1 z2 z3 => by rw [e5 j z1 z2, mm_col z2, mm_col z1, mm_row (by decide), mm_row (by decide), mm_row (by decide), mm_row (by decide), mm_row (by decide)]⟩, by rw [e5 14 (by decide) (by decide), mm_col (by decide), mm_col (by decide), mm_row (by decide), mm_row (by decide), mm_row (by decide), mm_row (by decide), mm_row (by decide)], ?_, ?_⟩
    · rw [e2, mm_col (by decide), mm_same]
      exact evw_add cl 1 0
    · rw [e3, mm_same]
