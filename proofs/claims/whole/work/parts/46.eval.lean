/-! shows, evaluated -/
/-- the class's letters -/
def LC (M : fxMem) (a : Nat → Nat) : Prop := ∀ l, l < 5 → a l < 100 ∧ M 63 l = nI (a l)
theorem ps6 {M : fxMem} {a : Nat → Nat} {o : Nat} (hL : LC M a) (ho : o < 1500) : CX3_passes (nI o) M = some (nI (bI (tst a o)), M) := by
  obtain ⟨e1, e2, e3⟩ := pa1 o ho
  obtain ⟨a1, a2⟩ := hL (o / 300) (by omega)
  rw [CX3_passes, e3, e2, e1, ie (nI_pos (by omega)), ie (show ¬ (5 : Int32) ≤ nI (o / 300) from nI_ge (b := 5) (by omega) (by decide)), it (gin (by omega) (by decide)), nI_clamp (by omega), a2, CX3_passes_J40]
  unfold tst
  have b0 : (nI (o / 100 % 3) = (0 : Int32)) ↔ o / 100 % 3 = 0 := kk (k := 0) (by omega) (by decide)
  have b1 : (nI (o / 100 % 3) = (1 : Int32)) ↔ o / 100 % 3 = 1 := kk (k := 1) (by omega) (by decide)
  by_cases h0 : o / 100 % 3 = 0
  · rw [it (b0.mpr h0), it h0]
    by_cases z : a (o / 300) < o % 100
    · rw [ie (nI_ge z (by omega)), decide_eq_true z]; rfl
    · rw [it (nI_le (by omega) (by omega)), decide_eq_false z]; rfl
  rw [ie (fun z => h0 (b0.mp z)), ie h0]
  by_cases h1 : o / 100 % 3 = 1
  · rw [it (b1.mpr h1), it h1]
    by_cases z : a (o / 300) = o % 100
    · rw [it (by rw [z]), decide_eq_true z]; rfl
    · rw [ie (fun z2 => z ((kk (by omega) (by omega)).mp z2)), decide_eq_false z]; rfl
  · rw [ie (fun z => h1 (b1.mp z)), ie h1]
    by_cases z : o % 100 < a (o / 300)
    · rw [ie (nI_ge z (by omega)), decide_eq_true z]; rfl
    · rw [it (nI_le (by omega) (by omega)), decide_eq_false z]; rfl
theorem dpt_run1 {a : Nat → Nat} {o : Nat} {r : List Nat} {st : List Bool} {d : Nat} (ho : o < 1503) (h : dpt (o :: r) st.length = some d) : dpt r (run1 a o st).length = some d ∧ (o < 1500 → st.length < 13) ∧ (o = 1500 → ∃ b s, st = b :: s) ∧ (1501 ≤ o → ∃ b1 b2 s, st = b1 :: b2 :: s) := by
  rw [dpt] at h
  unfold run1
  by_cases h0 : o < 1500
  · rw [it h0] at h ⊢
    by_cases h1 : st.length < 13
    · rw [it h1] at h
      exact ⟨h, fun _ => h1, fun z => by omega, fun z => by omega⟩
    · rw [ie h1] at h; exact absurd h (by simp)
  rw [ie h0] at h ⊢
  by_cases h2 : o = 1500
  · rw [it h2] at h ⊢
    cases st with
    | nil => exact absurd h (by simp)
    | cons b s =>
      rw [it (by simp)] at h
      exact ⟨h, fun z => by omega, fun _ => ⟨b, s, rfl⟩, fun z => by omega⟩
  rw [ie h2] at h ⊢
  match st with
  | [] => exact absurd h (by simp)
  | [b] => exact absurd h (by simp)
  | b1 :: b2 :: s =>
    rw [it (by simp)] at h
    exact ⟨h, fun z => by omega, fun z => by omega, fun _ => ⟨b1, b2, s, rfl⟩⟩
theorem dpt_le : ∀ {r : List Nat} {n d : Nat}, dpt r n = some d → n ≤ 13 → ∀ o ∈ r, True := fun _ _ _ _ => trivial
theorem opC_c {o : Nat} (ho : o < 1503) : (o < 1500 ∧ opC o = nI o) ∨ (o = 1500 ∧ opC o = -1) ∨ (o = 1501 ∧ opC o = -2) ∨ (o = 1502 ∧ opC o = -3) := by
  unfold opC
  by_cases h : o < 1500
  · exact Or.inl ⟨h, it h _ _⟩
  · rw [ie h]
    rcases (show o = 1500 ∨ o = 1501 ∨ o = 1502 by omega) with rfl | rfl | rfl
    · exact Or.inr (Or.inl ⟨rfl, rfl⟩)
    · exact Or.inr (Or.inr (Or.inl ⟨rfl, rfl⟩))
    · exact Or.inr (Or.inr (Or.inr ⟨rfl, rfl⟩))
theorem nIm (o : Nat) (h : o < 2 ^ 31) : ¬ nI o = (-2 : Int32) ∧ ¬ nI o = (-3 : Int32) := by
  constructor
  · intro z
    have h1 := congrArg Int32.toInt z
    rw [nI_toInt h] at h1
    have h2 : ((-2 : Int32)).toInt = -2 := by decide
    omega
  · intro z
    have h1 := congrArg Int32.toInt z
    rw [nI_toInt h] at h1
    have h2 : ((-3 : Int32)).toInt = -3 := by decide
    omega
theorem hl6_L {M : fxMem} {a : Nat → Nat} {S : Nat} {x1 : Int32} (hS : fx_isSh S = true) (hL : LC M a) {k : Int32 → Int32 → fxMem → Option (Int32 × fxMem)} : ∀ (ops : List Nat) (n i b : Nat) (st : List Bool) (d : Nat), ops.length < n → i + ops.length = b → b ≤ 120 → (∀ t o, ops[t]? = some o → M (S + 5) (i + t) = opC o) → (∀ o ∈ ops, o < 1503) → dpt ops st.length = some d → st.length ≤ 13 → CX3_holds_L6 S x1 (nI b) n (nI (enc st)) (nI i) M k = k (nI (enc (run a ops st))) (nI b) M
  | [], 0, i, b, st, d, h, _, _, _, _, _, _ => absurd h (Nat.not_lt_zero _)
  | [], n + 1, i, b, st, d, h, hb, _, _, _, _, _ => by
    rw [CX3_holds_L6, show i = b from hb, it (Int32.le_refl _)]
    rfl
  | o :: r, 0, i, b, st, d, h, _, _, _, _, _, _ => absurd h (Nat.not_lt_zero _)
  | o :: r, n + 1, i, b, st, d, h, hb, hb2, hc, ho, hd, hst => by
    rw [List.length_cons] at h hb
    have ho1 := ho o List.mem_cons_self
    have e0 := hc 0 o rfl
    obtain ⟨q1, q2, q3, q4⟩ := dpt_run1 (a := a) ho1 hd
    have he : enc st < 8192 := Nat.lt_of_lt_of_le (enc_lt st) (Nat.pow_le_pow_right (by decide) hst)
    have hl : (run1 a o st).length ≤ 13 := by
      unfold run1
      by_cases h0 : o < 1500
      · rw [it h0]; have := q2 h0; simp; omega
      · rw [ie h0]
        by_cases h1 : o = 1500
        · rw [it h1]; obtain ⟨b, s, rfl⟩ := q3 h1; exact hst
        · rw [ie h1]
          obtain ⟨b1, b2, s, rfl⟩ := q4 (by omega)
          simp at hst ⊢
          omega
    have IH := hl6_L (x1 := x1) (k := k) hS hL r n (i + 1) b (run1 a o st) d (by omega) (by omega) hb2 (fun t o' ht => by
      have := hc (t + 1) o' ht
      rw [show i + 1 + t = i + (t + 1) by omega]; exact this) (fun o' h' => ho o' (List.mem_cons_of_mem _ h')) q1 hl
    rw [run, ← IH, CX3_holds_L6, ie (nI_ge (by omega) (by omega)), it hS, it (gin (by omega) (by decide)), nI_clamp (by omega), show M (S + 5) i = opC o from e0, n1 i]
    rcases opC_c ho1 with ⟨c1, c2⟩ | ⟨c1, c2⟩ | ⟨c1, c2⟩ | ⟨c1, c2⟩
    · have m := nIm o (by omega)
      rw [c2, ie m.2, ie m.1, ie (nIn o (by omega)), ps6 hL c1, bs]
      dsimp only
      unfold run1
      rw [it c1, enc]
      cases tst a o
      · rw [show nI (bI false) = (0 : Int32) from rfl, it rfl, (eb_push _ he).1]; rfl
      · rw [show nI (bI true) = (1 : Int32) from rfl, ie (by decide), (eb_push _ he).2]; rfl
    · obtain ⟨b1, s, rfl⟩ := q3 c1
      rw [c2, ie (by decide), ie (by decide), it rfl, eb_not _ he]
      unfold run1
      rw [ie (by omega), it c1]
      congr 2
      cases b1 <;> simp only [enc, bI] <;> simp <;> omega
    · obtain ⟨b1, b2, s, rfl⟩ := q4 (by omega)
      rw [c2, ie (by decide), it rfl, eb_and _ he]
      unfold run1
      rw [ie (by omega), ie (by omega)]
      congr 2
      cases b1 <;> cases b2 <;> simp only [enc, bI, c1] <;> simp <;> omega
    · obtain ⟨b1, b2, s, rfl⟩ := q4 (by omega)
      rw [c2, it rfl, eb_or _ he]
      unfold run1
      rw [ie (by omega), ie (by omega)]
      congr 2
      cases b1 <;> cases b2 <;> simp only [enc, bI, c1] <;> simp <;> omega
theorem run_len {a : Nat → Nat} : ∀ (ops : List Nat) (st : List Bool) (d : Nat), (∀ o ∈ ops, o < 1503) → dpt ops st.length = some d → (run a ops st).length = d
  | [], st, d, _, h => Option.some.inj h
  | o :: r, st, d, ho, h => run_len r (run1 a o st) d (fun o' h' => ho o' (List.mem_cons_of_mem _ h')) (dpt_run1 (ho o List.mem_cons_self) h).1
def hd (st : List Bool) : Bool := match st with
  | [] => false
  | b :: _ => b
theorem hd_enc (st : List Bool) : (enc st % 2 = 1) ↔ hd st = true := by
  cases st with
  | nil => simp [enc, hd]
  | cons b r =>
    cases b
    · simp [enc, hd, bI]
    · exact ⟨fun _ => rfl, fun _ => by simp only [enc, bI, if_true]; omega⟩
theorem hl6 {M : fxMem} {a : Nat → Nat} {S i : Nat} {ops : List Nat} (hS : fx_isSh S = true) (hL : LC M a) (hb2 : i + ops.length ≤ 120) (hc : ∀ t o, ops[t]? = some o → M (S + 5) (i + t) = opC o) (ho : ∀ o ∈ ops, o < 1503) (hd1 : dpt ops 0 = some 1) : CX3_holds S (nI i) (nI (i + ops.length)) M = some (nI (bI (hd (run a ops []))), M) := by
  rw [CX3_holds]
  refine (hl6_L hS hL ops 1000 i (i + ops.length) [] 1 (by omega) rfl hb2 hc ho hd1 (by decide)).trans ?_
  have hl := run_len (a := a) ops [] 1 ho hd1
  have he : enc (run a ops []) < 8192 := Nat.lt_of_lt_of_le (enc_lt _) (Nat.pow_le_pow_right (by decide) (by omega : (run a ops []).length ≤ 13))
  have h1 := eb_top _ he
  rw [hd_enc] at h1
  cases hh : hd (run a ops []) with
  | true => rw [it (h1.mpr hh)]; rfl
  | false => rw [ie (fun z => by rw [h1.mp z] at hh; exact absurd hh (by decide))]; rfl
def evw (a : Nat → Nat) (w : Nat) : List Cls → Int32 → Int32
  | [], x => x
  | q :: r, x => evw a w r (if q.1 = w ∧ hd (run a q.2.2 []) = true then x + nI q.2.1 else x)
theorem evw_add {a : Nat → Nat} {w : Nat} : ∀ (cl : List Cls) (x y : Int32), evw a w cl (x + y) = x + evw a w cl y
  | [], x, y => rfl
  | q :: r, x, y => by
    rw [evw, evw]
    by_cases h : q.1 = w ∧ hd (run a q.2.2 []) = true
    · rw [it h, it h, ad3, evw_add r]
    · rw [ie h, ie h, evw_add r]
theorem flC_app (x y : List Cls) : flC (x ++ y) = flC x ++ flC y := by simp [flC]
theorem flM_app (x y : List Cls) : flM (x ++ y) = flM x ++ flM y := by simp [flM]
theorem so6_L {M : fxMem} {a : Nat → Nat} {S w : Nat} {cl : List Cls} (hS : fx_isSh S = true) (hL : LC M a) (hw : w < 2) (h3 : M S 3 = nI cl.length) (hlen : cl.length ≤ 10) (hcl : ∀ j q, cl[j]? = some q → M (S + 1) j = nI q.1 ∧ M (S + 2) j = nI q.2.1 ∧ M (S + 3) j = nI (flC (cl.take j)).length ∧ M (S + 4) j = nI (flC (cl.take (j + 1))).length) (hcd : ∀ t o, (flC cl)[t]? = some o → M (S + 5) t = opC o) (hf : (flC cl).length ≤ 120) (hok : ∀ q ∈ cl, okQ q) {k : Int32 → Int32 → fxMem → Option (Int32 × fxMem)} : ∀ (post pre : List Cls) (n : Nat) (x : Int32), post.length < n → cl = pre ++ post → CX3_sumOf_L5 S (nI w) n x (nI pre.length) M k = k (evw a w post x) (nI cl.length) M
  | [], pre, 0, x, h, _ => absurd h (Nat.not_lt_zero _)
  | [], pre, n + 1, x, h, e => by
    rw [List.append_nil] at e
    rw [CX3_sumOf_L5, it hS, h3, e, it (Int32.le_refl _)]
    rfl
  | q :: post, pre, 0, x, h, _ => absurd h (Nat.not_lt_zero _)
  | q :: post, pre, n + 1, x, h, e => by
    have hj : cl[pre.length]? = some q := by rw [e]; simp
    have hl : cl.length = pre.length + (post.length + 1) := by rw [e]; simp
    have t0 : cl.take pre.length = pre := by rw [e]; simp
    have t1 : cl.take (pre.length + 1) = pre ++ [q] := by
      rw [e, show pre.length + 1 = (pre ++ [q]).length by simp, show pre ++ q :: post = (pre ++ [q]) ++ post by simp]
      exact List.take_left
    obtain ⟨c1, c2, c3, c4⟩ := hcl _ _ hj
    rw [t0] at c3
    rw [t1] at c4
    have ef : flC cl = flC pre ++ (q.2.2 ++ flC post) := by rw [e, flC_app]; rfl
    have e4 : flC (pre ++ [q]) = flC pre ++ q.2.2 := by rw [flC_app]; simp [flC]
    rw [e4, List.length_append] at c4
    have hq := hok q (by rw [e]; simp)
    have IH := so6_L (k := k) hS hL hw h3 hlen hcl hcd hf hok post (pre ++ [q]) n
    rw [CX3_sumOf_L5, it hS, h3, ie (nI_ge (by omega) (by omega)), it (gin (by omega) (by decide)), nI_clamp (by omega), c1, n1 pre.length, evw]
    rw [List.length_append, List.length_singleton] at IH
    by_cases z : q.1 = w
    · rw [it (by rw [z]), c3, c4]
      have hlf : (flC pre).length + q.2.2.length ≤ 120 := by
        rw [ef, List.length_append, List.length_append] at hf
        omega
      rw [hl6 hS hL hlf (fun t o ht => by
        refine hcd _ _ ?_
        rw [ef, List.getElem?_append_right (by omega), show (flC pre).length + t - (flC pre).length = t by omega]
        have ht' : t < q.2.2.length := by
          rcases Nat.lt_or_ge t q.2.2.length with z | z
          · exact z
          · rw [List.getElem?_eq_none z] at ht; exact absurd ht (by simp)
        rw [List.getElem?_append_left ht']
        exact ht) hq.2.2.2.2 (hq.2.2.1 (by omega)), bs]
      dsimp only
      rw [IH _ (by simp at h; omega) (by rw [e]; simp)]
      congr 1
      congr 1
      cases hh : hd (run a q.2.2 []) with
      | true => rw [ie (by decide), it ⟨z, rfl⟩, c2]
      | false => rw [it (by decide), ie (fun z => absurd z.2 (by decide))]
    · rw [ie (fun z2 => z ((kk (by have := hq.1; omega) (by omega)).mp z2)), IH _ (by simp at h; omega) (by rw [e]; simp), ie (fun z2 => z z2.1)]
