/-! words -/
def mt (T : Nat → Nat) (nb : Nat) : List Nat → Nat → Nat
  | [], _ => 0
  | c :: r, a => if cur T nb a = c then mt T nb r (a + 1) + 1 else 0
theorem mt_le {T : Nat → Nat} {nb : Nat} : ∀ (L : List Nat) (a : Nat), mt T nb L a ≤ L.length
  | [], _ => Nat.le_refl _
  | c :: r, a => by
    rw [mt, List.length_cons]
    have := mt_le (T := T) (nb := nb) r (a + 1)
    split <;> omega
theorem mt_nb {T : Nat → Nat} {nb : Nat} : ∀ (L : List Nat) (a : Nat), (∀ c ∈ L, c < 900) → a ≤ nb → a + mt T nb L a ≤ nb
  | [], a, _, h => h
  | c :: r, a, hc, h => by
    rw [mt]
    by_cases z : cur T nb a = c
    · have hc0 := hc c List.mem_cons_self
      have := cur_lt (T := T) (nb := nb) (a := a) (by omega)
      have := mt_nb (T := T) (nb := nb) r (a + 1) (fun c' h' => hc c' (List.mem_cons_of_mem _ h')) (by omega)
      rw [it z]; omega
    · rw [ie z]; exact h
theorem ssg_L {M : fxMem} {S a nb x : Nat} {T : Nat → Nat} (h : CR M S a nb T) (hx : fx_isS x = true) : ∀ (r : List Nat) (n i : Nat), (∀ j c, r[j]? = some c → kx_c x (nI (i + j)) = nI c ∧ c < 128) → (kx_b (x - 1000)).length = i + r.length → i + r.length < 100 → r.length < n → CX2_sameSigns_L2 x n (nI i) M (fun y M => some (y, M)) = some (nI (i + mt T nb r (a + i)), M)
  | r, 0, i, _, _, _, hn => absurd hn (Nat.not_lt_zero _)
  | [], n + 1, i, hc, hl, h1, hn => by
    have hl' : (kx_b (x - 1000)).length = i := hl
    rw [CX2_sameSigns_L2, it hx, kx_l, hl', it (Int32.le_refl _)]
    rfl
  | c :: r, n + 1, i, hc, hl, h1, hn => by
    obtain ⟨a1, a2, a3, a4, a5, a6⟩ := id h
    rw [List.length_cons] at hl h1 hn
    obtain ⟨c1, c2⟩ := hc 0 c rfl
    rw [Nat.add_zero] at c1
    rw [CX2_sameSigns_L2, it hx, kx_l, hl, ie (nI_ge (by omega) (by omega)), a2, a3, nI_add, mt]
    by_cases z : a + i < nb
    · obtain ⟨t1, t2, t3⟩ := a6 (a + i) z
      have hcur : cur T nb (a + i) = T (a + i) := it z _ _
      rw [ie (nI_ge z (by omega)), it (gin (by omega) (by decide)), it (gin (by omega) (by omega)), nI_clamp (by omega), c1, hcur]
      by_cases z2 : T (a + i) = c
      · rw [it ((t3 c c2).mpr z2), it z2, n1 i, ssg_L h hx r n (i + 1) (fun j c' hj => by
          have := hc (j + 1) c' hj
          rw [show i + 1 + j = i + (j + 1) by omega]; exact this) (by omega) (by omega) (by omega), show a + (i + 1) = a + i + 1 by omega, show i + 1 + mt T nb r (a + i + 1) = i + (mt T nb r (a + i + 1) + 1) by omega]
      · rw [ie (fun q => z2 ((t3 c c2).mp q)), ie z2]
        rfl
    · have hcur : cur T nb (a + i) = 999 := ie z _ _
      rw [it (nI_le (by omega) (by omega)), hcur, ie (by omega)]
      rfl
def wL : Nat → List Nat
  | 0 => [108, 111, 117, 100]
  | 1 => [108, 97, 116, 101]
  | 2 => [115, 112, 101, 101, 100]
  | 3 => [98, 101, 97, 116]
  | _ => [115, 116, 101, 112]
theorem chk {x : Nat} {L : List Nat} (h : ∀ j, j < L.length → kx_c x (nI (0 + j)) = nI (L.getD j 0) ∧ L.getD j 0 < 128) : ∀ j c, L[j]? = some c → kx_c x (nI (0 + j)) = nI c ∧ c < 128 := fun j c hj => by
  have hl : j < L.length := by
    rcases Nat.lt_or_ge j L.length with z | z
    · exact z
    · rw [List.getElem?_eq_none z] at hj; exact absurd hj (by simp)
  have e : L.getD j 0 = c := by rw [List.getD_eq_getElem?_getD, hj]; rfl
  rw [← e]
  exact h j hl
theorem ssg {M : fxMem} {S a nb x : Nat} {T : Nat → Nat} {L : List Nat} (h : CR M S a nb T) (hx : fx_isS x = true) (hL : (kx_b (x - 1000)).length = L.length) (hl : L.length < 50) (hc : ∀ j, j < L.length → kx_c x (nI (0 + j)) = nI (L.getD j 0) ∧ L.getD j 0 < 128) : CX2_sameSigns x M = some (nI (mt T nb L a), M) := by
  rw [CX2_sameSigns]
  have := ssg_L h hx L 1000 0 (chk hc) (by omega) (by omega) (by omega)
  rw [Nat.zero_add, Nat.add_zero] at this
  exact this
theorem wck : ∀ w, w < 5 → fx_isS (1001 + w) = true ∧ (kx_b (1001 + w - 1000)).length = (wL w).length ∧ (wL w).length < 6 ∧ ∀ j, j < (wL w).length → kx_c (1001 + w) (nI (0 + j)) = nI ((wL w).getD j 0) ∧ (wL w).getD j 0 < 128 := by decide +kernel
theorem txt : ∀ w, w < 5 → ∀ M, CX2_textOf (nI w) M = some (1001 + w, M) := c5 (fun _ => rfl) (fun _ => rfl) (fun _ => rfl) (fun _ => rfl) (fun _ => rfl)
/-- the longest start of the words 0 .. i-1 -/
def lgs (T : Nat → Nat) (nb a : Nat) : Nat → Nat
  | 0 => 0
  | i + 1 => max (lgs T nb a i) (mt T nb (wL i) a)
theorem lgs_lt {T : Nat → Nat} {nb a : Nat} : ∀ i, i ≤ 5 → lgs T nb a i < 6
  | 0, _ => show 0 < 6 by decide
  | i + 1, h => by
    rw [lgs]
    have h1 := lgs_lt (T := T) (nb := nb) (a := a) i (by omega)
    have h2 := (wck i (by omega)).2.2.1
    have h3 := mt_le (T := T) (nb := nb) (wL i) a
    omega
theorem rdw_L {M : fxMem} {S a nb : Nat} {T : Nat → Nat} (h : CR M S a nb T) : ∀ (n i : Nat), 5 - i < n → i ≤ 5 → (∃ w, i ≤ w ∧ w < 5 ∧ (∀ v, i ≤ v → v < w → mt T nb (wL v) a ≠ (wL v).length) ∧ mt T nb (wL w) a = (wL w).length ∧ CX2_readWord_L4 n (nI (lgs T nb a i)) (nI i) M (fun y1 _ M4 => some ((-1 : Int32), fx_st M4 16 2 ((M4 16 2) + y1))) = some (nI w, at6 M (a + (wL w).length))) ∨ ((∀ v, i ≤ v → v < 5 → mt T nb (wL v) a ≠ (wL v).length) ∧ CX2_readWord_L4 n (nI (lgs T nb a i)) (nI i) M (fun y1 _ M4 => some ((-1 : Int32), fx_st M4 16 2 ((M4 16 2) + y1))) = some (-1, at6 M (a + lgs T nb a 5)))
  | 0, i, hn, _ => absurd hn (Nat.not_lt_zero _)
  | n + 1, i, hn, hi => by
    rw [CX2_readWord_L4, show (5 : Int32) = nI 5 from rfl]
    by_cases z : i = 5
    · subst z
      refine Or.inr ⟨fun v h1 h2 => by omega, ?_⟩
      rw [it (Int32.le_refl _), h.2.1, nI_add]
      rfl
    · obtain ⟨k1, k2, k3, k4⟩ := wck i (by omega)
      have hm := mt_le (T := T) (nb := nb) (wL i) a
      have hg := lgs_lt (T := T) (nb := nb) (a := a) i (by omega)
      rw [ie (nI_ge (by omega) (by decide)), txt i (by omega), bs]
      dsimp only
      rw [ssg h k1 k2 (by omega) k4, bs, it k1, kx_l, k2]
      dsimp only
      by_cases z2 : mt T nb (wL i) a = (wL i).length
      · refine Or.inl ⟨i, Nat.le_refl _, by omega, fun v h1 h2 => by omega, z2, ?_⟩
        rw [z2, it rfl, h.2.1, nI_add]
        rfl
      · rw [ie (fun q => z2 ((nI_eq (by omega) (by omega)).mp q)), mx_lt (by omega) (by omega), n1 i]
        rcases rdw_L h n (i + 1) (by omega) (by omega) with ⟨w, w1, w2, w3, w4, w5⟩ | ⟨w1, w2⟩
        · exact Or.inl ⟨w, by omega, w2, fun v h1 h2 => by
            by_cases e : v = i
            · subst e; exact z2
            · exact w3 v (by omega) h2, w4, w5⟩
        · exact Or.inr ⟨fun v h1 h2 => by
            by_cases e : v = i
            · subst e; exact z2
            · exact w1 v (by omega) h2, w2⟩
/-- the reference's word -/
theorem spl_L {a nb x : Nat} {T : Nat → Nat} (hx : fx_isS x = true) : ∀ (r : List Nat) (n i b : Nat) (M : fxMem), MR M b nb T → (∀ j c, r[j]? = some c → kx_c x (nI (i + j)) = nI c ∧ c < 128) → (kx_b (x - 1000)).length = i + r.length → i + r.length < 20 → r.length < n → ∃ M', CX7_spells_L2 x n (nI i) M (fun _ M => some M) = some M' ∧ ((mt T nb r b = r.length ∧ M' = at7 M (b + r.length)) ∨ (mt T nb r b < r.length ∧ FM (fl (at7 M (b + mt T nb r b))) M'))
  | r, 0, i, b, M, _, _, _, _, hn => absurd hn (Nat.not_lt_zero _)
  | [], n + 1, i, b, M, h, hc, hl, h1, hn => by
    have hl' : (kx_b (x - 1000)).length = i := hl
    rw [CX7_spells_L2, it hx, kx_l, hl', it (Int32.le_refl _)]
    refine ⟨M, rfl, Or.inl ⟨rfl, ?_⟩⟩
    funext k j
    unfold at7
    by_cases hk : k = 0
    · subst hk
      by_cases hj : j = 5
      · subst hj; rw [mm_same]; exact h.1
      · rw [mm_col hj]
    · rw [mm_row hk]
  | c :: r, n + 1, i, b, M, h, hc, hl, h1, hn => by
    rw [List.length_cons] at hl h1 hn
    obtain ⟨c1, c2⟩ := hc 0 c rfl
    rw [Nat.add_zero] at c1
    rw [CX7_spells_L2, it hx, kx_l, hl, ie (nI_ge (by omega) (by omega)), it (gin (by omega) (by omega)), c1, ms7 h (by omega), bs, n1 i, mt]
    have hcs : ∀ j c', r[j]? = some c' → kx_c x (nI (i + 1 + j)) = nI c' ∧ c' < 128 := fun j c' hj => by
      have := hc (j + 1) c' hj
      rw [show i + 1 + j = i + (j + 1) by omega]; exact this
    by_cases z : cur T nb b = c
    · have hb := cur_lt (T := T) (nb := nb) (a := b) (by omega)
      rw [it z, it z, f70 h.2.2.1]
      obtain ⟨M', e1, e2⟩ := spl_L (a := a) hx r n (i + 1) (b + 1) (at7 M (b + 1)) (h.go (by omega)) hcs (by omega) (by omega) (by omega)
      refine ⟨M', e1, ?_⟩
      rw [at7_2, at7_2, List.length_cons] at *
      rcases e2 with ⟨e2, e3⟩ | ⟨e2, e3⟩
      · exact Or.inl ⟨by omega, by rw [e3, show b + (r.length + 1) = b + 1 + r.length by omega]⟩
      · exact Or.inr ⟨by omega, by rw [show b + (mt T nb r (b + 1) + 1) = b + 1 + mt T nb r (b + 1) by omega]; exact e3⟩
    · rw [ie z, ie z]
      have hf : (at7 (fl M) b) 0 7 = 1 := by unfold at7 fl; rw [mm_col (by decide), mm_same]
      have hk := sp_f hx (by omega) n (i + 1) (at7 (fl M) b) (by omega) (by omega) hf
      obtain ⟨M', e1, e2⟩ := hk
      refine ⟨M', e1, Or.inr ⟨by rw [List.length_cons]; omega, ?_⟩⟩
      have ecm : at7 (fl M) b = fl (at7 M (b + 0)) := by
        funext k j
        unfold at7 fl
        by_cases hk : k = 0
        · subst hk
          by_cases hj : j = 5
          · subst hj; rw [mm_same, mm_col (by decide), mm_same]; rfl
          · by_cases hj7 : j = 7
            · subst hj7; rw [mm_col (by decide), mm_same, mm_same]
            · rw [mm_col hj, mm_col hj7, mm_col hj7, mm_col hj]
        · rw [mm_row hk, mm_row hk, mm_row hk, mm_row hk]
      rw [← ecm]
      exact e2
