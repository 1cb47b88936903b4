/-! a word, on both sides -/
theorem mt_app {T : Nat → Nat} {nb c : Nat} : ∀ (L : List Nat) (a : Nat), mt T nb (L ++ [c]) a = if mt T nb L a = L.length then L.length + (if cur T nb (a + L.length) = c then 1 else 0) else mt T nb L a
  | [], a => by
    show (if cur T nb a = c then mt T nb [] (a + 1) + 1 else 0) = _
    rw [it (show mt T nb [] a = ([] : List Nat).length from rfl)]
    show (if cur T nb a = c then 0 + 1 else 0) = 0 + (if cur T nb (a + 0) = c then 1 else 0)
    split <;> split <;> first | rfl | contradiction
  | x :: L, a => by
    rw [List.cons_append, mt, mt, mt_app L (a + 1), List.length_cons]
    by_cases z : cur T nb a = x
    · rw [it z, it z]
      by_cases z2 : mt T nb L (a + 1) = L.length
      · rw [it z2, z2, it (show L.length + 1 = L.length + 1 from rfl), show a + 1 + L.length = a + (L.length + 1) by omega]; omega
      · rw [ie z2, ie (by omega)]
    · rw [ie z, ie z, ie (by omega)]
def muchK (x1 : Int32) (M : fxMem) : Option fxMem := Option.bind (CX7_figures M) fun q6 => Option.bind (CX7_must (32 : Int32) q6.2) fun q13 => Option.bind (CX7_some q13) fun q17 => Option.bind (CX7_emits (x1 - q6.1) q17) fun q24 => some q24
def tellK (x1 : Int32) (M : fxMem) : Option fxMem := Option.bind (CX7_figures M) fun q6 => if q6.2 0 7 = (0 : Int32) then if fx_in (x1 + (q6.2 0 4)) 900 = true then some (fx_st q6.2 1 (x1 + (q6.2 0 4)).toNatClampNeg q6.1) else none else some q6.2
theorem muchK_f {x : Int32} {M : fxMem} (h : M 0 7 = 1) : ∃ M', muchK x M = some M' ∧ FM M M' := by
  obtain ⟨r, M1, e1, e2⟩ := fg_f h
  obtain ⟨M2, g1, g2⟩ := ms_f (32 : Int32) e2.2.1
  refine ⟨M2, ?_, e2.tr g2⟩
  rw [muchK, e1, bs]
  dsimp only
  rw [g1, bs, CX7_some, so_f (d := 37) g2.2.1, bs, em_f _ g2.2.1, bs]
theorem tellK_f {x : Int32} {M : fxMem} (h : M 0 7 = 1) : ∃ M', tellK x M = some M' ∧ FM M M' := by
  obtain ⟨r, M1, e1, e2⟩ := fg_f h
  refine ⟨M1, ?_, e2⟩
  have hz : ¬ M1 0 7 = (0 : Int32) := by rw [e2.2.1]; exact one_ne
  rw [tellK, e1, bs, ie hz]
/-- what follows a word in the reference -/
def wK : Nat → fxMem → Option fxMem
  | 0 => muchK (-10)
  | 1 => muchK (-200)
  | 2 => tellK 180
  | 3 => tellK 185
  | _ => tellK 190
theorem wK_f {w : Nat} {M : fxMem} (h : M 0 7 = 1) : ∃ M', wK w M = some M' ∧ FM M M' := by
  match w with
  | 0 => exact muchK_f h
  | 1 => exact muchK_f h
  | 2 => exact tellK_f h
  | 3 => exact tellK_f h
  | n + 4 => exact tellK_f h
def sL : Nat → Nat × List Nat
  | 16 => (0, [111, 117, 100, 32])
  | 19 => (1, [97, 116, 101, 32])
  | 20 => (2, [112, 101, 101, 100, 32])
  | 22 => (3, [98, 101, 97, 116, 32])
  | _ => (4, [116, 101, 112, 32])
theorem sck : ∀ x, x ∈ [16, 19, 20, 21, 22] → fx_isS (1000 + x) = true ∧ (kx_b (1000 + x - 1000)).length = (sL x).2.length ∧ (sL x).2.length < 6 ∧ ∀ j, j < (sL x).2.length → kx_c (1000 + x) (nI (0 + j)) = nI ((sL x).2.getD j 0) ∧ (sL x).2.getD j 0 < 128 := by decide +kernel
/-- spelt and gone on, or failed where it stops -/
theorem spK {x b nb : Nat} {T : Nat → Nat} {M : fxMem} (hx : x ∈ [16, 19, 20, 21, 22]) (h : MR M b nb T) : (mt T nb (sL x).2 b = (sL x).2.length ∧ Option.bind (CX7_spells (1000 + x) M) (wK (sL x).1) = wK (sL x).1 (at7 M (b + (sL x).2.length))) ∨ (mt T nb (sL x).2 b < (sL x).2.length ∧ ∃ M', Option.bind (CX7_spells (1000 + x) M) (wK (sL x).1) = some M' ∧ FM (fl (at7 M (b + mt T nb (sL x).2 b))) M') := by
  obtain ⟨k1, k2, k3, k4⟩ := sck x hx
  obtain ⟨M', e1, e2⟩ := spl_L (a := 0) k1 (sL x).2 1000 0 b M h (chk k4) (by omega) (by omega) (by omega)
  have e1' : CX7_spells (1000 + x) M = some M' := e1
  rcases e2 with ⟨e2, e3⟩ | ⟨e2, e3⟩
  · exact Or.inl ⟨e2, by rw [e1', bs, e3]⟩
  · obtain ⟨M2, g1, g2⟩ := wK_f (w := (sL x).1) e3.2.1
    exact Or.inr ⟨e2, M2, by rw [e1', bs, g1], e3.tr g2⟩
