/-! THE GROUPS: gC, the class's 64 cells; gM, the reference's 8. Handles of gC: 0 FieldBand; 1 now (2 kind, 3 v, 4 dot, 5 form, 6 film, 7 tape); 8 kept (9 .. 14); 15 shows; 16 Reader; 17 Deed (18 bodies); 19 Ways (56 row, 57 best); 20 + 6 i Show i (+1 word, +2 amount, +3 start, +4 end, +5 code); 58 Sound (59 kind, 60 slip, 61 source, 62 plays, 63 about). Of gM: 0 the object; 1 s, 2 image, 3 by, 4 truths, 5 goes, 6 bestGoes, 7 bodies -/
def fsFB (ad : Nat → Nat) (row : Nat → Int32) : List Value := [.ref (ad 1), .ref (ad 8), .int (row 2), .ref (ad 15), .ref (ad 16), .ref (ad 58), .ref (ad 19), .ref (ad 17)]
def fsField (o : Nat) (ad : Nat → Nat) (row : Nat → Int32) : List Value := [.int (row 0), .ref (ad (o + 1)), .ref (ad (o + 2)), .ref (ad (o + 3)), .int (row 4), .int (row 5), .ref (ad (o + 4)), .int (row 7), .ref (ad (o + 5)), .int (row 9), .ref (ad (o + 6)), .int (row 11)]
def fsReader (ad : Nat → Nat) (row : Nat → Int32) : List Value := [.ref (ad 1), .ref (ad (row 1).toNatClampNeg), .int (row 2)]
def fsDeed (ad : Nat → Nat) (row : Nat → Int32) : List Value := [.int (row 0), .int (row 1), .int (row 2), .int (row 3), .ref (ad 18)]
def fsShow (o : Nat) (ad : Nat → Nat) (row : Nat → Int32) : List Value := [.int (row 0), .int (row 1), .int (row 2), .int (row 3), .ref (ad (o + 1)), .ref (ad (o + 2)), .ref (ad (o + 3)), .ref (ad (o + 4)), .int (row 8), .ref (ad (o + 5))]
def fsSound (ad : Nat → Nat) (row : Nat → Int32) : List Value := [.ref (ad 1), .ref (ad (row 1).toNatClampNeg), .int (row 2), .int (row 3), .ref (ad 59), .ref (ad 60), .ref (ad 61), .ref (ad 62), .ref (ad 63)]
def fsWays (ad : Nat → Nat) (row : Nat → Int32) : List Value := [.ref (ad 1), .ref (ad 56), .ref (ad 57), .int (row 3), .int (row 4)]
def fsModel (ad : Nat → Nat) (row : Nat → Int32) : List Value := [.int (row 0), .ref (ad 1), .ref (ad 2), .int (row 3), .int (row 4), .int (row 5), .int (row 6), .int (row 7), .int (row 8), .ref (ad 3), .ref (ad 4), .int (row 11), .int (row 12), .int (row 13), .int (row 14), .ref (ad 5), .ref (ad 6), .int (row 17), .int (row 18), .ref (ad 7), .int (row 20), .int (row 21), .int (row 22), .int (row 23)]
abbrev fxCe : Type := (Nat → Nat) → (Nat → ClassId) → (Nat → Int32) → va_E
def fxO (ci : Nat) (fs : (Nat → Nat) → (Nat → Int32) → List Value) : fxCe := fun ad _ row => .inr (ci, fs ad row)
def fxI (t n : Nat) : fxCe := fun _ aC row => .inl (aC t, n, .inl row)
def fx_shf (ad : Nat → Nat) : Nat → Option Nat := (va_up (va_up (va_up (va_up (va_up (va_up (fun _ => none) (0 : Int32).toNatClampNeg (some (ad 20))) (1 : Int32).toNatClampNeg (some (ad 26))) (2 : Int32).toNatClampNeg (some (ad 32))) (3 : Int32).toNatClampNeg (some (ad 38))) (4 : Int32).toNatClampNeg (some (ad 44))) (5 : Int32).toNatClampNeg (some (ad 50)))
theorem fx_shf_at (ad : Nat → Nat) {i : Nat} (h : i < 6) : fx_shf ad i = some (ad (20 + 6 * i)) := by
  rcases (show i = 0 ∨ i = 1 ∨ i = 2 ∨ i = 3 ∨ i = 4 ∨ i = 5 by omega) with rfl | rfl | rfl | rfl | rfl | rfl <;> rfl
def fxSh : fxCe := fun ad aC _ => .inl (aC 3, 6, .inr (.inr (.inr (.inr (fx_shf ad)))))
def clC : List fxCe := [fxO 6 fsFB, fxO 1 (fsField 1), fxI 0 10, fxI 0 10, fxI 0 10, fxI 0 10, fxI 0 10, fxI 1 120, fxO 1 (fsField 8), fxI 0 10, fxI 0 10, fxI 0 10, fxI 0 10, fxI 0 10, fxI 1 120, fxSh, fxO 2 fsReader, fxO 0 fsDeed, fxI 0 20, fxO 5 fsWays, fxO 3 (fsShow 20), fxI 0 10, fxI 0 10, fxI 0 10, fxI 0 10, fxI 0 120, fxO 3 (fsShow 26), fxI 0 10, fxI 0 10, fxI 0 10, fxI 0 10, fxI 0 120, fxO 3 (fsShow 32), fxI 0 10, fxI 0 10, fxI 0 10, fxI 0 10, fxI 0 120, fxO 3 (fsShow 38), fxI 0 10, fxI 0 10, fxI 0 10, fxI 0 10, fxI 0 120, fxO 3 (fsShow 44), fxI 0 10, fxI 0 10, fxI 0 10, fxI 0 10, fxI 0 120, fxO 3 (fsShow 50), fxI 0 10, fxI 0 10, fxI 0 10, fxI 0 10, fxI 0 120, fxI 0 6, fxI 0 6, fxO 4 fsSound, fxI 0 10, fxI 0 10, fxI 0 10, fxI 0 10, fxI 0 5]
def gC : fxG := (64, fun ad aC k row => (clC.getD k (fun _ _ _ => .inr (0, []))) ad aC row)
def clM : List fxCe := [fxO 7 fsModel, fxI 0 900, fxI 0 900, fxI 0 5, fxI 2 64, fxI 0 10, fxI 0 10, fxI 0 20]
def gM : fxG := (8, fun ad aC k row => (clM.getD k (fun _ _ _ => .inr (0, []))) ad aC row)
theorem okc0 : fx_cell gC 0 6 RX6 TX6 8 fsFB := ⟨by decide, fun _ _ _ => rfl, rfl, inlX6, tyX6, tyX6_ok, nmX6⟩
theorem okc1 : fx_cell gC 1 1 RX1 TX1 12 (fsField 1) := ⟨by decide, fun _ _ _ => rfl, rfl, inlX1, tyX1, tyX1_ok, nmX1⟩
theorem okc8 : fx_cell gC 8 1 RX1 TX1 12 (fsField 8) := ⟨by decide, fun _ _ _ => rfl, rfl, inlX1, tyX1, tyX1_ok, nmX1⟩
theorem okc16 : fx_cell gC 16 2 RX2 TX2 3 fsReader := ⟨by decide, fun _ _ _ => rfl, rfl, inlX2, tyX2, tyX2_ok, nmX2⟩
theorem okc17 : fx_cell gC 17 0 RX0 TX0 5 fsDeed := ⟨by decide, fun _ _ _ => rfl, rfl, inlX0, tyX0, tyX0_ok, nmX0⟩
theorem okc19 : fx_cell gC 19 5 RX5 TX5 5 fsWays := ⟨by decide, fun _ _ _ => rfl, rfl, inlX5, tyX5, tyX5_ok, nmX5⟩
theorem okc58 : fx_cell gC 58 4 RX4 TX4 9 fsSound := ⟨by decide, fun _ _ _ => rfl, rfl, inlX4, tyX4, tyX4_ok, nmX4⟩
theorem okm0 : fx_cell gM 0 7 RX7 TX7 24 fsModel := ⟨by decide, fun _ _ _ => rfl, rfl, inlX7, tyX7, tyX7_ok, nmX7⟩
theorem okc20 : fx_cell gC 20 3 RX3 TX3 10 (fsShow 20) := ⟨by decide, fun _ _ _ => rfl, rfl, inlX3, tyX3, tyX3_ok, nmX3⟩
theorem okc26 : fx_cell gC 26 3 RX3 TX3 10 (fsShow 26) := ⟨by decide, fun _ _ _ => rfl, rfl, inlX3, tyX3, tyX3_ok, nmX3⟩
theorem okc32 : fx_cell gC 32 3 RX3 TX3 10 (fsShow 32) := ⟨by decide, fun _ _ _ => rfl, rfl, inlX3, tyX3, tyX3_ok, nmX3⟩
theorem okc38 : fx_cell gC 38 3 RX3 TX3 10 (fsShow 38) := ⟨by decide, fun _ _ _ => rfl, rfl, inlX3, tyX3, tyX3_ok, nmX3⟩
theorem okc44 : fx_cell gC 44 3 RX3 TX3 10 (fsShow 44) := ⟨by decide, fun _ _ _ => rfl, rfl, inlX3, tyX3, tyX3_ok, nmX3⟩
theorem okc50 : fx_cell gC 50 3 RX3 TX3 10 (fsShow 50) := ⟨by decide, fun _ _ _ => rfl, rfl, inlX3, tyX3, tyX3_ok, nmX3⟩
theorem oka2 : fx_arr gC 2 0 10 := ⟨by decide, fun _ _ _ => rfl⟩
theorem oka3 : fx_arr gC 3 0 10 := ⟨by decide, fun _ _ _ => rfl⟩
theorem oka4 : fx_arr gC 4 0 10 := ⟨by decide, fun _ _ _ => rfl⟩
theorem oka5 : fx_arr gC 5 0 10 := ⟨by decide, fun _ _ _ => rfl⟩
theorem oka6 : fx_arr gC 6 0 10 := ⟨by decide, fun _ _ _ => rfl⟩
theorem oka7 : fx_arr gC 7 1 120 := ⟨by decide, fun _ _ _ => rfl⟩
theorem oka9 : fx_arr gC 9 0 10 := ⟨by decide, fun _ _ _ => rfl⟩
theorem oka10 : fx_arr gC 10 0 10 := ⟨by decide, fun _ _ _ => rfl⟩
theorem oka11 : fx_arr gC 11 0 10 := ⟨by decide, fun _ _ _ => rfl⟩
theorem oka12 : fx_arr gC 12 0 10 := ⟨by decide, fun _ _ _ => rfl⟩
theorem oka13 : fx_arr gC 13 0 10 := ⟨by decide, fun _ _ _ => rfl⟩
theorem oka14 : fx_arr gC 14 1 120 := ⟨by decide, fun _ _ _ => rfl⟩
theorem oka18 : fx_arr gC 18 0 20 := ⟨by decide, fun _ _ _ => rfl⟩
theorem oka21 : fx_arr gC 21 0 10 := ⟨by decide, fun _ _ _ => rfl⟩
theorem oka22 : fx_arr gC 22 0 10 := ⟨by decide, fun _ _ _ => rfl⟩
theorem oka23 : fx_arr gC 23 0 10 := ⟨by decide, fun _ _ _ => rfl⟩
theorem oka24 : fx_arr gC 24 0 10 := ⟨by decide, fun _ _ _ => rfl⟩
theorem oka25 : fx_arr gC 25 0 120 := ⟨by decide, fun _ _ _ => rfl⟩
theorem oka27 : fx_arr gC 27 0 10 := ⟨by decide, fun _ _ _ => rfl⟩
theorem oka28 : fx_arr gC 28 0 10 := ⟨by decide, fun _ _ _ => rfl⟩
theorem oka29 : fx_arr gC 29 0 10 := ⟨by decide, fun _ _ _ => rfl⟩
theorem oka30 : fx_arr gC 30 0 10 := ⟨by decide, fun _ _ _ => rfl⟩
theorem oka31 : fx_arr gC 31 0 120 := ⟨by decide, fun _ _ _ => rfl⟩
theorem oka33 : fx_arr gC 33 0 10 := ⟨by decide, fun _ _ _ => rfl⟩
theorem oka34 : fx_arr gC 34 0 10 := ⟨by decide, fun _ _ _ => rfl⟩
theorem oka35 : fx_arr gC 35 0 10 := ⟨by decide, fun _ _ _ => rfl⟩
theorem oka36 : fx_arr gC 36 0 10 := ⟨by decide, fun _ _ _ => rfl⟩
theorem oka37 : fx_arr gC 37 0 120 := ⟨by decide, fun _ _ _ => rfl⟩
theorem oka39 : fx_arr gC 39 0 10 := ⟨by decide, fun _ _ _ => rfl⟩
theorem oka40 : fx_arr gC 40 0 10 := ⟨by decide, fun _ _ _ => rfl⟩
theorem oka41 : fx_arr gC 41 0 10 := ⟨by decide, fun _ _ _ => rfl⟩
theorem oka42 : fx_arr gC 42 0 10 := ⟨by decide, fun _ _ _ => rfl⟩
theorem oka43 : fx_arr gC 43 0 120 := ⟨by decide, fun _ _ _ => rfl⟩
theorem oka45 : fx_arr gC 45 0 10 := ⟨by decide, fun _ _ _ => rfl⟩
theorem oka46 : fx_arr gC 46 0 10 := ⟨by decide, fun _ _ _ => rfl⟩
theorem oka47 : fx_arr gC 47 0 10 := ⟨by decide, fun _ _ _ => rfl⟩
theorem oka48 : fx_arr gC 48 0 10 := ⟨by decide, fun _ _ _ => rfl⟩
theorem oka49 : fx_arr gC 49 0 120 := ⟨by decide, fun _ _ _ => rfl⟩
theorem oka51 : fx_arr gC 51 0 10 := ⟨by decide, fun _ _ _ => rfl⟩
theorem oka52 : fx_arr gC 52 0 10 := ⟨by decide, fun _ _ _ => rfl⟩
theorem oka53 : fx_arr gC 53 0 10 := ⟨by decide, fun _ _ _ => rfl⟩
theorem oka54 : fx_arr gC 54 0 10 := ⟨by decide, fun _ _ _ => rfl⟩
theorem oka55 : fx_arr gC 55 0 120 := ⟨by decide, fun _ _ _ => rfl⟩
theorem oka56 : fx_arr gC 56 0 6 := ⟨by decide, fun _ _ _ => rfl⟩
theorem oka57 : fx_arr gC 57 0 6 := ⟨by decide, fun _ _ _ => rfl⟩
theorem oka59 : fx_arr gC 59 0 10 := ⟨by decide, fun _ _ _ => rfl⟩
theorem oka60 : fx_arr gC 60 0 10 := ⟨by decide, fun _ _ _ => rfl⟩
theorem oka61 : fx_arr gC 61 0 10 := ⟨by decide, fun _ _ _ => rfl⟩
theorem oka62 : fx_arr gC 62 0 10 := ⟨by decide, fun _ _ _ => rfl⟩
theorem oka63 : fx_arr gC 63 0 5 := ⟨by decide, fun _ _ _ => rfl⟩
theorem okb1 : fx_arr gM 1 0 900 := ⟨by decide, fun _ _ _ => rfl⟩
theorem okb2 : fx_arr gM 2 0 900 := ⟨by decide, fun _ _ _ => rfl⟩
theorem okb3 : fx_arr gM 3 0 5 := ⟨by decide, fun _ _ _ => rfl⟩
theorem okb4 : fx_arr gM 4 2 64 := ⟨by decide, fun _ _ _ => rfl⟩
theorem okb5 : fx_arr gM 5 0 10 := ⟨by decide, fun _ _ _ => rfl⟩
theorem okb6 : fx_arr gM 6 0 10 := ⟨by decide, fun _ _ _ => rfl⟩
theorem okb7 : fx_arr gM 7 0 20 := ⟨by decide, fun _ _ _ => rfl⟩
def fx_isSh (k : Nat) : Bool := k == 20 || k == 26 || k == 32 || k == 38 || k == 44 || k == 50
theorem fx_sh6 {k : Nat} (h : fx_isSh k = true) : k = 20 ∨ k = 26 ∨ k = 32 ∨ k = 38 ∨ k = 44 ∨ k = 50 := by
  simpa [fx_isSh, or_assoc] using h
theorem okcS {k : Nat} (h : fx_isSh k = true) : fx_cell gC k 3 RX3 TX3 10 (fsShow k) := by
  rcases fx_sh6 h with rfl | rfl | rfl | rfl | rfl | rfl
  · exact okc20
  · exact okc26
  · exact okc32
  · exact okc38
  · exact okc44
  · exact okc50
theorem okaS1 {k : Nat} (h : fx_isSh k = true) : fx_arr gC (k + 1) 0 10 := by
  rcases fx_sh6 h with rfl | rfl | rfl | rfl | rfl | rfl
  · exact oka21
  · exact oka27
  · exact oka33
  · exact oka39
  · exact oka45
  · exact oka51
theorem okaS2 {k : Nat} (h : fx_isSh k = true) : fx_arr gC (k + 2) 0 10 := by
  rcases fx_sh6 h with rfl | rfl | rfl | rfl | rfl | rfl
  · exact oka22
  · exact oka28
  · exact oka34
  · exact oka40
  · exact oka46
  · exact oka52
theorem okaS3 {k : Nat} (h : fx_isSh k = true) : fx_arr gC (k + 3) 0 10 := by
  rcases fx_sh6 h with rfl | rfl | rfl | rfl | rfl | rfl
  · exact oka23
  · exact oka29
  · exact oka35
  · exact oka41
  · exact oka47
  · exact oka53
theorem okaS4 {k : Nat} (h : fx_isSh k = true) : fx_arr gC (k + 4) 0 10 := by
  rcases fx_sh6 h with rfl | rfl | rfl | rfl | rfl | rfl
  · exact oka24
  · exact oka30
  · exact oka36
  · exact oka42
  · exact oka48
  · exact oka54
theorem okaS5 {k : Nat} (h : fx_isSh k = true) : fx_arr gC (k + 5) 0 120 := by
  rcases fx_sh6 h with rfl | rfl | rfl | rfl | rfl | rfl
  · exact oka25
  · exact oka31
  · exact oka37
  · exact oka43
  · exact oka49
  · exact oka55
def fx_ri (R : Int32 × fxMem) : Option Value → fxMem → Prop := fun v M => v = some (.int R.1) ∧ M = R.2
def fx_rv (R : fxMem) : Option Value → fxMem → Prop := fun v M => v = none ∧ M = R
def fx_rr (R : Nat × fxMem) : Option Value → fxMem → Prop := fun v M => v = some (.ref R.1) ∧ M = R.2
def fx_cp (M : fxMem) (k0 k1 n : Nat) : fxMem := fx_up M k1 (va_cpy (M k0) (M k1) 0 0 n)
def fx_01 (x : Int32) : Bool := x == 0 || x == 1
theorem fx_01n {x : Int32} (h : fx_01 x = true) : narrow .boolean (.int x) = .int x ∧ fits .boolean (.int x) = true := by
  have h : x = 0 ∨ x = 1 := by simpa [fx_01] using h
  rcases h with rfl | rfl <;> exact ⟨rfl, rfl⟩
theorem fx_bd {α β : Type} {x : Option α} {f : α → Option β} {r : β} (h : x.bind f = some r) : ∃ q, x = some q ∧ f q = some r := by
  cases x with
  | none => cases h
  | some q => exact ⟨q, rfl, h⟩
theorem fx_gt {β : Type} {b : Bool} {x : Option β} {r : β} (h : (if b = true then x else none) = some r) : b = true ∧ x = some r := by
  by_cases hb : b = true
  · rw [if_pos hb] at h
    exact ⟨hb, h⟩
  · rw [if_neg hb] at h
    cases h
theorem fx_gn {β : Type} {y : Int32} {x : Option β} {r : β} (h : (if y = 0 then none else x) = some r) : ¬ y = 0 ∧ x = some r := by
  by_cases hb : y = 0
  · rw [if_pos hb] at h
    cases h
  · rw [if_neg hb] at h
    exact ⟨hb, h⟩
theorem fx_ip {β : Type} {c : Prop} [Decidable c] {a b : Option β} {r : Option β} (hc : c) (h : (if c then a else b) = r) : a = r := by
  rw [if_pos hc] at h
  exact h
theorem fx_ne {β : Type} {c : Prop} [Decidable c] {a b : Option β} {r : Option β} (hc : ¬ c) (h : (if c then a else b) = r) : b = r := by
  rw [if_neg hc] at h
  exact h
section FXD
variable {G : fxG} {mt mt' : fxM} {Q : Option Value → fxMem → Prop} {lv : List (Nat × Value)} {st st0 As : List Value} {M : fxMem} {n idx : Nat}
theorem fx_putI (pc : Nat) {k ci j N : Nat} {C : String} {T : u_T} {fs : (Nat → Nat) → (Nat → Int32) → List Value} {x : Int32} (ok : fx_cell G k ci C T N fs) (hd : decode mt.2.1 pc = .ok (.putfield idx, 3)) (hlink : Cond.fieldLink mt.1.cls idx (T j).1 (T j).2.1 (T j).2.2.1 ∈ wsL_law) (hj : j < N) (hfin : (T j).2.2.2 = false) (hty : parseFieldDescriptor (T j).2.2.1 = some .int) (hl0 : ∀ ad row, j < (fs ad row).length) (hset : ∀ ad row x, (fs ad row).set j (.int x) = fs ad (upd row j x)) (kk : fx_V G mt Q (pc + 3) lv st (fx_st M k j x)) : fx_V G mt Q pc lv (.int x :: .ref k :: st) M :=
  fx_put pc ok hd hlink hj hfin hty (fun _ => rfl) (fun _ => rfl) hl0 (fun E => hset E.1 (M k) x) kk
theorem fx_putZ (pc : Nat) {k ci j N : Nat} {C : String} {T : u_T} {fs : (Nat → Nat) → (Nat → Int32) → List Value} {x : Int32} (ok : fx_cell G k ci C T N fs) (hx : fx_01 x = true) (hd : decode mt.2.1 pc = .ok (.putfield idx, 3)) (hlink : Cond.fieldLink mt.1.cls idx (T j).1 (T j).2.1 (T j).2.2.1 ∈ wsL_law) (hj : j < N) (hfin : (T j).2.2.2 = false) (hty : parseFieldDescriptor (T j).2.2.1 = some .boolean) (hl0 : ∀ ad row, j < (fs ad row).length) (hset : ∀ ad row x, (fs ad row).set j (.int x) = fs ad (upd row j x)) (kk : fx_V G mt Q (pc + 3) lv st (fx_st M k j x)) : fx_V G mt Q pc lv (.int x :: .ref k :: st) M :=
  fx_put pc ok hd hlink hj hfin hty (fun _ => (fx_01n hx).1) (fun _ => (fx_01n hx).2) hl0 (fun E => hset E.1 (M k) x) kk
theorem fx_shlt {k : Nat} (h : fx_isSh k = true) : (nI k).toNatClampNeg = k := by
  refine nI_clamp ?_
  rcases fx_sh6 h with rfl | rfl | rfl | rfl | rfl | rfl <;> decide
theorem fx_putSR (pc : Nat) {k : Nat} (hk : fx_isSh k = true) (hd : decode mt.2.1 pc = .ok (.putfield idx, 3)) (hlink : Cond.fieldLink mt.1.cls idx (TX2 1).1 (TX2 1).2.1 (TX2 1).2.2.1 ∈ wsL_law) (kk : fx_V gC mt Q (pc + 3) lv st (fx_st M 16 1 (nI k))) : fx_V gC mt Q pc lv (.ref k :: .ref 16 :: st) M :=
  fx_put pc (v := .ref k) (x := nI k) (j := 1) (ty := .object "FieldBand$Show") okc16 hd hlink (by decide) rfl (by decide +kernel) (fun _ => rfl) (fun _ => rfl) (fun _ _ => Nat.le_of_ble_eq_true rfl) (fun E => by
    show [Value.ref (E.1 1), .ref (E.1 k), .int (M 16 2)] = [.ref (E.1 1), .ref (E.1 (nI k).toNatClampNeg), .int (M 16 2)]
    rw [fx_shlt hk]) kk
theorem fx_putSS (pc : Nat) {k : Nat} (hk : fx_isSh k = true) (hd : decode mt.2.1 pc = .ok (.putfield idx, 3)) (hlink : Cond.fieldLink mt.1.cls idx (TX4 1).1 (TX4 1).2.1 (TX4 1).2.2.1 ∈ wsL_law) (kk : fx_V gC mt Q (pc + 3) lv st (fx_st M 58 1 (nI k))) : fx_V gC mt Q pc lv (.ref k :: .ref 58 :: st) M :=
  fx_put pc (v := .ref k) (x := nI k) (j := 1) (ty := .object "FieldBand$Show") okc58 hd hlink (by decide) rfl (by decide +kernel) (fun _ => rfl) (fun _ => rfl) (fun _ _ => Nat.le_of_ble_eq_true rfl) (fun E => by
    show [Value.ref (E.1 1), .ref (E.1 k), .int (M 58 2), .int (M 58 3), .ref (E.1 59), .ref (E.1 60), .ref (E.1 61), .ref (E.1 62), .ref (E.1 63)] = [.ref (E.1 1), .ref (E.1 (nI k).toNatClampNeg), .int (M 58 2), .int (M 58 3), .ref (E.1 59), .ref (E.1 60), .ref (E.1 61), .ref (E.1 62), .ref (E.1 63)]
    rw [fx_shlt hk]) kk
theorem fx_aald (pc : Nat) {i : Int32} (hd : decode mt.2.1 pc = .ok (.aaload, 1)) (hi : fx_in i 6 = true) (kk : fx_V gC mt Q (pc + 1) lv (.ref (20 + 6 * i.toNatClampNeg) :: st) M) : fx_V gC mt Q pc lv (.int i :: .ref 15 :: st) M := by
  intro p l e s m args below meth c E X H locs ls hP hS hl
  have he := fx_w_at (G := gC) (E := E) (M := M) (k := 15) (by decide)
  have hi6 : i.toNatClampNeg < 6 := Nat.not_le.mp fun q => fx_in_ok hi (Or.inr q)
  refine va_aldq X.1 X.2.1 X.2.2.2.2.2.2.2.1 hP 15 3 (cA := E.2.2.2.1 3) (C := RX3) (n := 6) (f := fx_shf E.1) he rfl (fx_in_ok hi) hd ?_
  rw [fx_shf_at E.1 hi6]
  exact kk p l e s m args below meth c E X H locs ls hP hS hl
theorem fx_callVi (pc : Nat) {k ci N : Nat} {T : u_T} {fs : (Nat → Nat) → (Nat → Int32) → List Value} {q : Int32 × fxMem} (okc : fx_cell G k ci mt'.1.cls T N fs) (ok : fx_okV mt' n) (hlink : Cond.methodLink mt.1.cls idx mt'.1 ∈ wsL_law) (hR : mt'.2.2.2.2.1 + 1 ≤ mt.2.2.2.2.1 ∧ 8 + (mt'.2.2.1 + 11) + mt'.2.2.2.2.2 ≤ mt.2.2.2.2.2) (hn : As.length = n) (hst : st0 = As.reverse ++ .ref k :: st) (hw : (st.map fun v => v.category).sum ≤ 8) (hd : decode mt.2.1 pc = .ok (.invokevirtual idx, 3)) (hT : fx_T G mt' (.ref k :: As) M (fx_ri q)) (kk : fx_V G mt Q (pc + 3) lv (.int q.1 :: st) q.2) : fx_V G mt Q pc lv st0 M :=
  fx_callV pc okc ok hlink hR hn hst hw hd hT (fun v M' h => by obtain ⟨rfl, rfl⟩ := h; exact kk)
theorem fx_callVv (pc : Nat) {k ci N : Nat} {T : u_T} {fs : (Nat → Nat) → (Nat → Int32) → List Value} {q : fxMem} (okc : fx_cell G k ci mt'.1.cls T N fs) (ok : fx_okV mt' n) (hlink : Cond.methodLink mt.1.cls idx mt'.1 ∈ wsL_law) (hR : mt'.2.2.2.2.1 + 1 ≤ mt.2.2.2.2.1 ∧ 8 + (mt'.2.2.1 + 11) + mt'.2.2.2.2.2 ≤ mt.2.2.2.2.2) (hn : As.length = n) (hst : st0 = As.reverse ++ .ref k :: st) (hw : (st.map fun v => v.category).sum ≤ 8) (hd : decode mt.2.1 pc = .ok (.invokevirtual idx, 3)) (hT : fx_T G mt' (.ref k :: As) M (fx_rv q)) (kk : fx_V G mt Q (pc + 3) lv st q) : fx_V G mt Q pc lv st0 M :=
  fx_callV pc okc ok hlink hR hn hst hw hd hT (fun v M' h => by obtain ⟨rfl, rfl⟩ := h; exact kk)
theorem fx_callVq (pc : Nat) {k ci N : Nat} {T : u_T} {fs : (Nat → Nat) → (Nat → Int32) → List Value} {q : Nat × fxMem} (okc : fx_cell G k ci mt'.1.cls T N fs) (ok : fx_okV mt' n) (hlink : Cond.methodLink mt.1.cls idx mt'.1 ∈ wsL_law) (hR : mt'.2.2.2.2.1 + 1 ≤ mt.2.2.2.2.1 ∧ 8 + (mt'.2.2.1 + 11) + mt'.2.2.2.2.2 ≤ mt.2.2.2.2.2) (hn : As.length = n) (hst : st0 = As.reverse ++ .ref k :: st) (hw : (st.map fun v => v.category).sum ≤ 8) (hd : decode mt.2.1 pc = .ok (.invokevirtual idx, 3)) (hT : fx_T G mt' (.ref k :: As) M (fx_rr q)) (kk : fx_V G mt Q (pc + 3) lv (.ref q.1 :: st) q.2) : fx_V G mt Q pc lv st0 M :=
  fx_callV pc okc ok hlink hR hn hst hw hd hT (fun v M' h => by obtain ⟨rfl, rfl⟩ := h; exact kk)
theorem fx_callSi (pc : Nat) {q : Int32 × fxMem} (ok : fx_okS mt' n) (hlink : Cond.methodLink mt.1.cls idx mt'.1 ∈ wsL_law) (hR : mt'.2.2.2.2.1 + 1 ≤ mt.2.2.2.2.1 ∧ 8 + (mt'.2.2.1 + 11) + mt'.2.2.2.2.2 ≤ mt.2.2.2.2.2) (hn : As.length = n) (hst : st0 = As.reverse ++ st) (hw : (st.map fun v => v.category).sum ≤ 8) (hd : decode mt.2.1 pc = .ok (.invokestatic idx, 3)) (hT : fx_T G mt' As M (fx_ri q)) (kk : fx_V G mt Q (pc + 3) lv (.int q.1 :: st) q.2) : fx_V G mt Q pc lv st0 M :=
  fx_callS pc ok hlink hR hn hst hw hd hT (fun v M' h => by obtain ⟨rfl, rfl⟩ := h; exact kk)
theorem fx_callSq (pc : Nat) {q : Nat × fxMem} (ok : fx_okS mt' n) (hlink : Cond.methodLink mt.1.cls idx mt'.1 ∈ wsL_law) (hR : mt'.2.2.2.2.1 + 1 ≤ mt.2.2.2.2.1 ∧ 8 + (mt'.2.2.1 + 11) + mt'.2.2.2.2.2 ≤ mt.2.2.2.2.2) (hn : As.length = n) (hst : st0 = As.reverse ++ st) (hw : (st.map fun v => v.category).sum ≤ 8) (hd : decode mt.2.1 pc = .ok (.invokestatic idx, 3)) (hT : fx_T G mt' As M (fx_rr q)) (kk : fx_V G mt Q (pc + 3) lv (.ref q.1 :: st) q.2) : fx_V G mt Q pc lv st0 M :=
  fx_callS pc ok hlink hR hn hst hw hd hT (fun v M' h => by obtain ⟨rfl, rfl⟩ := h; exact kk)
theorem fx_callVNi (pc : Nat) {k ci N : Nat} {T : u_T} {fs : (Nat → Nat) → (Nat → Int32) → List Value} {host : String} {q : Int32 × fxMem} (okc : fx_cell G k ci mt'.1.cls T N fs) (ok : fx_okV mt' n) (hlink : (mt.1.cls, idx, mt'.1, host) ∈ kxN) (hR : mt'.2.2.2.2.1 + 1 ≤ mt.2.2.2.2.1 ∧ 8 + (mt'.2.2.1 + 11) + mt'.2.2.2.2.2 ≤ mt.2.2.2.2.2) (hn : As.length = n) (hst : st0 = As.reverse ++ .ref k :: st) (hw : (st.map fun v => v.category).sum ≤ 8) (hd : decode mt.2.1 pc = .ok (.invokevirtual idx, 3)) (hT : fx_T G mt' (.ref k :: As) M (fx_ri q)) (kk : fx_V G mt Q (pc + 3) lv (.int q.1 :: st) q.2) : fx_V G mt Q pc lv st0 M :=
  fx_callVN pc okc ok hlink hR hn hst hw hd hT (fun v M' h => by obtain ⟨rfl, rfl⟩ := h; exact kk)
theorem fx_callNi (pc : Nat) {host : String} {q : Int32 × fxMem} (ok : fx_okS mt' n) (hlink : (mt.1.cls, idx, mt'.1, host) ∈ kxN) (hR : mt'.2.2.2.2.1 + 1 ≤ mt.2.2.2.2.1 ∧ 8 + (mt'.2.2.1 + 11) + mt'.2.2.2.2.2 ≤ mt.2.2.2.2.2) (hn : As.length = n) (hst : st0 = As.reverse ++ st) (hw : (st.map fun v => v.category).sum ≤ 8) (hd : decode mt.2.1 pc = .ok (.invokestatic idx, 3)) (hT : fx_T G mt' As M (fx_ri q)) (kk : fx_V G mt Q (pc + 3) lv (.int q.1 :: st) q.2) : fx_V G mt Q pc lv st0 M :=
  fx_callN pc ok hlink hR hn hst hw hd hT (fun v M' h => by obtain ⟨rfl, rfl⟩ := h; exact kk)
theorem fx_callSti (pc : Nat) {i : Nat} {q : Int32 × fxMem} (hi : i < 23) (hy : mt'.1.cls = "java/lang/String") (ok : fx_okV mt' n) (hlink : Cond.methodLink mt.1.cls idx mt'.1 ∈ wsL_law) (hR : mt'.2.2.2.2.1 + 1 ≤ mt.2.2.2.2.1 ∧ 8 + (mt'.2.2.1 + 11) + mt'.2.2.2.2.2 ≤ mt.2.2.2.2.2) (hn : As.length = n) (hst : st0 = As.reverse ++ .ref (1000 + i) :: st) (hw : (st.map fun v => v.category).sum ≤ 8) (hd : decode mt.2.1 pc = .ok (.invokevirtual idx, 3)) (hT : fx_T G mt' (.ref (1000 + i) :: As) M (fx_ri q)) (kk : fx_V G mt Q (pc + 3) lv (.int q.1 :: st) q.2) : fx_V G mt Q pc lv st0 M :=
  fx_callStr pc hi hy ok hlink hR hn hst hw hd hT (fun v M' h => by obtain ⟨rfl, rfl⟩ := h; exact kk)
end FXD
