/-! a word: all cases -/
theorem at7_s {M : fxMem} {a : Nat} (h : M 0 5 = nI a) : at7 M a = M := by
  funext k j
  unfold at7
  by_cases hk : k = 0
  · subst hk
    by_cases hj : j = 5
    · subst hj; rw [mm_same]; exact h.symm
    · rw [mm_col hj]
  · rw [mm_row hk]
theorem mtc {T : Nat → Nat} {nb a c : Nat} {r : List Nat} (h : cur T nb a = c) : mt T nb (c :: r) a = 1 + mt T nb r (a + 1) := by rw [mt, it h, Nat.add_comm]
theorem mtn {T : Nat → Nat} {nb a c : Nat} {r : List Nat} (h : cur T nb a ≠ c) : mt T nb (c :: r) a = 0 := by rw [mt, ie h]
theorem wr2 {Mc Mm : fxMem} {S a nb : Nat} {T : Nat → Nat} (hC : CR Mc S a nb T) (hM : MR Mm a nb T) : WR T nb a Mc Mm := by
  have a4 := hC.2.2.2.1
  have hh := hM.he
  have c98 : (hr7 T nb a = (98 : Int32)) ↔ cur T nb a = 98 := hr_c hM.t (ch := 98) (by decide)
  have c108 : (hr7 T nb a = (108 : Int32)) ↔ cur T nb a = 108 := hr_c hM.t (ch := 108) (by decide)
  have c115 : (hr7 T nb a = (115 : Int32)) ↔ cur T nb a = 115 := hr_c hM.t (ch := 115) (by decide)
  by_cases z98 : cur T nb a = 98
  · refine unify (k := 0) (x := 22) (tl := [98, 101, 97, 116]) hC hM (by decide) (by decide) (c5 ?_ ?_ ?_ ?_ ?_) (by omega) (by rw [Nat.zero_add, Nat.add_zero]; rfl) rfl rfl (by decide) (by decide) ?_
    · intro _; exact ⟨by rw [show wL 0 = 108 :: [111, 117, 100] from rfl, mtn (by omega)]; exact Nat.zero_le _, by rw [show wL 0 = 108 :: [111, 117, 100] from rfl, mtn (by omega)]; decide⟩
    · intro _; exact ⟨by rw [show wL 1 = 108 :: [97, 116, 101] from rfl, mtn (by omega)]; exact Nat.zero_le _, by rw [show wL 1 = 108 :: [97, 116, 101] from rfl, mtn (by omega)]; decide⟩
    · intro _; exact ⟨by rw [show wL 2 = 115 :: [112, 101, 101, 100] from rfl, mtn (by omega)]; exact Nat.zero_le _, by rw [show wL 2 = 115 :: [112, 101, 101, 100] from rfl, mtn (by omega)]; decide⟩
    · intro h; exact absurd rfl h
    · intro _; exact ⟨by rw [show wL 4 = 115 :: [116, 101, 112] from rfl, mtn (by omega)]; exact Nat.zero_le _, by rw [show wL 4 = 115 :: [116, 101, 112] from rfl, mtn (by omega)]; decide⟩
    · rw [CX7_clauseHere, hh, bs, it (c98.mpr z98), show at7 Mm (a + 0) = Mm from at7_s hM.1, bsome]
      rfl
  by_cases z108 : cur T nb a = 108
  · have ha := cur_lt (T := T) (nb := nb) (a := a) (by omega)
    have hM1 := hM.go (b := a + 1) (by omega)
    have c111 : (hr7 T nb (a + 1) = (111 : Int32)) ↔ cur T nb (a + 1) = 111 := hr_c hM.t (ch := 111) (by decide)
    have em0 : CX7_must (108 : Int32) Mm = some (at7 Mm (a + 1)) := by
      have := ms7 hM (ch := 108) (by decide)
      rw [it z108, f70 hM.2.2.1] at this
      exact this
    have m2 : mt T nb (wL 2) a = 0 := mtn (r := [112, 101, 101, 100]) (by omega)
    have m3 : mt T nb (wL 3) a = 0 := mtn (r := [101, 97, 116]) (by omega)
    have m4 : mt T nb (wL 4) a = 0 := mtn (r := [116, 101, 112]) (by omega)
    have m0 : mt T nb (wL 0) a = 1 + mt T nb [111, 117, 100] (a + 1) := mtc (r := [111, 117, 100]) z108
    have m1 : mt T nb (wL 1) a = 1 + mt T nb [97, 116, 101] (a + 1) := mtc (r := [97, 116, 101]) z108
    by_cases z111 : cur T nb (a + 1) = 111
    · have n1' : mt T nb [97, 116, 101] (a + 1) = 0 := mtn (by omega)
      refine unify (k := 1) (x := 16) (tl := [111, 117, 100]) hC hM (by decide) (by decide) (c5 ?_ ?_ ?_ ?_ ?_) (by omega) m0 rfl rfl (by decide) (by decide) ?_
      · intro h; exact absurd rfl h
      · intro _; rw [show (sL 16).1 = 0 from rfl, m1, m0, n1']; exact ⟨by omega, by decide⟩
      · intro _; rw [m2]; exact ⟨Nat.zero_le _, by decide⟩
      · intro _; rw [m3]; exact ⟨Nat.zero_le _, by decide⟩
      · intro _; rw [m4]; exact ⟨Nat.zero_le _, by decide⟩
      · rw [CX7_clauseHere, hh, bs, ie (fun q => z98 (c98.mp q)), it (c108.mpr z108)]
        dsimp only
        rw [em0, bs, hM1.he, bs, it (c111.mpr z111), bsome]
        rfl
    · have n0' : mt T nb [111, 117, 100] (a + 1) = 0 := mtn z111
      refine unify (k := 1) (x := 19) (tl := [97, 116, 101]) hC hM (by decide) (by decide) (c5 ?_ ?_ ?_ ?_ ?_) (by omega) m1 rfl rfl (by decide) (by decide) ?_
      · intro _; rw [show (sL 19).1 = 1 from rfl, m1, m0, n0']; exact ⟨by omega, by decide⟩
      · intro h; exact absurd rfl h
      · intro _; rw [m2]; exact ⟨Nat.zero_le _, by decide⟩
      · intro _; rw [m3]; exact ⟨Nat.zero_le _, by decide⟩
      · intro _; rw [m4]; exact ⟨Nat.zero_le _, by decide⟩
      · rw [CX7_clauseHere, hh, bs, ie (fun q => z98 (c98.mp q)), it (c108.mpr z108)]
        dsimp only
        rw [em0, bs, hM1.he, bs, ie (fun q => z111 (c111.mp q)), bsome]
        rfl
  by_cases z115 : cur T nb a = 115
  · have ha := cur_lt (T := T) (nb := nb) (a := a) (by omega)
    have hM1 := hM.go (b := a + 1) (by omega)
    have c112 : (hr7 T nb (a + 1) = (112 : Int32)) ↔ cur T nb (a + 1) = 112 := hr_c hM.t (ch := 112) (by decide)
    have em0 : CX7_must (115 : Int32) Mm = some (at7 Mm (a + 1)) := by
      have := ms7 hM (ch := 115) (by decide)
      rw [it z115, f70 hM.2.2.1] at this
      exact this
    have m0 : mt T nb (wL 0) a = 0 := mtn (r := [111, 117, 100]) (by omega)
    have m1 : mt T nb (wL 1) a = 0 := mtn (r := [97, 116, 101]) (by omega)
    have m3 : mt T nb (wL 3) a = 0 := mtn (r := [101, 97, 116]) (by omega)
    have m2 : mt T nb (wL 2) a = 1 + mt T nb [112, 101, 101, 100] (a + 1) := mtc (r := [112, 101, 101, 100]) z115
    have m4 : mt T nb (wL 4) a = 1 + mt T nb [116, 101, 112] (a + 1) := mtc (r := [116, 101, 112]) z115
    by_cases z112 : cur T nb (a + 1) = 112
    · have n4 : mt T nb [116, 101, 112] (a + 1) = 0 := mtn (by omega)
      refine unify (k := 1) (x := 20) (tl := [112, 101, 101, 100]) hC hM (by decide) (by decide) (c5 ?_ ?_ ?_ ?_ ?_) (by omega) m2 rfl rfl (by decide) (by decide) ?_
      · intro _; rw [m0]; exact ⟨Nat.zero_le _, by decide⟩
      · intro _; rw [m1]; exact ⟨Nat.zero_le _, by decide⟩
      · intro h; exact absurd rfl h
      · intro _; rw [m3]; exact ⟨Nat.zero_le _, by decide⟩
      · intro _; rw [show (sL 20).1 = 2 from rfl, m4, m2, n4]; exact ⟨by omega, by decide⟩
      · rw [CX7_clauseHere, hh, bs, ie (fun q => z98 (c98.mp q)), ie (fun q => z108 (c108.mp q)), it (c115.mpr z115)]
        dsimp only
        rw [em0, bs, hM1.he, bs, it (c112.mpr z112), bsome]
        rfl
    · have n2 : mt T nb [112, 101, 101, 100] (a + 1) = 0 := mtn z112
      refine unify (k := 1) (x := 21) (tl := [116, 101, 112]) hC hM (by decide) (by decide) (c5 ?_ ?_ ?_ ?_ ?_) (by omega) m4 rfl rfl (by decide) (by decide) ?_
      · intro _; rw [m0]; exact ⟨Nat.zero_le _, by decide⟩
      · intro _; rw [m1]; exact ⟨Nat.zero_le _, by decide⟩
      · intro _; rw [show (sL 21).1 = 4 from rfl, m4, m2, n2]; exact ⟨by omega, by decide⟩
      · intro _; rw [m3]; exact ⟨Nat.zero_le _, by decide⟩
      · intro h; exact absurd rfl h
      · rw [CX7_clauseHere, hh, bs, ie (fun q => z98 (c98.mp q)), ie (fun q => z108 (c108.mp q)), it (c115.mpr z115)]
        dsimp only
        rw [em0, bs, hM1.he, bs, ie (fun q => z112 (c112.mp q)), bsome]
        rfl
  · have mz : ∀ v, v < 5 → mt T nb (wL v) a = 0 := c5 (mtn (r := [111, 117, 100]) z108) (mtn (r := [97, 116, 101]) z108) (mtn (r := [112, 101, 101, 100]) z115) (mtn (r := [101, 97, 116]) z98) (mtn (r := [116, 101, 112]) z115)
    have hc := cls hC (w0 := 0) (by decide) (fun v h1 h2 => by rw [mz v h1]; exact ⟨Nat.zero_le _, (by have := (wck v h1).2.2.1; revert v; exact c5 (fun _ _ => by decide) (fun _ _ => by decide) (fun _ _ => by decide) (fun _ _ => by decide) (fun _ _ => by decide))⟩)
    rw [mz 0 (by decide), ie (by decide)] at hc
    refine Or.inr ⟨a, fl Mm, a4, Nat.le_refl _, Or.inl hc, ?_, ?_⟩
    · rw [CX7_clauseHere, hh, bs, ie (fun q => z98 (c98.mp q)), ie (fun q => z108 (c108.mp q)), ie (fun q => z115 (c115.mp q))]
      rfl
    · rw [at7_s hM.1]
      exact FM.rf (mm_same _ _ _ _)
