section RXS
variable {mt : rxM} {E : fxE} {A : Nat → Prop} {Q : va_W → Prop} {lv lv' : List (Nat × Value)} {st : List Value} {ws : va_W} {cells slots idx : Nat}
theorem rx_ldcS (pc : Nat) (i : Nat) (hi : i < 23) (hd : decode mt.2.1 pc = .ok (.ldc idx, 2)) (hc : (kx_at i).1 = mt.1.cls ∧ (kx_at i).2.1 = idx) (k : rx_V mt E A Q (pc + 2) lv (.ref (E.1 (1000 + i)) :: st) ws cells slots) : rx_V mt E A Q pc lv st ws cells slots := by
  intro p l e s m args below meth c X H locs ls hP hD hS hl
  have h := (X.2.2.2.2.2.2.2.2.2.2.1.1 i hi).2
  rw [hc.1, hc.2] at h
  exact va_ldcS X.1 X.2.1 X.2.2.2.2.1 h hd (k p l e s m args below meth c X H locs ls hP hD hS hl)
def g0 : fxG := (0, fun _ _ _ _ => .inr (0, []))
theorem rx_slen (pc : Nat) {i : Nat} {x : Int32} (hi : i < 23) (hx : nI (kx_b i).length = x) (hd : decode mt.2.1 pc = .ok (.invokevirtual idx, 3)) (hlink : Cond.methodLink mt.1.cls idx yJ0_length_8abf5 ∈ wsL_law) (hR : 3 ≤ mt.2.2.2.1 ∧ 100 ≤ mt.2.2.2.2.1) (hw : (st.map fun v => v.category).sum ≤ 8) (hc : cells ≤ mt.2.2.2.2.2.1) (hs : slots ≤ mt.2.2.2.2.2.2) (k : rx_V mt E A Q (pc + 3) lv (.int x :: st) ws cells slots) : rx_V mt E A Q pc lv (.ref (E.1 (1000 + i)) :: st) ws cells slots := by
  intro p l e s m args below meth c X H locs ls hP hD hS hl
  obtain ⟨hx0, hb, hr, hml, hown, hts, hlk, hnm, hK, hO, hF, hA⟩ := id X
  obtain ⟨ok1, ok2, ok3⟩ := okvJ0_length_8abf5
  have hAA : ∀ q, fx_A g0 E H.size q → A q := by
    intro q hq
    rcases hq with ⟨k, hk, -⟩ | hq
    · exact absurd hk (Nat.not_lt_zero k)
    · exact hA q (Nat.le_trans hS.1 hq)
  have cw := cwV (R := rx_rm mt) (s := s) (args := args) (own := mt.1.cls) (C := "java/lang/String") (index := idx) (y := yJ0_length_8abf5) (bytes := cJ0_length_8abf5) (maxL := 1) (ret := some .int) (ws := fx_ws mJ0_length_8abf5) (rm := fx_rm mJ0_length_8abf5) (mc := 0) (ms := 0) 0 hts (by
    intro w hw
    unfold wsV at hw
    rcases List.mem_append.mp hw with h | h
    · simp only [List.mem_cons, List.not_mem_nil, or_false] at h
      rcases h with h | h | h | h
      · subst h; exact fx_gi hlink
      · subst h; exact fx_gi ok2
      · subst h; exact fx_gi ok3
      · subst h; exact fx_gi ok1.2.1
    · exact fx_gd ok1 w h) rfl rfl rfl ⟨rfl, ok1.2.2⟩ ⟨hR.1, hR.2⟩
  have run := va_runV (e := e) (below := below) (meth := meth) (locs := locs) (cells := cells) (slots := slots) (b := E.1 (1000 + i)) (As := []) (rest := st) (g := F0 m pc ls (.ref (E.1 (1000 + i)) :: st)) ⟨hx0, hb, hml, hown, hts⟩ (tJ_length g0 hi (fun _ _ => 0) l E H.size) cw
    ⟨fx_blind _ _ _ _ _, by
      obtain ⟨cell, h1, h2, h3, -⟩ := (hF.1 i hi).1.1.kept hS.2.1
      exact ⟨cell, h1, h2, h3⟩, fun U hU hW => ⟨rfl, by rw [hU], fun k q h => by simp [fx_w, g0] at h, va_K.moved hW.alike hK, fun i j h => absurd h (Nat.not_lt_zero i), hF.go hW.alike (fun _ _ _ _ z => z.warm hW) (fun _ _ _ _ z => va_Nw.warmM hW z) (fun _ _ _ _ _ _ z => va_Nw.warmF hW z) (fun a ha hn => by rw [hU]; exact hS.2.1 a ha hn) hAA⟩⟩ rfl rfl hl.1 rfl (lv_room hw) hd ⟨hc, hs⟩
  intro T hT XX
  obtain ⟨v, st₀, t, T', L, h0, X', hL, e1, e2, ⟨⟨v', M', hv, ⟨rfl, rfl⟩, -⟩, hz, hk⟩, stp⟩ := run T hT XX
  cases hv
  rw [h0] at hz hk
  have hk2 : ∀ q : Nat, q < H.size → t.heap[q]? = H[q]? := fun q hq => hk q hq (by
    intro z
    rcases z with ⟨k, hk0, -⟩ | z
    · exact absurd hk0 (Nat.not_lt_zero k)
    · omega)
  rw [hx] at stp
  obtain ⟨t2, a1, b1⟩ := k p l e s m args below meth c X T'.heap (locs ++ L) ls (by rw [e1]; exact hP.kept (fun j q hq => hk2 q.1 ((hP j q hq).lt))) hD
    ⟨Nat.le_trans hS.1 (by rw [e1]; exact hz), fun q h1 h2 => by rw [e1, hk2 q (Nat.lt_of_lt_of_le h1 hS.1)]; exact hS.2.1 q h1 h2, fun q hq => by
      rcases List.mem_append.mp hq with h | h
      · exact hS.2.2 q h
      · exact hAA _ (hL q h)⟩ hl T' rfl X'
  exact ⟨t2, stp t2 a1, b1⟩
theorem rx_iast (pc q0 : Nat) {a n : Nat} {i x : Int32} {f : Nat → Int32} (hd : decode mt.2.1 pc = .ok (.iastore, 1)) (he : ws[q0]? = some (a, .inl (E.2.2.2.1 0, n, .inl f))) (hi : fx_in i n = true) (k : rx_V mt E A Q (pc + 1) lv st (ws.set q0 (a, .inl (E.2.2.2.1 0, n, .inl (upd f i.toNatClampNeg x)))) cells slots) : rx_V mt E A Q pc lv (.int x :: .int i :: .ref a :: st) ws cells slots := by
  intro p l e s m args below meth c X H locs ls hP hD hS hl
  obtain ⟨hx, hb, hr, hml, hown, hts, hlk, hnm, hK, hO, hC, hA⟩ := id X
  exact va_iast hx hb hK hP hD hS q0 0 he rfl (fx_in_ok hi) hd (fun H1 locs1 hP1 hD1 hS1 => k p l e s m args below meth c X H1 locs1 ls hP1 hD1 hS1 hl)
end RXS
def rX1_init : rxM := (yX1_init, cX1_init, 1, 1, 40, 6, 170)
theorem okrX1_init : rx_ok rX1_init 0 := ⟨(rin2 _ (List.mem_of_getElem? (i := 16) rfl)), (rin1 _ (List.mem_of_getElem? (i := 15) rfl)), ⟨by decide +kernel, by decide +kernel, by decide +kernel⟩, (rin2 _ (List.mem_of_getElem? (i := 15) rfl)), rfl⟩
set_option maxRecDepth 100000 in
set_option maxHeartbeats 4000000 in
theorem ctX1_init (E : fxE) (h0 : Nat) : rx_T rX1_init E [.ref h0] [(h0, .inr (1, [.int 0, .null, .null, .null, .int 0, .int 0, .null, .int 0, .null, .int 0, .null, .int 0]))] (fun w => ∃ a12_1 a20_2 a28_3 a47_4 a60_5 a73_6 : Nat, w = [(h0, .inr (1, [.int (0 : Int32), .ref a12_1, .ref a20_2, .ref a28_3, .int (60 : Int32), .int (0 : Int32), .ref a47_4, .int (0 : Int32), .ref a60_5, .int (0 : Int32), .ref a73_6, .int (0 : Int32)])), (a12_1, .inl (E.2.2.2.1 0, 10, .inl (fun _ => 0))), (a20_2, .inl (E.2.2.2.1 0, 10, .inl (fun _ => 0))), (a28_3, .inl (E.2.2.2.1 0, 10, .inl (fun _ => 0))), (a47_4, .inl (E.2.2.2.1 0, 10, .inl (fun _ => 0))), (a60_5, .inl (E.2.2.2.1 0, 10, .inl (fun _ => 0))), (a73_6, .inl (E.2.2.2.1 1, 120, .inl (fun _ => 0)))]) := by
  refine rx_enter (by show plainName RX1 = true; decide) (Nat.le_of_ble_eq_true rfl) (fun A => ?_)
  show rx_V _ _ _ _ 0 [(0, .ref h0)] [] _ 0 0
  refine rx_aload_n 0 dX1_init_0 rfl 0 rfl ?_
  refine rx_obj 1 dX1_init_1 lmX1_3 (rin1 _ (List.mem_of_getElem? (i := 11) rfl)) (rin1 _ (List.mem_of_getElem? (i := 12) rfl)) (by decide) (Nat.le_of_ble_eq_true rfl) ?_
  refine rx_aload_n 4 dX1_init_4 rfl 0 rfl ?_
  refine rx_iconst 5 (x := (0 : Int32)) dX1_init_5 (by decide) ?_
  refine rx_put 6 0 0 tyX1 (ty := .int) dX1_init_6 inlX1 tyX1_ok nmX1 lfX1_9 rfl rfl (by decide) rfl (by decide +kernel) rfl rfl (Nat.le_of_ble_eq_true rfl) ?_
  refine rx_aload_n 9 dX1_init_9 rfl 0 rfl ?_
  refine rx_bipush 10 (x := (10 : Int32)) dX1_init_10 (by decide) ?_
  refine rx_newa 12 0 (N := 10) dX1_init_12 (rin2 _ (List.mem_of_getElem? (i := 19) rfl)) rfl (fun _ => rfl) (by decide) (by decide) (by decide) (Nat.le_of_ble_eq_true rfl) (Nat.le_of_ble_eq_true rfl) (fun a12_1 => ?_)
  refine rx_putF 14 0 1 tyX1 (ty := (.array .int)) dX1_init_14 inlX1 tyX1_ok nmX1 lfX1_15 rfl rfl (by decide) rfl rfl rfl (by decide +kernel) rfl rfl (Nat.le_of_ble_eq_true rfl) ?_
  refine rx_aload_n 17 dX1_init_17 rfl 0 rfl ?_
  refine rx_bipush 18 (x := (10 : Int32)) dX1_init_18 (by decide) ?_
  refine rx_newa 20 0 (N := 10) dX1_init_20 (rin2 _ (List.mem_of_getElem? (i := 19) rfl)) rfl (fun _ => rfl) (by decide) (by decide) (by decide) (Nat.le_of_ble_eq_true rfl) (Nat.le_of_ble_eq_true rfl) (fun a20_2 => ?_)
  refine rx_putF 22 0 2 tyX1 (ty := (.array .int)) dX1_init_22 inlX1 tyX1_ok nmX1 lfX1_19 rfl rfl (by decide) rfl rfl rfl (by decide +kernel) rfl rfl (Nat.le_of_ble_eq_true rfl) ?_
  refine rx_aload_n 25 dX1_init_25 rfl 0 rfl ?_
  refine rx_bipush 26 (x := (10 : Int32)) dX1_init_26 (by decide) ?_
  refine rx_newa 28 0 (N := 10) dX1_init_28 (rin2 _ (List.mem_of_getElem? (i := 19) rfl)) rfl (fun _ => rfl) (by decide) (by decide) (by decide) (Nat.le_of_ble_eq_true rfl) (Nat.le_of_ble_eq_true rfl) (fun a28_3 => ?_)
  refine rx_putF 30 0 3 tyX1 (ty := (.array .int)) dX1_init_30 inlX1 tyX1_ok nmX1 lfX1_22 rfl rfl (by decide) rfl rfl rfl (by decide +kernel) rfl rfl (Nat.le_of_ble_eq_true rfl) ?_
  refine rx_aload_n 33 dX1_init_33 rfl 0 rfl ?_
  refine rx_bipush 34 (x := (60 : Int32)) dX1_init_34 (by decide) ?_
  refine rx_put 36 0 4 tyX1 (ty := .int) dX1_init_36 inlX1 tyX1_ok nmX1 lfX1_25 rfl rfl (by decide) rfl (by decide +kernel) rfl rfl (Nat.le_of_ble_eq_true rfl) ?_
  refine rx_aload_n 39 dX1_init_39 rfl 0 rfl ?_
  refine rx_iconst 40 (x := (0 : Int32)) dX1_init_40 (by decide) ?_
  refine rx_put 41 0 5 tyX1 (ty := .int) dX1_init_41 inlX1 tyX1_ok nmX1 lfX1_28 rfl rfl (by decide) rfl (by decide +kernel) rfl rfl (Nat.le_of_ble_eq_true rfl) ?_
  refine rx_aload_n 44 dX1_init_44 rfl 0 rfl ?_
  refine rx_bipush 45 (x := (10 : Int32)) dX1_init_45 (by decide) ?_
  refine rx_newa 47 0 (N := 10) dX1_init_47 (rin2 _ (List.mem_of_getElem? (i := 19) rfl)) rfl (fun _ => rfl) (by decide) (by decide) (by decide) (Nat.le_of_ble_eq_true rfl) (Nat.le_of_ble_eq_true rfl) (fun a47_4 => ?_)
  refine rx_putF 49 0 6 tyX1 (ty := (.array .int)) dX1_init_49 inlX1 tyX1_ok nmX1 lfX1_31 rfl rfl (by decide) rfl rfl rfl (by decide +kernel) rfl rfl (Nat.le_of_ble_eq_true rfl) ?_
  refine rx_aload_n 52 dX1_init_52 rfl 0 rfl ?_
  refine rx_iconst 53 (x := (0 : Int32)) dX1_init_53 (by decide) ?_
  refine rx_put 54 0 7 tyX1 (ty := .int) dX1_init_54 inlX1 tyX1_ok nmX1 lfX1_34 rfl rfl (by decide) rfl (by decide +kernel) rfl rfl (Nat.le_of_ble_eq_true rfl) ?_
  refine rx_aload_n 57 dX1_init_57 rfl 0 rfl ?_
  refine rx_bipush 58 (x := (10 : Int32)) dX1_init_58 (by decide) ?_
  refine rx_newa 60 0 (N := 10) dX1_init_60 (rin2 _ (List.mem_of_getElem? (i := 19) rfl)) rfl (fun _ => rfl) (by decide) (by decide) (by decide) (Nat.le_of_ble_eq_true rfl) (Nat.le_of_ble_eq_true rfl) (fun a60_5 => ?_)
  refine rx_putF 62 0 8 tyX1 (ty := (.array .int)) dX1_init_62 inlX1 tyX1_ok nmX1 lfX1_37 rfl rfl (by decide) rfl rfl rfl (by decide +kernel) rfl rfl (Nat.le_of_ble_eq_true rfl) ?_
  refine rx_aload_n 65 dX1_init_65 rfl 0 rfl ?_
  refine rx_iconst 66 (x := (0 : Int32)) dX1_init_66 (by decide) ?_
  refine rx_put 67 0 9 tyX1 (ty := .int) dX1_init_67 inlX1 tyX1_ok nmX1 lfX1_40 rfl rfl (by decide) rfl (by decide +kernel) rfl rfl (Nat.le_of_ble_eq_true rfl) ?_
  refine rx_aload_n 70 dX1_init_70 rfl 0 rfl ?_
  refine rx_bipush 71 (x := (120 : Int32)) dX1_init_71 (by decide) ?_
  refine rx_newa 73 1 (N := 120) dX1_init_73 (rin3 _ (List.mem_of_getElem? (i := 5) rfl)) rfl (fun _ => rfl) (by decide) (by decide) (by decide) (Nat.le_of_ble_eq_true rfl) (Nat.le_of_ble_eq_true rfl) (fun a73_6 => ?_)
  refine rx_putF 75 0 10 tyX1 (ty := (.array .byte)) dX1_init_75 inlX1 tyX1_ok nmX1 lfX1_43 rfl rfl (by decide) rfl rfl rfl (by decide +kernel) rfl rfl (Nat.le_of_ble_eq_true rfl) ?_
  refine rx_aload_n 78 dX1_init_78 rfl 0 rfl ?_
  refine rx_iconst 79 (x := (0 : Int32)) dX1_init_79 (by decide) ?_
  refine rx_put 80 0 11 tyX1 (ty := .int) dX1_init_80 inlX1 tyX1_ok nmX1 lfX1_47 rfl rfl (by decide) rfl (by decide +kernel) rfl rfl (Nat.le_of_ble_eq_true rfl) ?_
  exact rx_vret 83 dX1_init_83 rfl rfl ⟨a12_1, a20_2, a28_3, a47_4, a60_5, a73_6, rfl⟩
def rX3_init : rxM := (yX3_init, cX3_init, 1, 1, 40, 5, 160)
theorem okrX3_init : rx_ok rX3_init 0 := ⟨(rin4 _ (List.mem_of_getElem? (i := 2) rfl)), (rin2 _ (List.mem_of_getElem? (i := 6) rfl)), ⟨by decide +kernel, by decide +kernel, by decide +kernel⟩, (rin4 _ (List.mem_of_getElem? (i := 1) rfl)), rfl⟩
set_option maxRecDepth 100000 in
set_option maxHeartbeats 4000000 in
theorem ctX3_init (E : fxE) (h0 : Nat) : rx_T rX3_init E [.ref h0] [(h0, .inr (3, [.int 0, .int 0, .int 0, .int 0, .null, .null, .null, .null, .int 0, .null]))] (fun w => ∃ a28_1 a36_2 a44_3 a52_4 a65_5 : Nat, w = [(h0, .inr (3, [.int (3 : Int32), .int (50 : Int32), .int (2 : Int32), .int (0 : Int32), .ref a28_1, .ref a36_2, .ref a44_3, .ref a52_4, .int (0 : Int32), .ref a65_5])), (a28_1, .inl (E.2.2.2.1 0, 10, .inl (fun _ => 0))), (a36_2, .inl (E.2.2.2.1 0, 10, .inl (fun _ => 0))), (a44_3, .inl (E.2.2.2.1 0, 10, .inl (fun _ => 0))), (a52_4, .inl (E.2.2.2.1 0, 10, .inl (fun _ => 0))), (a65_5, .inl (E.2.2.2.1 0, 120, .inl (fun _ => 0)))]) := by
  refine rx_enter (by show plainName RX3 = true; decide) (Nat.le_of_ble_eq_true rfl) (fun A => ?_)
  show rx_V _ _ _ _ 0 [(0, .ref h0)] [] _ 0 0
  refine rx_aload_n 0 dX3_init_0 rfl 0 rfl ?_
  refine rx_obj 1 dX3_init_1 lmX3_3 (rin1 _ (List.mem_of_getElem? (i := 11) rfl)) (rin1 _ (List.mem_of_getElem? (i := 12) rfl)) (by decide) (Nat.le_of_ble_eq_true rfl) ?_
  refine rx_aload_n 4 dX3_init_4 rfl 0 rfl ?_
  refine rx_iconst 5 (x := (3 : Int32)) dX3_init_5 (by decide) ?_
  refine rx_put 6 0 0 tyX3 (ty := .int) dX3_init_6 inlX3 tyX3_ok nmX3 lfX3_9 rfl rfl (by decide) rfl (by decide +kernel) rfl rfl (Nat.le_of_ble_eq_true rfl) ?_
  refine rx_aload_n 9 dX3_init_9 rfl 0 rfl ?_
  refine rx_bipush 10 (x := (50 : Int32)) dX3_init_10 (by decide) ?_
  refine rx_put 12 0 1 tyX3 (ty := .int) dX3_init_12 inlX3 tyX3_ok nmX3 lfX3_15 rfl rfl (by decide) rfl (by decide +kernel) rfl rfl (Nat.le_of_ble_eq_true rfl) ?_
  refine rx_aload_n 15 dX3_init_15 rfl 0 rfl ?_
  refine rx_iconst 16 (x := (2 : Int32)) dX3_init_16 (by decide) ?_
  refine rx_put 17 0 2 tyX3 (ty := .int) dX3_init_17 inlX3 tyX3_ok nmX3 lfX3_18 rfl rfl (by decide) rfl (by decide +kernel) rfl rfl (Nat.le_of_ble_eq_true rfl) ?_
  refine rx_aload_n 20 dX3_init_20 rfl 0 rfl ?_
  refine rx_iconst 21 (x := (0 : Int32)) dX3_init_21 (by decide) ?_
  refine rx_put 22 0 3 tyX3 (ty := .int) dX3_init_22 inlX3 tyX3_ok nmX3 lfX3_21 rfl rfl (by decide) rfl (by decide +kernel) rfl rfl (Nat.le_of_ble_eq_true rfl) ?_
  refine rx_aload_n 25 dX3_init_25 rfl 0 rfl ?_
  refine rx_bipush 26 (x := (10 : Int32)) dX3_init_26 (by decide) ?_
  refine rx_newa 28 0 (N := 10) dX3_init_28 (rin2 _ (List.mem_of_getElem? (i := 19) rfl)) rfl (fun _ => rfl) (by decide) (by decide) (by decide) (Nat.le_of_ble_eq_true rfl) (Nat.le_of_ble_eq_true rfl) (fun a28_1 => ?_)
  refine rx_putF 30 0 4 tyX3 (ty := (.array .int)) dX3_init_30 inlX3 tyX3_ok nmX3 lfX3_24 rfl rfl (by decide) rfl rfl rfl (by decide +kernel) rfl rfl (Nat.le_of_ble_eq_true rfl) ?_
  refine rx_aload_n 33 dX3_init_33 rfl 0 rfl ?_
  refine rx_bipush 34 (x := (10 : Int32)) dX3_init_34 (by decide) ?_
  refine rx_newa 36 0 (N := 10) dX3_init_36 (rin2 _ (List.mem_of_getElem? (i := 19) rfl)) rfl (fun _ => rfl) (by decide) (by decide) (by decide) (Nat.le_of_ble_eq_true rfl) (Nat.le_of_ble_eq_true rfl) (fun a36_2 => ?_)
  refine rx_putF 38 0 5 tyX3 (ty := (.array .int)) dX3_init_38 inlX3 tyX3_ok nmX3 lfX3_28 rfl rfl (by decide) rfl rfl rfl (by decide +kernel) rfl rfl (Nat.le_of_ble_eq_true rfl) ?_
  refine rx_aload_n 41 dX3_init_41 rfl 0 rfl ?_
  refine rx_bipush 42 (x := (10 : Int32)) dX3_init_42 (by decide) ?_
  refine rx_newa 44 0 (N := 10) dX3_init_44 (rin2 _ (List.mem_of_getElem? (i := 19) rfl)) rfl (fun _ => rfl) (by decide) (by decide) (by decide) (Nat.le_of_ble_eq_true rfl) (Nat.le_of_ble_eq_true rfl) (fun a44_3 => ?_)
  refine rx_putF 46 0 6 tyX3 (ty := (.array .int)) dX3_init_46 inlX3 tyX3_ok nmX3 lfX3_31 rfl rfl (by decide) rfl rfl rfl (by decide +kernel) rfl rfl (Nat.le_of_ble_eq_true rfl) ?_
  refine rx_aload_n 49 dX3_init_49 rfl 0 rfl ?_
  refine rx_bipush 50 (x := (10 : Int32)) dX3_init_50 (by decide) ?_
  refine rx_newa 52 0 (N := 10) dX3_init_52 (rin2 _ (List.mem_of_getElem? (i := 19) rfl)) rfl (fun _ => rfl) (by decide) (by decide) (by decide) (Nat.le_of_ble_eq_true rfl) (Nat.le_of_ble_eq_true rfl) (fun a52_4 => ?_)
  refine rx_putF 54 0 7 tyX3 (ty := (.array .int)) dX3_init_54 inlX3 tyX3_ok nmX3 lfX3_34 rfl rfl (by decide) rfl rfl rfl (by decide +kernel) rfl rfl (Nat.le_of_ble_eq_true rfl) ?_
  refine rx_aload_n 57 dX3_init_57 rfl 0 rfl ?_
  refine rx_iconst 58 (x := (0 : Int32)) dX3_init_58 (by decide) ?_
  refine rx_put 59 0 8 tyX3 (ty := .int) dX3_init_59 inlX3 tyX3_ok nmX3 lfX3_37 rfl rfl (by decide) rfl (by decide +kernel) rfl rfl (Nat.le_of_ble_eq_true rfl) ?_
  refine rx_aload_n 62 dX3_init_62 rfl 0 rfl ?_
  refine rx_bipush 63 (x := (120 : Int32)) dX3_init_63 (by decide) ?_
  refine rx_newa 65 0 (N := 120) dX3_init_65 (rin2 _ (List.mem_of_getElem? (i := 19) rfl)) rfl (fun _ => rfl) (by decide) (by decide) (by decide) (Nat.le_of_ble_eq_true rfl) (Nat.le_of_ble_eq_true rfl) (fun a65_5 => ?_)
  refine rx_putF 67 0 9 tyX3 (ty := (.array .int)) dX3_init_67 inlX3 tyX3_ok nmX3 lfX3_40 rfl rfl (by decide) rfl rfl rfl (by decide +kernel) rfl rfl (Nat.le_of_ble_eq_true rfl) ?_
  exact rx_vret 70 dX3_init_70 rfl rfl ⟨a28_1, a36_2, a44_3, a52_4, a65_5, rfl⟩
def rX2_init : rxM := (yX2_init, cX2_init, 3, 1, 40, 0, 0)
theorem okrX2_init : rx_ok rX2_init 2 := ⟨(rin4 _ (List.mem_of_getElem? (i := 16) rfl)), (rin2 _ (List.mem_of_getElem? (i := 9) rfl)), ⟨by decide +kernel, by decide +kernel, by decide +kernel⟩, (rin4 _ (List.mem_of_getElem? (i := 15) rfl)), rfl⟩
set_option maxRecDepth 100000 in
set_option maxHeartbeats 4000000 in
theorem ctX2_init (E : fxE) (h0 p0 p1 : Nat) : rx_T rX2_init E [.ref h0, .ref p0, .ref p1] [(h0, .inr (2, [.null, .null, .int 0]))] (fun w => w = [(h0, .inr (2, [.ref p0, .ref p1, .int (0 : Int32)]))]) := by
  refine rx_enter (by show plainName RX2 = true; decide) (Nat.le_of_ble_eq_true rfl) (fun A => ?_)
  show rx_V _ _ _ _ 0 [(0, .ref h0), (1, .ref p0), (2, .ref p1)] [] _ 0 0
  refine rx_aload_n 0 dX2_init_0 rfl 0 rfl ?_
  refine rx_obj 1 dX2_init_1 lmX2_3 (rin1 _ (List.mem_of_getElem? (i := 11) rfl)) (rin1 _ (List.mem_of_getElem? (i := 12) rfl)) (by decide) (Nat.le_of_ble_eq_true rfl) ?_
  refine rx_aload_n 4 dX2_init_4 rfl 0 rfl ?_
  refine rx_iconst 5 (x := (0 : Int32)) dX2_init_5 (by decide) ?_
  refine rx_put 6 0 2 tyX2 (ty := .int) dX2_init_6 inlX2 tyX2_ok nmX2 lfX2_9 rfl rfl (by decide) rfl (by decide +kernel) rfl rfl (Nat.le_of_ble_eq_true rfl) ?_
  refine rx_aload_n 9 dX2_init_9 rfl 0 rfl ?_
  refine rx_aload_n 10 dX2_init_10 rfl 1 rfl ?_
  refine rx_putF 11 0 0 tyX2 (ty := (.object "FieldBand$Field")) dX2_init_11 inlX2 tyX2_ok nmX2 lfX2_15 rfl rfl (by decide) rfl rfl rfl (by decide +kernel) rfl rfl (Nat.le_of_ble_eq_true rfl) ?_
  refine rx_aload_n 14 dX2_init_14 rfl 0 rfl ?_
  refine rx_aload_n 15 dX2_init_15 rfl 2 rfl ?_
  refine rx_put 16 0 1 tyX2 (ty := (.object "FieldBand$Show")) dX2_init_16 inlX2 tyX2_ok nmX2 lfX2_19 rfl rfl (by decide) rfl (by decide +kernel) rfl rfl (Nat.le_of_ble_eq_true rfl) ?_
  exact rx_vret 19 dX2_init_19 rfl rfl rfl
def rX4_init : rxM := (yX4_init, cX4_init, 3, 3, 120, 5, 45)
theorem okrX4_init : rx_ok rX4_init 2 := ⟨(rin4 _ (List.mem_of_getElem? (i := 23) rfl)), (rin2 _ (List.mem_of_getElem? (i := 13) rfl)), ⟨by decide +kernel, by decide +kernel, by decide +kernel⟩, (rin4 _ (List.mem_of_getElem? (i := 22) rfl)), rfl⟩
set_option maxRecDepth 100000 in
set_option maxHeartbeats 4000000 in
theorem ctX4_init (E : fxE) (h0 p0 p1 : Nat) : rx_T rX4_init E [.ref h0, .ref p0, .ref p1] [(h0, .inr (4, [.null, .null, .int 0, .int 0, .null, .null, .null, .null, .null]))] (fun w => ∃ a18_1 a26_2 a34_3 a42_4 a53_5 : Nat, w = [(h0, .inr (4, [.ref p0, .ref p1, .int (60 : Int32), .int (-1 : Int32), .ref a18_1, .ref a26_2, .ref a34_3, .ref a42_4, .ref a53_5])), (a18_1, .inl (E.2.2.2.1 0, 10, .inl (fun _ => 0))), (a26_2, .inl (E.2.2.2.1 0, 10, .inl (fun _ => 0))), (a34_3, .inl (E.2.2.2.1 0, 10, .inl (fun _ => 0))), (a42_4, .inl (E.2.2.2.1 0, 10, .inl (fun _ => 0))), (a53_5, .inl (E.2.2.2.1 0, 5, .inl (fun _ => 0)))]) := by
  refine rx_enter (by show plainName RX4 = true; decide) (Nat.le_of_ble_eq_true rfl) (fun A => ?_)
  show rx_V _ _ _ _ 0 [(0, .ref h0), (1, .ref p0), (2, .ref p1)] [] _ 0 0
  refine rx_aload_n 0 dX4_init_0 rfl 0 rfl ?_
  refine rx_obj 1 dX4_init_1 lmX4_3 (rin1 _ (List.mem_of_getElem? (i := 11) rfl)) (rin1 _ (List.mem_of_getElem? (i := 12) rfl)) (by decide) (Nat.le_of_ble_eq_true rfl) ?_
  refine rx_aload_n 4 dX4_init_4 rfl 0 rfl ?_
  refine rx_bipush 5 (x := (60 : Int32)) dX4_init_5 (by decide) ?_
  refine rx_put 7 0 2 tyX4 (ty := .int) dX4_init_7 inlX4 tyX4_ok nmX4 lfX4_9 rfl rfl (by decide) rfl (by decide +kernel) rfl rfl (Nat.le_of_ble_eq_true rfl) ?_
  refine rx_aload_n 10 dX4_init_10 rfl 0 rfl ?_
  refine rx_iconst 11 (x := (-1 : Int32)) dX4_init_11 (by decide) ?_
  refine rx_put 12 0 3 tyX4 (ty := .int) dX4_init_12 inlX4 tyX4_ok nmX4 lfX4_15 rfl rfl (by decide) rfl (by decide +kernel) rfl rfl (Nat.le_of_ble_eq_true rfl) ?_
  refine rx_aload_n 15 dX4_init_15 rfl 0 rfl ?_
  refine rx_bipush 16 (x := (10 : Int32)) dX4_init_16 (by decide) ?_
  refine rx_newa 18 0 (N := 10) dX4_init_18 (rin2 _ (List.mem_of_getElem? (i := 19) rfl)) rfl (fun _ => rfl) (by decide) (by decide) (by decide) (Nat.le_of_ble_eq_true rfl) (Nat.le_of_ble_eq_true rfl) (fun a18_1 => ?_)
  refine rx_putF 20 0 4 tyX4 (ty := (.array .int)) dX4_init_20 inlX4 tyX4_ok nmX4 lfX4_18 rfl rfl (by decide) rfl rfl rfl (by decide +kernel) rfl rfl (Nat.le_of_ble_eq_true rfl) ?_
  refine rx_aload_n 23 dX4_init_23 rfl 0 rfl ?_
  refine rx_bipush 24 (x := (10 : Int32)) dX4_init_24 (by decide) ?_
  refine rx_newa 26 0 (N := 10) dX4_init_26 (rin2 _ (List.mem_of_getElem? (i := 19) rfl)) rfl (fun _ => rfl) (by decide) (by decide) (by decide) (Nat.le_of_ble_eq_true rfl) (Nat.le_of_ble_eq_true rfl) (fun a26_2 => ?_)
  refine rx_putF 28 0 5 tyX4 (ty := (.array .int)) dX4_init_28 inlX4 tyX4_ok nmX4 lfX4_22 rfl rfl (by decide) rfl rfl rfl (by decide +kernel) rfl rfl (Nat.le_of_ble_eq_true rfl) ?_
  refine rx_aload_n 31 dX4_init_31 rfl 0 rfl ?_
  refine rx_bipush 32 (x := (10 : Int32)) dX4_init_32 (by decide) ?_
  refine rx_newa 34 0 (N := 10) dX4_init_34 (rin2 _ (List.mem_of_getElem? (i := 19) rfl)) rfl (fun _ => rfl) (by decide) (by decide) (by decide) (Nat.le_of_ble_eq_true rfl) (Nat.le_of_ble_eq_true rfl) (fun a34_3 => ?_)
  refine rx_putF 36 0 6 tyX4 (ty := (.array .int)) dX4_init_36 inlX4 tyX4_ok nmX4 lfX4_25 rfl rfl (by decide) rfl rfl rfl (by decide +kernel) rfl rfl (Nat.le_of_ble_eq_true rfl) ?_
  refine rx_aload_n 39 dX4_init_39 rfl 0 rfl ?_
  refine rx_bipush 40 (x := (10 : Int32)) dX4_init_40 (by decide) ?_
  refine rx_newa 42 0 (N := 10) dX4_init_42 (rin2 _ (List.mem_of_getElem? (i := 19) rfl)) rfl (fun _ => rfl) (by decide) (by decide) (by decide) (Nat.le_of_ble_eq_true rfl) (Nat.le_of_ble_eq_true rfl) (fun a42_4 => ?_)
  refine rx_putF 44 0 7 tyX4 (ty := (.array .int)) dX4_init_44 inlX4 tyX4_ok nmX4 lfX4_28 rfl rfl (by decide) rfl rfl rfl (by decide +kernel) rfl rfl (Nat.le_of_ble_eq_true rfl) ?_
  refine rx_aload_n 47 dX4_init_47 rfl 0 rfl ?_
  refine rx_ldcS 48 0 (by decide) dX4_init_48 ⟨rfl, rfl⟩ ?_
  refine rx_slen 50 (i := 0) (x := (5 : Int32)) (by decide) (by decide) dX4_init_50 lmX4_33 (by decide) (Nat.le_of_ble_eq_true rfl) (Nat.le_of_ble_eq_true rfl) (Nat.le_of_ble_eq_true rfl) ?_
  refine rx_newa 53 0 (N := 5) dX4_init_53 (rin2 _ (List.mem_of_getElem? (i := 19) rfl)) rfl (fun _ => rfl) (by decide) (by decide) (by decide) (Nat.le_of_ble_eq_true rfl) (Nat.le_of_ble_eq_true rfl) (fun a53_5 => ?_)
  refine rx_putF 55 0 8 tyX4 (ty := (.array .int)) dX4_init_55 inlX4 tyX4_ok nmX4 lfX4_39 rfl rfl (by decide) rfl rfl rfl (by decide +kernel) rfl rfl (Nat.le_of_ble_eq_true rfl) ?_
  refine rx_aload_n 58 dX4_init_58 rfl 0 rfl ?_
  refine rx_aload_n 59 dX4_init_59 rfl 1 rfl ?_
  refine rx_putF 60 0 0 tyX4 (ty := (.object "FieldBand$Field")) dX4_init_60 inlX4 tyX4_ok nmX4 lfX4_42 rfl rfl (by decide) rfl rfl rfl (by decide +kernel) rfl rfl (Nat.le_of_ble_eq_true rfl) ?_
  refine rx_aload_n 63 dX4_init_63 rfl 0 rfl ?_
  refine rx_aload_n 64 dX4_init_64 rfl 2 rfl ?_
  refine rx_put 65 0 1 tyX4 (ty := (.object "FieldBand$Show")) dX4_init_65 inlX4 tyX4_ok nmX4 lfX4_46 rfl rfl (by decide) rfl (by decide +kernel) rfl rfl (Nat.le_of_ble_eq_true rfl) ?_
  exact rx_vret 68 dX4_init_68 rfl rfl ⟨a18_1, a26_2, a34_3, a42_4, a53_5, rfl⟩
def rX5_init : rxM := (yX5_init, cX5_init, 2, 1, 40, 2, 12)
theorem okrX5_init : rx_ok rX5_init 1 := ⟨(rin3 _ (List.mem_of_getElem? (i := 10) rfl)), (rin1 _ (List.mem_of_getElem? (i := 23) rfl)), ⟨by decide +kernel, by decide +kernel, by decide +kernel⟩, (rin3 _ (List.mem_of_getElem? (i := 9) rfl)), rfl⟩
set_option maxRecDepth 100000 in
set_option maxHeartbeats 4000000 in
theorem ctX5_init (E : fxE) (h0 p0 : Nat) : rx_T rX5_init E [.ref h0, .ref p0] [(h0, .inr (5, [.null, .null, .null, .int 0, .int 0]))] (fun w => ∃ a7_1 a15_2 : Nat, w = [(h0, .inr (5, [.ref p0, .ref a7_1, .ref a15_2, .int (0 : Int32), .int (0 : Int32)])), (a7_1, .inl (E.2.2.2.1 0, 6, .inl (fun _ => 0))), (a15_2, .inl (E.2.2.2.1 0, 6, .inl (fun _ => 0)))]) := by
  refine rx_enter (by show plainName RX5 = true; decide) (Nat.le_of_ble_eq_true rfl) (fun A => ?_)
  show rx_V _ _ _ _ 0 [(0, .ref h0), (1, .ref p0)] [] _ 0 0
  refine rx_aload_n 0 dX5_init_0 rfl 0 rfl ?_
  refine rx_obj 1 dX5_init_1 lmX5_3 (rin1 _ (List.mem_of_getElem? (i := 11) rfl)) (rin1 _ (List.mem_of_getElem? (i := 12) rfl)) (by decide) (Nat.le_of_ble_eq_true rfl) ?_
  refine rx_aload_n 4 dX5_init_4 rfl 0 rfl ?_
  refine rx_bipush 5 (x := (6 : Int32)) dX5_init_5 (by decide) ?_
  refine rx_newa 7 0 (N := 6) dX5_init_7 (rin2 _ (List.mem_of_getElem? (i := 19) rfl)) rfl (fun _ => rfl) (by decide) (by decide) (by decide) (Nat.le_of_ble_eq_true rfl) (Nat.le_of_ble_eq_true rfl) (fun a7_1 => ?_)
  refine rx_putF 9 0 1 tyX5 (ty := (.array .int)) dX5_init_9 inlX5 tyX5_ok nmX5 lfX5_9 rfl rfl (by decide) rfl rfl rfl (by decide +kernel) rfl rfl (Nat.le_of_ble_eq_true rfl) ?_
  refine rx_aload_n 12 dX5_init_12 rfl 0 rfl ?_
  refine rx_bipush 13 (x := (6 : Int32)) dX5_init_13 (by decide) ?_
  refine rx_newa 15 0 (N := 6) dX5_init_15 (rin2 _ (List.mem_of_getElem? (i := 19) rfl)) rfl (fun _ => rfl) (by decide) (by decide) (by decide) (Nat.le_of_ble_eq_true rfl) (Nat.le_of_ble_eq_true rfl) (fun a15_2 => ?_)
  refine rx_putF 17 0 2 tyX5 (ty := (.array .int)) dX5_init_17 inlX5 tyX5_ok nmX5 lfX5_15 rfl rfl (by decide) rfl rfl rfl (by decide +kernel) rfl rfl (Nat.le_of_ble_eq_true rfl) ?_
  refine rx_aload_n 20 dX5_init_20 rfl 0 rfl ?_
  refine rx_iconst 21 (x := (0 : Int32)) dX5_init_21 (by decide) ?_
  refine rx_put 22 0 3 tyX5 (ty := .int) dX5_init_22 inlX5 tyX5_ok nmX5 lfX5_18 rfl rfl (by decide) rfl (by decide +kernel) rfl rfl (Nat.le_of_ble_eq_true rfl) ?_
  refine rx_aload_n 25 dX5_init_25 rfl 0 rfl ?_
  refine rx_iconst 26 (x := (0 : Int32)) dX5_init_26 (by decide) ?_
  refine rx_put 27 0 4 tyX5 (ty := .int) dX5_init_27 inlX5 tyX5_ok nmX5 lfX5_22 rfl rfl (by decide) rfl (by decide +kernel) rfl rfl (Nat.le_of_ble_eq_true rfl) ?_
  refine rx_aload_n 30 dX5_init_30 rfl 0 rfl ?_
  refine rx_aload_n 31 dX5_init_31 rfl 1 rfl ?_
  refine rx_putF 32 0 0 tyX5 (ty := (.object "FieldBand$Field")) dX5_init_32 inlX5 tyX5_ok nmX5 lfX5_25 rfl rfl (by decide) rfl rfl rfl (by decide +kernel) rfl rfl (Nat.le_of_ble_eq_true rfl) ?_
  exact rx_vret 35 dX5_init_35 rfl rfl ⟨a7_1, a15_2, rfl⟩
def rX0_init : rxM := (yX0_init, cX0_init, 1, 1, 40, 1, 20)
theorem okrX0_init : rx_ok rX0_init 0 := ⟨(rin3 _ (List.mem_of_getElem? (i := 18) rfl)), (rin2 _ (List.mem_of_getElem? (i := 3) rfl)), ⟨by decide +kernel, by decide +kernel, by decide +kernel⟩, (rin3 _ (List.mem_of_getElem? (i := 17) rfl)), rfl⟩
set_option maxRecDepth 100000 in
set_option maxHeartbeats 4000000 in
theorem ctX0_init (E : fxE) (h0 : Nat) : rx_T rX0_init E [.ref h0] [(h0, .inr (0, [.int 0, .int 0, .int 0, .int 0, .null]))] (fun w => ∃ a27_1 : Nat, w = [(h0, .inr (0, [.int (0 : Int32), .int (0 : Int32), .int (0 : Int32), .int (0 : Int32), .ref a27_1])), (a27_1, .inl (E.2.2.2.1 0, 20, .inl (fun _ => 0)))]) := by
  refine rx_enter (by show plainName RX0 = true; decide) (Nat.le_of_ble_eq_true rfl) (fun A => ?_)
  show rx_V _ _ _ _ 0 [(0, .ref h0)] [] _ 0 0
  refine rx_aload_n 0 dX0_init_0 rfl 0 rfl ?_
  refine rx_obj 1 dX0_init_1 lmX0_3 (rin1 _ (List.mem_of_getElem? (i := 11) rfl)) (rin1 _ (List.mem_of_getElem? (i := 12) rfl)) (by decide) (Nat.le_of_ble_eq_true rfl) ?_
  refine rx_aload_n 4 dX0_init_4 rfl 0 rfl ?_
  refine rx_iconst 5 (x := (0 : Int32)) dX0_init_5 (by decide) ?_
  refine rx_put 6 0 0 tyX0 (ty := .int) dX0_init_6 inlX0 tyX0_ok nmX0 lfX0_9 rfl rfl (by decide) rfl (by decide +kernel) rfl rfl (Nat.le_of_ble_eq_true rfl) ?_
  refine rx_aload_n 9 dX0_init_9 rfl 0 rfl ?_
  refine rx_iconst 10 (x := (0 : Int32)) dX0_init_10 (by decide) ?_
  refine rx_put 11 0 1 tyX0 (ty := .int) dX0_init_11 inlX0 tyX0_ok nmX0 lfX0_15 rfl rfl (by decide) rfl (by decide +kernel) rfl rfl (Nat.le_of_ble_eq_true rfl) ?_
  refine rx_aload_n 14 dX0_init_14 rfl 0 rfl ?_
  refine rx_iconst 15 (x := (0 : Int32)) dX0_init_15 (by decide) ?_
  refine rx_put 16 0 2 tyX0 (ty := .int) dX0_init_16 inlX0 tyX0_ok nmX0 lfX0_18 rfl rfl (by decide) rfl (by decide +kernel) rfl rfl (Nat.le_of_ble_eq_true rfl) ?_
  refine rx_aload_n 19 dX0_init_19 rfl 0 rfl ?_
  refine rx_iconst 20 (x := (0 : Int32)) dX0_init_20 (by decide) ?_
  refine rx_put 21 0 3 tyX0 (ty := .int) dX0_init_21 inlX0 tyX0_ok nmX0 lfX0_21 rfl rfl (by decide) rfl (by decide +kernel) rfl rfl (Nat.le_of_ble_eq_true rfl) ?_
  refine rx_aload_n 24 dX0_init_24 rfl 0 rfl ?_
  refine rx_bipush 25 (x := (20 : Int32)) dX0_init_25 (by decide) ?_
  refine rx_newa 27 0 (N := 20) dX0_init_27 (rin2 _ (List.mem_of_getElem? (i := 19) rfl)) rfl (fun _ => rfl) (by decide) (by decide) (by decide) (Nat.le_of_ble_eq_true rfl) (Nat.le_of_ble_eq_true rfl) (fun a27_1 => ?_)
  refine rx_putF 29 0 4 tyX0 (ty := (.array .int)) dX0_init_29 inlX0 tyX0_ok nmX0 lfX0_24 rfl rfl (by decide) rfl rfl rfl (by decide +kernel) rfl rfl (Nat.le_of_ble_eq_true rfl) ?_
  exact rx_vret 32 dX0_init_32 rfl rfl ⟨a27_1, rfl⟩
def rX6_init : rxM := (yX6_init, cX6_init, 2, 4, 200, 63, 1489)
theorem okrX6_init : rx_ok rX6_init 0 := ⟨(rin1 _ (List.mem_of_getElem? (i := 9) rfl)), (rin1 _ (List.mem_of_getElem? (i := 2) rfl)), ⟨by decide +kernel, by decide +kernel, by decide +kernel⟩, (rin1 _ (List.mem_of_getElem? (i := 8) rfl)), rfl⟩
/-- the class's memory as its constructor leaves it -/
def fxM0 : fxMem := fun k => if k = 1 then (fun j => if j = 4 then 60 else 0) else if k = 8 then (fun j => if j = 4 then 60 else 0) else if k = 16 then (fun j => if j = 1 then nI 20 else 0) else if k = 58 then (fun j => if j = 1 then nI 20 else if j = 2 then 60 else if j = 3 then -1 else 0) else if k = 20 ∨ k = 26 ∨ k = 32 ∨ k = 38 ∨ k = 44 ∨ k = 50 then (fun j => if j = 0 then 3 else if j = 1 then 50 else if j = 2 then 2 else 0) else fun _ => 0
def fxM1 : fxMem := fun k => if k = 0 then (fun j => if j = 13 then -1 else 0) else if k = 1 then upd (upd (fun _ => 0) 5 60) 6 (-1) else fun _ => 0
def fx_adE (E : fxE) (ad : Nat → Nat) : fxE := (ad, E.2)
set_option maxRecDepth 100000 in
set_option maxHeartbeats 8000000 in
theorem ctX6_init (E : fxE) (h0 : Nat) : rx_T rX6_init E [.ref h0] [(h0, .inr (6, [.null, .null, .int 0, .null, .null, .null, .null, .null]))] (fun w => ∃ ad : Nat → Nat, ad 0 = h0 ∧ [0, 1, 2, 3, 4, 5, 6, 7, 8, 9, 10, 11, 12, 13, 14, 15, 57, 19, 20, 16, 21, 22, 23, 24, 25, 26, 27, 28, 29, 30, 31, 32, 33, 34, 35, 36, 37, 38, 39, 40, 41, 42, 43, 44, 45, 46, 47, 48, 49, 50, 51, 52, 53, 54, 55, 56, 17, 18, 58, 59, 60, 61, 62, 63].map (fun i => w[i]?) = ((List.range 64).map (fun k => (ad k, gC.2 ad E.2.2.2.1 k (fxM0 k)))).map some) := by
  refine rx_enter (by show plainName RX6 = true; decide) (Nat.le_of_ble_eq_true rfl) (fun A => ?_)
  show rx_V _ _ _ _ 0 [(0, .ref h0)] [] _ 0 0
  refine rx_aload_n 0 dX6_init_0 rfl 0 rfl ?_
  refine rx_obj 1 dX6_init_1 lmX6_3 (rin1 _ (List.mem_of_getElem? (i := 11) rfl)) (rin1 _ (List.mem_of_getElem? (i := 12) rfl)) (by decide) (Nat.le_of_ble_eq_true rfl) ?_
  refine rx_aload_n 4 dX6_init_4 rfl 0 rfl ?_
  refine rx_new 5 (ci := 1) (fs := [.int 0, .null, .null, .null, .int 0, .int 0, .null, .int 0, .null, .int 0, .null, .int 0]) tyX1 dX6_init_5 inlX1 tyX1_ok (rin1 _ (List.mem_of_getElem? (i := 13) rfl)) (rin1 _ (List.mem_of_getElem? (i := 14) rfl)) (rin1 _ (List.mem_of_getElem? (i := 15) rfl)) rfl (fun j hj => by rcases (show j = 0 ∨ j = 1 ∨ j = 2 ∨ j = 3 ∨ j = 4 ∨ j = 5 ∨ j = 6 ∨ j = 7 ∨ j = 8 ∨ j = 9 ∨ j = 10 ∨ j = 11 by omega) with rfl | rfl | rfl | rfl | rfl | rfl | rfl | rfl | rfl | rfl | rfl | rfl <;> rfl) (Nat.le_of_ble_eq_true rfl) (Nat.le_of_ble_eq_true rfl) (fun a5_1 => ?_)
  refine rx_dup 8 dX6_init_8 rfl ?_
  refine rx_callN 9 (mt' := rX1_init) (host := "FieldBand") (As := []) (wc := [(a5_1, .inr (1, [.int 0, .null, .null, .null, .int 0, .int 0, .null, .int 0, .null, .int 0, .null, .int 0]))]) (wr := [(h0, .inr (6, [.null, .null, .int 0, .null, .null, .null, .null, .null]))]) [1] [0] okrX1_init (List.mem_of_getElem? (i := 0) rfl) dX6_init_9 (ctX1_init E a5_1) rfl rfl (by decide) (by decide) (by decide) (by decide) ⟨Nat.le_of_ble_eq_true rfl, Nat.le_of_ble_eq_true rfl⟩ rfl rfl (Nat.le_of_ble_eq_true rfl) (fun w1 hw => ?_)
  obtain ⟨b9_2_0, b9_2_1, b9_2_2, b9_2_3, b9_2_4, b9_2_5, rfl⟩ := hw
  refine rx_putF 12 0 0 tyX6 (ty := (.object "FieldBand$Field")) dX6_init_12 inlX6 tyX6_ok nmX6 lfX6_12 rfl rfl (by decide) rfl rfl rfl (by decide +kernel) rfl rfl (Nat.le_of_ble_eq_true rfl) ?_
  refine rx_aload_n 15 dX6_init_15 rfl 0 rfl ?_
  refine rx_new 16 (ci := 1) (fs := [.int 0, .null, .null, .null, .int 0, .int 0, .null, .int 0, .null, .int 0, .null, .int 0]) tyX1 dX6_init_16 inlX1 tyX1_ok (rin1 _ (List.mem_of_getElem? (i := 13) rfl)) (rin1 _ (List.mem_of_getElem? (i := 14) rfl)) (rin1 _ (List.mem_of_getElem? (i := 15) rfl)) rfl (fun j hj => by rcases (show j = 0 ∨ j = 1 ∨ j = 2 ∨ j = 3 ∨ j = 4 ∨ j = 5 ∨ j = 6 ∨ j = 7 ∨ j = 8 ∨ j = 9 ∨ j = 10 ∨ j = 11 by omega) with rfl | rfl | rfl | rfl | rfl | rfl | rfl | rfl | rfl | rfl | rfl | rfl <;> rfl) (Nat.le_of_ble_eq_true rfl) (Nat.le_of_ble_eq_true rfl) (fun a16_8 => ?_)
  refine rx_dup 19 dX6_init_19 rfl ?_
  refine rx_callN 20 (mt' := rX1_init) (host := "FieldBand") (As := []) (wc := [(a16_8, .inr (1, [.int 0, .null, .null, .null, .int 0, .int 0, .null, .int 0, .null, .int 0, .null, .int 0]))]) (wr := [(h0, .inr (6, [.ref a5_1, .null, .int 0, .null, .null, .null, .null, .null])), (a5_1, .inr (1, [.int (0 : Int32), .ref b9_2_0, .ref b9_2_1, .ref b9_2_2, .int (60 : Int32), .int (0 : Int32), .ref b9_2_3, .int (0 : Int32), .ref b9_2_4, .int (0 : Int32), .ref b9_2_5, .int (0 : Int32)])), (b9_2_0, .inl (E.2.2.2.1 0, 10, .inl (fun _ => 0))), (b9_2_1, .inl (E.2.2.2.1 0, 10, .inl (fun _ => 0))), (b9_2_2, .inl (E.2.2.2.1 0, 10, .inl (fun _ => 0))), (b9_2_3, .inl (E.2.2.2.1 0, 10, .inl (fun _ => 0))), (b9_2_4, .inl (E.2.2.2.1 0, 10, .inl (fun _ => 0))), (b9_2_5, .inl (E.2.2.2.1 1, 120, .inl (fun _ => 0)))]) [8] [0, 1, 2, 3, 4, 5, 6, 7] okrX1_init (List.mem_of_getElem? (i := 0) rfl) dX6_init_20 (ctX1_init E a16_8) rfl rfl (by decide) (by decide) (by decide) (by decide) ⟨Nat.le_of_ble_eq_true rfl, Nat.le_of_ble_eq_true rfl⟩ rfl rfl (Nat.le_of_ble_eq_true rfl) (fun w1 hw => ?_)
  obtain ⟨b20_9_0, b20_9_1, b20_9_2, b20_9_3, b20_9_4, b20_9_5, rfl⟩ := hw
  refine rx_putF 23 0 1 tyX6 (ty := (.object "FieldBand$Field")) dX6_init_23 inlX6 tyX6_ok nmX6 lfX6_16 rfl rfl (by decide) rfl rfl rfl (by decide +kernel) rfl rfl (Nat.le_of_ble_eq_true rfl) ?_
  refine rx_aload_n 26 dX6_init_26 rfl 0 rfl ?_
  refine rx_iconst 27 (x := (0 : Int32)) dX6_init_27 (by decide) ?_
  refine rx_put 28 0 2 tyX6 (ty := .boolean) dX6_init_28 inlX6 tyX6_ok nmX6 lfX6_19 rfl rfl (by decide) rfl (by decide +kernel) rfl rfl (Nat.le_of_ble_eq_true rfl) ?_
  refine rx_aload_n 31 dX6_init_31 rfl 0 rfl ?_
  refine rx_bipush 32 (x := (6 : Int32)) dX6_init_32 (by decide) ?_
  refine rx_newq 34 (N := 6) dX6_init_34 (rin1 _ (List.mem_of_getElem? (i := 19) rfl)) (by decide) (by decide) (by decide) (Nat.le_of_ble_eq_true rfl) (Nat.le_of_ble_eq_true rfl) (fun a34_15 => ?_)
  refine rx_putF 37 0 3 tyX6 (ty := (.array (.object "FieldBand$Show"))) dX6_init_37 inlX6 tyX6_ok nmX6 lfX6_25 rfl rfl (by decide) rfl rfl rfl (by decide +kernel) rfl rfl (Nat.le_of_ble_eq_true rfl) ?_
  refine rx_aload_n 40 dX6_init_40 rfl 0 rfl ?_
  refine rx_new 41 (ci := 5) (fs := [.null, .null, .null, .int 0, .int 0]) tyX5 dX6_init_41 inlX5 tyX5_ok (rin1 _ (List.mem_of_getElem? (i := 21) rfl)) (rin1 _ (List.mem_of_getElem? (i := 22) rfl)) (rin1 _ (List.mem_of_getElem? (i := 23) rfl)) rfl (fun j hj => by rcases (show j = 0 ∨ j = 1 ∨ j = 2 ∨ j = 3 ∨ j = 4 by omega) with rfl | rfl | rfl | rfl | rfl <;> rfl) (Nat.le_of_ble_eq_true rfl) (Nat.le_of_ble_eq_true rfl) (fun a41_16 => ?_)
  refine rx_dup 44 dX6_init_44 rfl ?_
  refine rx_aload_n 45 dX6_init_45 rfl 0 rfl ?_
  refine rx_get 46 0 0 (v := .ref a5_1) dX6_init_46 inlX6 lfX6_12 rfl rfl (by decide) rfl ?_
  refine rx_callI 49 (mt' := rX5_init) (As := [.ref a5_1]) (wc := [(a41_16, .inr (5, [.null, .null, .null, .int 0, .int 0]))]) (wr := [(h0, .inr (6, [.ref a5_1, .ref a16_8, .int (0 : Int32), .ref a34_15, .null, .null, .null, .null])), (a5_1, .inr (1, [.int (0 : Int32), .ref b9_2_0, .ref b9_2_1, .ref b9_2_2, .int (60 : Int32), .int (0 : Int32), .ref b9_2_3, .int (0 : Int32), .ref b9_2_4, .int (0 : Int32), .ref b9_2_5, .int (0 : Int32)])), (b9_2_0, .inl (E.2.2.2.1 0, 10, .inl (fun _ => 0))), (b9_2_1, .inl (E.2.2.2.1 0, 10, .inl (fun _ => 0))), (b9_2_2, .inl (E.2.2.2.1 0, 10, .inl (fun _ => 0))), (b9_2_3, .inl (E.2.2.2.1 0, 10, .inl (fun _ => 0))), (b9_2_4, .inl (E.2.2.2.1 0, 10, .inl (fun _ => 0))), (b9_2_5, .inl (E.2.2.2.1 1, 120, .inl (fun _ => 0))), (a16_8, .inr (1, [.int (0 : Int32), .ref b20_9_0, .ref b20_9_1, .ref b20_9_2, .int (60 : Int32), .int (0 : Int32), .ref b20_9_3, .int (0 : Int32), .ref b20_9_4, .int (0 : Int32), .ref b20_9_5, .int (0 : Int32)])), (b20_9_0, .inl (E.2.2.2.1 0, 10, .inl (fun _ => 0))), (b20_9_1, .inl (E.2.2.2.1 0, 10, .inl (fun _ => 0))), (b20_9_2, .inl (E.2.2.2.1 0, 10, .inl (fun _ => 0))), (b20_9_3, .inl (E.2.2.2.1 0, 10, .inl (fun _ => 0))), (b20_9_4, .inl (E.2.2.2.1 0, 10, .inl (fun _ => 0))), (b20_9_5, .inl (E.2.2.2.1 1, 120, .inl (fun _ => 0))), (a34_15, .inl (E.2.2.2.1 3, 6, .inr (.inr (.inr (.inr (fun _ => none))))))]) [16] [0, 1, 2, 3, 4, 5, 6, 7, 8, 9, 10, 11, 12, 13, 14, 15] okrX5_init lmX6_31 dX6_init_49 (ctX5_init E a41_16 a5_1) rfl rfl (by decide) (by decide) (by decide) (by decide) ⟨Nat.le_of_ble_eq_true rfl, Nat.le_of_ble_eq_true rfl⟩ rfl rfl (Nat.le_of_ble_eq_true rfl) (fun w1 hw => ?_)
  obtain ⟨b49_17_0, b49_17_1, rfl⟩ := hw
  refine rx_putF 52 0 6 tyX6 (ty := (.object "FieldBand$Ways")) dX6_init_52 inlX6 tyX6_ok nmX6 lfX6_34 rfl rfl (by decide) rfl rfl rfl (by decide +kernel) rfl rfl (Nat.le_of_ble_eq_true rfl) ?_
  refine rx_aload_n 55 dX6_init_55 rfl 0 rfl ?_
  refine rx_new 56 (ci := 0) (fs := [.int 0, .int 0, .int 0, .int 0, .null]) tyX0 dX6_init_56 inlX0 tyX0_ok (rin2 _ (List.mem_of_getElem? (i := 1) rfl)) (rin2 _ (List.mem_of_getElem? (i := 2) rfl)) (rin2 _ (List.mem_of_getElem? (i := 3) rfl)) rfl (fun j hj => by rcases (show j = 0 ∨ j = 1 ∨ j = 2 ∨ j = 3 ∨ j = 4 by omega) with rfl | rfl | rfl | rfl | rfl <;> rfl) (Nat.le_of_ble_eq_true rfl) (Nat.le_of_ble_eq_true rfl) (fun a56_19 => ?_)
  refine rx_dup 59 dX6_init_59 rfl ?_
  refine rx_callN 60 (mt' := rX0_init) (host := "FieldBand") (As := []) (wc := [(a56_19, .inr (0, [.int 0, .int 0, .int 0, .int 0, .null]))]) (wr := [(h0, .inr (6, [.ref a5_1, .ref a16_8, .int (0 : Int32), .ref a34_15, .null, .null, .ref a41_16, .null])), (a5_1, .inr (1, [.int (0 : Int32), .ref b9_2_0, .ref b9_2_1, .ref b9_2_2, .int (60 : Int32), .int (0 : Int32), .ref b9_2_3, .int (0 : Int32), .ref b9_2_4, .int (0 : Int32), .ref b9_2_5, .int (0 : Int32)])), (b9_2_0, .inl (E.2.2.2.1 0, 10, .inl (fun _ => 0))), (b9_2_1, .inl (E.2.2.2.1 0, 10, .inl (fun _ => 0))), (b9_2_2, .inl (E.2.2.2.1 0, 10, .inl (fun _ => 0))), (b9_2_3, .inl (E.2.2.2.1 0, 10, .inl (fun _ => 0))), (b9_2_4, .inl (E.2.2.2.1 0, 10, .inl (fun _ => 0))), (b9_2_5, .inl (E.2.2.2.1 1, 120, .inl (fun _ => 0))), (a16_8, .inr (1, [.int (0 : Int32), .ref b20_9_0, .ref b20_9_1, .ref b20_9_2, .int (60 : Int32), .int (0 : Int32), .ref b20_9_3, .int (0 : Int32), .ref b20_9_4, .int (0 : Int32), .ref b20_9_5, .int (0 : Int32)])), (b20_9_0, .inl (E.2.2.2.1 0, 10, .inl (fun _ => 0))), (b20_9_1, .inl (E.2.2.2.1 0, 10, .inl (fun _ => 0))), (b20_9_2, .inl (E.2.2.2.1 0, 10, .inl (fun _ => 0))), (b20_9_3, .inl (E.2.2.2.1 0, 10, .inl (fun _ => 0))), (b20_9_4, .inl (E.2.2.2.1 0, 10, .inl (fun _ => 0))), (b20_9_5, .inl (E.2.2.2.1 1, 120, .inl (fun _ => 0))), (a34_15, .inl (E.2.2.2.1 3, 6, .inr (.inr (.inr (.inr (fun _ => none)))))), (a41_16, .inr (5, [.ref a5_1, .ref b49_17_0, .ref b49_17_1, .int (0 : Int32), .int (0 : Int32)])), (b49_17_0, .inl (E.2.2.2.1 0, 6, .inl (fun _ => 0))), (b49_17_1, .inl (E.2.2.2.1 0, 6, .inl (fun _ => 0)))]) [19] [0, 1, 2, 3, 4, 5, 6, 7, 8, 9, 10, 11, 12, 13, 14, 15, 16, 17, 18] okrX0_init (List.mem_of_getElem? (i := 1) rfl) dX6_init_60 (ctX0_init E a56_19) rfl rfl (by decide) (by decide) (by decide) (by decide) ⟨Nat.le_of_ble_eq_true rfl, Nat.le_of_ble_eq_true rfl⟩ rfl rfl (Nat.le_of_ble_eq_true rfl) (fun w1 hw => ?_)
  obtain ⟨b60_20_0, rfl⟩ := hw
  refine rx_putF 63 0 7 tyX6 (ty := (.object "FieldBand$Deed")) dX6_init_63 inlX6 tyX6_ok nmX6 lfX6_41 rfl rfl (by decide) rfl rfl rfl (by decide +kernel) rfl rfl (Nat.le_of_ble_eq_true rfl) ?_
  refine rx_iconst 66 (x := (0 : Int32)) dX6_init_66 (by decide) ?_
  refine rx_istore_n 67 (lv' := [(1, .int (0 : Int32)), (0, .ref h0)]) dX6_init_67 rfl (by decide) rfl ?_
  refine rx_iload_n 68 dX6_init_68 rfl 0 rfl ?_
  refine rx_aload_n 69 dX6_init_69 rfl 1 rfl ?_
  refine rx_get 70 0 3 (v := .ref a34_15) dX6_init_70 inlX6 lfX6_25 rfl rfl (by decide) rfl ?_
  refine rx_alen 73 15 (x := (6 : Int32)) dX6_init_73 rfl (by decide) ?_
  refine rx_geF 74 96 dX6_init_74 (by decide) (by decide) ?_
  refine rx_aload_n 77 dX6_init_77 rfl 1 rfl ?_
  refine rx_get 78 0 3 (v := .ref a34_15) dX6_init_78 inlX6 lfX6_25 rfl rfl (by decide) rfl ?_
  refine rx_iload_n 81 dX6_init_81 rfl 0 rfl ?_
  refine rx_new 82 (ci := 3) (fs := [.int 0, .int 0, .int 0, .int 0, .null, .null, .null, .null, .int 0, .null]) tyX3 dX6_init_82 inlX3 tyX3_ok (rin1 _ (List.mem_of_getElem? (i := 19) rfl)) (rin2 _ (List.mem_of_getElem? (i := 5) rfl)) (rin2 _ (List.mem_of_getElem? (i := 6) rfl)) rfl (fun j hj => by rcases (show j = 0 ∨ j = 1 ∨ j = 2 ∨ j = 3 ∨ j = 4 ∨ j = 5 ∨ j = 6 ∨ j = 7 ∨ j = 8 ∨ j = 9 by omega) with rfl | rfl | rfl | rfl | rfl | rfl | rfl | rfl | rfl | rfl <;> rfl) (Nat.le_of_ble_eq_true rfl) (Nat.le_of_ble_eq_true rfl) (fun a82_21 => ?_)
  refine rx_dup 85 dX6_init_85 rfl ?_
  refine rx_callN 86 (mt' := rX3_init) (host := "FieldBand") (As := []) (wc := [(a82_21, .inr (3, [.int 0, .int 0, .int 0, .int 0, .null, .null, .null, .null, .int 0, .null]))]) (wr := [(h0, .inr (6, [.ref a5_1, .ref a16_8, .int (0 : Int32), .ref a34_15, .null, .null, .ref a41_16, .ref a56_19])), (a5_1, .inr (1, [.int (0 : Int32), .ref b9_2_0, .ref b9_2_1, .ref b9_2_2, .int (60 : Int32), .int (0 : Int32), .ref b9_2_3, .int (0 : Int32), .ref b9_2_4, .int (0 : Int32), .ref b9_2_5, .int (0 : Int32)])), (b9_2_0, .inl (E.2.2.2.1 0, 10, .inl (fun _ => 0))), (b9_2_1, .inl (E.2.2.2.1 0, 10, .inl (fun _ => 0))), (b9_2_2, .inl (E.2.2.2.1 0, 10, .inl (fun _ => 0))), (b9_2_3, .inl (E.2.2.2.1 0, 10, .inl (fun _ => 0))), (b9_2_4, .inl (E.2.2.2.1 0, 10, .inl (fun _ => 0))), (b9_2_5, .inl (E.2.2.2.1 1, 120, .inl (fun _ => 0))), (a16_8, .inr (1, [.int (0 : Int32), .ref b20_9_0, .ref b20_9_1, .ref b20_9_2, .int (60 : Int32), .int (0 : Int32), .ref b20_9_3, .int (0 : Int32), .ref b20_9_4, .int (0 : Int32), .ref b20_9_5, .int (0 : Int32)])), (b20_9_0, .inl (E.2.2.2.1 0, 10, .inl (fun _ => 0))), (b20_9_1, .inl (E.2.2.2.1 0, 10, .inl (fun _ => 0))), (b20_9_2, .inl (E.2.2.2.1 0, 10, .inl (fun _ => 0))), (b20_9_3, .inl (E.2.2.2.1 0, 10, .inl (fun _ => 0))), (b20_9_4, .inl (E.2.2.2.1 0, 10, .inl (fun _ => 0))), (b20_9_5, .inl (E.2.2.2.1 1, 120, .inl (fun _ => 0))), (a34_15, .inl (E.2.2.2.1 3, 6, .inr (.inr (.inr (.inr (fun _ => none)))))), (a41_16, .inr (5, [.ref a5_1, .ref b49_17_0, .ref b49_17_1, .int (0 : Int32), .int (0 : Int32)])), (b49_17_0, .inl (E.2.2.2.1 0, 6, .inl (fun _ => 0))), (b49_17_1, .inl (E.2.2.2.1 0, 6, .inl (fun _ => 0))), (a56_19, .inr (0, [.int (0 : Int32), .int (0 : Int32), .int (0 : Int32), .int (0 : Int32), .ref b60_20_0])), (b60_20_0, .inl (E.2.2.2.1 0, 20, .inl (fun _ => 0)))]) [21] [0, 1, 2, 3, 4, 5, 6, 7, 8, 9, 10, 11, 12, 13, 14, 15, 16, 17, 18, 19, 20] okrX3_init (List.mem_of_getElem? (i := 2) rfl) dX6_init_86 (ctX3_init E a82_21) rfl rfl (by decide) (by decide) (by decide) (by decide) ⟨Nat.le_of_ble_eq_true rfl, Nat.le_of_ble_eq_true rfl⟩ rfl rfl (Nat.le_of_ble_eq_true rfl) (fun w1 hw => ?_)
  obtain ⟨b86_22_0, b86_22_1, b86_22_2, b86_22_3, b86_22_4, rfl⟩ := hw
  refine rx_aast 89 15 21 dX6_init_89 rfl rfl (by decide) ?_
  refine rx_iinc 90 (lv' := [(1, .int (1 : Int32)), (0, .ref h0)]) (y := (1 : Int32)) dX6_init_90 0 rfl (by decide) (by decide) rfl ?_
  refine rx_goto 93 68 dX6_init_93 (by decide) ?_
  refine rx_iload_n 68 dX6_init_68 rfl 0 rfl ?_
  refine rx_aload_n 69 dX6_init_69 rfl 1 rfl ?_
  refine rx_get 70 0 3 (v := .ref a34_15) dX6_init_70 inlX6 lfX6_25 rfl rfl (by decide) rfl ?_
  refine rx_alen 73 15 (x := (6 : Int32)) dX6_init_73 rfl (by decide) ?_
  refine rx_geF 74 96 dX6_init_74 (by decide) (by decide) ?_
  refine rx_aload_n 77 dX6_init_77 rfl 1 rfl ?_
  refine rx_get 78 0 3 (v := .ref a34_15) dX6_init_78 inlX6 lfX6_25 rfl rfl (by decide) rfl ?_
  refine rx_iload_n 81 dX6_init_81 rfl 0 rfl ?_
  refine rx_new 82 (ci := 3) (fs := [.int 0, .int 0, .int 0, .int 0, .null, .null, .null, .null, .int 0, .null]) tyX3 dX6_init_82 inlX3 tyX3_ok (rin1 _ (List.mem_of_getElem? (i := 19) rfl)) (rin2 _ (List.mem_of_getElem? (i := 5) rfl)) (rin2 _ (List.mem_of_getElem? (i := 6) rfl)) rfl (fun j hj => by rcases (show j = 0 ∨ j = 1 ∨ j = 2 ∨ j = 3 ∨ j = 4 ∨ j = 5 ∨ j = 6 ∨ j = 7 ∨ j = 8 ∨ j = 9 by omega) with rfl | rfl | rfl | rfl | rfl | rfl | rfl | rfl | rfl | rfl <;> rfl) (Nat.le_of_ble_eq_true rfl) (Nat.le_of_ble_eq_true rfl) (fun a82_27 => ?_)
  refine rx_dup 85 dX6_init_85 rfl ?_
  refine rx_callN 86 (mt' := rX3_init) (host := "FieldBand") (As := []) (wc := [(a82_27, .inr (3, [.int 0, .int 0, .int 0, .int 0, .null, .null, .null, .null, .int 0, .null]))]) (wr := [(h0, .inr (6, [.ref a5_1, .ref a16_8, .int (0 : Int32), .ref a34_15, .null, .null, .ref a41_16, .ref a56_19])), (a5_1, .inr (1, [.int (0 : Int32), .ref b9_2_0, .ref b9_2_1, .ref b9_2_2, .int (60 : Int32), .int (0 : Int32), .ref b9_2_3, .int (0 : Int32), .ref b9_2_4, .int (0 : Int32), .ref b9_2_5, .int (0 : Int32)])), (b9_2_0, .inl (E.2.2.2.1 0, 10, .inl (fun _ => 0))), (b9_2_1, .inl (E.2.2.2.1 0, 10, .inl (fun _ => 0))), (b9_2_2, .inl (E.2.2.2.1 0, 10, .inl (fun _ => 0))), (b9_2_3, .inl (E.2.2.2.1 0, 10, .inl (fun _ => 0))), (b9_2_4, .inl (E.2.2.2.1 0, 10, .inl (fun _ => 0))), (b9_2_5, .inl (E.2.2.2.1 1, 120, .inl (fun _ => 0))), (a16_8, .inr (1, [.int (0 : Int32), .ref b20_9_0, .ref b20_9_1, .ref b20_9_2, .int (60 : Int32), .int (0 : Int32), .ref b20_9_3, .int (0 : Int32), .ref b20_9_4, .int (0 : Int32), .ref b20_9_5, .int (0 : Int32)])), (b20_9_0, .inl (E.2.2.2.1 0, 10, .inl (fun _ => 0))), (b20_9_1, .inl (E.2.2.2.1 0, 10, .inl (fun _ => 0))), (b20_9_2, .inl (E.2.2.2.1 0, 10, .inl (fun _ => 0))), (b20_9_3, .inl (E.2.2.2.1 0, 10, .inl (fun _ => 0))), (b20_9_4, .inl (E.2.2.2.1 0, 10, .inl (fun _ => 0))), (b20_9_5, .inl (E.2.2.2.1 1, 120, .inl (fun _ => 0))), (a34_15, .inl (E.2.2.2.1 3, 6, .inr (.inr (.inr (.inr (va_up (fun _ => none) (0 : Int32).toNatClampNeg (some a82_21))))))), (a41_16, .inr (5, [.ref a5_1, .ref b49_17_0, .ref b49_17_1, .int (0 : Int32), .int (0 : Int32)])), (b49_17_0, .inl (E.2.2.2.1 0, 6, .inl (fun _ => 0))), (b49_17_1, .inl (E.2.2.2.1 0, 6, .inl (fun _ => 0))), (a56_19, .inr (0, [.int (0 : Int32), .int (0 : Int32), .int (0 : Int32), .int (0 : Int32), .ref b60_20_0])), (b60_20_0, .inl (E.2.2.2.1 0, 20, .inl (fun _ => 0))), (a82_21, .inr (3, [.int (3 : Int32), .int (50 : Int32), .int (2 : Int32), .int (0 : Int32), .ref b86_22_0, .ref b86_22_1, .ref b86_22_2, .ref b86_22_3, .int (0 : Int32), .ref b86_22_4])), (b86_22_0, .inl (E.2.2.2.1 0, 10, .inl (fun _ => 0))), (b86_22_1, .inl (E.2.2.2.1 0, 10, .inl (fun _ => 0))), (b86_22_2, .inl (E.2.2.2.1 0, 10, .inl (fun _ => 0))), (b86_22_3, .inl (E.2.2.2.1 0, 10, .inl (fun _ => 0))), (b86_22_4, .inl (E.2.2.2.1 0, 120, .inl (fun _ => 0)))]) [27] [0, 1, 2, 3, 4, 5, 6, 7, 8, 9, 10, 11, 12, 13, 14, 15, 16, 17, 18, 19, 20, 21, 22, 23, 24, 25, 26] okrX3_init (List.mem_of_getElem? (i := 2) rfl) dX6_init_86 (ctX3_init E a82_27) rfl rfl (by decide) (by decide) (by decide) (by decide) ⟨Nat.le_of_ble_eq_true rfl, Nat.le_of_ble_eq_true rfl⟩ rfl rfl (Nat.le_of_ble_eq_true rfl) (fun w1 hw => ?_)
  obtain ⟨b86_28_0, b86_28_1, b86_28_2, b86_28_3, b86_28_4, rfl⟩ := hw
  refine rx_aast 89 15 27 dX6_init_89 rfl rfl (by decide) ?_
  refine rx_iinc 90 (lv' := [(1, .int (2 : Int32)), (0, .ref h0)]) (y := (2 : Int32)) dX6_init_90 0 rfl (by decide) (by decide) rfl ?_
  refine rx_goto 93 68 dX6_init_93 (by decide) ?_
  refine rx_iload_n 68 dX6_init_68 rfl 0 rfl ?_
  refine rx_aload_n 69 dX6_init_69 rfl 1 rfl ?_
  refine rx_get 70 0 3 (v := .ref a34_15) dX6_init_70 inlX6 lfX6_25 rfl rfl (by decide) rfl ?_
  refine rx_alen 73 15 (x := (6 : Int32)) dX6_init_73 rfl (by decide) ?_
  refine rx_geF 74 96 dX6_init_74 (by decide) (by decide) ?_
  refine rx_aload_n 77 dX6_init_77 rfl 1 rfl ?_
  refine rx_get 78 0 3 (v := .ref a34_15) dX6_init_78 inlX6 lfX6_25 rfl rfl (by decide) rfl ?_
  refine rx_iload_n 81 dX6_init_81 rfl 0 rfl ?_
  refine rx_new 82 (ci := 3) (fs := [.int 0, .int 0, .int 0, .int 0, .null, .null, .null, .null, .int 0, .null]) tyX3 dX6_init_82 inlX3 tyX3_ok (rin1 _ (List.mem_of_getElem? (i := 19) rfl)) (rin2 _ (List.mem_of_getElem? (i := 5) rfl)) (rin2 _ (List.mem_of_getElem? (i := 6) rfl)) rfl (fun j hj => by rcases (show j = 0 ∨ j = 1 ∨ j = 2 ∨ j = 3 ∨ j = 4 ∨ j = 5 ∨ j = 6 ∨ j = 7 ∨ j = 8 ∨ j = 9 by omega) with rfl | rfl | rfl | rfl | rfl | rfl | rfl | rfl | rfl | rfl <;> rfl) (Nat.le_of_ble_eq_true rfl) (Nat.le_of_ble_eq_true rfl) (fun a82_33 => ?_)
  refine rx_dup 85 dX6_init_85 rfl ?_
  refine rx_callN 86 (mt' := rX3_init) (host := "FieldBand") (As := []) (wc := [(a82_33, .inr (3, [.int 0, .int 0, .int 0, .int 0, .null, .null, .null, .null, .int 0, .null]))]) (wr := [(h0, .inr (6, [.ref a5_1, .ref a16_8, .int (0 : Int32), .ref a34_15, .null, .null, .ref a41_16, .ref a56_19])), (a5_1, .inr (1, [.int (0 : Int32), .ref b9_2_0, .ref b9_2_1, .ref b9_2_2, .int (60 : Int32), .int (0 : Int32), .ref b9_2_3, .int (0 : Int32), .ref b9_2_4, .int (0 : Int32), .ref b9_2_5, .int (0 : Int32)])), (b9_2_0, .inl (E.2.2.2.1 0, 10, .inl (fun _ => 0))), (b9_2_1, .inl (E.2.2.2.1 0, 10, .inl (fun _ => 0))), (b9_2_2, .inl (E.2.2.2.1 0, 10, .inl (fun _ => 0))), (b9_2_3, .inl (E.2.2.2.1 0, 10, .inl (fun _ => 0))), (b9_2_4, .inl (E.2.2.2.1 0, 10, .inl (fun _ => 0))), (b9_2_5, .inl (E.2.2.2.1 1, 120, .inl (fun _ => 0))), (a16_8, .inr (1, [.int (0 : Int32), .ref b20_9_0, .ref b20_9_1, .ref b20_9_2, .int (60 : Int32), .int (0 : Int32), .ref b20_9_3, .int (0 : Int32), .ref b20_9_4, .int (0 : Int32), .ref b20_9_5, .int (0 : Int32)])), (b20_9_0, .inl (E.2.2.2.1 0, 10, .inl (fun _ => 0))), (b20_9_1, .inl (E.2.2.2.1 0, 10, .inl (fun _ => 0))), (b20_9_2, .inl (E.2.2.2.1 0, 10, .inl (fun _ => 0))), (b20_9_3, .inl (E.2.2.2.1 0, 10, .inl (fun _ => 0))), (b20_9_4, .inl (E.2.2.2.1 0, 10, .inl (fun _ => 0))), (b20_9_5, .inl (E.2.2.2.1 1, 120, .inl (fun _ => 0))), (a34_15, .inl (E.2.2.2.1 3, 6, .inr (.inr (.inr (.inr (va_up (va_up (fun _ => none) (0 : Int32).toNatClampNeg (some a82_21)) (1 : Int32).toNatClampNeg (some a82_27))))))), (a41_16, .inr (5, [.ref a5_1, .ref b49_17_0, .ref b49_17_1, .int (0 : Int32), .int (0 : Int32)])), (b49_17_0, .inl (E.2.2.2.1 0, 6, .inl (fun _ => 0))), (b49_17_1, .inl (E.2.2.2.1 0, 6, .inl (fun _ => 0))), (a56_19, .inr (0, [.int (0 : Int32), .int (0 : Int32), .int (0 : Int32), .int (0 : Int32), .ref b60_20_0])), (b60_20_0, .inl (E.2.2.2.1 0, 20, .inl (fun _ => 0))), (a82_21, .inr (3, [.int (3 : Int32), .int (50 : Int32), .int (2 : Int32), .int (0 : Int32), .ref b86_22_0, .ref b86_22_1, .ref b86_22_2, .ref b86_22_3, .int (0 : Int32), .ref b86_22_4])), (b86_22_0, .inl (E.2.2.2.1 0, 10, .inl (fun _ => 0))), (b86_22_1, .inl (E.2.2.2.1 0, 10, .inl (fun _ => 0))), (b86_22_2, .inl (E.2.2.2.1 0, 10, .inl (fun _ => 0))), (b86_22_3, .inl (E.2.2.2.1 0, 10, .inl (fun _ => 0))), (b86_22_4, .inl (E.2.2.2.1 0, 120, .inl (fun _ => 0))), (a82_27, .inr (3, [.int (3 : Int32), .int (50 : Int32), .int (2 : Int32), .int (0 : Int32), .ref b86_28_0, .ref b86_28_1, .ref b86_28_2, .ref b86_28_3, .int (0 : Int32), .ref b86_28_4])), (b86_28_0, .inl (E.2.2.2.1 0, 10, .inl (fun _ => 0))), (b86_28_1, .inl (E.2.2.2.1 0, 10, .inl (fun _ => 0))), (b86_28_2, .inl (E.2.2.2.1 0, 10, .inl (fun _ => 0))), (b86_28_3, .inl (E.2.2.2.1 0, 10, .inl (fun _ => 0))), (b86_28_4, .inl (E.2.2.2.1 0, 120, .inl (fun _ => 0)))]) [33] [0, 1, 2, 3, 4, 5, 6, 7, 8, 9, 10, 11, 12, 13, 14, 15, 16, 17, 18, 19, 20, 21, 22, 23, 24, 25, 26, 27, 28, 29, 30, 31, 32] okrX3_init (List.mem_of_getElem? (i := 2) rfl) dX6_init_86 (ctX3_init E a82_33) rfl rfl (by decide) (by decide) (by decide) (by decide) ⟨Nat.le_of_ble_eq_true rfl, Nat.le_of_ble_eq_true rfl⟩ rfl rfl (Nat.le_of_ble_eq_true rfl) (fun w1 hw => ?_)
  obtain ⟨b86_34_0, b86_34_1, b86_34_2, b86_34_3, b86_34_4, rfl⟩ := hw
  refine rx_aast 89 15 33 dX6_init_89 rfl rfl (by decide) ?_
  refine rx_iinc 90 (lv' := [(1, .int (3 : Int32)), (0, .ref h0)]) (y := (3 : Int32)) dX6_init_90 0 rfl (by decide) (by decide) rfl ?_
  refine rx_goto 93 68 dX6_init_93 (by decide) ?_
  refine rx_iload_n 68 dX6_init_68 rfl 0 rfl ?_
  refine rx_aload_n 69 dX6_init_69 rfl 1 rfl ?_
  refine rx_get 70 0 3 (v := .ref a34_15) dX6_init_70 inlX6 lfX6_25 rfl rfl (by decide) rfl ?_
  refine rx_alen 73 15 (x := (6 : Int32)) dX6_init_73 rfl (by decide) ?_
  refine rx_geF 74 96 dX6_init_74 (by decide) (by decide) ?_
  refine rx_aload_n 77 dX6_init_77 rfl 1 rfl ?_
  refine rx_get 78 0 3 (v := .ref a34_15) dX6_init_78 inlX6 lfX6_25 rfl rfl (by decide) rfl ?_
  refine rx_iload_n 81 dX6_init_81 rfl 0 rfl ?_
  refine rx_new 82 (ci := 3) (fs := [.int 0, .int 0, .int 0, .int 0, .null, .null, .null, .null, .int 0, .null]) tyX3 dX6_init_82 inlX3 tyX3_ok (rin1 _ (List.mem_of_getElem? (i := 19) rfl)) (rin2 _ (List.mem_of_getElem? (i := 5) rfl)) (rin2 _ (List.mem_of_getElem? (i := 6) rfl)) rfl (fun j hj => by rcases (show j = 0 ∨ j = 1 ∨ j = 2 ∨ j = 3 ∨ j = 4 ∨ j = 5 ∨ j = 6 ∨ j = 7 ∨ j = 8 ∨ j = 9 by omega) with rfl | rfl | rfl | rfl | rfl | rfl | rfl | rfl | rfl | rfl <;> rfl) (Nat.le_of_ble_eq_true rfl) (Nat.le_of_ble_eq_true rfl) (fun a82_39 => ?_)
  refine rx_dup 85 dX6_init_85 rfl ?_
  refine rx_callN 86 (mt' := rX3_init) (host := "FieldBand") (As := []) (wc := [(a82_39, .inr (3, [.int 0, .int 0, .int 0, .int 0, .null, .null, .null, .null, .int 0, .null]))]) (wr := [(h0, .inr (6, [.ref a5_1, .ref a16_8, .int (0 : Int32), .ref a34_15, .null, .null, .ref a41_16, .ref a56_19])), (a5_1, .inr (1, [.int (0 : Int32), .ref b9_2_0, .ref b9_2_1, .ref b9_2_2, .int (60 : Int32), .int (0 : Int32), .ref b9_2_3, .int (0 : Int32), .ref b9_2_4, .int (0 : Int32), .ref b9_2_5, .int (0 : Int32)])), (b9_2_0, .inl (E.2.2.2.1 0, 10, .inl (fun _ => 0))), (b9_2_1, .inl (E.2.2.2.1 0, 10, .inl (fun _ => 0))), (b9_2_2, .inl (E.2.2.2.1 0, 10, .inl (fun _ => 0))), (b9_2_3, .inl (E.2.2.2.1 0, 10, .inl (fun _ => 0))), (b9_2_4, .inl (E.2.2.2.1 0, 10, .inl (fun _ => 0))), (b9_2_5, .inl (E.2.2.2.1 1, 120, .inl (fun _ => 0))), (a16_8, .inr (1, [.int (0 : Int32), .ref b20_9_0, .ref b20_9_1, .ref b20_9_2, .int (60 : Int32), .int (0 : Int32), .ref b20_9_3, .int (0 : Int32), .ref b20_9_4, .int (0 : Int32), .ref b20_9_5, .int (0 : Int32)])), (b20_9_0, .inl (E.2.2.2.1 0, 10, .inl (fun _ => 0))), (b20_9_1, .inl (E.2.2.2.1 0, 10, .inl (fun _ => 0))), (b20_9_2, .inl (E.2.2.2.1 0, 10, .inl (fun _ => 0))), (b20_9_3, .inl (E.2.2.2.1 0, 10, .inl (fun _ => 0))), (b20_9_4, .inl (E.2.2.2.1 0, 10, .inl (fun _ => 0))), (b20_9_5, .inl (E.2.2.2.1 1, 120, .inl (fun _ => 0))), (a34_15, .inl (E.2.2.2.1 3, 6, .inr (.inr (.inr (.inr (va_up (va_up (va_up (fun _ => none) (0 : Int32).toNatClampNeg (some a82_21)) (1 : Int32).toNatClampNeg (some a82_27)) (2 : Int32).toNatClampNeg (some a82_33))))))), (a41_16, .inr (5, [.ref a5_1, .ref b49_17_0, .ref b49_17_1, .int (0 : Int32), .int (0 : Int32)])), (b49_17_0, .inl (E.2.2.2.1 0, 6, .inl (fun _ => 0))), (b49_17_1, .inl (E.2.2.2.1 0, 6, .inl (fun _ => 0))), (a56_19, .inr (0, [.int (0 : Int32), .int (0 : Int32), .int (0 : Int32), .int (0 : Int32), .ref b60_20_0])), (b60_20_0, .inl (E.2.2.2.1 0, 20, .inl (fun _ => 0))), (a82_21, .inr (3, [.int (3 : Int32), .int (50 : Int32), .int (2 : Int32), .int (0 : Int32), .ref b86_22_0, .ref b86_22_1, .ref b86_22_2, .ref b86_22_3, .int (0 : Int32), .ref b86_22_4])), (b86_22_0, .inl (E.2.2.2.1 0, 10, .inl (fun _ => 0))), (b86_22_1, .inl (E.2.2.2.1 0, 10, .inl (fun _ => 0))), (b86_22_2, .inl (E.2.2.2.1 0, 10, .inl (fun _ => 0))), (b86_22_3, .inl (E.2.2.2.1 0, 10, .inl (fun _ => 0))), (b86_22_4, .inl (E.2.2.2.1 0, 120, .inl (fun _ => 0))), (a82_27, .inr (3, [.int (3 : Int32), .int (50 : Int32), .int (2 : Int32), .int (0 : Int32), .ref b86_28_0, .ref b86_28_1, .ref b86_28_2, .ref b86_28_3, .int (0 : Int32), .ref b86_28_4])), (b86_28_0, .inl (E.2.2.2.1 0, 10, .inl (fun _ => 0))), (b86_28_1, .inl (E.2.2.2.1 0, 10, .inl (fun _ => 0))), (b86_28_2, .inl (E.2.2.2.1 0, 10, .inl (fun _ => 0))), (b86_28_3, .inl (E.2.2.2.1 0, 10, .inl (fun _ => 0))), (b86_28_4, .inl (E.2.2.2.1 0, 120, .inl (fun _ => 0))), (a82_33, .inr (3, [.int (3 : Int32), .int (50 : Int32), .int (2 : Int32), .int (0 : Int32), .ref b86_34_0, .ref b86_34_1, .ref b86_34_2, .ref b86_34_3, .int (0 : Int32), .ref b86_34_4])), (b86_34_0, .inl (E.2.2.2.1 0, 10, .inl (fun _ => 0))), (b86_34_1, .inl (E.2.2.2.1 0, 10, .inl (fun _ => 0))), (b86_34_2, .inl (E.2.2.2.1 0, 10, .inl (fun _ => 0))), (b86_34_3, .inl (E.2.2.2.1 0, 10, .inl (fun _ => 0))), (b86_34_4, .inl (E.2.2.2.1 0, 120, .inl (fun _ => 0)))]) [39] [0, 1, 2, 3, 4, 5, 6, 7, 8, 9, 10, 11, 12, 13, 14, 15, 16, 17, 18, 19, 20, 21, 22, 23, 24, 25, 26, 27, 28, 29, 30, 31, 32, 33, 34, 35, 36, 37, 38] okrX3_init (List.mem_of_getElem? (i := 2) rfl) dX6_init_86 (ctX3_init E a82_39) rfl rfl (by decide) (by decide) (by decide) (by decide) ⟨Nat.le_of_ble_eq_true rfl, Nat.le_of_ble_eq_true rfl⟩ rfl rfl (Nat.le_of_ble_eq_true rfl) (fun w1 hw => ?_)
  obtain ⟨b86_40_0, b86_40_1, b86_40_2, b86_40_3, b86_40_4, rfl⟩ := hw
  refine rx_aast 89 15 39 dX6_init_89 rfl rfl (by decide) ?_
  refine rx_iinc 90 (lv' := [(1, .int (4 : Int32)), (0, .ref h0)]) (y := (4 : Int32)) dX6_init_90 0 rfl (by decide) (by decide) rfl ?_
  refine rx_goto 93 68 dX6_init_93 (by decide) ?_
  refine rx_iload_n 68 dX6_init_68 rfl 0 rfl ?_
  refine rx_aload_n 69 dX6_init_69 rfl 1 rfl ?_
  refine rx_get 70 0 3 (v := .ref a34_15) dX6_init_70 inlX6 lfX6_25 rfl rfl (by decide) rfl ?_
  refine rx_alen 73 15 (x := (6 : Int32)) dX6_init_73 rfl (by decide) ?_
  refine rx_geF 74 96 dX6_init_74 (by decide) (by decide) ?_
  refine rx_aload_n 77 dX6_init_77 rfl 1 rfl ?_
  refine rx_get 78 0 3 (v := .ref a34_15) dX6_init_78 inlX6 lfX6_25 rfl rfl (by decide) rfl ?_
  refine rx_iload_n 81 dX6_init_81 rfl 0 rfl ?_
  refine rx_new 82 (ci := 3) (fs := [.int 0, .int 0, .int 0, .int 0, .null, .null, .null, .null, .int 0, .null]) tyX3 dX6_init_82 inlX3 tyX3_ok (rin1 _ (List.mem_of_getElem? (i := 19) rfl)) (rin2 _ (List.mem_of_getElem? (i := 5) rfl)) (rin2 _ (List.mem_of_getElem? (i := 6) rfl)) rfl (fun j hj => by rcases (show j = 0 ∨ j = 1 ∨ j = 2 ∨ j = 3 ∨ j = 4 ∨ j = 5 ∨ j = 6 ∨ j = 7 ∨ j = 8 ∨ j = 9 by omega) with rfl | rfl | rfl | rfl | rfl | rfl | rfl | rfl | rfl | rfl <;> rfl) (Nat.le_of_ble_eq_true rfl) (Nat.le_of_ble_eq_true rfl) (fun a82_45 => ?_)
  refine rx_dup 85 dX6_init_85 rfl ?_
  refine rx_callN 86 (mt' := rX3_init) (host := "FieldBand") (As := []) (wc := [(a82_45, .inr (3, [.int 0, .int 0, .int 0, .int 0, .null, .null, .null, .null, .int 0, .null]))]) (wr := [(h0, .inr (6, [.ref a5_1, .ref a16_8, .int (0 : Int32), .ref a34_15, .null, .null, .ref a41_16, .ref a56_19])), (a5_1, .inr (1, [.int (0 : Int32), .ref b9_2_0, .ref b9_2_1, .ref b9_2_2, .int (60 : Int32), .int (0 : Int32), .ref b9_2_3, .int (0 : Int32), .ref b9_2_4, .int (0 : Int32), .ref b9_2_5, .int (0 : Int32)])), (b9_2_0, .inl (E.2.2.2.1 0, 10, .inl (fun _ => 0))), (b9_2_1, .inl (E.2.2.2.1 0, 10, .inl (fun _ => 0))), (b9_2_2, .inl (E.2.2.2.1 0, 10, .inl (fun _ => 0))), (b9_2_3, .inl (E.2.2.2.1 0, 10, .inl (fun _ => 0))), (b9_2_4, .inl (E.2.2.2.1 0, 10, .inl (fun _ => 0))), (b9_2_5, .inl (E.2.2.2.1 1, 120, .inl (fun _ => 0))), (a16_8, .inr (1, [.int (0 : Int32), .ref b20_9_0, .ref b20_9_1, .ref b20_9_2, .int (60 : Int32), .int (0 : Int32), .ref b20_9_3, .int (0 : Int32), .ref b20_9_4, .int (0 : Int32), .ref b20_9_5, .int (0 : Int32)])), (b20_9_0, .inl (E.2.2.2.1 0, 10, .inl (fun _ => 0))), (b20_9_1, .inl (E.2.2.2.1 0, 10, .inl (fun _ => 0))), (b20_9_2, .inl (E.2.2.2.1 0, 10, .inl (fun _ => 0))), (b20_9_3, .inl (E.2.2.2.1 0, 10, .inl (fun _ => 0))), (b20_9_4, .inl (E.2.2.2.1 0, 10, .inl (fun _ => 0))), (b20_9_5, .inl (E.2.2.2.1 1, 120, .inl (fun _ => 0))), (a34_15, .inl (E.2.2.2.1 3, 6, .inr (.inr (.inr (.inr (va_up (va_up (va_up (va_up (fun _ => none) (0 : Int32).toNatClampNeg (some a82_21)) (1 : Int32).toNatClampNeg (some a82_27)) (2 : Int32).toNatClampNeg (some a82_33)) (3 : Int32).toNatClampNeg (some a82_39))))))), (a41_16, .inr (5, [.ref a5_1, .ref b49_17_0, .ref b49_17_1, .int (0 : Int32), .int (0 : Int32)])), (b49_17_0, .inl (E.2.2.2.1 0, 6, .inl (fun _ => 0))), (b49_17_1, .inl (E.2.2.2.1 0, 6, .inl (fun _ => 0))), (a56_19, .inr (0, [.int (0 : Int32), .int (0 : Int32), .int (0 : Int32), .int (0 : Int32), .ref b60_20_0])), (b60_20_0, .inl (E.2.2.2.1 0, 20, .inl (fun _ => 0))), (a82_21, .inr (3, [.int (3 : Int32), .int (50 : Int32), .int (2 : Int32), .int (0 : Int32), .ref b86_22_0, .ref b86_22_1, .ref b86_22_2, .ref b86_22_3, .int (0 : Int32), .ref b86_22_4])), (b86_22_0, .inl (E.2.2.2.1 0, 10, .inl (fun _ => 0))), (b86_22_1, .inl (E.2.2.2.1 0, 10, .inl (fun _ => 0))), (b86_22_2, .inl (E.2.2.2.1 0, 10, .inl (fun _ => 0))), (b86_22_3, .inl (E.2.2.2.1 0, 10, .inl (fun _ => 0))), (b86_22_4, .inl (E.2.2.2.1 0, 120, .inl (fun _ => 0))), (a82_27, .inr (3, [.int (3 : Int32), .int (50 : Int32), .int (2 : Int32), .int (0 : Int32), .ref b86_28_0, .ref b86_28_1, .ref b86_28_2, .ref b86_28_3, .int (0 : Int32), .ref b86_28_4])), (b86_28_0, .inl (E.2.2.2.1 0, 10, .inl (fun _ => 0))), (b86_28_1, .inl (E.2.2.2.1 0, 10, .inl (fun _ => 0))), (b86_28_2, .inl (E.2.2.2.1 0, 10, .inl (fun _ => 0))), (b86_28_3, .inl (E.2.2.2.1 0, 10, .inl (fun _ => 0))), (b86_28_4, .inl (E.2.2.2.1 0, 120, .inl (fun _ => 0))), (a82_33, .inr (3, [.int (3 : Int32), .int (50 : Int32), .int (2 : Int32), .int (0 : Int32), .ref b86_34_0, .ref b86_34_1, .ref b86_34_2, .ref b86_34_3, .int (0 : Int32), .ref b86_34_4])), (b86_34_0, .inl (E.2.2.2.1 0, 10, .inl (fun _ => 0))), (b86_34_1, .inl (E.2.2.2.1 0, 10, .inl (fun _ => 0))), (b86_34_2, .inl (E.2.2.2.1 0, 10, .inl (fun _ => 0))), (b86_34_3, .inl (E.2.2.2.1 0, 10, .inl (fun _ => 0))), (b86_34_4, .inl (E.2.2.2.1 0, 120, .inl (fun _ => 0))), (a82_39, .inr (3, [.int (3 : Int32), .int (50 : Int32), .int (2 : Int32), .int (0 : Int32), .ref b86_40_0, .ref b86_40_1, .ref b86_40_2, .ref b86_40_3, .int (0 : Int32), .ref b86_40_4])), (b86_40_0, .inl (E.2.2.2.1 0, 10, .inl (fun _ => 0))), (b86_40_1, .inl (E.2.2.2.1 0, 10, .inl (fun _ => 0))), (b86_40_2, .inl (E.2.2.2.1 0, 10, .inl (fun _ => 0))), (b86_40_3, .inl (E.2.2.2.1 0, 10, .inl (fun _ => 0))), (b86_40_4, .inl (E.2.2.2.1 0, 120, .inl (fun _ => 0)))]) [45] [0, 1, 2, 3, 4, 5, 6, 7, 8, 9, 10, 11, 12, 13, 14, 15, 16, 17, 18, 19, 20, 21, 22, 23, 24, 25, 26, 27, 28, 29, 30, 31, 32, 33, 34, 35, 36, 37, 38, 39, 40, 41, 42, 43, 44] okrX3_init (List.mem_of_getElem? (i := 2) rfl) dX6_init_86 (ctX3_init E a82_45) rfl rfl (by decide) (by decide) (by decide) (by decide) ⟨Nat.le_of_ble_eq_true rfl, Nat.le_of_ble_eq_true rfl⟩ rfl rfl (Nat.le_of_ble_eq_true rfl) (fun w1 hw => ?_)
  obtain ⟨b86_46_0, b86_46_1, b86_46_2, b86_46_3, b86_46_4, rfl⟩ := hw
  refine rx_aast 89 15 45 dX6_init_89 rfl rfl (by decide) ?_
  refine rx_iinc 90 (lv' := [(1, .int (5 : Int32)), (0, .ref h0)]) (y := (5 : Int32)) dX6_init_90 0 rfl (by decide) (by decide) rfl ?_
  refine rx_goto 93 68 dX6_init_93 (by decide) ?_
  refine rx_iload_n 68 dX6_init_68 rfl 0 rfl ?_
  refine rx_aload_n 69 dX6_init_69 rfl 1 rfl ?_
  refine rx_get 70 0 3 (v := .ref a34_15) dX6_init_70 inlX6 lfX6_25 rfl rfl (by decide) rfl ?_
  refine rx_alen 73 15 (x := (6 : Int32)) dX6_init_73 rfl (by decide) ?_
  refine rx_geF 74 96 dX6_init_74 (by decide) (by decide) ?_
  refine rx_aload_n 77 dX6_init_77 rfl 1 rfl ?_
  refine rx_get 78 0 3 (v := .ref a34_15) dX6_init_78 inlX6 lfX6_25 rfl rfl (by decide) rfl ?_
  refine rx_iload_n 81 dX6_init_81 rfl 0 rfl ?_
  refine rx_new 82 (ci := 3) (fs := [.int 0, .int 0, .int 0, .int 0, .null, .null, .null, .null, .int 0, .null]) tyX3 dX6_init_82 inlX3 tyX3_ok (rin1 _ (List.mem_of_getElem? (i := 19) rfl)) (rin2 _ (List.mem_of_getElem? (i := 5) rfl)) (rin2 _ (List.mem_of_getElem? (i := 6) rfl)) rfl (fun j hj => by rcases (show j = 0 ∨ j = 1 ∨ j = 2 ∨ j = 3 ∨ j = 4 ∨ j = 5 ∨ j = 6 ∨ j = 7 ∨ j = 8 ∨ j = 9 by omega) with rfl | rfl | rfl | rfl | rfl | rfl | rfl | rfl | rfl | rfl <;> rfl) (Nat.le_of_ble_eq_true rfl) (Nat.le_of_ble_eq_true rfl) (fun a82_51 => ?_)
  refine rx_dup 85 dX6_init_85 rfl ?_
  refine rx_callN 86 (mt' := rX3_init) (host := "FieldBand") (As := []) (wc := [(a82_51, .inr (3, [.int 0, .int 0, .int 0, .int 0, .null, .null, .null, .null, .int 0, .null]))]) (wr := [(h0, .inr (6, [.ref a5_1, .ref a16_8, .int (0 : Int32), .ref a34_15, .null, .null, .ref a41_16, .ref a56_19])), (a5_1, .inr (1, [.int (0 : Int32), .ref b9_2_0, .ref b9_2_1, .ref b9_2_2, .int (60 : Int32), .int (0 : Int32), .ref b9_2_3, .int (0 : Int32), .ref b9_2_4, .int (0 : Int32), .ref b9_2_5, .int (0 : Int32)])), (b9_2_0, .inl (E.2.2.2.1 0, 10, .inl (fun _ => 0))), (b9_2_1, .inl (E.2.2.2.1 0, 10, .inl (fun _ => 0))), (b9_2_2, .inl (E.2.2.2.1 0, 10, .inl (fun _ => 0))), (b9_2_3, .inl (E.2.2.2.1 0, 10, .inl (fun _ => 0))), (b9_2_4, .inl (E.2.2.2.1 0, 10, .inl (fun _ => 0))), (b9_2_5, .inl (E.2.2.2.1 1, 120, .inl (fun _ => 0))), (a16_8, .inr (1, [.int (0 : Int32), .ref b20_9_0, .ref b20_9_1, .ref b20_9_2, .int (60 : Int32), .int (0 : Int32), .ref b20_9_3, .int (0 : Int32), .ref b20_9_4, .int (0 : Int32), .ref b20_9_5, .int (0 : Int32)])), (b20_9_0, .inl (E.2.2.2.1 0, 10, .inl (fun _ => 0))), (b20_9_1, .inl (E.2.2.2.1 0, 10, .inl (fun _ => 0))), (b20_9_2, .inl (E.2.2.2.1 0, 10, .inl (fun _ => 0))), (b20_9_3, .inl (E.2.2.2.1 0, 10, .inl (fun _ => 0))), (b20_9_4, .inl (E.2.2.2.1 0, 10, .inl (fun _ => 0))), (b20_9_5, .inl (E.2.2.2.1 1, 120, .inl (fun _ => 0))), (a34_15, .inl (E.2.2.2.1 3, 6, .inr (.inr (.inr (.inr (va_up (va_up (va_up (va_up (va_up (fun _ => none) (0 : Int32).toNatClampNeg (some a82_21)) (1 : Int32).toNatClampNeg (some a82_27)) (2 : Int32).toNatClampNeg (some a82_33)) (3 : Int32).toNatClampNeg (some a82_39)) (4 : Int32).toNatClampNeg (some a82_45))))))), (a41_16, .inr (5, [.ref a5_1, .ref b49_17_0, .ref b49_17_1, .int (0 : Int32), .int (0 : Int32)])), (b49_17_0, .inl (E.2.2.2.1 0, 6, .inl (fun _ => 0))), (b49_17_1, .inl (E.2.2.2.1 0, 6, .inl (fun _ => 0))), (a56_19, .inr (0, [.int (0 : Int32), .int (0 : Int32), .int (0 : Int32), .int (0 : Int32), .ref b60_20_0])), (b60_20_0, .inl (E.2.2.2.1 0, 20, .inl (fun _ => 0))), (a82_21, .inr (3, [.int (3 : Int32), .int (50 : Int32), .int (2 : Int32), .int (0 : Int32), .ref b86_22_0, .ref b86_22_1, .ref b86_22_2, .ref b86_22_3, .int (0 : Int32), .ref b86_22_4])), (b86_22_0, .inl (E.2.2.2.1 0, 10, .inl (fun _ => 0))), (b86_22_1, .inl (E.2.2.2.1 0, 10, .inl (fun _ => 0))), (b86_22_2, .inl (E.2.2.2.1 0, 10, .inl (fun _ => 0))), (b86_22_3, .inl (E.2.2.2.1 0, 10, .inl (fun _ => 0))), (b86_22_4, .inl (E.2.2.2.1 0, 120, .inl (fun _ => 0))), (a82_27, .inr (3, [.int (3 : Int32), .int (50 : Int32), .int (2 : Int32), .int (0 : Int32), .ref b86_28_0, .ref b86_28_1, .ref b86_28_2, .ref b86_28_3, .int (0 : Int32), .ref b86_28_4])), (b86_28_0, .inl (E.2.2.2.1 0, 10, .inl (fun _ => 0))), (b86_28_1, .inl (E.2.2.2.1 0, 10, .inl (fun _ => 0))), (b86_28_2, .inl (E.2.2.2.1 0, 10, .inl (fun _ => 0))), (b86_28_3, .inl (E.2.2.2.1 0, 10, .inl (fun _ => 0))), (b86_28_4, .inl (E.2.2.2.1 0, 120, .inl (fun _ => 0))), (a82_33, .inr (3, [.int (3 : Int32), .int (50 : Int32), .int (2 : Int32), .int (0 : Int32), .ref b86_34_0, .ref b86_34_1, .ref b86_34_2, .ref b86_34_3, .int (0 : Int32), .ref b86_34_4])), (b86_34_0, .inl (E.2.2.2.1 0, 10, .inl (fun _ => 0))), (b86_34_1, .inl (E.2.2.2.1 0, 10, .inl (fun _ => 0))), (b86_34_2, .inl (E.2.2.2.1 0, 10, .inl (fun _ => 0))), (b86_34_3, .inl (E.2.2.2.1 0, 10, .inl (fun _ => 0))), (b86_34_4, .inl (E.2.2.2.1 0, 120, .inl (fun _ => 0))), (a82_39, .inr (3, [.int (3 : Int32), .int (50 : Int32), .int (2 : Int32), .int (0 : Int32), .ref b86_40_0, .ref b86_40_1, .ref b86_40_2, .ref b86_40_3, .int (0 : Int32), .ref b86_40_4])), (b86_40_0, .inl (E.2.2.2.1 0, 10, .inl (fun _ => 0))), (b86_40_1, .inl (E.2.2.2.1 0, 10, .inl (fun _ => 0))), (b86_40_2, .inl (E.2.2.2.1 0, 10, .inl (fun _ => 0))), (b86_40_3, .inl (E.2.2.2.1 0, 10, .inl (fun _ => 0))), (b86_40_4, .inl (E.2.2.2.1 0, 120, .inl (fun _ => 0))), (a82_45, .inr (3, [.int (3 : Int32), .int (50 : Int32), .int (2 : Int32), .int (0 : Int32), .ref b86_46_0, .ref b86_46_1, .ref b86_46_2, .ref b86_46_3, .int (0 : Int32), .ref b86_46_4])), (b86_46_0, .inl (E.2.2.2.1 0, 10, .inl (fun _ => 0))), (b86_46_1, .inl (E.2.2.2.1 0, 10, .inl (fun _ => 0))), (b86_46_2, .inl (E.2.2.2.1 0, 10, .inl (fun _ => 0))), (b86_46_3, .inl (E.2.2.2.1 0, 10, .inl (fun _ => 0))), (b86_46_4, .inl (E.2.2.2.1 0, 120, .inl (fun _ => 0)))]) [51] [0, 1, 2, 3, 4, 5, 6, 7, 8, 9, 10, 11, 12, 13, 14, 15, 16, 17, 18, 19, 20, 21, 22, 23, 24, 25, 26, 27, 28, 29, 30, 31, 32, 33, 34, 35, 36, 37, 38, 39, 40, 41, 42, 43, 44, 45, 46, 47, 48, 49, 50] okrX3_init (List.mem_of_getElem? (i := 2) rfl) dX6_init_86 (ctX3_init E a82_51) rfl rfl (by decide) (by decide) (by decide) (by decide) ⟨Nat.le_of_ble_eq_true rfl, Nat.le_of_ble_eq_true rfl⟩ rfl rfl (Nat.le_of_ble_eq_true rfl) (fun w1 hw => ?_)
  obtain ⟨b86_52_0, b86_52_1, b86_52_2, b86_52_3, b86_52_4, rfl⟩ := hw
  refine rx_aast 89 15 51 dX6_init_89 rfl rfl (by decide) ?_
  refine rx_iinc 90 (lv' := [(1, .int (6 : Int32)), (0, .ref h0)]) (y := (6 : Int32)) dX6_init_90 0 rfl (by decide) (by decide) rfl ?_
  refine rx_goto 93 68 dX6_init_93 (by decide) ?_
  refine rx_iload_n 68 dX6_init_68 rfl 0 rfl ?_
  refine rx_aload_n 69 dX6_init_69 rfl 1 rfl ?_
  refine rx_get 70 0 3 (v := .ref a34_15) dX6_init_70 inlX6 lfX6_25 rfl rfl (by decide) rfl ?_
  refine rx_alen 73 15 (x := (6 : Int32)) dX6_init_73 rfl (by decide) ?_
  refine rx_geT 74 96 dX6_init_74 (by decide) (by decide) ?_
  refine rx_aload_n 96 dX6_init_96 rfl 1 rfl ?_
  refine rx_new 97 (ci := 2) (fs := [.null, .null, .int 0]) tyX2 dX6_init_97 inlX2 tyX2_ok (rin2 _ (List.mem_of_getElem? (i := 7) rfl)) (rin2 _ (List.mem_of_getElem? (i := 8) rfl)) (rin2 _ (List.mem_of_getElem? (i := 9) rfl)) rfl (fun j hj => by rcases (show j = 0 ∨ j = 1 ∨ j = 2 by omega) with rfl | rfl | rfl <;> rfl) (Nat.le_of_ble_eq_true rfl) (Nat.le_of_ble_eq_true rfl) (fun a97_57 => ?_)
  refine rx_dup 100 dX6_init_100 rfl ?_
  refine rx_aload_n 101 dX6_init_101 rfl 1 rfl ?_
  refine rx_get 102 0 0 (v := .ref a5_1) dX6_init_102 inlX6 lfX6_12 rfl rfl (by decide) rfl ?_
  refine rx_aload_n 105 dX6_init_105 rfl 1 rfl ?_
  refine rx_get 106 0 3 (v := .ref a34_15) dX6_init_106 inlX6 lfX6_25 rfl rfl (by decide) rfl ?_
  refine rx_iconst 109 (x := (0 : Int32)) dX6_init_109 (by decide) ?_
  refine rx_aald 110 15 (v := a82_21) dX6_init_110 rfl (by decide) rfl ?_
  refine rx_callI 111 (mt' := rX2_init) (As := [.ref a5_1, .ref a82_21]) (wc := [(a97_57, .inr (2, [.null, .null, .int 0]))]) (wr := [(h0, .inr (6, [.ref a5_1, .ref a16_8, .int (0 : Int32), .ref a34_15, .null, .null, .ref a41_16, .ref a56_19])), (a5_1, .inr (1, [.int (0 : Int32), .ref b9_2_0, .ref b9_2_1, .ref b9_2_2, .int (60 : Int32), .int (0 : Int32), .ref b9_2_3, .int (0 : Int32), .ref b9_2_4, .int (0 : Int32), .ref b9_2_5, .int (0 : Int32)])), (b9_2_0, .inl (E.2.2.2.1 0, 10, .inl (fun _ => 0))), (b9_2_1, .inl (E.2.2.2.1 0, 10, .inl (fun _ => 0))), (b9_2_2, .inl (E.2.2.2.1 0, 10, .inl (fun _ => 0))), (b9_2_3, .inl (E.2.2.2.1 0, 10, .inl (fun _ => 0))), (b9_2_4, .inl (E.2.2.2.1 0, 10, .inl (fun _ => 0))), (b9_2_5, .inl (E.2.2.2.1 1, 120, .inl (fun _ => 0))), (a16_8, .inr (1, [.int (0 : Int32), .ref b20_9_0, .ref b20_9_1, .ref b20_9_2, .int (60 : Int32), .int (0 : Int32), .ref b20_9_3, .int (0 : Int32), .ref b20_9_4, .int (0 : Int32), .ref b20_9_5, .int (0 : Int32)])), (b20_9_0, .inl (E.2.2.2.1 0, 10, .inl (fun _ => 0))), (b20_9_1, .inl (E.2.2.2.1 0, 10, .inl (fun _ => 0))), (b20_9_2, .inl (E.2.2.2.1 0, 10, .inl (fun _ => 0))), (b20_9_3, .inl (E.2.2.2.1 0, 10, .inl (fun _ => 0))), (b20_9_4, .inl (E.2.2.2.1 0, 10, .inl (fun _ => 0))), (b20_9_5, .inl (E.2.2.2.1 1, 120, .inl (fun _ => 0))), (a34_15, .inl (E.2.2.2.1 3, 6, .inr (.inr (.inr (.inr (va_up (va_up (va_up (va_up (va_up (va_up (fun _ => none) (0 : Int32).toNatClampNeg (some a82_21)) (1 : Int32).toNatClampNeg (some a82_27)) (2 : Int32).toNatClampNeg (some a82_33)) (3 : Int32).toNatClampNeg (some a82_39)) (4 : Int32).toNatClampNeg (some a82_45)) (5 : Int32).toNatClampNeg (some a82_51))))))), (a41_16, .inr (5, [.ref a5_1, .ref b49_17_0, .ref b49_17_1, .int (0 : Int32), .int (0 : Int32)])), (b49_17_0, .inl (E.2.2.2.1 0, 6, .inl (fun _ => 0))), (b49_17_1, .inl (E.2.2.2.1 0, 6, .inl (fun _ => 0))), (a56_19, .inr (0, [.int (0 : Int32), .int (0 : Int32), .int (0 : Int32), .int (0 : Int32), .ref b60_20_0])), (b60_20_0, .inl (E.2.2.2.1 0, 20, .inl (fun _ => 0))), (a82_21, .inr (3, [.int (3 : Int32), .int (50 : Int32), .int (2 : Int32), .int (0 : Int32), .ref b86_22_0, .ref b86_22_1, .ref b86_22_2, .ref b86_22_3, .int (0 : Int32), .ref b86_22_4])), (b86_22_0, .inl (E.2.2.2.1 0, 10, .inl (fun _ => 0))), (b86_22_1, .inl (E.2.2.2.1 0, 10, .inl (fun _ => 0))), (b86_22_2, .inl (E.2.2.2.1 0, 10, .inl (fun _ => 0))), (b86_22_3, .inl (E.2.2.2.1 0, 10, .inl (fun _ => 0))), (b86_22_4, .inl (E.2.2.2.1 0, 120, .inl (fun _ => 0))), (a82_27, .inr (3, [.int (3 : Int32), .int (50 : Int32), .int (2 : Int32), .int (0 : Int32), .ref b86_28_0, .ref b86_28_1, .ref b86_28_2, .ref b86_28_3, .int (0 : Int32), .ref b86_28_4])), (b86_28_0, .inl (E.2.2.2.1 0, 10, .inl (fun _ => 0))), (b86_28_1, .inl (E.2.2.2.1 0, 10, .inl (fun _ => 0))), (b86_28_2, .inl (E.2.2.2.1 0, 10, .inl (fun _ => 0))), (b86_28_3, .inl (E.2.2.2.1 0, 10, .inl (fun _ => 0))), (b86_28_4, .inl (E.2.2.2.1 0, 120, .inl (fun _ => 0))), (a82_33, .inr (3, [.int (3 : Int32), .int (50 : Int32), .int (2 : Int32), .int (0 : Int32), .ref b86_34_0, .ref b86_34_1, .ref b86_34_2, .ref b86_34_3, .int (0 : Int32), .ref b86_34_4])), (b86_34_0, .inl (E.2.2.2.1 0, 10, .inl (fun _ => 0))), (b86_34_1, .inl (E.2.2.2.1 0, 10, .inl (fun _ => 0))), (b86_34_2, .inl (E.2.2.2.1 0, 10, .inl (fun _ => 0))), (b86_34_3, .inl (E.2.2.2.1 0, 10, .inl (fun _ => 0))), (b86_34_4, .inl (E.2.2.2.1 0, 120, .inl (fun _ => 0))), (a82_39, .inr (3, [.int (3 : Int32), .int (50 : Int32), .int (2 : Int32), .int (0 : Int32), .ref b86_40_0, .ref b86_40_1, .ref b86_40_2, .ref b86_40_3, .int (0 : Int32), .ref b86_40_4])), (b86_40_0, .inl (E.2.2.2.1 0, 10, .inl (fun _ => 0))), (b86_40_1, .inl (E.2.2.2.1 0, 10, .inl (fun _ => 0))), (b86_40_2, .inl (E.2.2.2.1 0, 10, .inl (fun _ => 0))), (b86_40_3, .inl (E.2.2.2.1 0, 10, .inl (fun _ => 0))), (b86_40_4, .inl (E.2.2.2.1 0, 120, .inl (fun _ => 0))), (a82_45, .inr (3, [.int (3 : Int32), .int (50 : Int32), .int (2 : Int32), .int (0 : Int32), .ref b86_46_0, .ref b86_46_1, .ref b86_46_2, .ref b86_46_3, .int (0 : Int32), .ref b86_46_4])), (b86_46_0, .inl (E.2.2.2.1 0, 10, .inl (fun _ => 0))), (b86_46_1, .inl (E.2.2.2.1 0, 10, .inl (fun _ => 0))), (b86_46_2, .inl (E.2.2.2.1 0, 10, .inl (fun _ => 0))), (b86_46_3, .inl (E.2.2.2.1 0, 10, .inl (fun _ => 0))), (b86_46_4, .inl (E.2.2.2.1 0, 120, .inl (fun _ => 0))), (a82_51, .inr (3, [.int (3 : Int32), .int (50 : Int32), .int (2 : Int32), .int (0 : Int32), .ref b86_52_0, .ref b86_52_1, .ref b86_52_2, .ref b86_52_3, .int (0 : Int32), .ref b86_52_4])), (b86_52_0, .inl (E.2.2.2.1 0, 10, .inl (fun _ => 0))), (b86_52_1, .inl (E.2.2.2.1 0, 10, .inl (fun _ => 0))), (b86_52_2, .inl (E.2.2.2.1 0, 10, .inl (fun _ => 0))), (b86_52_3, .inl (E.2.2.2.1 0, 10, .inl (fun _ => 0))), (b86_52_4, .inl (E.2.2.2.1 0, 120, .inl (fun _ => 0)))]) [57] [0, 1, 2, 3, 4, 5, 6, 7, 8, 9, 10, 11, 12, 13, 14, 15, 16, 17, 18, 19, 20, 21, 22, 23, 24, 25, 26, 27, 28, 29, 30, 31, 32, 33, 34, 35, 36, 37, 38, 39, 40, 41, 42, 43, 44, 45, 46, 47, 48, 49, 50, 51, 52, 53, 54, 55, 56] okrX2_init lmX6_48 dX6_init_111 (ctX2_init E a97_57 a5_1 a82_21) rfl rfl (by decide) (by decide) (by decide) (by decide) ⟨Nat.le_of_ble_eq_true rfl, Nat.le_of_ble_eq_true rfl⟩ rfl rfl (Nat.le_of_ble_eq_true rfl) (fun w1 hw => ?_)
  obtain rfl := hw
  refine rx_putF 114 0 4 tyX6 (ty := (.object "FieldBand$Reader")) dX6_init_114 inlX6 tyX6_ok nmX6 lfX6_51 rfl rfl (by decide) rfl rfl rfl (by decide +kernel) rfl rfl (Nat.le_of_ble_eq_true rfl) ?_
  refine rx_aload_n 117 dX6_init_117 rfl 1 rfl ?_
  refine rx_new 118 (ci := 4) (fs := [.null, .null, .int 0, .int 0, .null, .null, .null, .null, .null]) tyX4 dX6_init_118 inlX4 tyX4_ok (rin2 _ (List.mem_of_getElem? (i := 11) rfl)) (rin2 _ (List.mem_of_getElem? (i := 12) rfl)) (rin2 _ (List.mem_of_getElem? (i := 13) rfl)) rfl (fun j hj => by rcases (show j = 0 ∨ j = 1 ∨ j = 2 ∨ j = 3 ∨ j = 4 ∨ j = 5 ∨ j = 6 ∨ j = 7 ∨ j = 8 by omega) with rfl | rfl | rfl | rfl | rfl | rfl | rfl | rfl | rfl <;> rfl) (Nat.le_of_ble_eq_true rfl) (Nat.le_of_ble_eq_true rfl) (fun a118_58 => ?_)
  refine rx_dup 121 dX6_init_121 rfl ?_
  refine rx_aload_n 122 dX6_init_122 rfl 1 rfl ?_
  refine rx_get 123 0 0 (v := .ref a5_1) dX6_init_123 inlX6 lfX6_12 rfl rfl (by decide) rfl ?_
  refine rx_aload_n 126 dX6_init_126 rfl 1 rfl ?_
  refine rx_get 127 0 3 (v := .ref a34_15) dX6_init_127 inlX6 lfX6_25 rfl rfl (by decide) rfl ?_
  refine rx_iconst 130 (x := (0 : Int32)) dX6_init_130 (by decide) ?_
  refine rx_aald 131 15 (v := a82_21) dX6_init_131 rfl (by decide) rfl ?_
  refine rx_callI 132 (mt' := rX4_init) (As := [.ref a5_1, .ref a82_21]) (wc := [(a118_58, .inr (4, [.null, .null, .int 0, .int 0, .null, .null, .null, .null, .null]))]) (wr := [(h0, .inr (6, [.ref a5_1, .ref a16_8, .int (0 : Int32), .ref a34_15, .ref a97_57, .null, .ref a41_16, .ref a56_19])), (a5_1, .inr (1, [.int (0 : Int32), .ref b9_2_0, .ref b9_2_1, .ref b9_2_2, .int (60 : Int32), .int (0 : Int32), .ref b9_2_3, .int (0 : Int32), .ref b9_2_4, .int (0 : Int32), .ref b9_2_5, .int (0 : Int32)])), (b9_2_0, .inl (E.2.2.2.1 0, 10, .inl (fun _ => 0))), (b9_2_1, .inl (E.2.2.2.1 0, 10, .inl (fun _ => 0))), (b9_2_2, .inl (E.2.2.2.1 0, 10, .inl (fun _ => 0))), (b9_2_3, .inl (E.2.2.2.1 0, 10, .inl (fun _ => 0))), (b9_2_4, .inl (E.2.2.2.1 0, 10, .inl (fun _ => 0))), (b9_2_5, .inl (E.2.2.2.1 1, 120, .inl (fun _ => 0))), (a16_8, .inr (1, [.int (0 : Int32), .ref b20_9_0, .ref b20_9_1, .ref b20_9_2, .int (60 : Int32), .int (0 : Int32), .ref b20_9_3, .int (0 : Int32), .ref b20_9_4, .int (0 : Int32), .ref b20_9_5, .int (0 : Int32)])), (b20_9_0, .inl (E.2.2.2.1 0, 10, .inl (fun _ => 0))), (b20_9_1, .inl (E.2.2.2.1 0, 10, .inl (fun _ => 0))), (b20_9_2, .inl (E.2.2.2.1 0, 10, .inl (fun _ => 0))), (b20_9_3, .inl (E.2.2.2.1 0, 10, .inl (fun _ => 0))), (b20_9_4, .inl (E.2.2.2.1 0, 10, .inl (fun _ => 0))), (b20_9_5, .inl (E.2.2.2.1 1, 120, .inl (fun _ => 0))), (a34_15, .inl (E.2.2.2.1 3, 6, .inr (.inr (.inr (.inr (va_up (va_up (va_up (va_up (va_up (va_up (fun _ => none) (0 : Int32).toNatClampNeg (some a82_21)) (1 : Int32).toNatClampNeg (some a82_27)) (2 : Int32).toNatClampNeg (some a82_33)) (3 : Int32).toNatClampNeg (some a82_39)) (4 : Int32).toNatClampNeg (some a82_45)) (5 : Int32).toNatClampNeg (some a82_51))))))), (a41_16, .inr (5, [.ref a5_1, .ref b49_17_0, .ref b49_17_1, .int (0 : Int32), .int (0 : Int32)])), (b49_17_0, .inl (E.2.2.2.1 0, 6, .inl (fun _ => 0))), (b49_17_1, .inl (E.2.2.2.1 0, 6, .inl (fun _ => 0))), (a56_19, .inr (0, [.int (0 : Int32), .int (0 : Int32), .int (0 : Int32), .int (0 : Int32), .ref b60_20_0])), (b60_20_0, .inl (E.2.2.2.1 0, 20, .inl (fun _ => 0))), (a82_21, .inr (3, [.int (3 : Int32), .int (50 : Int32), .int (2 : Int32), .int (0 : Int32), .ref b86_22_0, .ref b86_22_1, .ref b86_22_2, .ref b86_22_3, .int (0 : Int32), .ref b86_22_4])), (b86_22_0, .inl (E.2.2.2.1 0, 10, .inl (fun _ => 0))), (b86_22_1, .inl (E.2.2.2.1 0, 10, .inl (fun _ => 0))), (b86_22_2, .inl (E.2.2.2.1 0, 10, .inl (fun _ => 0))), (b86_22_3, .inl (E.2.2.2.1 0, 10, .inl (fun _ => 0))), (b86_22_4, .inl (E.2.2.2.1 0, 120, .inl (fun _ => 0))), (a82_27, .inr (3, [.int (3 : Int32), .int (50 : Int32), .int (2 : Int32), .int (0 : Int32), .ref b86_28_0, .ref b86_28_1, .ref b86_28_2, .ref b86_28_3, .int (0 : Int32), .ref b86_28_4])), (b86_28_0, .inl (E.2.2.2.1 0, 10, .inl (fun _ => 0))), (b86_28_1, .inl (E.2.2.2.1 0, 10, .inl (fun _ => 0))), (b86_28_2, .inl (E.2.2.2.1 0, 10, .inl (fun _ => 0))), (b86_28_3, .inl (E.2.2.2.1 0, 10, .inl (fun _ => 0))), (b86_28_4, .inl (E.2.2.2.1 0, 120, .inl (fun _ => 0))), (a82_33, .inr (3, [.int (3 : Int32), .int (50 : Int32), .int (2 : Int32), .int (0 : Int32), .ref b86_34_0, .ref b86_34_1, .ref b86_34_2, .ref b86_34_3, .int (0 : Int32), .ref b86_34_4])), (b86_34_0, .inl (E.2.2.2.1 0, 10, .inl (fun _ => 0))), (b86_34_1, .inl (E.2.2.2.1 0, 10, .inl (fun _ => 0))), (b86_34_2, .inl (E.2.2.2.1 0, 10, .inl (fun _ => 0))), (b86_34_3, .inl (E.2.2.2.1 0, 10, .inl (fun _ => 0))), (b86_34_4, .inl (E.2.2.2.1 0, 120, .inl (fun _ => 0))), (a82_39, .inr (3, [.int (3 : Int32), .int (50 : Int32), .int (2 : Int32), .int (0 : Int32), .ref b86_40_0, .ref b86_40_1, .ref b86_40_2, .ref b86_40_3, .int (0 : Int32), .ref b86_40_4])), (b86_40_0, .inl (E.2.2.2.1 0, 10, .inl (fun _ => 0))), (b86_40_1, .inl (E.2.2.2.1 0, 10, .inl (fun _ => 0))), (b86_40_2, .inl (E.2.2.2.1 0, 10, .inl (fun _ => 0))), (b86_40_3, .inl (E.2.2.2.1 0, 10, .inl (fun _ => 0))), (b86_40_4, .inl (E.2.2.2.1 0, 120, .inl (fun _ => 0))), (a82_45, .inr (3, [.int (3 : Int32), .int (50 : Int32), .int (2 : Int32), .int (0 : Int32), .ref b86_46_0, .ref b86_46_1, .ref b86_46_2, .ref b86_46_3, .int (0 : Int32), .ref b86_46_4])), (b86_46_0, .inl (E.2.2.2.1 0, 10, .inl (fun _ => 0))), (b86_46_1, .inl (E.2.2.2.1 0, 10, .inl (fun _ => 0))), (b86_46_2, .inl (E.2.2.2.1 0, 10, .inl (fun _ => 0))), (b86_46_3, .inl (E.2.2.2.1 0, 10, .inl (fun _ => 0))), (b86_46_4, .inl (E.2.2.2.1 0, 120, .inl (fun _ => 0))), (a82_51, .inr (3, [.int (3 : Int32), .int (50 : Int32), .int (2 : Int32), .int (0 : Int32), .ref b86_52_0, .ref b86_52_1, .ref b86_52_2, .ref b86_52_3, .int (0 : Int32), .ref b86_52_4])), (b86_52_0, .inl (E.2.2.2.1 0, 10, .inl (fun _ => 0))), (b86_52_1, .inl (E.2.2.2.1 0, 10, .inl (fun _ => 0))), (b86_52_2, .inl (E.2.2.2.1 0, 10, .inl (fun _ => 0))), (b86_52_3, .inl (E.2.2.2.1 0, 10, .inl (fun _ => 0))), (b86_52_4, .inl (E.2.2.2.1 0, 120, .inl (fun _ => 0))), (a97_57, .inr (2, [.ref a5_1, .ref a82_21, .int (0 : Int32)]))]) [58] [0, 1, 2, 3, 4, 5, 6, 7, 8, 9, 10, 11, 12, 13, 14, 15, 16, 17, 18, 19, 20, 21, 22, 23, 24, 25, 26, 27, 28, 29, 30, 31, 32, 33, 34, 35, 36, 37, 38, 39, 40, 41, 42, 43, 44, 45, 46, 47, 48, 49, 50, 51, 52, 53, 54, 55, 56, 57] okrX4_init lmX6_57 dX6_init_132 (ctX4_init E a118_58 a5_1 a82_21) rfl rfl (by decide) (by decide) (by decide) (by decide) ⟨Nat.le_of_ble_eq_true rfl, Nat.le_of_ble_eq_true rfl⟩ rfl rfl (Nat.le_of_ble_eq_true rfl) (fun w1 hw => ?_)
  obtain ⟨b132_59_0, b132_59_1, b132_59_2, b132_59_3, b132_59_4, rfl⟩ := hw
  refine rx_putF 135 0 5 tyX6 (ty := (.object "FieldBand$Sound")) dX6_init_135 inlX6 tyX6_ok nmX6 lfX6_58 rfl rfl (by decide) rfl rfl rfl (by decide +kernel) rfl rfl (Nat.le_of_ble_eq_true rfl) ?_
  exact rx_vret 138 dX6_init_138 rfl rfl ⟨fun k => ([h0, a5_1, b9_2_0, b9_2_1, b9_2_2, b9_2_3, b9_2_4, b9_2_5, a16_8, b20_9_0, b20_9_1, b20_9_2, b20_9_3, b20_9_4, b20_9_5, a34_15, a97_57, a56_19, b60_20_0, a41_16, a82_21, b86_22_0, b86_22_1, b86_22_2, b86_22_3, b86_22_4, a82_27, b86_28_0, b86_28_1, b86_28_2, b86_28_3, b86_28_4, a82_33, b86_34_0, b86_34_1, b86_34_2, b86_34_3, b86_34_4, a82_39, b86_40_0, b86_40_1, b86_40_2, b86_40_3, b86_40_4, a82_45, b86_46_0, b86_46_1, b86_46_2, b86_46_3, b86_46_4, a82_51, b86_52_0, b86_52_1, b86_52_2, b86_52_3, b86_52_4, b49_17_0, b49_17_1, a118_58, b132_59_0, b132_59_1, b132_59_2, b132_59_3, b132_59_4] : List Nat).getD k 0, rfl, rfl⟩
def rX7_init : rxM := (yX7_init, cX7_init, 1, 1, 40, 7, 1909)
theorem okrX7_init : rx_ok rX7_init 0 := ⟨(rin6 _ (List.mem_of_getElem? (i := 0) rfl)), (rin1 _ (List.mem_of_getElem? (i := 5) rfl)), ⟨by decide +kernel, by decide +kernel, by decide +kernel⟩, (rin5 _ (List.mem_of_getElem? (i := 23) rfl)), rfl⟩
set_option maxRecDepth 100000 in
set_option maxHeartbeats 8000000 in
theorem ctX7_init (E : fxE) (h0 : Nat) : rx_T rX7_init E [.ref h0] [(h0, .inr (7, [.int 0, .null, .null, .int 0, .int 0, .int 0, .int 0, .int 0, .int 0, .null, .null, .int 0, .int 0, .int 0, .int 0, .null, .null, .int 0, .int 0, .null, .int 0, .int 0, .int 0, .int 0]))] (fun w => ∃ ad : Nat → Nat, ad 0 = h0 ∧ [0, 1, 2, 3, 4, 5, 6, 7].map (fun i => w[i]?) = ((List.range 8).map (fun k => (ad k, gM.2 ad E.2.2.2.1 k (fxM1 k)))).map some) := by
  refine rx_enter (by show plainName RX7 = true; decide) (Nat.le_of_ble_eq_true rfl) (fun A => ?_)
  show rx_V _ _ _ _ 0 [(0, .ref h0)] [] _ 0 0
  refine rx_aload_n 0 dX7_init_0 rfl 0 rfl ?_
  refine rx_obj 1 dX7_init_1 lmX7_1 (rin1 _ (List.mem_of_getElem? (i := 11) rfl)) (rin1 _ (List.mem_of_getElem? (i := 12) rfl)) (by decide) (Nat.le_of_ble_eq_true rfl) ?_
  refine rx_aload_n 4 dX7_init_4 rfl 0 rfl ?_
  refine rx_sipush 5 (x := (900 : Int32)) dX7_init_5 (by decide) ?_
  refine rx_newa 8 0 (N := 900) dX7_init_8 (rin2 _ (List.mem_of_getElem? (i := 19) rfl)) rfl (fun _ => rfl) (by decide) (by decide) (by decide) (Nat.le_of_ble_eq_true rfl) (Nat.le_of_ble_eq_true rfl) (fun a8_1 => ?_)
  refine rx_putF 10 0 1 tyX7 (ty := (.array .int)) dX7_init_10 inlX7 tyX7_ok nmX7 lfX7_7 rfl rfl (by decide) rfl rfl rfl (by decide +kernel) rfl rfl (Nat.le_of_ble_eq_true rfl) ?_
  refine rx_aload_n 13 dX7_init_13 rfl 0 rfl ?_
  refine rx_sipush 14 (x := (900 : Int32)) dX7_init_14 (by decide) ?_
  refine rx_newa 17 0 (N := 900) dX7_init_17 (rin2 _ (List.mem_of_getElem? (i := 19) rfl)) rfl (fun _ => rfl) (by decide) (by decide) (by decide) (Nat.le_of_ble_eq_true rfl) (Nat.le_of_ble_eq_true rfl) (fun a17_2 => ?_)
  refine rx_putF 19 0 2 tyX7 (ty := (.array .int)) dX7_init_19 inlX7 tyX7_ok nmX7 lfX7_13 rfl rfl (by decide) rfl rfl rfl (by decide +kernel) rfl rfl (Nat.le_of_ble_eq_true rfl) ?_
  refine rx_aload_n 22 dX7_init_22 rfl 0 rfl ?_
  refine rx_iconst 23 (x := (5 : Int32)) dX7_init_23 (by decide) ?_
  refine rx_newa 24 0 (N := 5) dX7_init_24 (rin2 _ (List.mem_of_getElem? (i := 19) rfl)) rfl (fun _ => rfl) (by decide) (by decide) (by decide) (Nat.le_of_ble_eq_true rfl) (Nat.le_of_ble_eq_true rfl) (fun a24_3 => ?_)
  refine rx_putF 26 0 9 tyX7 (ty := (.array .int)) dX7_init_26 inlX7 tyX7_ok nmX7 lfX7_16 rfl rfl (by decide) rfl rfl rfl (by decide +kernel) rfl rfl (Nat.le_of_ble_eq_true rfl) ?_
  refine rx_aload_n 29 dX7_init_29 rfl 0 rfl ?_
  refine rx_bipush 30 (x := (64 : Int32)) dX7_init_30 (by decide) ?_
  refine rx_newa 32 2 (N := 64) dX7_init_32 (rin6 _ (List.mem_of_getElem? (i := 5) rfl)) rfl (fun _ => rfl) (by decide) (by decide) (by decide) (Nat.le_of_ble_eq_true rfl) (Nat.le_of_ble_eq_true rfl) (fun a32_4 => ?_)
  refine rx_putF 34 0 10 tyX7 (ty := (.array .boolean)) dX7_init_34 inlX7 tyX7_ok nmX7 lfX7_19 rfl rfl (by decide) rfl rfl rfl (by decide +kernel) rfl rfl (Nat.le_of_ble_eq_true rfl) ?_
  refine rx_aload_n 37 dX7_init_37 rfl 0 rfl ?_
  refine rx_iconst 38 (x := (-1 : Int32)) dX7_init_38 (by decide) ?_
  refine rx_put 39 0 13 tyX7 (ty := .int) dX7_init_39 inlX7 tyX7_ok nmX7 lfX7_23 rfl rfl (by decide) rfl (by decide +kernel) rfl rfl (Nat.le_of_ble_eq_true rfl) ?_
  refine rx_aload_n 42 dX7_init_42 rfl 0 rfl ?_
  refine rx_bipush 43 (x := (10 : Int32)) dX7_init_43 (by decide) ?_
  refine rx_newa 45 0 (N := 10) dX7_init_45 (rin2 _ (List.mem_of_getElem? (i := 19) rfl)) rfl (fun _ => rfl) (by decide) (by decide) (by decide) (Nat.le_of_ble_eq_true rfl) (Nat.le_of_ble_eq_true rfl) (fun a45_5 => ?_)
  refine rx_putF 47 0 15 tyX7 (ty := (.array .int)) dX7_init_47 inlX7 tyX7_ok nmX7 lfX7_27 rfl rfl (by decide) rfl rfl rfl (by decide +kernel) rfl rfl (Nat.le_of_ble_eq_true rfl) ?_
  refine rx_aload_n 50 dX7_init_50 rfl 0 rfl ?_
  refine rx_bipush 51 (x := (10 : Int32)) dX7_init_51 (by decide) ?_
  refine rx_newa 53 0 (N := 10) dX7_init_53 (rin2 _ (List.mem_of_getElem? (i := 19) rfl)) rfl (fun _ => rfl) (by decide) (by decide) (by decide) (Nat.le_of_ble_eq_true rfl) (Nat.le_of_ble_eq_true rfl) (fun a53_6 => ?_)
  refine rx_putF 55 0 16 tyX7 (ty := (.array .int)) dX7_init_55 inlX7 tyX7_ok nmX7 lfX7_30 rfl rfl (by decide) rfl rfl rfl (by decide +kernel) rfl rfl (Nat.le_of_ble_eq_true rfl) ?_
  refine rx_aload_n 58 dX7_init_58 rfl 0 rfl ?_
  refine rx_bipush 59 (x := (20 : Int32)) dX7_init_59 (by decide) ?_
  refine rx_newa 61 0 (N := 20) dX7_init_61 (rin2 _ (List.mem_of_getElem? (i := 19) rfl)) rfl (fun _ => rfl) (by decide) (by decide) (by decide) (Nat.le_of_ble_eq_true rfl) (Nat.le_of_ble_eq_true rfl) (fun a61_7 => ?_)
  refine rx_putF 63 0 19 tyX7 (ty := (.array .int)) dX7_init_63 inlX7 tyX7_ok nmX7 lfX7_33 rfl rfl (by decide) rfl rfl rfl (by decide +kernel) rfl rfl (Nat.le_of_ble_eq_true rfl) ?_
  refine rx_aload_n 66 dX7_init_66 rfl 0 rfl ?_
  refine rx_get 67 0 1 (v := .ref a8_1) dX7_init_67 inlX7 lfX7_7 rfl rfl (by decide) rfl ?_
  refine rx_iconst 70 (x := (5 : Int32)) dX7_init_70 (by decide) ?_
  refine rx_bipush 71 (x := (60 : Int32)) dX7_init_71 (by decide) ?_
  refine rx_iast 73 1 dX7_init_73 rfl (by decide) ?_
  refine rx_aload_n 74 dX7_init_74 rfl 0 rfl ?_
  refine rx_get 75 0 1 (v := .ref a8_1) dX7_init_75 inlX7 lfX7_7 rfl rfl (by decide) rfl ?_
  refine rx_bipush 78 (x := (6 : Int32)) dX7_init_78 (by decide) ?_
  refine rx_iconst 80 (x := (-1 : Int32)) dX7_init_80 (by decide) ?_
  refine rx_iast 81 1 dX7_init_81 rfl (by decide) ?_
  exact rx_vret 82 dX7_init_82 rfl rfl ⟨fun k => ([h0, a8_1, a17_2, a24_3, a32_4, a45_5, a53_6, a61_7] : List Nat).getD k 0, rfl, rfl⟩
