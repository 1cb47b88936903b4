def mX7_tellsOf : fxM := (yX7_tellsOf, cX7_tellsOf, 3, (some .int), 2, 80)
theorem okvX7_tellsOf (f l : Nat) : fx_okV (yX7_tellsOf, cX7_tellsOf, 3, (some .int), f, l) 2 := ⟨⟨rin17 _ (List.mem_of_getElem? (i := 13) rfl), rin1 _ (List.mem_of_getElem? (i := 5) rfl), by show yX7_tellsOf.cls ≠ _; decide +kernel, by show yX7_tellsOf.cls ≠ _; decide +kernel, by show (parseMethodDescriptor yX7_tellsOf.desc).map _ = _; decide +kernel⟩, rin17 _ (List.mem_of_getElem? (i := 11) rfl), rin17 _ (List.mem_of_getElem? (i := 12) rfl)⟩
def CX7_tellsOf (x1 : Int32) (x2 : Int32) (M : fxMem) : Option (Int32 × fxMem) := if fx_in (6 : Int32) 900 = true then if M 1 (6 : Int32).toNatClampNeg = (-1 : Int32) then some (x2, M) else if fx_in (x1 + (M 1 (6 : Int32).toNatClampNeg)) 900 = true then some (M 1 (x1 + (M 1 (6 : Int32).toNatClampNeg)).toNatClampNeg, M) else none else none
set_option maxRecDepth 100000 in
set_option maxHeartbeats 4000000 in
theorem tX7_tellsOf {x1 : Int32} {x2 : Int32} {M : fxMem} {R : Int32 × fxMem} (h : CX7_tellsOf x1 x2 M = some R) : fx_T gM mX7_tellsOf [.ref 0, .int x1, .int x2] M (fx_ri R) := by
  rw [CX7_tellsOf] at h
  refine fx_enter [(0, .ref 0), (1, .int x1), (2, .int x2)] (by show plainName RX7 = true; decide) (fun _ => rfl) (fun _ => Nat.le_of_ble_eq_true rfl) ?_
  refine fx_aload_n 0 dX7_tellsOf_0 rfl 0 rfl ?_
  refine fx_get 1 (j := 1) (v := .ref 1) okm0 dX7_tellsOf_1 lfX7_7 (by decide) (fun _ => rfl) ?_
  refine fx_bipush 4 (x := (6 : Int32)) dX7_tellsOf_4 (by decide) ?_
  obtain ⟨g6, h⟩ := fx_gt h
  refine fx_iald 6 okb1 dX7_tellsOf_6 g6 ?_
  refine fx_iconst 7 (x := (-1 : Int32)) dX7_tellsOf_7 (by decide) ?_
  refine fx_icmp_ne 8 15 dX7_tellsOf_8 (by decide) (fun c8 => ?_) (fun c8 => ?_)
  · replace h := fx_ne c8 h
    refine fx_aload_n 15 dX7_tellsOf_15 rfl 0 rfl ?_
    refine fx_get 16 (j := 1) (v := .ref 1) okm0 dX7_tellsOf_16 lfX7_7 (by decide) (fun _ => rfl) ?_
    refine fx_iload_n 19 dX7_tellsOf_19 rfl 1 rfl ?_
    refine fx_aload_n 20 dX7_tellsOf_20 rfl 0 rfl ?_
    refine fx_get 21 (j := 1) (v := .ref 1) okm0 dX7_tellsOf_21 lfX7_7 (by decide) (fun _ => rfl) ?_
    refine fx_bipush 24 (x := (6 : Int32)) dX7_tellsOf_24 (by decide) ?_
    refine fx_iald 26 okb1 dX7_tellsOf_26 g6 ?_
    refine fx_iadd 27 dX7_tellsOf_27 ?_
    obtain ⟨g28, h⟩ := fx_gt h
    refine fx_iald 28 okb1 dX7_tellsOf_28 g28 ?_
    obtain rfl := Option.some.inj h
    exact fx_iret 29 dX7_tellsOf_29 rfl rfl ⟨rfl, rfl⟩
  · replace h := fx_ip c8 h
    refine fx_iload_n 11 dX7_tellsOf_11 rfl 2 rfl ?_
    refine fx_goto 12 29 dX7_tellsOf_12 (by decide) ?_
    obtain rfl := Option.some.inj h
    exact fx_iret 29 dX7_tellsOf_29 rfl rfl ⟨rfl, rfl⟩
def mX7_atLeastOne : fxM := (yX7_atLeastOne, cX7_atLeastOne, 2, (some .int), 2, 80)
theorem okvX7_atLeastOne (f l : Nat) : fx_okV (yX7_atLeastOne, cX7_atLeastOne, 2, (some .int), f, l) 1 := ⟨⟨rin17 _ (List.mem_of_getElem? (i := 17) rfl), rin1 _ (List.mem_of_getElem? (i := 5) rfl), by show yX7_atLeastOne.cls ≠ _; decide +kernel, by show yX7_atLeastOne.cls ≠ _; decide +kernel, by show (parseMethodDescriptor yX7_atLeastOne.desc).map _ = _; decide +kernel⟩, rin17 _ (List.mem_of_getElem? (i := 15) rfl), rin17 _ (List.mem_of_getElem? (i := 16) rfl)⟩
def CX7_atLeastOne (x1 : Int32) (M : fxMem) : Option (Int32 × fxMem) := some ((if (1 : Int32) ≤ x1 then x1 else (1 : Int32)), M)
set_option maxRecDepth 100000 in
set_option maxHeartbeats 4000000 in
theorem tX7_atLeastOne {x1 : Int32} {M : fxMem} {R : Int32 × fxMem} (h : CX7_atLeastOne x1 M = some R) : fx_T gM mX7_atLeastOne [.ref 0, .int x1] M (fx_ri R) := by
  rw [CX7_atLeastOne] at h
  refine fx_enter [(0, .ref 0), (1, .int x1)] (by show plainName RX7 = true; decide) (fun _ => rfl) (fun _ => Nat.le_of_ble_eq_true rfl) ?_
  refine fx_iload_n 0 dX7_atLeastOne_0 rfl 1 rfl ?_
  refine fx_iconst 1 (x := (1 : Int32)) dX7_atLeastOne_1 (by decide) ?_
  have J : fx_V gM mX7_atLeastOne (fx_ri R) 10 [(0, .ref 0), (1, .int x1)] [.int (if (1 : Int32) ≤ x1 then x1 else (1 : Int32))] M := by
    obtain rfl := Option.some.inj h
    exact fx_iret 10 dX7_atLeastOne_10 rfl rfl ⟨rfl, rfl⟩
  refine fx_icmp_ge 2 9 dX7_atLeastOne_2 (by decide) (fun c2 => ?_) (fun c2 => ?_)
  · refine fx_iload_n 9 dX7_atLeastOne_9 rfl 1 rfl ?_
    refine fx_sub (lv' := [(0, .ref 0), (1, .int x1)]) [0, 1] rfl ?_
    show fx_V gM mX7_atLeastOne (fx_ri R) 10 [(0, .ref 0), (1, .int x1)] [.int x1] M
    simpa only [if_pos c2] using J
  · refine fx_iconst 5 (x := (1 : Int32)) dX7_atLeastOne_5 (by decide) ?_
    refine fx_goto 6 10 dX7_atLeastOne_6 (by decide) ?_
    refine fx_sub (lv' := [(0, .ref 0), (1, .int x1)]) [0, 1] rfl ?_
    show fx_V gM mX7_atLeastOne (fx_ri R) 10 [(0, .ref 0), (1, .int x1)] [.int (1 : Int32)] M
    simpa only [if_neg c2] using J
def mX7_speed : fxM := (yX7_speed, cX7_speed, 1, (some .int), 3, 120)
theorem okvX7_speed (f l : Nat) : fx_okV (yX7_speed, cX7_speed, 1, (some .int), f, l) 0 := ⟨⟨rin17 _ (List.mem_of_getElem? (i := 9) rfl), rin1 _ (List.mem_of_getElem? (i := 5) rfl), by show yX7_speed.cls ≠ _; decide +kernel, by show yX7_speed.cls ≠ _; decide +kernel, by show (parseMethodDescriptor yX7_speed.desc).map _ = _; decide +kernel⟩, rin17 _ (List.mem_of_getElem? (i := 7) rfl), rin17 _ (List.mem_of_getElem? (i := 8) rfl)⟩
def CX7_speed  (M : fxMem) : Option (Int32 × fxMem) := Option.bind (CX7_tellsOf (180 : Int32) (3 : Int32) M) fun q5 => some (q5.1, q5.2)
set_option maxRecDepth 100000 in
set_option maxHeartbeats 4000000 in
theorem tX7_speed  {M : fxMem} {R : Int32 × fxMem} (h : CX7_speed  M = some R) : fx_T gM mX7_speed [.ref 0] M (fx_ri R) := by
  rw [CX7_speed] at h
  refine fx_enter [(0, .ref 0)] (by show plainName RX7 = true; decide) (fun _ => rfl) (fun _ => Nat.le_of_ble_eq_true rfl) ?_
  refine fx_aload_n 0 dX7_speed_0 rfl 0 rfl ?_
  refine fx_sipush 1 (x := (180 : Int32)) dX7_speed_1 (by decide) ?_
  refine fx_iconst 4 (x := (3 : Int32)) dX7_speed_4 (by decide) ?_
  obtain ⟨q5, e5, h⟩ := fx_bd h
  refine fx_callVi 5 (mt' := mX7_tellsOf) (As := [.int (180 : Int32), .int (3 : Int32)]) okm0 (okvX7_tellsOf _ _) lmX7_129 (by decide) rfl rfl (Nat.le_of_ble_eq_true rfl) dX7_speed_5 (tX7_tellsOf e5) ?_
  obtain rfl := Option.some.inj h
  exact fx_iret 8 dX7_speed_8 rfl rfl ⟨rfl, rfl⟩
def mX7_told : fxM := (yX7_told, cX7_told, 2, (some .int), 4, 160)
theorem okvX7_told (f l : Nat) : fx_okV (yX7_told, cX7_told, 2, (some .int), f, l) 1 := ⟨⟨rin17 _ (List.mem_of_getElem? (i := 5) rfl), rin1 _ (List.mem_of_getElem? (i := 5) rfl), by show yX7_told.cls ≠ _; decide +kernel, by show yX7_told.cls ≠ _; decide +kernel, by show (parseMethodDescriptor yX7_told.desc).map _ = _; decide +kernel⟩, rin17 _ (List.mem_of_getElem? (i := 3) rfl), rin17 _ (List.mem_of_getElem? (i := 4) rfl)⟩
def CX7_told (x1 : Int32) (M : fxMem) : Option (Int32 × fxMem) := if x1 = (0 : Int32) then Option.bind (CX7_speed M) fun q29 => some (q29.1, q29.2) else if x1 = (1 : Int32) then Option.bind (CX7_tellsOf (185 : Int32) (50 : Int32) M) fun q40 => Option.bind (CX7_atLeastOne q40.1 q40.2) fun q43 => some (q43.1, q43.2) else if x1 = (2 : Int32) then Option.bind (CX7_tellsOf (190 : Int32) (2 : Int32) M) fun q53 => Option.bind (CX7_atLeastOne q53.1 q53.2) fun q56 => some (q56.1, q56.2) else some ((-1 : Int32), M)
set_option maxRecDepth 100000 in
set_option maxHeartbeats 4000000 in
theorem tX7_told {x1 : Int32} {M : fxMem} {R : Int32 × fxMem} (h : CX7_told x1 M = some R) : fx_T gM mX7_told [.ref 0, .int x1] M (fx_ri R) := by
  rw [CX7_told] at h
  refine fx_enter [(0, .ref 0), (1, .int x1)] (by show plainName RX7 = true; decide) (fun _ => rfl) (fun _ => Nat.le_of_ble_eq_true rfl) ?_
  refine fx_iload_n 0 dX7_told_0 rfl 1 rfl ?_
  by_cases s1_0 : x1 = (0 : Int32)
  · replace h := fx_ip s1_0 h
    refine fx_tsI 1 28 dX7_told_1 (by rw [s1_0]; decide) (by rw [s1_0]; decide) (by rw [s1_0]; try rfl) (by decide) ?_
    refine fx_aload_n 28 dX7_told_28 rfl 0 rfl ?_
    obtain ⟨q29, e29, h⟩ := fx_bd h
    refine fx_callVi 29 (mt' := mX7_speed) (As := []) okm0 (okvX7_speed _ _) lmX7_133 (by decide) rfl rfl (Nat.le_of_ble_eq_true rfl) dX7_told_29 (tX7_speed e29) ?_
    obtain rfl := Option.some.inj h
    exact fx_iret 32 dX7_told_32 rfl rfl ⟨rfl, rfl⟩
  · replace h := fx_ne s1_0 h
    by_cases s1_1 : x1 = (1 : Int32)
    · replace h := fx_ip s1_1 h
      refine fx_tsI 1 33 dX7_told_1 (by rw [s1_1]; decide) (by rw [s1_1]; decide) (by rw [s1_1]; try rfl) (by decide) ?_
      refine fx_aload_n 33 dX7_told_33 rfl 0 rfl ?_
      refine fx_aload_n 34 dX7_told_34 rfl 0 rfl ?_
      refine fx_sipush 35 (x := (185 : Int32)) dX7_told_35 (by decide) ?_
      refine fx_bipush 38 (x := (50 : Int32)) dX7_told_38 (by decide) ?_
      obtain ⟨q40, e40, h⟩ := fx_bd h
      refine fx_callVi 40 (mt' := mX7_tellsOf) (As := [.int (185 : Int32), .int (50 : Int32)]) okm0 (okvX7_tellsOf _ _) lmX7_129 (by decide) rfl rfl (Nat.le_of_ble_eq_true rfl) dX7_told_40 (tX7_tellsOf e40) ?_
      obtain ⟨q43, e43, h⟩ := fx_bd h
      refine fx_callVi 43 (mt' := mX7_atLeastOne) (As := [.int q40.1]) okm0 (okvX7_atLeastOne _ _) lmX7_136 (by decide) rfl rfl (Nat.le_of_ble_eq_true rfl) dX7_told_43 (tX7_atLeastOne e43) ?_
      obtain rfl := Option.some.inj h
      exact fx_iret 46 dX7_told_46 rfl rfl ⟨rfl, rfl⟩
    · replace h := fx_ne s1_1 h
      by_cases s1_2 : x1 = (2 : Int32)
      · replace h := fx_ip s1_2 h
        refine fx_tsI 1 47 dX7_told_1 (by rw [s1_2]; decide) (by rw [s1_2]; decide) (by rw [s1_2]; try rfl) (by decide) ?_
        refine fx_aload_n 47 dX7_told_47 rfl 0 rfl ?_
        refine fx_aload_n 48 dX7_told_48 rfl 0 rfl ?_
        refine fx_sipush 49 (x := (190 : Int32)) dX7_told_49 (by decide) ?_
        refine fx_iconst 52 (x := (2 : Int32)) dX7_told_52 (by decide) ?_
        obtain ⟨q53, e53, h⟩ := fx_bd h
        refine fx_callVi 53 (mt' := mX7_tellsOf) (As := [.int (190 : Int32), .int (2 : Int32)]) okm0 (okvX7_tellsOf _ _) lmX7_129 (by decide) rfl rfl (Nat.le_of_ble_eq_true rfl) dX7_told_53 (tX7_tellsOf e53) ?_
        obtain ⟨q56, e56, h⟩ := fx_bd h
        refine fx_callVi 56 (mt' := mX7_atLeastOne) (As := [.int q53.1]) okm0 (okvX7_atLeastOne _ _) lmX7_136 (by decide) rfl rfl (Nat.le_of_ble_eq_true rfl) dX7_told_56 (tX7_atLeastOne e56) ?_
        obtain rfl := Option.some.inj h
        exact fx_iret 59 dX7_told_59 rfl rfl ⟨rfl, rfl⟩
      · replace h := fx_ne s1_2 h
        refine fx_tsD 1 60 [(0 : Int32), (1 : Int32), (2 : Int32)] dX7_told_1 (by decide) (by decide) (by intro q hq; simp only [List.mem_cons, List.not_mem_nil, or_false] at hq; rcases hq with rfl | rfl | rfl <;> assumption) (by decide) ?_
        refine fx_iconst 60 (x := (-1 : Int32)) dX7_told_60 (by decide) ?_
        obtain rfl := Option.some.inj h
        exact fx_iret 61 dX7_told_61 rfl rfl ⟨rfl, rfl⟩
def mX7_looks : fxM := (yX7_looks, cX7_looks, 11, none, 3, 120)
theorem okvX7_looks (f l : Nat) : fx_okV (yX7_looks, cX7_looks, 11, none, f, l) 2 := ⟨⟨rin23 _ (List.mem_of_getElem? (i := 3) rfl), rin1 _ (List.mem_of_getElem? (i := 5) rfl), by show yX7_looks.cls ≠ _; decide +kernel, by show yX7_looks.cls ≠ _; decide +kernel, by show (parseMethodDescriptor yX7_looks.desc).map _ = _; decide +kernel⟩, rin23 _ (List.mem_of_getElem? (i := 1) rfl), rin23 _ (List.mem_of_getElem? (i := 2) rfl)⟩
def CX7_looks_J345  (x1 : Int32) (x2 : Int32) (x3 : Int32) (x4 : Int32) (x5 : Int32) (x6 : Int32) (x7 : Int32) (t0 : Int32) (t1 : Int32) (M : fxMem) (rr k : Int32 → Int32 → fxMem → Option (fxMem)) : Option (fxMem) := if fx_in t1 64 = true then rr x5 (x6 + (1 : Int32)) (fx_st M 4 t1.toNatClampNeg (vp_nar .boolean t0)) else none
set_option maxRecDepth 100000 in
set_option maxHeartbeats 4000000 in
theorem vX7_looks_J345  {x1 : Int32} {x2 : Int32} {x3 : Int32} {x4 : Int32} {x5 : Int32} {x6 : Int32} {x7 : Int32} {t0 : Int32} {t1 : Int32} {R : fxMem} {M : fxMem} {rr k : Int32 → Int32 → fxMem → Option (fxMem)} (hr : ∀ (z5 : Int32) (z6 : Int32) (M : fxMem), rr z5 z6 M = some R → fx_V gM mX7_looks (fx_rv R) 111 [(0, .ref 0), (1, .int x1), (2, .int x2), (3, .int x3), (4, .int x4), (5, .int z5), (6, .int z6)] [] M) (hk : ∀ (z5 : Int32) (z6 : Int32) (M : fxMem), k z5 z6 M = some R → fx_V gM mX7_looks (fx_rv R) 429 [(0, .ref 0), (1, .int x1), (2, .int x2), (3, .int x3), (4, .int x4), (5, .int z5), (6, .int z6)] [] M) (h : CX7_looks_J345 x1 x2 x3 x4 x5 x6 x7 t0 t1 M rr k = some R) : fx_V gM mX7_looks (fx_rv R) 345 [(0, .ref 0), (1, .int x1), (2, .int x2), (3, .int x3), (4, .int x4), (5, .int x5), (6, .int x6), (7, .int x7)] [.int t0, .int t1, .ref 4] M := by
  rw [CX7_looks_J345] at h
  obtain ⟨g345, h⟩ := fx_gt h
  refine fx_zast 345 okb4 dX7_looks_345 g345 ?_
  refine fx_goto 346 423 dX7_looks_346 (by decide) ?_
  refine fx_iinc 423 (lv' := [(6, .int (x6 + (1 : Int32))), (0, .ref 0), (1, .int x1), (2, .int x2), (3, .int x3), (4, .int x4), (5, .int x5), (7, .int x7)]) (y := x6 + (1 : Int32)) dX7_looks_423 6 rfl (by rfl) (Nat.le_of_ble_eq_true rfl) rfl ?_
  refine fx_goto 426 111 dX7_looks_426 (by decide) ?_
  refine fx_sub [1, 2, 3, 4, 5, 6, 0] rfl ?_
  exact hr _ _ _ h
def CX7_looks_J340  (x1 : Int32) (x2 : Int32) (x3 : Int32) (x4 : Int32) (x5 : Int32) (x6 : Int32) (x7 : Int32) (t0 : Int32) (M : fxMem) (rr k : Int32 → Int32 → fxMem → Option (fxMem)) : Option (fxMem) := CX7_looks_J345 x1 x2 x3 x4 x5 x6 x7 (1 : Int32) t0 M (fun z5 z6 Mz => rr z5 z6 Mz) k
set_option maxRecDepth 100000 in
set_option maxHeartbeats 4000000 in
theorem vX7_looks_J340  {x1 : Int32} {x2 : Int32} {x3 : Int32} {x4 : Int32} {x5 : Int32} {x6 : Int32} {x7 : Int32} {t0 : Int32} {R : fxMem} {M : fxMem} {rr k : Int32 → Int32 → fxMem → Option (fxMem)} (hr : ∀ (z5 : Int32) (z6 : Int32) (M : fxMem), rr z5 z6 M = some R → fx_V gM mX7_looks (fx_rv R) 111 [(0, .ref 0), (1, .int x1), (2, .int x2), (3, .int x3), (4, .int x4), (5, .int z5), (6, .int z6)] [] M) (hk : ∀ (z5 : Int32) (z6 : Int32) (M : fxMem), k z5 z6 M = some R → fx_V gM mX7_looks (fx_rv R) 429 [(0, .ref 0), (1, .int x1), (2, .int x2), (3, .int x3), (4, .int x4), (5, .int z5), (6, .int z6)] [] M) (h : CX7_looks_J340 x1 x2 x3 x4 x5 x6 x7 t0 M rr k = some R) : fx_V gM mX7_looks (fx_rv R) 340 [(0, .ref 0), (1, .int x1), (2, .int x2), (3, .int x3), (4, .int x4), (5, .int x5), (6, .int x6), (7, .int x7)] [.int t0, .ref 4] M := by
  rw [CX7_looks_J340] at h
  refine fx_iconst 340 (x := (1 : Int32)) dX7_looks_340 (by decide) ?_
  refine fx_goto 341 345 dX7_looks_341 (by decide) ?_
  refine fx_sub [0, 1, 2, 3, 4, 5, 6, 7] rfl ?_
  exact vX7_looks_J345 (fun _ _ _ => hr _ _ _) hk h
def CX7_looks_J314  (x1 : Int32) (x2 : Int32) (x3 : Int32) (x4 : Int32) (x5 : Int32) (x6 : Int32) (x7 : Int32) (t0 : Int32) (M : fxMem) (rr k : Int32 → Int32 → fxMem → Option (fxMem)) : Option (fxMem) := CX7_looks_J345 x1 x2 x3 x4 x5 x6 x7 (0 : Int32) t0 M (fun z5 z6 Mz => rr z5 z6 Mz) k
set_option maxRecDepth 100000 in
set_option maxHeartbeats 4000000 in
theorem vX7_looks_J314  {x1 : Int32} {x2 : Int32} {x3 : Int32} {x4 : Int32} {x5 : Int32} {x6 : Int32} {x7 : Int32} {t0 : Int32} {R : fxMem} {M : fxMem} {rr k : Int32 → Int32 → fxMem → Option (fxMem)} (hr : ∀ (z5 : Int32) (z6 : Int32) (M : fxMem), rr z5 z6 M = some R → fx_V gM mX7_looks (fx_rv R) 111 [(0, .ref 0), (1, .int x1), (2, .int x2), (3, .int x3), (4, .int x4), (5, .int z5), (6, .int z6)] [] M) (hk : ∀ (z5 : Int32) (z6 : Int32) (M : fxMem), k z5 z6 M = some R → fx_V gM mX7_looks (fx_rv R) 429 [(0, .ref 0), (1, .int x1), (2, .int x2), (3, .int x3), (4, .int x4), (5, .int z5), (6, .int z6)] [] M) (h : CX7_looks_J314 x1 x2 x3 x4 x5 x6 x7 t0 M rr k = some R) : fx_V gM mX7_looks (fx_rv R) 314 [(0, .ref 0), (1, .int x1), (2, .int x2), (3, .int x3), (4, .int x4), (5, .int x5), (6, .int x6), (7, .int x7)] [.int t0, .ref 4] M := by
  rw [CX7_looks_J314] at h
  refine fx_iconst 314 (x := (0 : Int32)) dX7_looks_314 (by decide) ?_
  refine fx_goto 315 345 dX7_looks_315 (by decide) ?_
  refine fx_sub [0, 1, 2, 3, 4, 5, 6, 7] rfl ?_
  exact vX7_looks_J345 (fun _ _ _ => hr _ _ _) hk h
def CX7_looks_L111 (x1 : Int32) (x2 : Int32) (x3 : Int32) (x4 : Int32) : Nat → Int32 → Int32 → fxMem → (Int32 → Int32 → fxMem → Option (fxMem)) → Option (fxMem)
  | 0, _, _, _, _ => none
  | n + 1, x5, x6, M, k => if x4 + x3 ≤ x6 then k x5 x6 M else if fx_in x6 900 = true then if M 1 x6.toNatClampNeg < (0 : Int32) then if M 1 x6.toNatClampNeg = (-1 : Int32) then if fx_in (x5 - (1 : Int32)) 64 = true then CX7_looks_L111 x1 x2 x3 x4 n x5 (x6 + (1 : Int32)) (fx_st M 4 (x5 - (1 : Int32)).toNatClampNeg (vp_nar .boolean (if M 4 (x5 - (1 : Int32)).toNatClampNeg = (0 : Int32) then (1 : Int32) else (0 : Int32)))) k else none else if M 1 x6.toNatClampNeg ≤ (-10 : Int32) then if fx_in (0 : Int32) 64 = true then fx_lt (fx_st M 0 11 ((M 0 11) + (if M 4 (0 : Int32).toNatClampNeg = (0 : Int32) then (0 : Int32) else (if M 1 x6.toNatClampNeg ≤ (-200 : Int32) then (0 : Int32) else (-10 : Int32) - (M 1 x6.toNatClampNeg))))) fun M389 => CX7_looks_L111 x1 x2 x3 x4 n (0 : Int32) (x6 + (1 : Int32)) (fx_st M389 0 12 ((M389 0 12) + (if M389 4 (0 : Int32).toNatClampNeg = (0 : Int32) then (0 : Int32) else (if (-200 : Int32) < M 1 x6.toNatClampNeg then (0 : Int32) else (-200 : Int32) - (M 1 x6.toNatClampNeg))))) k else none else if M 1 x6.toNatClampNeg = (-2 : Int32) then if fx_in ((x5 + (-1 : Int32)) - (1 : Int32)) 64 = true then if M 4 ((x5 + (-1 : Int32)) - (1 : Int32)).toNatClampNeg = (0 : Int32) then CX7_looks_J314 x1 x2 x3 x4 (x5 + (-1 : Int32)) x6 (M 1 x6.toNatClampNeg) ((x5 + (-1 : Int32)) - (1 : Int32)) M (fun z5 z6 Mz => CX7_looks_L111 x1 x2 x3 x4 n z5 z6 Mz k) k else if fx_in (x5 + (-1 : Int32)) 64 = true then CX7_looks_J345 x1 x2 x3 x4 (x5 + (-1 : Int32)) x6 (M 1 x6.toNatClampNeg) (if M 4 (x5 + (-1 : Int32)).toNatClampNeg = (0 : Int32) then (0 : Int32) else (1 : Int32)) ((x5 + (-1 : Int32)) - (1 : Int32)) M (fun z5 z6 Mz => CX7_looks_L111 x1 x2 x3 x4 n z5 z6 Mz k) k else none else none else if fx_in ((x5 + (-1 : Int32)) - (1 : Int32)) 64 = true then if M 4 ((x5 + (-1 : Int32)) - (1 : Int32)).toNatClampNeg = (0 : Int32) then if fx_in (x5 + (-1 : Int32)) 64 = true then CX7_looks_J345 x1 x2 x3 x4 (x5 + (-1 : Int32)) x6 (M 1 x6.toNatClampNeg) (if M 4 (x5 + (-1 : Int32)).toNatClampNeg = (0 : Int32) then (0 : Int32) else (1 : Int32)) ((x5 + (-1 : Int32)) - (1 : Int32)) M (fun z5 z6 Mz => CX7_looks_L111 x1 x2 x3 x4 n z5 z6 Mz k) k else none else CX7_looks_J340 x1 x2 x3 x4 (x5 + (-1 : Int32)) x6 (M 1 x6.toNatClampNeg) ((x5 + (-1 : Int32)) - (1 : Int32)) M (fun z5 z6 Mz => CX7_looks_L111 x1 x2 x3 x4 n z5 z6 Mz k) k else none else if fx_in ((M 1 x6.toNatClampNeg) - (M 1 x6.toNatClampNeg) / (8 : Int32) * (8 : Int32)) 5 = true then if fx_in x5 64 = true then CX7_looks_L111 x1 x2 x3 x4 n (x5 + (1 : Int32)) (x6 + (1 : Int32)) (fx_st M 4 x5.toNatClampNeg (vp_nar .boolean (if ((M 1 x6.toNatClampNeg) / (8 : Int32)) - ((M 1 x6.toNatClampNeg) / (8 : Int32)) / (4 : Int32) * (4 : Int32) = (0 : Int32) then (if (M 1 x6.toNatClampNeg) / (32 : Int32) ≤ M 3 ((M 1 x6.toNatClampNeg) - (M 1 x6.toNatClampNeg) / (8 : Int32) * (8 : Int32)).toNatClampNeg then (0 : Int32) else (1 : Int32)) else (if ((M 1 x6.toNatClampNeg) / (8 : Int32)) - ((M 1 x6.toNatClampNeg) / (8 : Int32)) / (4 : Int32) * (4 : Int32) = (1 : Int32) then (if M 3 ((M 1 x6.toNatClampNeg) - (M 1 x6.toNatClampNeg) / (8 : Int32) * (8 : Int32)).toNatClampNeg = (M 1 x6.toNatClampNeg) / (32 : Int32) then (1 : Int32) else (0 : Int32)) else (if M 3 ((M 1 x6.toNatClampNeg) - (M 1 x6.toNatClampNeg) / (8 : Int32) * (8 : Int32)).toNatClampNeg ≤ (M 1 x6.toNatClampNeg) / (32 : Int32) then (0 : Int32) else (1 : Int32)))))) k else none else none else none
set_option maxRecDepth 100000 in
set_option maxHeartbeats 4000000 in
theorem vX7_looks_L111 {x1 : Int32} {x2 : Int32} {x3 : Int32} {x4 : Int32} {R : fxMem} {k : Int32 → Int32 → fxMem → Option (fxMem)} (hk : ∀ (x5 : Int32) (x6 : Int32) (M : fxMem), k x5 x6 M = some R → fx_V gM mX7_looks (fx_rv R) 429 [(0, .ref 0), (1, .int x1), (2, .int x2), (3, .int x3), (4, .int x4), (5, .int x5), (6, .int x6)] [] M) : ∀ (n : Nat) (x5 : Int32) (x6 : Int32) (M : fxMem), CX7_looks_L111 x1 x2 x3 x4 n x5 x6 M k = some R → fx_V gM mX7_looks (fx_rv R) 111 [(0, .ref 0), (1, .int x1), (2, .int x2), (3, .int x3), (4, .int x4), (5, .int x5), (6, .int x6)] [] M := by
  intro n
  induction n with
  | zero => intro x5 x6 M h; rw [CX7_looks_L111] at h; cases h
  | succ n ih =>
    intro x5 x6 M h
    rw [CX7_looks_L111] at h
    refine fx_iload 111 dX7_looks_111 6 rfl ?_
    refine fx_iload 113 dX7_looks_113 4 rfl ?_
    refine fx_iload_n 115 dX7_looks_115 rfl 3 rfl ?_
    refine fx_iadd 116 dX7_looks_116 ?_
    refine fx_icmp_ge 117 429 dX7_looks_117 (by decide) (fun c117 => ?_) (fun c117 => ?_)
    · replace h := fx_ip c117 h
      refine fx_sub [0, 1, 2, 3, 4, 5, 6] rfl ?_
      exact hk _ _ _ h
    · replace h := fx_ne c117 h
      refine fx_aload_n 120 dX7_looks_120 rfl 0 rfl ?_
      refine fx_get 121 (j := 1) (v := .ref 1) okm0 dX7_looks_121 lfX7_7 (by decide) (fun _ => rfl) ?_
      refine fx_iload 124 dX7_looks_124 6 rfl ?_
      obtain ⟨g126, h⟩ := fx_gt h
      refine fx_iald 126 okb1 dX7_looks_126 g126 ?_
      refine fx_istore 127 (lv' := [(7, .int (M 1 x6.toNatClampNeg)), (0, .ref 0), (1, .int x1), (2, .int x2), (3, .int x3), (4, .int x4), (5, .int x5), (6, .int x6)]) dX7_looks_127 (Nat.le_of_ble_eq_true rfl) rfl ?_
      refine fx_iload 129 dX7_looks_129 0 rfl ?_
      refine fx_if_lt 131 228 dX7_looks_131 (by decide) (fun c131 => ?_) (fun c131 => ?_)
      · replace h := fx_ip c131 h
        refine fx_iload 228 dX7_looks_228 0 rfl ?_
        refine fx_iconst 230 (x := (-1 : Int32)) dX7_looks_230 (by decide) ?_
        refine fx_icmp_ne 231 263 dX7_looks_231 (by decide) (fun c231 => ?_) (fun c231 => ?_)
        · replace h := fx_ne c231 h
          refine fx_iload 263 dX7_looks_263 0 rfl ?_
          refine fx_bipush 265 (x := (-10 : Int32)) dX7_looks_265 (by decide) ?_
          refine fx_icmp_le 267 349 dX7_looks_267 (by decide) (fun c267 => ?_) (fun c267 => ?_)
          · replace h := fx_ip c267 h
            refine fx_iconst 349 (x := (0 : Int32)) dX7_looks_349 (by decide) ?_
            refine fx_istore 350 (lv' := [(5, .int (0 : Int32)), (7, .int (M 1 x6.toNatClampNeg)), (0, .ref 0), (1, .int x1), (2, .int x2), (3, .int x3), (4, .int x4), (6, .int x6)]) dX7_looks_350 (Nat.le_of_ble_eq_true rfl) rfl ?_
            refine fx_aload_n 352 dX7_looks_352 rfl 2 rfl ?_
            refine fx_dup 353 dX7_looks_353 rfl ?_
            refine fx_get 354 (j := 11) (v := .int (M 0 11)) okm0 dX7_looks_354 lfX7_139 (by decide) (fun _ => rfl) ?_
            refine fx_aload_n 357 dX7_looks_357 rfl 2 rfl ?_
            refine fx_get 358 (j := 10) (v := .ref 4) okm0 dX7_looks_358 lfX7_19 (by decide) (fun _ => rfl) ?_
            refine fx_iconst 361 (x := (0 : Int32)) dX7_looks_361 (by decide) ?_
            obtain ⟨g362, h⟩ := fx_gt h
            refine fx_zald 362 okb4 dX7_looks_362 g362 ?_
            have J : fx_V gM mX7_looks (fx_rv R) 383 [(0, .ref 0), (1, .int x1), (2, .int x2), (3, .int x3), (4, .int x4), (5, .int (0 : Int32)), (6, .int x6), (7, .int (M 1 x6.toNatClampNeg))] [.int (if M 4 (0 : Int32).toNatClampNeg = (0 : Int32) then (0 : Int32) else (if M 1 x6.toNatClampNeg ≤ (-200 : Int32) then (0 : Int32) else (-10 : Int32) - (M 1 x6.toNatClampNeg))), .int (M 0 11), .ref 0] M := by
              refine fx_iadd 383 dX7_looks_383 ?_
              refine fx_putI 384 (j := 11) okm0 dX7_looks_384 lfX7_139 (by decide) rfl (by decide +kernel) (fun _ _ => Nat.le_of_ble_eq_true rfl) (fun _ _ _ => rfl) ?_
              refine fx_aload_n 387 dX7_looks_387 rfl 0 rfl ?_
              refine fx_dup 388 dX7_looks_388 rfl ?_
              replace h := fx_ltd h
              generalize fx_st M 0 11 ((M 0 11) + (if M 4 (0 : Int32).toNatClampNeg = (0 : Int32) then (0 : Int32) else (if M 1 x6.toNatClampNeg ≤ (-200 : Int32) then (0 : Int32) else (-10 : Int32) - (M 1 x6.toNatClampNeg)))) = M389 at h ⊢
              refine fx_get 389 (j := 12) (v := .int (M389 0 12)) okm0 dX7_looks_389 lfX7_142 (by decide) (fun _ => rfl) ?_
              refine fx_aload_n 392 dX7_looks_392 rfl 0 rfl ?_
              refine fx_get 393 (j := 10) (v := .ref 4) okm0 dX7_looks_393 lfX7_19 (by decide) (fun _ => rfl) ?_
              refine fx_iconst 396 (x := (0 : Int32)) dX7_looks_396 (by decide) ?_
              refine fx_zald 397 okb4 dX7_looks_397 g362 ?_
              have J : fx_V gM mX7_looks (fx_rv R) 419 [(0, .ref 0), (1, .int x1), (2, .int x2), (3, .int x3), (4, .int x4), (5, .int (0 : Int32)), (6, .int x6), (7, .int (M 1 x6.toNatClampNeg))] [.int (if M389 4 (0 : Int32).toNatClampNeg = (0 : Int32) then (0 : Int32) else (if (-200 : Int32) < M 1 x6.toNatClampNeg then (0 : Int32) else (-200 : Int32) - (M 1 x6.toNatClampNeg))), .int (M389 0 12), .ref 0] M389 := by
                refine fx_iadd 419 dX7_looks_419 ?_
                refine fx_putI 420 (j := 12) okm0 dX7_looks_420 lfX7_142 (by decide) rfl (by decide +kernel) (fun _ _ => Nat.le_of_ble_eq_true rfl) (fun _ _ _ => rfl) ?_
                refine fx_iinc 423 (lv' := [(6, .int (x6 + (1 : Int32))), (0, .ref 0), (1, .int x1), (2, .int x2), (3, .int x3), (4, .int x4), (5, .int (0 : Int32)), (7, .int (M 1 x6.toNatClampNeg))]) (y := x6 + (1 : Int32)) dX7_looks_423 6 rfl (by rfl) (Nat.le_of_ble_eq_true rfl) rfl ?_
                refine fx_goto 426 111 dX7_looks_426 (by decide) ?_
                refine fx_sub [1, 2, 3, 4, 5, 6, 0] rfl ?_
                exact ih _ _ _ h
              refine fx_if_eq 398 418 dX7_looks_398 (by decide) (fun c398 => ?_) (fun c398 => ?_)
              · refine fx_iconst 418 (x := (0 : Int32)) dX7_looks_418 (by decide) ?_
                refine fx_sub (lv' := [(0, .ref 0), (1, .int x1), (2, .int x2), (3, .int x3), (4, .int x4), (5, .int (0 : Int32)), (6, .int x6), (7, .int (M 1 x6.toNatClampNeg))]) [0, 1, 2, 3, 4, 5, 6, 7] rfl ?_
                show fx_V gM mX7_looks (fx_rv R) 419 [(0, .ref 0), (1, .int x1), (2, .int x2), (3, .int x3), (4, .int x4), (5, .int (0 : Int32)), (6, .int x6), (7, .int (M 1 x6.toNatClampNeg))] [.int (0 : Int32), .int (M389 0 12), .ref 0] M389
                simpa only [if_pos c398] using J
              · refine fx_iload 401 dX7_looks_401 7 rfl ?_
                refine fx_sipush 403 (x := (-200 : Int32)) dX7_looks_403 (by decide) ?_
                refine fx_icmp_gt 406 418 dX7_looks_406 (by decide) (fun c406 => ?_) (fun c406 => ?_)
                · refine fx_iconst 418 (x := (0 : Int32)) dX7_looks_418 (by decide) ?_
                  refine fx_sub (lv' := [(0, .ref 0), (1, .int x1), (2, .int x2), (3, .int x3), (4, .int x4), (5, .int (0 : Int32)), (6, .int x6), (7, .int (M 1 x6.toNatClampNeg))]) [0, 1, 2, 3, 4, 5, 6, 7] rfl ?_
                  show fx_V gM mX7_looks (fx_rv R) 419 [(0, .ref 0), (1, .int x1), (2, .int x2), (3, .int x3), (4, .int x4), (5, .int (0 : Int32)), (6, .int x6), (7, .int (M 1 x6.toNatClampNeg))] [.int (0 : Int32), .int (M389 0 12), .ref 0] M389
                  simpa only [if_neg c398, if_pos c406] using J
                · refine fx_sipush 409 (x := (-200 : Int32)) dX7_looks_409 (by decide) ?_
                  refine fx_iload 412 dX7_looks_412 7 rfl ?_
                  refine fx_isub 414 dX7_looks_414 ?_
                  refine fx_goto 415 419 dX7_looks_415 (by decide) ?_
                  refine fx_sub (lv' := [(0, .ref 0), (1, .int x1), (2, .int x2), (3, .int x3), (4, .int x4), (5, .int (0 : Int32)), (6, .int x6), (7, .int (M 1 x6.toNatClampNeg))]) [0, 1, 2, 3, 4, 5, 6, 7] rfl ?_
                  show fx_V gM mX7_looks (fx_rv R) 419 [(0, .ref 0), (1, .int x1), (2, .int x2), (3, .int x3), (4, .int x4), (5, .int (0 : Int32)), (6, .int x6), (7, .int (M 1 x6.toNatClampNeg))] [.int ((-200 : Int32) - (M 1 x6.toNatClampNeg)), .int (M389 0 12), .ref 0] M389
                  simpa only [if_neg c398, if_neg c406] using J
            refine fx_if_eq 363 382 dX7_looks_363 (by decide) (fun c363 => ?_) (fun c363 => ?_)
            · refine fx_iconst 382 (x := (0 : Int32)) dX7_looks_382 (by decide) ?_
              refine fx_sub (lv' := [(0, .ref 0), (1, .int x1), (2, .int x2), (3, .int x3), (4, .int x4), (5, .int (0 : Int32)), (6, .int x6), (7, .int (M 1 x6.toNatClampNeg))]) [2, 3, 4, 5, 6, 0, 7, 1] rfl ?_
              show fx_V gM mX7_looks (fx_rv R) 383 [(0, .ref 0), (1, .int x1), (2, .int x2), (3, .int x3), (4, .int x4), (5, .int (0 : Int32)), (6, .int x6), (7, .int (M 1 x6.toNatClampNeg))] [.int (0 : Int32), .int (M 0 11), .ref 0] M
              simpa only [if_pos c363] using J
            · refine fx_iload 366 dX7_looks_366 1 rfl ?_
              refine fx_sipush 368 (x := (-200 : Int32)) dX7_looks_368 (by decide) ?_
              refine fx_icmp_le 371 382 dX7_looks_371 (by decide) (fun c371 => ?_) (fun c371 => ?_)
              · refine fx_iconst 382 (x := (0 : Int32)) dX7_looks_382 (by decide) ?_
                refine fx_sub (lv' := [(0, .ref 0), (1, .int x1), (2, .int x2), (3, .int x3), (4, .int x4), (5, .int (0 : Int32)), (6, .int x6), (7, .int (M 1 x6.toNatClampNeg))]) [2, 3, 4, 5, 6, 0, 7, 1] rfl ?_
                show fx_V gM mX7_looks (fx_rv R) 383 [(0, .ref 0), (1, .int x1), (2, .int x2), (3, .int x3), (4, .int x4), (5, .int (0 : Int32)), (6, .int x6), (7, .int (M 1 x6.toNatClampNeg))] [.int (0 : Int32), .int (M 0 11), .ref 0] M
                simpa only [if_neg c363, if_pos c371] using J
              · refine fx_bipush 374 (x := (-10 : Int32)) dX7_looks_374 (by decide) ?_
                refine fx_iload 376 dX7_looks_376 1 rfl ?_
                refine fx_isub 378 dX7_looks_378 ?_
                refine fx_goto 379 383 dX7_looks_379 (by decide) ?_
                refine fx_sub (lv' := [(0, .ref 0), (1, .int x1), (2, .int x2), (3, .int x3), (4, .int x4), (5, .int (0 : Int32)), (6, .int x6), (7, .int (M 1 x6.toNatClampNeg))]) [2, 3, 4, 5, 6, 0, 7, 1] rfl ?_
                show fx_V gM mX7_looks (fx_rv R) 383 [(0, .ref 0), (1, .int x1), (2, .int x2), (3, .int x3), (4, .int x4), (5, .int (0 : Int32)), (6, .int x6), (7, .int (M 1 x6.toNatClampNeg))] [.int ((-10 : Int32) - (M 1 x6.toNatClampNeg)), .int (M 0 11), .ref 0] M
                simpa only [if_neg c363, if_neg c371] using J
          · replace h := fx_ne c267 h
            refine fx_iinc 270 (lv' := [(5, .int (x5 + (-1 : Int32))), (7, .int (M 1 x6.toNatClampNeg)), (0, .ref 0), (1, .int x1), (2, .int x2), (3, .int x3), (4, .int x4), (6, .int x6)]) (y := x5 + (-1 : Int32)) dX7_looks_270 6 rfl (by rfl) (Nat.le_of_ble_eq_true rfl) rfl ?_
            refine fx_aload_n 273 dX7_looks_273 rfl 2 rfl ?_
            refine fx_get 274 (j := 10) (v := .ref 4) okm0 dX7_looks_274 lfX7_19 (by decide) (fun _ => rfl) ?_
            refine fx_iload 277 dX7_looks_277 0 rfl ?_
            refine fx_iconst 279 (x := (1 : Int32)) dX7_looks_279 (by decide) ?_
            refine fx_isub 280 dX7_looks_280 ?_
            refine fx_iload 281 dX7_looks_281 1 rfl ?_
            refine fx_bipush 283 (x := (-2 : Int32)) dX7_looks_283 (by decide) ?_
            refine fx_icmp_ne 285 318 dX7_looks_285 (by decide) (fun c285 => ?_) (fun c285 => ?_)
            · replace h := fx_ne c285 h
              refine fx_aload_n 318 dX7_looks_318 rfl 2 rfl ?_
              refine fx_get 319 (j := 10) (v := .ref 4) okm0 dX7_looks_319 lfX7_19 (by decide) (fun _ => rfl) ?_
              refine fx_iload 322 dX7_looks_322 0 rfl ?_
              refine fx_iconst 324 (x := (1 : Int32)) dX7_looks_324 (by decide) ?_
              refine fx_isub 325 dX7_looks_325 ?_
              obtain ⟨g326, h⟩ := fx_gt h
              refine fx_zald 326 okb4 dX7_looks_326 g326 ?_
              refine fx_if_ne 327 340 dX7_looks_327 (by decide) (fun c327 => ?_) (fun c327 => ?_)
              · replace h := fx_ne c327 h
                refine fx_sub [2, 3, 4, 5, 6, 0, 7, 1] rfl ?_
                exact vX7_looks_J340 (fun _ _ _ => ih _ _ _) hk h
              · replace h := fx_ip c327 h
                refine fx_aload_n 330 dX7_looks_330 rfl 2 rfl ?_
                refine fx_get 331 (j := 10) (v := .ref 4) okm0 dX7_looks_331 lfX7_19 (by decide) (fun _ => rfl) ?_
                refine fx_iload 334 dX7_looks_334 0 rfl ?_
                obtain ⟨g336, h⟩ := fx_gt h
                refine fx_zald 336 okb4 dX7_looks_336 g336 ?_
                have J : fx_V gM mX7_looks (fx_rv R) 345 [(0, .ref 0), (1, .int x1), (2, .int x2), (3, .int x3), (4, .int x4), (5, .int (x5 + (-1 : Int32))), (6, .int x6), (7, .int (M 1 x6.toNatClampNeg))] [.int (if M 4 (x5 + (-1 : Int32)).toNatClampNeg = (0 : Int32) then (0 : Int32) else (1 : Int32)), .int ((x5 + (-1 : Int32)) - (1 : Int32)), .ref 4] M := by
                  refine fx_sub [0, 1, 2, 3, 4, 5, 6, 7] rfl ?_
                  exact vX7_looks_J345 (fun _ _ _ => ih _ _ _) hk h
                refine fx_if_eq 337 344 dX7_looks_337 (by decide) (fun c337 => ?_) (fun c337 => ?_)
                · refine fx_iconst 344 (x := (0 : Int32)) dX7_looks_344 (by decide) ?_
                  refine fx_sub (lv' := [(0, .ref 0), (1, .int x1), (2, .int x2), (3, .int x3), (4, .int x4), (5, .int (x5 + (-1 : Int32))), (6, .int x6), (7, .int (M 1 x6.toNatClampNeg))]) [2, 3, 4, 5, 6, 0, 7, 1] rfl ?_
                  show fx_V gM mX7_looks (fx_rv R) 345 [(0, .ref 0), (1, .int x1), (2, .int x2), (3, .int x3), (4, .int x4), (5, .int (x5 + (-1 : Int32))), (6, .int x6), (7, .int (M 1 x6.toNatClampNeg))] [.int (0 : Int32), .int ((x5 + (-1 : Int32)) - (1 : Int32)), .ref 4] M
                  simpa only [if_pos c337] using J
                · refine fx_iconst 340 (x := (1 : Int32)) dX7_looks_340 (by decide) ?_
                  refine fx_goto 341 345 dX7_looks_341 (by decide) ?_
                  refine fx_sub (lv' := [(0, .ref 0), (1, .int x1), (2, .int x2), (3, .int x3), (4, .int x4), (5, .int (x5 + (-1 : Int32))), (6, .int x6), (7, .int (M 1 x6.toNatClampNeg))]) [2, 3, 4, 5, 6, 0, 7, 1] rfl ?_
                  show fx_V gM mX7_looks (fx_rv R) 345 [(0, .ref 0), (1, .int x1), (2, .int x2), (3, .int x3), (4, .int x4), (5, .int (x5 + (-1 : Int32))), (6, .int x6), (7, .int (M 1 x6.toNatClampNeg))] [.int (1 : Int32), .int ((x5 + (-1 : Int32)) - (1 : Int32)), .ref 4] M
                  simpa only [if_neg c337] using J
            · replace h := fx_ip c285 h
              refine fx_aload_n 288 dX7_looks_288 rfl 2 rfl ?_
              refine fx_get 289 (j := 10) (v := .ref 4) okm0 dX7_looks_289 lfX7_19 (by decide) (fun _ => rfl) ?_
              refine fx_iload 292 dX7_looks_292 0 rfl ?_
              refine fx_iconst 294 (x := (1 : Int32)) dX7_looks_294 (by decide) ?_
              refine fx_isub 295 dX7_looks_295 ?_
              obtain ⟨g296, h⟩ := fx_gt h
              refine fx_zald 296 okb4 dX7_looks_296 g296 ?_
              refine fx_if_eq 297 314 dX7_looks_297 (by decide) (fun c297 => ?_) (fun c297 => ?_)
              · replace h := fx_ip c297 h
                refine fx_sub [2, 3, 4, 5, 6, 0, 7, 1] rfl ?_
                exact vX7_looks_J314 (fun _ _ _ => ih _ _ _) hk h
              · replace h := fx_ne c297 h
                refine fx_aload_n 300 dX7_looks_300 rfl 2 rfl ?_
                refine fx_get 301 (j := 10) (v := .ref 4) okm0 dX7_looks_301 lfX7_19 (by decide) (fun _ => rfl) ?_
                refine fx_iload 304 dX7_looks_304 0 rfl ?_
                obtain ⟨g306, h⟩ := fx_gt h
                refine fx_zald 306 okb4 dX7_looks_306 g306 ?_
                have J : fx_V gM mX7_looks (fx_rv R) 345 [(0, .ref 0), (1, .int x1), (2, .int x2), (3, .int x3), (4, .int x4), (5, .int (x5 + (-1 : Int32))), (6, .int x6), (7, .int (M 1 x6.toNatClampNeg))] [.int (if M 4 (x5 + (-1 : Int32)).toNatClampNeg = (0 : Int32) then (0 : Int32) else (1 : Int32)), .int ((x5 + (-1 : Int32)) - (1 : Int32)), .ref 4] M := by
                  refine fx_sub [0, 1, 2, 3, 4, 5, 6, 7] rfl ?_
                  exact vX7_looks_J345 (fun _ _ _ => ih _ _ _) hk h
                refine fx_if_eq 307 314 dX7_looks_307 (by decide) (fun c307 => ?_) (fun c307 => ?_)
                · refine fx_iconst 314 (x := (0 : Int32)) dX7_looks_314 (by decide) ?_
                  refine fx_goto 315 345 dX7_looks_315 (by decide) ?_
                  refine fx_sub (lv' := [(0, .ref 0), (1, .int x1), (2, .int x2), (3, .int x3), (4, .int x4), (5, .int (x5 + (-1 : Int32))), (6, .int x6), (7, .int (M 1 x6.toNatClampNeg))]) [2, 3, 4, 5, 6, 0, 7, 1] rfl ?_
                  show fx_V gM mX7_looks (fx_rv R) 345 [(0, .ref 0), (1, .int x1), (2, .int x2), (3, .int x3), (4, .int x4), (5, .int (x5 + (-1 : Int32))), (6, .int x6), (7, .int (M 1 x6.toNatClampNeg))] [.int (0 : Int32), .int ((x5 + (-1 : Int32)) - (1 : Int32)), .ref 4] M
                  simpa only [if_pos c307] using J
                · refine fx_iconst 310 (x := (1 : Int32)) dX7_looks_310 (by decide) ?_
                  refine fx_goto 311 345 dX7_looks_311 (by decide) ?_
                  refine fx_sub (lv' := [(0, .ref 0), (1, .int x1), (2, .int x2), (3, .int x3), (4, .int x4), (5, .int (x5 + (-1 : Int32))), (6, .int x6), (7, .int (M 1 x6.toNatClampNeg))]) [2, 3, 4, 5, 6, 0, 7, 1] rfl ?_
                  show fx_V gM mX7_looks (fx_rv R) 345 [(0, .ref 0), (1, .int x1), (2, .int x2), (3, .int x3), (4, .int x4), (5, .int (x5 + (-1 : Int32))), (6, .int x6), (7, .int (M 1 x6.toNatClampNeg))] [.int (1 : Int32), .int ((x5 + (-1 : Int32)) - (1 : Int32)), .ref 4] M
                  simpa only [if_neg c307] using J
        · replace h := fx_ip c231 h
          refine fx_aload_n 234 dX7_looks_234 rfl 1 rfl ?_
          refine fx_get 235 (j := 10) (v := .ref 4) okm0 dX7_looks_235 lfX7_19 (by decide) (fun _ => rfl) ?_
          refine fx_iload 238 dX7_looks_238 6 rfl ?_
          refine fx_iconst 240 (x := (1 : Int32)) dX7_looks_240 (by decide) ?_
          refine fx_isub 241 dX7_looks_241 ?_
          refine fx_aload_n 242 dX7_looks_242 rfl 1 rfl ?_
          refine fx_get 243 (j := 10) (v := .ref 4) okm0 dX7_looks_243 lfX7_19 (by decide) (fun _ => rfl) ?_
          refine fx_iload 246 dX7_looks_246 6 rfl ?_
          refine fx_iconst 248 (x := (1 : Int32)) dX7_looks_248 (by decide) ?_
          refine fx_isub 249 dX7_looks_249 ?_
          obtain ⟨g250, h⟩ := fx_gt h
          refine fx_zald 250 okb4 dX7_looks_250 g250 ?_
          have J : fx_V gM mX7_looks (fx_rv R) 259 [(0, .ref 0), (1, .int x1), (2, .int x2), (3, .int x3), (4, .int x4), (5, .int x5), (6, .int x6), (7, .int (M 1 x6.toNatClampNeg))] [.int (if M 4 (x5 - (1 : Int32)).toNatClampNeg = (0 : Int32) then (1 : Int32) else (0 : Int32)), .int (x5 - (1 : Int32)), .ref 4] M := by
            refine fx_zast 259 okb4 dX7_looks_259 g250 ?_
            refine fx_goto 260 423 dX7_looks_260 (by decide) ?_
            refine fx_iinc 423 (lv' := [(6, .int (x6 + (1 : Int32))), (0, .ref 0), (1, .int x1), (2, .int x2), (3, .int x3), (4, .int x4), (5, .int x5), (7, .int (M 1 x6.toNatClampNeg))]) (y := x6 + (1 : Int32)) dX7_looks_423 6 rfl (by rfl) (Nat.le_of_ble_eq_true rfl) rfl ?_
            refine fx_goto 426 111 dX7_looks_426 (by decide) ?_
            refine fx_sub [1, 2, 3, 4, 5, 6, 0] rfl ?_
            exact ih _ _ _ h
          refine fx_if_ne 251 258 dX7_looks_251 (by decide) (fun c251 => ?_) (fun c251 => ?_)
          · refine fx_iconst 258 (x := (0 : Int32)) dX7_looks_258 (by decide) ?_
            refine fx_sub (lv' := [(0, .ref 0), (1, .int x1), (2, .int x2), (3, .int x3), (4, .int x4), (5, .int x5), (6, .int x6), (7, .int (M 1 x6.toNatClampNeg))]) [1, 2, 3, 4, 5, 6, 7, 0] rfl ?_
            show fx_V gM mX7_looks (fx_rv R) 259 [(0, .ref 0), (1, .int x1), (2, .int x2), (3, .int x3), (4, .int x4), (5, .int x5), (6, .int x6), (7, .int (M 1 x6.toNatClampNeg))] [.int (0 : Int32), .int (x5 - (1 : Int32)), .ref 4] M
            simpa only [if_neg c251] using J
          · refine fx_iconst 254 (x := (1 : Int32)) dX7_looks_254 (by decide) ?_
            refine fx_goto 255 259 dX7_looks_255 (by decide) ?_
            refine fx_sub (lv' := [(0, .ref 0), (1, .int x1), (2, .int x2), (3, .int x3), (4, .int x4), (5, .int x5), (6, .int x6), (7, .int (M 1 x6.toNatClampNeg))]) [1, 2, 3, 4, 5, 6, 7, 0] rfl ?_
            show fx_V gM mX7_looks (fx_rv R) 259 [(0, .ref 0), (1, .int x1), (2, .int x2), (3, .int x3), (4, .int x4), (5, .int x5), (6, .int x6), (7, .int (M 1 x6.toNatClampNeg))] [.int (1 : Int32), .int (x5 - (1 : Int32)), .ref 4] M
            simpa only [if_pos c251] using J
      · replace h := fx_ne c131 h
        refine fx_aload_n 134 dX7_looks_134 rfl 1 rfl ?_
        refine fx_get 135 (j := 9) (v := .ref 3) okm0 dX7_looks_135 lfX7_16 (by decide) (fun _ => rfl) ?_
        refine fx_iload 138 dX7_looks_138 0 rfl ?_
        refine fx_bipush 140 (x := (8 : Int32)) dX7_looks_140 (by decide) ?_
        refine fx_irem 142 dX7_looks_142 (by decide) ?_
        obtain ⟨g143, h⟩ := fx_gt h
        refine fx_iald 143 okb3 dX7_looks_143 g143 ?_
        refine fx_istore 144 (lv' := [(8, .int (M 3 ((M 1 x6.toNatClampNeg) - (M 1 x6.toNatClampNeg) / (8 : Int32) * (8 : Int32)).toNatClampNeg)), (7, .int (M 1 x6.toNatClampNeg)), (0, .ref 0), (1, .int x1), (2, .int x2), (3, .int x3), (4, .int x4), (5, .int x5), (6, .int x6)]) dX7_looks_144 (Nat.le_of_ble_eq_true rfl) rfl ?_
        refine fx_iload 146 dX7_looks_146 1 rfl ?_
        refine fx_bipush 148 (x := (8 : Int32)) dX7_looks_148 (by decide) ?_
        refine fx_idiv 150 dX7_looks_150 (by decide) ?_
        refine fx_iconst 151 (x := (4 : Int32)) dX7_looks_151 (by decide) ?_
        refine fx_irem 152 dX7_looks_152 (by decide) ?_
        refine fx_istore 153 (lv' := [(9, .int (((M 1 x6.toNatClampNeg) / (8 : Int32)) - ((M 1 x6.toNatClampNeg) / (8 : Int32)) / (4 : Int32) * (4 : Int32))), (8, .int (M 3 ((M 1 x6.toNatClampNeg) - (M 1 x6.toNatClampNeg) / (8 : Int32) * (8 : Int32)).toNatClampNeg)), (7, .int (M 1 x6.toNatClampNeg)), (0, .ref 0), (1, .int x1), (2, .int x2), (3, .int x3), (4, .int x4), (5, .int x5), (6, .int x6)]) dX7_looks_153 (Nat.le_of_ble_eq_true rfl) rfl ?_
        refine fx_iload 155 dX7_looks_155 2 rfl ?_
        refine fx_bipush 157 (x := (32 : Int32)) dX7_looks_157 (by decide) ?_
        refine fx_idiv 159 dX7_looks_159 (by decide) ?_
        refine fx_istore 160 (lv' := [(10, .int ((M 1 x6.toNatClampNeg) / (32 : Int32))), (9, .int (((M 1 x6.toNatClampNeg) / (8 : Int32)) - ((M 1 x6.toNatClampNeg) / (8 : Int32)) / (4 : Int32) * (4 : Int32))), (8, .int (M 3 ((M 1 x6.toNatClampNeg) - (M 1 x6.toNatClampNeg) / (8 : Int32) * (8 : Int32)).toNatClampNeg)), (7, .int (M 1 x6.toNatClampNeg)), (0, .ref 0), (1, .int x1), (2, .int x2), (3, .int x3), (4, .int x4), (5, .int x5), (6, .int x6)]) dX7_looks_160 (Nat.le_of_ble_eq_true rfl) rfl ?_
        refine fx_aload_n 162 dX7_looks_162 rfl 4 rfl ?_
        refine fx_get 163 (j := 10) (v := .ref 4) okm0 dX7_looks_163 lfX7_19 (by decide) (fun _ => rfl) ?_
        refine fx_iload 166 dX7_looks_166 9 rfl ?_
        refine fx_iload 168 dX7_looks_168 1 rfl ?_
        have J : fx_V gM mX7_looks (fx_rv R) 221 [(0, .ref 0), (1, .int x1), (2, .int x2), (3, .int x3), (4, .int x4), (5, .int x5), (6, .int x6), (7, .int (M 1 x6.toNatClampNeg)), (8, .int (M 3 ((M 1 x6.toNatClampNeg) - (M 1 x6.toNatClampNeg) / (8 : Int32) * (8 : Int32)).toNatClampNeg)), (9, .int (((M 1 x6.toNatClampNeg) / (8 : Int32)) - ((M 1 x6.toNatClampNeg) / (8 : Int32)) / (4 : Int32) * (4 : Int32))), (10, .int ((M 1 x6.toNatClampNeg) / (32 : Int32)))] [.int (if ((M 1 x6.toNatClampNeg) / (8 : Int32)) - ((M 1 x6.toNatClampNeg) / (8 : Int32)) / (4 : Int32) * (4 : Int32) = (0 : Int32) then (if (M 1 x6.toNatClampNeg) / (32 : Int32) ≤ M 3 ((M 1 x6.toNatClampNeg) - (M 1 x6.toNatClampNeg) / (8 : Int32) * (8 : Int32)).toNatClampNeg then (0 : Int32) else (1 : Int32)) else (if ((M 1 x6.toNatClampNeg) / (8 : Int32)) - ((M 1 x6.toNatClampNeg) / (8 : Int32)) / (4 : Int32) * (4 : Int32) = (1 : Int32) then (if M 3 ((M 1 x6.toNatClampNeg) - (M 1 x6.toNatClampNeg) / (8 : Int32) * (8 : Int32)).toNatClampNeg = (M 1 x6.toNatClampNeg) / (32 : Int32) then (1 : Int32) else (0 : Int32)) else (if M 3 ((M 1 x6.toNatClampNeg) - (M 1 x6.toNatClampNeg) / (8 : Int32) * (8 : Int32)).toNatClampNeg ≤ (M 1 x6.toNatClampNeg) / (32 : Int32) then (0 : Int32) else (1 : Int32)))), .int x5, .ref 4] M := by
          obtain ⟨g221, h⟩ := fx_gt h
          refine fx_zast 221 okb4 dX7_looks_221 g221 ?_
          refine fx_iinc 222 (lv' := [(5, .int (x5 + (1 : Int32))), (0, .ref 0), (1, .int x1), (2, .int x2), (3, .int x3), (4, .int x4), (6, .int x6), (7, .int (M 1 x6.toNatClampNeg)), (8, .int (M 3 ((M 1 x6.toNatClampNeg) - (M 1 x6.toNatClampNeg) / (8 : Int32) * (8 : Int32)).toNatClampNeg)), (9, .int (((M 1 x6.toNatClampNeg) / (8 : Int32)) - ((M 1 x6.toNatClampNeg) / (8 : Int32)) / (4 : Int32) * (4 : Int32))), (10, .int ((M 1 x6.toNatClampNeg) / (32 : Int32)))]) (y := x5 + (1 : Int32)) dX7_looks_222 5 rfl (by rfl) (Nat.le_of_ble_eq_true rfl) rfl ?_
          refine fx_goto 225 423 dX7_looks_225 (by decide) ?_
          refine fx_iinc 423 (lv' := [(6, .int (x6 + (1 : Int32))), (5, .int (x5 + (1 : Int32))), (0, .ref 0), (1, .int x1), (2, .int x2), (3, .int x3), (4, .int x4), (7, .int (M 1 x6.toNatClampNeg)), (8, .int (M 3 ((M 1 x6.toNatClampNeg) - (M 1 x6.toNatClampNeg) / (8 : Int32) * (8 : Int32)).toNatClampNeg)), (9, .int (((M 1 x6.toNatClampNeg) / (8 : Int32)) - ((M 1 x6.toNatClampNeg) / (8 : Int32)) / (4 : Int32) * (4 : Int32))), (10, .int ((M 1 x6.toNatClampNeg) / (32 : Int32)))]) (y := x6 + (1 : Int32)) dX7_looks_423 6 rfl (by rfl) (Nat.le_of_ble_eq_true rfl) rfl ?_
          refine fx_goto 426 111 dX7_looks_426 (by decide) ?_
          refine fx_sub [2, 3, 4, 5, 6, 1, 0] rfl ?_
          exact ih _ _ _ h
        refine fx_if_ne 170 188 dX7_looks_170 (by decide) (fun c170 => ?_) (fun c170 => ?_)
        · refine fx_iload 188 dX7_looks_188 1 rfl ?_
          refine fx_iconst 190 (x := (1 : Int32)) dX7_looks_190 (by decide) ?_
          refine fx_icmp_ne 191 209 dX7_looks_191 (by decide) (fun c191 => ?_) (fun c191 => ?_)
          · refine fx_iload 209 dX7_looks_209 2 rfl ?_
            refine fx_iload 211 dX7_looks_211 0 rfl ?_
            refine fx_icmp_le 213 220 dX7_looks_213 (by decide) (fun c213 => ?_) (fun c213 => ?_)
            · refine fx_iconst 220 (x := (0 : Int32)) dX7_looks_220 (by decide) ?_
              refine fx_sub (lv' := [(0, .ref 0), (1, .int x1), (2, .int x2), (3, .int x3), (4, .int x4), (5, .int x5), (6, .int x6), (7, .int (M 1 x6.toNatClampNeg)), (8, .int (M 3 ((M 1 x6.toNatClampNeg) - (M 1 x6.toNatClampNeg) / (8 : Int32) * (8 : Int32)).toNatClampNeg)), (9, .int (((M 1 x6.toNatClampNeg) / (8 : Int32)) - ((M 1 x6.toNatClampNeg) / (8 : Int32)) / (4 : Int32) * (4 : Int32))), (10, .int ((M 1 x6.toNatClampNeg) / (32 : Int32)))]) [4, 5, 6, 7, 8, 9, 10, 3, 2, 1, 0] rfl ?_
              show fx_V gM mX7_looks (fx_rv R) 221 [(0, .ref 0), (1, .int x1), (2, .int x2), (3, .int x3), (4, .int x4), (5, .int x5), (6, .int x6), (7, .int (M 1 x6.toNatClampNeg)), (8, .int (M 3 ((M 1 x6.toNatClampNeg) - (M 1 x6.toNatClampNeg) / (8 : Int32) * (8 : Int32)).toNatClampNeg)), (9, .int (((M 1 x6.toNatClampNeg) / (8 : Int32)) - ((M 1 x6.toNatClampNeg) / (8 : Int32)) / (4 : Int32) * (4 : Int32))), (10, .int ((M 1 x6.toNatClampNeg) / (32 : Int32)))] [.int (0 : Int32), .int x5, .ref 4] M
              simpa only [if_neg c170, if_neg c191, if_pos c213] using J
            · refine fx_iconst 216 (x := (1 : Int32)) dX7_looks_216 (by decide) ?_
              refine fx_goto 217 221 dX7_looks_217 (by decide) ?_
              refine fx_sub (lv' := [(0, .ref 0), (1, .int x1), (2, .int x2), (3, .int x3), (4, .int x4), (5, .int x5), (6, .int x6), (7, .int (M 1 x6.toNatClampNeg)), (8, .int (M 3 ((M 1 x6.toNatClampNeg) - (M 1 x6.toNatClampNeg) / (8 : Int32) * (8 : Int32)).toNatClampNeg)), (9, .int (((M 1 x6.toNatClampNeg) / (8 : Int32)) - ((M 1 x6.toNatClampNeg) / (8 : Int32)) / (4 : Int32) * (4 : Int32))), (10, .int ((M 1 x6.toNatClampNeg) / (32 : Int32)))]) [4, 5, 6, 7, 8, 9, 10, 3, 2, 1, 0] rfl ?_
              show fx_V gM mX7_looks (fx_rv R) 221 [(0, .ref 0), (1, .int x1), (2, .int x2), (3, .int x3), (4, .int x4), (5, .int x5), (6, .int x6), (7, .int (M 1 x6.toNatClampNeg)), (8, .int (M 3 ((M 1 x6.toNatClampNeg) - (M 1 x6.toNatClampNeg) / (8 : Int32) * (8 : Int32)).toNatClampNeg)), (9, .int (((M 1 x6.toNatClampNeg) / (8 : Int32)) - ((M 1 x6.toNatClampNeg) / (8 : Int32)) / (4 : Int32) * (4 : Int32))), (10, .int ((M 1 x6.toNatClampNeg) / (32 : Int32)))] [.int (1 : Int32), .int x5, .ref 4] M
              simpa only [if_neg c170, if_neg c191, if_neg c213] using J
          · refine fx_iload 194 dX7_looks_194 2 rfl ?_
            refine fx_iload 196 dX7_looks_196 0 rfl ?_
            refine fx_icmp_ne 198 205 dX7_looks_198 (by decide) (fun c198 => ?_) (fun c198 => ?_)
            · refine fx_iconst 205 (x := (0 : Int32)) dX7_looks_205 (by decide) ?_
              refine fx_goto 206 221 dX7_looks_206 (by decide) ?_
              refine fx_sub (lv' := [(0, .ref 0), (1, .int x1), (2, .int x2), (3, .int x3), (4, .int x4), (5, .int x5), (6, .int x6), (7, .int (M 1 x6.toNatClampNeg)), (8, .int (M 3 ((M 1 x6.toNatClampNeg) - (M 1 x6.toNatClampNeg) / (8 : Int32) * (8 : Int32)).toNatClampNeg)), (9, .int (((M 1 x6.toNatClampNeg) / (8 : Int32)) - ((M 1 x6.toNatClampNeg) / (8 : Int32)) / (4 : Int32) * (4 : Int32))), (10, .int ((M 1 x6.toNatClampNeg) / (32 : Int32)))]) [4, 5, 6, 7, 8, 9, 10, 3, 2, 1, 0] rfl ?_
              show fx_V gM mX7_looks (fx_rv R) 221 [(0, .ref 0), (1, .int x1), (2, .int x2), (3, .int x3), (4, .int x4), (5, .int x5), (6, .int x6), (7, .int (M 1 x6.toNatClampNeg)), (8, .int (M 3 ((M 1 x6.toNatClampNeg) - (M 1 x6.toNatClampNeg) / (8 : Int32) * (8 : Int32)).toNatClampNeg)), (9, .int (((M 1 x6.toNatClampNeg) / (8 : Int32)) - ((M 1 x6.toNatClampNeg) / (8 : Int32)) / (4 : Int32) * (4 : Int32))), (10, .int ((M 1 x6.toNatClampNeg) / (32 : Int32)))] [.int (0 : Int32), .int x5, .ref 4] M
              simpa only [if_neg c170, if_pos c191, if_neg c198] using J
            · refine fx_iconst 201 (x := (1 : Int32)) dX7_looks_201 (by decide) ?_
              refine fx_goto 202 221 dX7_looks_202 (by decide) ?_
              refine fx_sub (lv' := [(0, .ref 0), (1, .int x1), (2, .int x2), (3, .int x3), (4, .int x4), (5, .int x5), (6, .int x6), (7, .int (M 1 x6.toNatClampNeg)), (8, .int (M 3 ((M 1 x6.toNatClampNeg) - (M 1 x6.toNatClampNeg) / (8 : Int32) * (8 : Int32)).toNatClampNeg)), (9, .int (((M 1 x6.toNatClampNeg) / (8 : Int32)) - ((M 1 x6.toNatClampNeg) / (8 : Int32)) / (4 : Int32) * (4 : Int32))), (10, .int ((M 1 x6.toNatClampNeg) / (32 : Int32)))]) [4, 5, 6, 7, 8, 9, 10, 3, 2, 1, 0] rfl ?_
              show fx_V gM mX7_looks (fx_rv R) 221 [(0, .ref 0), (1, .int x1), (2, .int x2), (3, .int x3), (4, .int x4), (5, .int x5), (6, .int x6), (7, .int (M 1 x6.toNatClampNeg)), (8, .int (M 3 ((M 1 x6.toNatClampNeg) - (M 1 x6.toNatClampNeg) / (8 : Int32) * (8 : Int32)).toNatClampNeg)), (9, .int (((M 1 x6.toNatClampNeg) / (8 : Int32)) - ((M 1 x6.toNatClampNeg) / (8 : Int32)) / (4 : Int32) * (4 : Int32))), (10, .int ((M 1 x6.toNatClampNeg) / (32 : Int32)))] [.int (1 : Int32), .int x5, .ref 4] M
              simpa only [if_neg c170, if_pos c191, if_pos c198] using J
        · refine fx_iload 173 dX7_looks_173 2 rfl ?_
          refine fx_iload 175 dX7_looks_175 0 rfl ?_
          refine fx_icmp_ge 177 184 dX7_looks_177 (by decide) (fun c177 => ?_) (fun c177 => ?_)
          · refine fx_iconst 184 (x := (0 : Int32)) dX7_looks_184 (by decide) ?_
            refine fx_goto 185 221 dX7_looks_185 (by decide) ?_
            refine fx_sub (lv' := [(0, .ref 0), (1, .int x1), (2, .int x2), (3, .int x3), (4, .int x4), (5, .int x5), (6, .int x6), (7, .int (M 1 x6.toNatClampNeg)), (8, .int (M 3 ((M 1 x6.toNatClampNeg) - (M 1 x6.toNatClampNeg) / (8 : Int32) * (8 : Int32)).toNatClampNeg)), (9, .int (((M 1 x6.toNatClampNeg) / (8 : Int32)) - ((M 1 x6.toNatClampNeg) / (8 : Int32)) / (4 : Int32) * (4 : Int32))), (10, .int ((M 1 x6.toNatClampNeg) / (32 : Int32)))]) [4, 5, 6, 7, 8, 9, 10, 3, 2, 1, 0] rfl ?_
            show fx_V gM mX7_looks (fx_rv R) 221 [(0, .ref 0), (1, .int x1), (2, .int x2), (3, .int x3), (4, .int x4), (5, .int x5), (6, .int x6), (7, .int (M 1 x6.toNatClampNeg)), (8, .int (M 3 ((M 1 x6.toNatClampNeg) - (M 1 x6.toNatClampNeg) / (8 : Int32) * (8 : Int32)).toNatClampNeg)), (9, .int (((M 1 x6.toNatClampNeg) / (8 : Int32)) - ((M 1 x6.toNatClampNeg) / (8 : Int32)) / (4 : Int32) * (4 : Int32))), (10, .int ((M 1 x6.toNatClampNeg) / (32 : Int32)))] [.int (0 : Int32), .int x5, .ref 4] M
            simpa only [if_pos c170, if_pos c177] using J
          · refine fx_iconst 180 (x := (1 : Int32)) dX7_looks_180 (by decide) ?_
            refine fx_goto 181 221 dX7_looks_181 (by decide) ?_
            refine fx_sub (lv' := [(0, .ref 0), (1, .int x1), (2, .int x2), (3, .int x3), (4, .int x4), (5, .int x5), (6, .int x6), (7, .int (M 1 x6.toNatClampNeg)), (8, .int (M 3 ((M 1 x6.toNatClampNeg) - (M 1 x6.toNatClampNeg) / (8 : Int32) * (8 : Int32)).toNatClampNeg)), (9, .int (((M 1 x6.toNatClampNeg) / (8 : Int32)) - ((M 1 x6.toNatClampNeg) / (8 : Int32)) / (4 : Int32) * (4 : Int32))), (10, .int ((M 1 x6.toNatClampNeg) / (32 : Int32)))]) [4, 5, 6, 7, 8, 9, 10, 3, 2, 1, 0] rfl ?_
            show fx_V gM mX7_looks (fx_rv R) 221 [(0, .ref 0), (1, .int x1), (2, .int x2), (3, .int x3), (4, .int x4), (5, .int x5), (6, .int x6), (7, .int (M 1 x6.toNatClampNeg)), (8, .int (M 3 ((M 1 x6.toNatClampNeg) - (M 1 x6.toNatClampNeg) / (8 : Int32) * (8 : Int32)).toNatClampNeg)), (9, .int (((M 1 x6.toNatClampNeg) / (8 : Int32)) - ((M 1 x6.toNatClampNeg) / (8 : Int32)) / (4 : Int32) * (4 : Int32))), (10, .int ((M 1 x6.toNatClampNeg) / (32 : Int32)))] [.int (1 : Int32), .int x5, .ref 4] M
            simpa only [if_pos c170, if_neg c177] using J
def CX7_looks (x1 : Int32) (x2 : Int32) (M : fxMem) : Option (fxMem) := if fx_in (0 : Int32) 5 = true then fx_lt (fx_st M 3 (0 : Int32).toNatClampNeg x1) fun M21 => if fx_in ((150 : Int32) + x1) 900 = true then if fx_in (1 : Int32) 5 = true then fx_lt (fx_st M21 3 (1 : Int32).toNatClampNeg ((M21 1 ((150 : Int32) + x1).toNatClampNeg) / (8 : Int32))) fun M40 => if fx_in (2 : Int32) 5 = true then fx_lt (fx_st M40 3 (2 : Int32).toNatClampNeg ((M40 1 ((150 : Int32) + x1).toNatClampNeg) - (M40 1 ((150 : Int32) + x1).toNatClampNeg) / (8 : Int32) * (8 : Int32))) fun M51 => if fx_in (3 : Int32) 5 = true then fx_lt (fx_st M51 3 (3 : Int32).toNatClampNeg x2) fun M66 => if fx_in ((140 : Int32) + x1) 900 = true then if fx_in (4 : Int32) 5 = true then Option.bind (CX7_tellsOf (195 : Int32) (0 : Int32) (fx_st (fx_st (fx_st M66 3 (4 : Int32).toNatClampNeg (M66 1 ((140 : Int32) + x1).toNatClampNeg)) 0 11 (1 : Int32)) 0 12 (0 : Int32))) fun q83 => if fx_in (6 : Int32) 900 = true then CX7_looks_L111 x1 x2 q83.1 ((200 : Int32) + ((140 : Int32) * (q83.2 1 (6 : Int32).toNatClampNeg))) 1000 (0 : Int32) ((200 : Int32) + ((140 : Int32) * (q83.2 1 (6 : Int32).toNatClampNeg))) q83.2 (fun y5_111 y6_111 M111 => some M111) else none else none else none else none else none else none else none else none
set_option maxRecDepth 100000 in
set_option maxHeartbeats 4000000 in
theorem tX7_looks {x1 : Int32} {x2 : Int32} {M : fxMem} {R : fxMem} (h : CX7_looks x1 x2 M = some R) : fx_T gM mX7_looks [.ref 0, .int x1, .int x2] M (fx_rv R) := by
  rw [CX7_looks] at h
  refine fx_enter [(0, .ref 0), (1, .int x1), (2, .int x2)] (by show plainName RX7 = true; decide) (fun _ => rfl) (fun _ => Nat.le_of_ble_eq_true rfl) ?_
  refine fx_aload_n 0 dX7_looks_0 rfl 0 rfl ?_
  refine fx_get 1 (j := 9) (v := .ref 3) okm0 dX7_looks_1 lfX7_16 (by decide) (fun _ => rfl) ?_
  refine fx_iconst 4 (x := (0 : Int32)) dX7_looks_4 (by decide) ?_
  refine fx_iload_n 5 dX7_looks_5 rfl 1 rfl ?_
  obtain ⟨g6, h⟩ := fx_gt h
  refine fx_iast 6 okb3 dX7_looks_6 g6 ?_
  refine fx_aload_n 7 dX7_looks_7 rfl 0 rfl ?_
  refine fx_get 8 (j := 9) (v := .ref 3) okm0 dX7_looks_8 lfX7_16 (by decide) (fun _ => rfl) ?_
  refine fx_iconst 11 (x := (1 : Int32)) dX7_looks_11 (by decide) ?_
  refine fx_aload_n 12 dX7_looks_12 rfl 0 rfl ?_
  refine fx_get 13 (j := 1) (v := .ref 1) okm0 dX7_looks_13 lfX7_7 (by decide) (fun _ => rfl) ?_
  refine fx_sipush 16 (x := (150 : Int32)) dX7_looks_16 (by decide) ?_
  refine fx_iload_n 19 dX7_looks_19 rfl 1 rfl ?_
  refine fx_iadd 20 dX7_looks_20 ?_
  replace h := fx_ltd h
  generalize fx_st M 3 (0 : Int32).toNatClampNeg x1 = M21 at h ⊢
  obtain ⟨g21, h⟩ := fx_gt h
  refine fx_iald 21 okb1 dX7_looks_21 g21 ?_
  refine fx_bipush 22 (x := (8 : Int32)) dX7_looks_22 (by decide) ?_
  refine fx_idiv 24 dX7_looks_24 (by decide) ?_
  obtain ⟨g25, h⟩ := fx_gt h
  refine fx_iast 25 okb3 dX7_looks_25 g25 ?_
  refine fx_aload_n 26 dX7_looks_26 rfl 0 rfl ?_
  refine fx_get 27 (j := 9) (v := .ref 3) okm0 dX7_looks_27 lfX7_16 (by decide) (fun _ => rfl) ?_
  refine fx_iconst 30 (x := (2 : Int32)) dX7_looks_30 (by decide) ?_
  refine fx_aload_n 31 dX7_looks_31 rfl 0 rfl ?_
  refine fx_get 32 (j := 1) (v := .ref 1) okm0 dX7_looks_32 lfX7_7 (by decide) (fun _ => rfl) ?_
  refine fx_sipush 35 (x := (150 : Int32)) dX7_looks_35 (by decide) ?_
  refine fx_iload_n 38 dX7_looks_38 rfl 1 rfl ?_
  refine fx_iadd 39 dX7_looks_39 ?_
  replace h := fx_ltd h
  generalize fx_st M21 3 (1 : Int32).toNatClampNeg ((M21 1 ((150 : Int32) + x1).toNatClampNeg) / (8 : Int32)) = M40 at h ⊢
  refine fx_iald 40 okb1 dX7_looks_40 g21 ?_
  refine fx_bipush 41 (x := (8 : Int32)) dX7_looks_41 (by decide) ?_
  refine fx_irem 43 dX7_looks_43 (by decide) ?_
  obtain ⟨g44, h⟩ := fx_gt h
  refine fx_iast 44 okb3 dX7_looks_44 g44 ?_
  refine fx_aload_n 45 dX7_looks_45 rfl 0 rfl ?_
  refine fx_get 46 (j := 9) (v := .ref 3) okm0 dX7_looks_46 lfX7_16 (by decide) (fun _ => rfl) ?_
  refine fx_iconst 49 (x := (3 : Int32)) dX7_looks_49 (by decide) ?_
  refine fx_iload_n 50 dX7_looks_50 rfl 2 rfl ?_
  replace h := fx_ltd h
  generalize fx_st M40 3 (2 : Int32).toNatClampNeg ((M40 1 ((150 : Int32) + x1).toNatClampNeg) - (M40 1 ((150 : Int32) + x1).toNatClampNeg) / (8 : Int32) * (8 : Int32)) = M51 at h ⊢
  obtain ⟨g51, h⟩ := fx_gt h
  refine fx_iast 51 okb3 dX7_looks_51 g51 ?_
  refine fx_aload_n 52 dX7_looks_52 rfl 0 rfl ?_
  refine fx_get 53 (j := 9) (v := .ref 3) okm0 dX7_looks_53 lfX7_16 (by decide) (fun _ => rfl) ?_
  refine fx_iconst 56 (x := (4 : Int32)) dX7_looks_56 (by decide) ?_
  refine fx_aload_n 57 dX7_looks_57 rfl 0 rfl ?_
  refine fx_get 58 (j := 1) (v := .ref 1) okm0 dX7_looks_58 lfX7_7 (by decide) (fun _ => rfl) ?_
  refine fx_sipush 61 (x := (140 : Int32)) dX7_looks_61 (by decide) ?_
  refine fx_iload_n 64 dX7_looks_64 rfl 1 rfl ?_
  refine fx_iadd 65 dX7_looks_65 ?_
  replace h := fx_ltd h
  generalize fx_st M51 3 (3 : Int32).toNatClampNeg x2 = M66 at h ⊢
  obtain ⟨g66, h⟩ := fx_gt h
  refine fx_iald 66 okb1 dX7_looks_66 g66 ?_
  obtain ⟨g67, h⟩ := fx_gt h
  refine fx_iast 67 okb3 dX7_looks_67 g67 ?_
  refine fx_aload_n 68 dX7_looks_68 rfl 0 rfl ?_
  refine fx_iconst 69 (x := (1 : Int32)) dX7_looks_69 (by decide) ?_
  refine fx_putI 70 (j := 11) okm0 dX7_looks_70 lfX7_139 (by decide) rfl (by decide +kernel) (fun _ _ => Nat.le_of_ble_eq_true rfl) (fun _ _ _ => rfl) ?_
  refine fx_aload_n 73 dX7_looks_73 rfl 0 rfl ?_
  refine fx_iconst 74 (x := (0 : Int32)) dX7_looks_74 (by decide) ?_
  refine fx_putI 75 (j := 12) okm0 dX7_looks_75 lfX7_142 (by decide) rfl (by decide +kernel) (fun _ _ => Nat.le_of_ble_eq_true rfl) (fun _ _ _ => rfl) ?_
  refine fx_aload_n 78 dX7_looks_78 rfl 0 rfl ?_
  refine fx_sipush 79 (x := (195 : Int32)) dX7_looks_79 (by decide) ?_
  refine fx_iconst 82 (x := (0 : Int32)) dX7_looks_82 (by decide) ?_
  obtain ⟨q83, e83, h⟩ := fx_bd h
  refine fx_callVi 83 (mt' := mX7_tellsOf) (As := [.int (195 : Int32), .int (0 : Int32)]) okm0 (okvX7_tellsOf _ _) lmX7_129 (by decide) rfl rfl (Nat.le_of_ble_eq_true rfl) dX7_looks_83 (tX7_tellsOf e83) ?_
  refine fx_istore_n 86 (lv' := [(3, .int q83.1), (0, .ref 0), (1, .int x1), (2, .int x2)]) dX7_looks_86 rfl (Nat.le_of_ble_eq_true rfl) rfl ?_
  refine fx_sipush 87 (x := (200 : Int32)) dX7_looks_87 (by decide) ?_
  refine fx_sipush 90 (x := (140 : Int32)) dX7_looks_90 (by decide) ?_
  refine fx_aload_n 93 dX7_looks_93 rfl 1 rfl ?_
  refine fx_get 94 (j := 1) (v := .ref 1) okm0 dX7_looks_94 lfX7_7 (by decide) (fun _ => rfl) ?_
  refine fx_bipush 97 (x := (6 : Int32)) dX7_looks_97 (by decide) ?_
  obtain ⟨g99, h⟩ := fx_gt h
  refine fx_iald 99 okb1 dX7_looks_99 g99 ?_
  refine fx_imul 100 dX7_looks_100 ?_
  refine fx_iadd 101 dX7_looks_101 ?_
  refine fx_istore 102 (lv' := [(4, .int ((200 : Int32) + ((140 : Int32) * (q83.2 1 (6 : Int32).toNatClampNeg)))), (3, .int q83.1), (0, .ref 0), (1, .int x1), (2, .int x2)]) dX7_looks_102 (Nat.le_of_ble_eq_true rfl) rfl ?_
  refine fx_iconst 104 (x := (0 : Int32)) dX7_looks_104 (by decide) ?_
  refine fx_istore 105 (lv' := [(5, .int (0 : Int32)), (4, .int ((200 : Int32) + ((140 : Int32) * (q83.2 1 (6 : Int32).toNatClampNeg)))), (3, .int q83.1), (0, .ref 0), (1, .int x1), (2, .int x2)]) dX7_looks_105 (Nat.le_of_ble_eq_true rfl) rfl ?_
  refine fx_iload 107 dX7_looks_107 1 rfl ?_
  refine fx_istore 109 (lv' := [(6, .int ((200 : Int32) + ((140 : Int32) * (q83.2 1 (6 : Int32).toNatClampNeg)))), (5, .int (0 : Int32)), (4, .int ((200 : Int32) + ((140 : Int32) * (q83.2 1 (6 : Int32).toNatClampNeg)))), (3, .int q83.1), (0, .ref 0), (1, .int x1), (2, .int x2)]) dX7_looks_109 (Nat.le_of_ble_eq_true rfl) rfl ?_
  refine fx_sub [4, 5, 6, 3, 2, 1, 0] rfl ?_
  refine vX7_looks_L111 (fun y5_111 y6_111 M111 h => ?_) 1000 _ _ _ h
  obtain rfl := Option.some.inj h
  exact fx_vret 429 dX7_looks_429 rfl ⟨rfl, rfl⟩
def mX7_playerOn : fxM := (yX7_playerOn, cX7_playerOn, 4, (some .int), 2, 80)
theorem okvX7_playerOn (f l : Nat) : fx_okV (yX7_playerOn, cX7_playerOn, 4, (some .int), f, l) 1 := ⟨⟨rin18 _ (List.mem_of_getElem? (i := 19) rfl), rin1 _ (List.mem_of_getElem? (i := 5) rfl), by show yX7_playerOn.cls ≠ _; decide +kernel, by show yX7_playerOn.cls ≠ _; decide +kernel, by show (parseMethodDescriptor yX7_playerOn.desc).map _ = _; decide +kernel⟩, rin18 _ (List.mem_of_getElem? (i := 17) rfl), rin18 _ (List.mem_of_getElem? (i := 18) rfl)⟩
def CX7_playerOn_L4 (x1 : Int32) : Nat → Int32 → Int32 → fxMem → (Int32 → Int32 → fxMem → Option (Int32 × fxMem)) → Option (Int32 × fxMem)
  | 0, _, _, _, _ => none
  | n + 1, x2, x3, M, k => if fx_in (0 : Int32) 900 = true then if M 1 (0 : Int32).toNatClampNeg ≤ x3 then k x2 x3 M else if fx_in ((150 : Int32) + x3) 900 = true then CX7_playerOn_L4 x1 n (if M 1 ((150 : Int32) + x3).toNatClampNeg = x1 then x3 else x2) (x3 + (1 : Int32)) M k else none else none
set_option maxRecDepth 100000 in
set_option maxHeartbeats 4000000 in
theorem vX7_playerOn_L4 {x1 : Int32} {R : Int32 × fxMem} {k : Int32 → Int32 → fxMem → Option (Int32 × fxMem)} (hk : ∀ (x2 : Int32) (x3 : Int32) (M : fxMem), k x2 x3 M = some R → fx_V gM mX7_playerOn (fx_ri R) 40 [(0, .ref 0), (1, .int x1), (2, .int x2), (3, .int x3)] [] M) : ∀ (n : Nat) (x2 : Int32) (x3 : Int32) (M : fxMem), CX7_playerOn_L4 x1 n x2 x3 M k = some R → fx_V gM mX7_playerOn (fx_ri R) 4 [(0, .ref 0), (1, .int x1), (2, .int x2), (3, .int x3)] [] M := by
  intro n
  induction n with
  | zero => intro x2 x3 M h; rw [CX7_playerOn_L4] at h; cases h
  | succ n ih =>
    intro x2 x3 M h
    rw [CX7_playerOn_L4] at h
    refine fx_iload_n 4 dX7_playerOn_4 rfl 3 rfl ?_
    refine fx_aload_n 5 dX7_playerOn_5 rfl 0 rfl ?_
    refine fx_get 6 (j := 1) (v := .ref 1) okm0 dX7_playerOn_6 lfX7_7 (by decide) (fun _ => rfl) ?_
    refine fx_iconst 9 (x := (0 : Int32)) dX7_playerOn_9 (by decide) ?_
    obtain ⟨g10, h⟩ := fx_gt h
    refine fx_iald 10 okb1 dX7_playerOn_10 g10 ?_
    refine fx_icmp_ge 11 40 dX7_playerOn_11 (by decide) (fun c11 => ?_) (fun c11 => ?_)
    · replace h := fx_ip c11 h
      refine fx_sub [0, 1, 2, 3] rfl ?_
      exact hk _ _ _ h
    · replace h := fx_ne c11 h
      refine fx_aload_n 14 dX7_playerOn_14 rfl 0 rfl ?_
      refine fx_get 15 (j := 1) (v := .ref 1) okm0 dX7_playerOn_15 lfX7_7 (by decide) (fun _ => rfl) ?_
      refine fx_sipush 18 (x := (150 : Int32)) dX7_playerOn_18 (by decide) ?_
      refine fx_iload_n 21 dX7_playerOn_21 rfl 3 rfl ?_
      refine fx_iadd 22 dX7_playerOn_22 ?_
      obtain ⟨g23, h⟩ := fx_gt h
      refine fx_iald 23 okb1 dX7_playerOn_23 g23 ?_
      refine fx_iload_n 24 dX7_playerOn_24 rfl 1 rfl ?_
      have J : fx_V gM mX7_playerOn (fx_ri R) 33 [(0, .ref 0), (1, .int x1), (2, .int x2), (3, .int x3)] [.int (if M 1 ((150 : Int32) + x3).toNatClampNeg = x1 then x3 else x2)] M := by
        refine fx_istore_n 33 (lv' := [(2, .int (if M 1 ((150 : Int32) + x3).toNatClampNeg = x1 then x3 else x2)), (0, .ref 0), (1, .int x1), (3, .int x3)]) dX7_playerOn_33 rfl (Nat.le_of_ble_eq_true rfl) rfl ?_
        refine fx_iinc 34 (lv' := [(3, .int (x3 + (1 : Int32))), (2, .int (if M 1 ((150 : Int32) + x3).toNatClampNeg = x1 then x3 else x2)), (0, .ref 0), (1, .int x1)]) (y := x3 + (1 : Int32)) dX7_playerOn_34 3 rfl (by rfl) (Nat.le_of_ble_eq_true rfl) rfl ?_
        refine fx_goto 37 4 dX7_playerOn_37 (by decide) ?_
        refine fx_sub [2, 3, 1, 0] rfl ?_
        exact ih _ _ _ h
      refine fx_icmp_ne 25 32 dX7_playerOn_25 (by decide) (fun c25 => ?_) (fun c25 => ?_)
      · refine fx_iload_n 32 dX7_playerOn_32 rfl 2 rfl ?_
        refine fx_sub (lv' := [(0, .ref 0), (1, .int x1), (2, .int x2), (3, .int x3)]) [0, 1, 2, 3] rfl ?_
        show fx_V gM mX7_playerOn (fx_ri R) 33 [(0, .ref 0), (1, .int x1), (2, .int x2), (3, .int x3)] [.int x2] M
        simpa only [if_neg c25] using J
      · refine fx_iload_n 28 dX7_playerOn_28 rfl 3 rfl ?_
        refine fx_goto 29 33 dX7_playerOn_29 (by decide) ?_
        refine fx_sub (lv' := [(0, .ref 0), (1, .int x1), (2, .int x2), (3, .int x3)]) [0, 1, 2, 3] rfl ?_
        show fx_V gM mX7_playerOn (fx_ri R) 33 [(0, .ref 0), (1, .int x1), (2, .int x2), (3, .int x3)] [.int x3] M
        simpa only [if_pos c25] using J
def CX7_playerOn (x1 : Int32) (M : fxMem) : Option (Int32 × fxMem) := CX7_playerOn_L4 x1 1000 (-1 : Int32) (0 : Int32) M (fun y2_4 y3_4 M4 => some (y2_4, M4))
set_option maxRecDepth 100000 in
set_option maxHeartbeats 4000000 in
theorem tX7_playerOn {x1 : Int32} {M : fxMem} {R : Int32 × fxMem} (h : CX7_playerOn x1 M = some R) : fx_T gM mX7_playerOn [.ref 0, .int x1] M (fx_ri R) := by
  rw [CX7_playerOn] at h
  refine fx_enter [(0, .ref 0), (1, .int x1)] (by show plainName RX7 = true; decide) (fun _ => rfl) (fun _ => Nat.le_of_ble_eq_true rfl) ?_
  refine fx_iconst 0 (x := (-1 : Int32)) dX7_playerOn_0 (by decide) ?_
  refine fx_istore_n 1 (lv' := [(2, .int (-1 : Int32)), (0, .ref 0), (1, .int x1)]) dX7_playerOn_1 rfl (Nat.le_of_ble_eq_true rfl) rfl ?_
  refine fx_iconst 2 (x := (0 : Int32)) dX7_playerOn_2 (by decide) ?_
  refine fx_istore_n 3 (lv' := [(3, .int (0 : Int32)), (2, .int (-1 : Int32)), (0, .ref 0), (1, .int x1)]) dX7_playerOn_3 rfl (Nat.le_of_ble_eq_true rfl) rfl ?_
  refine fx_sub [2, 3, 1, 0] rfl ?_
  refine vX7_playerOn_L4 (fun y2_4 y3_4 M4 h => ?_) 1000 _ _ _ h
  refine fx_iload_n 40 dX7_playerOn_40 rfl 2 rfl ?_
  obtain rfl := Option.some.inj h
  exact fx_iret 41 dX7_playerOn_41 rfl rfl ⟨rfl, rfl⟩
def mX7_player : fxM := (yX7_player, cX7_player, 5, (some .int), 4, 160)
theorem okvX7_player (f l : Nat) : fx_okV (yX7_player, cX7_player, 5, (some .int), f, l) 3 := ⟨⟨rin18 _ (List.mem_of_getElem? (i := 12) rfl), rin1 _ (List.mem_of_getElem? (i := 5) rfl), by show yX7_player.cls ≠ _; decide +kernel, by show yX7_player.cls ≠ _; decide +kernel, by show (parseMethodDescriptor yX7_player.desc).map _ = _; decide +kernel⟩, rin18 _ (List.mem_of_getElem? (i := 10) rfl), rin18 _ (List.mem_of_getElem? (i := 11) rfl)⟩
def CX7_player (x1 : Int32) (x2 : Int32) (x3 : Int32) (M : fxMem) : Option (Int32 × fxMem) := Option.bind (CX7_in x1 (0 : Int32) (6 : Int32) M) fun q4 => if q4.1 = (0 : Int32) then some ((-1 : Int32), q4.2) else Option.bind (CX7_isDot x3 q4.2) fun q11 => if q11.1 = (0 : Int32) then some ((-1 : Int32), q11.2) else Option.bind (CX7_in x2 (0 : Int32) (9 : Int32) q11.2) fun q23 => if q23.1 = (0 : Int32) then some ((-2 : Int32), q23.2) else Option.bind (CX7_playerOn x3 q23.2) fun q34 => if q34.1 = (-1 : Int32) then if fx_in (0 : Int32) 900 = true then if q34.2 1 (0 : Int32).toNatClampNeg = (10 : Int32) then some ((-4 : Int32), q34.2) else if fx_in ((130 : Int32) + (q34.2 1 (0 : Int32).toNatClampNeg)) 900 = true then fx_lt (fx_st q34.2 1 ((130 : Int32) + (q34.2 1 (0 : Int32).toNatClampNeg)).toNatClampNeg x1) fun M89 => if fx_in ((140 : Int32) + (q34.2 1 (0 : Int32).toNatClampNeg)) 900 = true then fx_lt (fx_st M89 1 ((140 : Int32) + (q34.2 1 (0 : Int32).toNatClampNeg)).toNatClampNeg x2) fun M101 => if fx_in ((150 : Int32) + (q34.2 1 (0 : Int32).toNatClampNeg)) 900 = true then fx_lt (fx_st M101 1 ((150 : Int32) + (q34.2 1 (0 : Int32).toNatClampNeg)).toNatClampNeg x3) fun M108 => some (q34.2 1 (0 : Int32).toNatClampNeg, fx_st M108 1 (0 : Int32).toNatClampNeg ((M108 1 (0 : Int32).toNatClampNeg) + (1 : Int32))) else none else none else none else none else some ((-3 : Int32), q34.2)
set_option maxRecDepth 100000 in
set_option maxHeartbeats 4000000 in
theorem tX7_player {x1 : Int32} {x2 : Int32} {x3 : Int32} {M : fxMem} {R : Int32 × fxMem} (h : CX7_player x1 x2 x3 M = some R) : fx_T gM mX7_player [.ref 0, .int x1, .int x2, .int x3] M (fx_ri R) := by
  rw [CX7_player] at h
  refine fx_enter [(0, .ref 0), (1, .int x1), (2, .int x2), (3, .int x3)] (by show plainName RX7 = true; decide) (fun _ => rfl) (fun _ => Nat.le_of_ble_eq_true rfl) ?_
  refine fx_iload_n 0 dX7_player_0 rfl 1 rfl ?_
  refine fx_iconst 1 (x := (0 : Int32)) dX7_player_1 (by decide) ?_
  refine fx_bipush 2 (x := (6 : Int32)) dX7_player_2 (by decide) ?_
  obtain ⟨q4, e4, h⟩ := fx_bd h
  refine fx_callSi 4 (mt' := mX7_in) (As := [.int x1, .int (0 : Int32), .int (6 : Int32)]) (oksX7_in _ _) lmX7_39 (by decide) rfl rfl (Nat.le_of_ble_eq_true rfl) dX7_player_4 (tX7_in e4) ?_
  refine fx_if_eq 7 17 dX7_player_7 (by decide) (fun c7 => ?_) (fun c7 => ?_)
  · replace h := fx_ip c7 h
    refine fx_iconst 17 (x := (-1 : Int32)) dX7_player_17 (by decide) ?_
    obtain rfl := Option.some.inj h
    exact fx_iret 18 dX7_player_18 rfl rfl ⟨rfl, rfl⟩
  · replace h := fx_ne c7 h
    refine fx_iload_n 10 dX7_player_10 rfl 3 rfl ?_
    obtain ⟨q11, e11, h⟩ := fx_bd h
    refine fx_callSi 11 (mt' := mX7_isDot) (As := [.int x3]) (oksX7_isDot _ _) lmX7_145 (by decide) rfl rfl (Nat.le_of_ble_eq_true rfl) dX7_player_11 (tX7_isDot e11) ?_
    refine fx_if_ne 14 19 dX7_player_14 (by decide) (fun c14 => ?_) (fun c14 => ?_)
    · replace h := fx_ne c14 h
      refine fx_iload_n 19 dX7_player_19 rfl 2 rfl ?_
      refine fx_iconst 20 (x := (0 : Int32)) dX7_player_20 (by decide) ?_
      refine fx_bipush 21 (x := (9 : Int32)) dX7_player_21 (by decide) ?_
      obtain ⟨q23, e23, h⟩ := fx_bd h
      refine fx_callSi 23 (mt' := mX7_in) (As := [.int x2, .int (0 : Int32), .int (9 : Int32)]) (oksX7_in _ _) lmX7_39 (by decide) rfl rfl (Nat.le_of_ble_eq_true rfl) dX7_player_23 (tX7_in e23) ?_
      refine fx_if_ne 26 32 dX7_player_26 (by decide) (fun c26 => ?_) (fun c26 => ?_)
      · replace h := fx_ne c26 h
        refine fx_aload_n 32 dX7_player_32 rfl 0 rfl ?_
        refine fx_iload_n 33 dX7_player_33 rfl 3 rfl ?_
        obtain ⟨q34, e34, h⟩ := fx_bd h
        refine fx_callVi 34 (mt' := mX7_playerOn) (As := [.int x3]) okm0 (okvX7_playerOn _ _) lmX7_149 (by decide) rfl rfl (Nat.le_of_ble_eq_true rfl) dX7_player_34 (tX7_playerOn e34) ?_
        refine fx_iconst 37 (x := (-1 : Int32)) dX7_player_37 (by decide) ?_
        refine fx_icmp_eq 38 44 dX7_player_38 (by decide) (fun c38 => ?_) (fun c38 => ?_)
        · replace h := fx_ip c38 h
          refine fx_aload_n 44 dX7_player_44 rfl 0 rfl ?_
          refine fx_get 45 (j := 1) (v := .ref 1) okm0 dX7_player_45 lfX7_7 (by decide) (fun _ => rfl) ?_
          refine fx_iconst 48 (x := (0 : Int32)) dX7_player_48 (by decide) ?_
          obtain ⟨g49, h⟩ := fx_gt h
          refine fx_iald 49 okb1 dX7_player_49 g49 ?_
          refine fx_bipush 50 (x := (10 : Int32)) dX7_player_50 (by decide) ?_
          refine fx_icmp_ne 52 58 dX7_player_52 (by decide) (fun c52 => ?_) (fun c52 => ?_)
          · replace h := fx_ne c52 h
            refine fx_aload_n 58 dX7_player_58 rfl 0 rfl ?_
            refine fx_get 59 (j := 1) (v := .ref 1) okm0 dX7_player_59 lfX7_7 (by decide) (fun _ => rfl) ?_
            refine fx_iconst 62 (x := (0 : Int32)) dX7_player_62 (by decide) ?_
            refine fx_iald 63 okb1 dX7_player_63 g49 ?_
            refine fx_istore 64 (lv' := [(4, .int (q34.2 1 (0 : Int32).toNatClampNeg)), (0, .ref 0), (1, .int x1), (2, .int x2), (3, .int x3)]) dX7_player_64 (Nat.le_of_ble_eq_true rfl) rfl ?_
            refine fx_aload_n 66 dX7_player_66 rfl 1 rfl ?_
            refine fx_get 67 (j := 1) (v := .ref 1) okm0 dX7_player_67 lfX7_7 (by decide) (fun _ => rfl) ?_
            refine fx_sipush 70 (x := (130 : Int32)) dX7_player_70 (by decide) ?_
            refine fx_iload 73 dX7_player_73 0 rfl ?_
            refine fx_iadd 75 dX7_player_75 ?_
            refine fx_iload_n 76 dX7_player_76 rfl 2 rfl ?_
            obtain ⟨g77, h⟩ := fx_gt h
            refine fx_iast 77 okb1 dX7_player_77 g77 ?_
            refine fx_aload_n 78 dX7_player_78 rfl 1 rfl ?_
            refine fx_get 79 (j := 1) (v := .ref 1) okm0 dX7_player_79 lfX7_7 (by decide) (fun _ => rfl) ?_
            refine fx_sipush 82 (x := (140 : Int32)) dX7_player_82 (by decide) ?_
            refine fx_iload 85 dX7_player_85 0 rfl ?_
            refine fx_iadd 87 dX7_player_87 ?_
            refine fx_iload_n 88 dX7_player_88 rfl 3 rfl ?_
            replace h := fx_ltd h
            generalize fx_st q34.2 1 ((130 : Int32) + (q34.2 1 (0 : Int32).toNatClampNeg)).toNatClampNeg x1 = M89 at h ⊢
            obtain ⟨g89, h⟩ := fx_gt h
            refine fx_iast 89 okb1 dX7_player_89 g89 ?_
            refine fx_aload_n 90 dX7_player_90 rfl 1 rfl ?_
            refine fx_get 91 (j := 1) (v := .ref 1) okm0 dX7_player_91 lfX7_7 (by decide) (fun _ => rfl) ?_
            refine fx_sipush 94 (x := (150 : Int32)) dX7_player_94 (by decide) ?_
            refine fx_iload 97 dX7_player_97 0 rfl ?_
            refine fx_iadd 99 dX7_player_99 ?_
            refine fx_iload_n 100 dX7_player_100 rfl 4 rfl ?_
            replace h := fx_ltd h
            generalize fx_st M89 1 ((140 : Int32) + (q34.2 1 (0 : Int32).toNatClampNeg)).toNatClampNeg x2 = M101 at h ⊢
            obtain ⟨g101, h⟩ := fx_gt h
            refine fx_iast 101 okb1 dX7_player_101 g101 ?_
            refine fx_aload_n 102 dX7_player_102 rfl 1 rfl ?_
            refine fx_get 103 (j := 1) (v := .ref 1) okm0 dX7_player_103 lfX7_7 (by decide) (fun _ => rfl) ?_
            refine fx_iconst 106 (x := (0 : Int32)) dX7_player_106 (by decide) ?_
            refine fx_dup2 107 dX7_player_107 rfl rfl ?_
            replace h := fx_ltd h
            generalize fx_st M101 1 ((150 : Int32) + (q34.2 1 (0 : Int32).toNatClampNeg)).toNatClampNeg x3 = M108 at h ⊢
            refine fx_iald 108 okb1 dX7_player_108 g49 ?_
            refine fx_iconst 109 (x := (1 : Int32)) dX7_player_109 (by decide) ?_
            refine fx_iadd 110 dX7_player_110 ?_
            refine fx_iast 111 okb1 dX7_player_111 g49 ?_
            refine fx_iload 112 dX7_player_112 0 rfl ?_
            obtain rfl := Option.some.inj h
            exact fx_iret 114 dX7_player_114 rfl rfl ⟨rfl, rfl⟩
          · replace h := fx_ip c52 h
            refine fx_bipush 55 (x := (-4 : Int32)) dX7_player_55 (by decide) ?_
            obtain rfl := Option.some.inj h
            exact fx_iret 57 dX7_player_57 rfl rfl ⟨rfl, rfl⟩
        · replace h := fx_ne c38 h
          refine fx_bipush 41 (x := (-3 : Int32)) dX7_player_41 (by decide) ?_
          obtain rfl := Option.some.inj h
          exact fx_iret 43 dX7_player_43 rfl rfl ⟨rfl, rfl⟩
      · replace h := fx_ip c26 h
        refine fx_bipush 29 (x := (-2 : Int32)) dX7_player_29 (by decide) ?_
        obtain rfl := Option.some.inj h
        exact fx_iret 31 dX7_player_31 rfl rfl ⟨rfl, rfl⟩
    · replace h := fx_ip c14 h
      refine fx_iconst 17 (x := (-1 : Int32)) dX7_player_17 (by decide) ?_
      obtain rfl := Option.some.inj h
      exact fx_iret 18 dX7_player_18 rfl rfl ⟨rfl, rfl⟩
def mX7_drum : fxM := (yX7_drum, cX7_drum, 3, (some .int), 4, 160)
theorem okvX7_drum (f l : Nat) : fx_okV (yX7_drum, cX7_drum, 3, (some .int), f, l) 1 := ⟨⟨rin24 _ (List.mem_of_getElem? (i := 22) rfl), rin1 _ (List.mem_of_getElem? (i := 5) rfl), by show yX7_drum.cls ≠ _; decide +kernel, by show yX7_drum.cls ≠ _; decide +kernel, by show (parseMethodDescriptor yX7_drum.desc).map _ = _; decide +kernel⟩, rin24 _ (List.mem_of_getElem? (i := 20) rfl), rin24 _ (List.mem_of_getElem? (i := 21) rfl)⟩
def CX7_drum (x1 : Int32) (M : fxMem) : Option (Int32 × fxMem) := Option.bind (CX7_isDot x1 M) fun q1 => if q1.1 = (0 : Int32) then some ((-1 : Int32), q1.2) else if fx_in (5 : Int32) 900 = true then some (q1.2 1 (5 : Int32).toNatClampNeg, fx_st q1.2 1 (5 : Int32).toNatClampNeg x1) else none
set_option maxRecDepth 100000 in
set_option maxHeartbeats 4000000 in
theorem tX7_drum {x1 : Int32} {M : fxMem} {R : Int32 × fxMem} (h : CX7_drum x1 M = some R) : fx_T gM mX7_drum [.ref 0, .int x1] M (fx_ri R) := by
  rw [CX7_drum] at h
  refine fx_enter [(0, .ref 0), (1, .int x1)] (by show plainName RX7 = true; decide) (fun _ => rfl) (fun _ => Nat.le_of_ble_eq_true rfl) ?_
  refine fx_iload_n 0 dX7_drum_0 rfl 1 rfl ?_
  obtain ⟨q1, e1, h⟩ := fx_bd h
  refine fx_callSi 1 (mt' := mX7_isDot) (As := [.int x1]) (oksX7_isDot _ _) lmX7_145 (by decide) rfl rfl (Nat.le_of_ble_eq_true rfl) dX7_drum_1 (tX7_isDot e1) ?_
  refine fx_if_ne 4 9 dX7_drum_4 (by decide) (fun c4 => ?_) (fun c4 => ?_)
  · replace h := fx_ne c4 h
    refine fx_aload_n 9 dX7_drum_9 rfl 0 rfl ?_
    refine fx_get 10 (j := 1) (v := .ref 1) okm0 dX7_drum_10 lfX7_7 (by decide) (fun _ => rfl) ?_
    refine fx_iconst 13 (x := (5 : Int32)) dX7_drum_13 (by decide) ?_
    obtain ⟨g14, h⟩ := fx_gt h
    refine fx_iald 14 okb1 dX7_drum_14 g14 ?_
    refine fx_istore_n 15 (lv' := [(2, .int (q1.2 1 (5 : Int32).toNatClampNeg)), (0, .ref 0), (1, .int x1)]) dX7_drum_15 rfl (Nat.le_of_ble_eq_true rfl) rfl ?_
    refine fx_aload_n 16 dX7_drum_16 rfl 1 rfl ?_
    refine fx_get 17 (j := 1) (v := .ref 1) okm0 dX7_drum_17 lfX7_7 (by decide) (fun _ => rfl) ?_
    refine fx_iconst 20 (x := (5 : Int32)) dX7_drum_20 (by decide) ?_
    refine fx_iload_n 21 dX7_drum_21 rfl 2 rfl ?_
    refine fx_iast 22 okb1 dX7_drum_22 g14 ?_
    refine fx_iload_n 23 dX7_drum_23 rfl 0 rfl ?_
    obtain rfl := Option.some.inj h
    exact fx_iret 24 dX7_drum_24 rfl rfl ⟨rfl, rfl⟩
  · replace h := fx_ip c4 h
    refine fx_iconst 7 (x := (-1 : Int32)) dX7_drum_7 (by decide) ?_
    obtain rfl := Option.some.inj h
    exact fx_iret 8 dX7_drum_8 rfl rfl ⟨rfl, rfl⟩
def mX7_put : fxM := (yX7_put, cX7_put, 4, (some .int), 4, 160)
theorem okvX7_put (f l : Nat) : fx_okV (yX7_put, cX7_put, 4, (some .int), f, l) 2 := ⟨⟨rin25 _ (List.mem_of_getElem? (i := 6) rfl), rin1 _ (List.mem_of_getElem? (i := 5) rfl), by show yX7_put.cls ≠ _; decide +kernel, by show yX7_put.cls ≠ _; decide +kernel, by show (parseMethodDescriptor yX7_put.desc).map _ = _; decide +kernel⟩, rin25 _ (List.mem_of_getElem? (i := 4) rfl), rin25 _ (List.mem_of_getElem? (i := 5) rfl)⟩
def CX7_put_J38  (x1 : Int32) (x2 : Int32) (M : fxMem) : Option (Int32 × fxMem) := if fx_in ((150 : Int32) + x1) 900 = true then some (M 1 ((150 : Int32) + x1).toNatClampNeg, fx_st M 1 ((150 : Int32) + x1).toNatClampNeg x2) else none
set_option maxRecDepth 100000 in
set_option maxHeartbeats 4000000 in
theorem vX7_put_J38  {x1 : Int32} {x2 : Int32} {R : Int32 × fxMem} {M : fxMem} (h : CX7_put_J38 x1 x2 M = some R) : fx_V gM mX7_put (fx_ri R) 38 [(0, .ref 0), (1, .int x1), (2, .int x2)] [] M := by
  rw [CX7_put_J38] at h
  refine fx_aload_n 38 dX7_put_38 rfl 0 rfl ?_
  refine fx_get 39 (j := 1) (v := .ref 1) okm0 dX7_put_39 lfX7_7 (by decide) (fun _ => rfl) ?_
  refine fx_sipush 42 (x := (150 : Int32)) dX7_put_42 (by decide) ?_
  refine fx_iload_n 45 dX7_put_45 rfl 1 rfl ?_
  refine fx_iadd 46 dX7_put_46 ?_
  obtain ⟨g47, h⟩ := fx_gt h
  refine fx_iald 47 okb1 dX7_put_47 g47 ?_
  refine fx_istore_n 48 (lv' := [(3, .int (M 1 ((150 : Int32) + x1).toNatClampNeg)), (0, .ref 0), (1, .int x1), (2, .int x2)]) dX7_put_48 rfl (Nat.le_of_ble_eq_true rfl) rfl ?_
  refine fx_aload_n 49 dX7_put_49 rfl 1 rfl ?_
  refine fx_get 50 (j := 1) (v := .ref 1) okm0 dX7_put_50 lfX7_7 (by decide) (fun _ => rfl) ?_
  refine fx_sipush 53 (x := (150 : Int32)) dX7_put_53 (by decide) ?_
  refine fx_iload_n 56 dX7_put_56 rfl 2 rfl ?_
  refine fx_iadd 57 dX7_put_57 ?_
  refine fx_iload_n 58 dX7_put_58 rfl 3 rfl ?_
  refine fx_iast 59 okb1 dX7_put_59 g47 ?_
  refine fx_iload_n 60 dX7_put_60 rfl 0 rfl ?_
  obtain rfl := Option.some.inj h
  exact fx_iret 61 dX7_put_61 rfl rfl ⟨rfl, rfl⟩
def CX7_put (x1 : Int32) (x2 : Int32) (M : fxMem) : Option (Int32 × fxMem) := Option.bind (CX7_isPlayer x1 M) fun q2 => if q2.1 = (0 : Int32) then some ((-1 : Int32), q2.2) else Option.bind (CX7_isDot x2 q2.2) fun q9 => if q9.1 = (0 : Int32) then some ((-1 : Int32), q9.2) else Option.bind (CX7_playerOn x2 q9.2) fun q19 => if q19.1 = (-1 : Int32) then CX7_put_J38 x1 x2 q19.2 else Option.bind (CX7_playerOn x2 q19.2) fun q28 => if q28.1 = x1 then CX7_put_J38 x1 x2 q28.2 else some ((-3 : Int32), q28.2)
set_option maxRecDepth 100000 in
set_option maxHeartbeats 4000000 in
theorem tX7_put {x1 : Int32} {x2 : Int32} {M : fxMem} {R : Int32 × fxMem} (h : CX7_put x1 x2 M = some R) : fx_T gM mX7_put [.ref 0, .int x1, .int x2] M (fx_ri R) := by
  rw [CX7_put] at h
  refine fx_enter [(0, .ref 0), (1, .int x1), (2, .int x2)] (by show plainName RX7 = true; decide) (fun _ => rfl) (fun _ => Nat.le_of_ble_eq_true rfl) ?_
  refine fx_aload_n 0 dX7_put_0 rfl 0 rfl ?_
  refine fx_iload_n 1 dX7_put_1 rfl 1 rfl ?_
  obtain ⟨q2, e2, h⟩ := fx_bd h
  refine fx_callVi 2 (mt' := mX7_isPlayer) (As := [.int x1]) okm0 (okvX7_isPlayer _ _) lmX7_152 (by decide) rfl rfl (Nat.le_of_ble_eq_true rfl) dX7_put_2 (tX7_isPlayer e2) ?_
  refine fx_if_eq 5 15 dX7_put_5 (by decide) (fun c5 => ?_) (fun c5 => ?_)
  · replace h := fx_ip c5 h
    refine fx_iconst 15 (x := (-1 : Int32)) dX7_put_15 (by decide) ?_
    obtain rfl := Option.some.inj h
    exact fx_iret 16 dX7_put_16 rfl rfl ⟨rfl, rfl⟩
  · replace h := fx_ne c5 h
    refine fx_iload_n 8 dX7_put_8 rfl 2 rfl ?_
    obtain ⟨q9, e9, h⟩ := fx_bd h
    refine fx_callSi 9 (mt' := mX7_isDot) (As := [.int x2]) (oksX7_isDot _ _) lmX7_145 (by decide) rfl rfl (Nat.le_of_ble_eq_true rfl) dX7_put_9 (tX7_isDot e9) ?_
    refine fx_if_ne 12 17 dX7_put_12 (by decide) (fun c12 => ?_) (fun c12 => ?_)
    · replace h := fx_ne c12 h
      refine fx_aload_n 17 dX7_put_17 rfl 0 rfl ?_
      refine fx_iload_n 18 dX7_put_18 rfl 2 rfl ?_
      obtain ⟨q19, e19, h⟩ := fx_bd h
      refine fx_callVi 19 (mt' := mX7_playerOn) (As := [.int x2]) okm0 (okvX7_playerOn _ _) lmX7_149 (by decide) rfl rfl (Nat.le_of_ble_eq_true rfl) dX7_put_19 (tX7_playerOn e19) ?_
      refine fx_iconst 22 (x := (-1 : Int32)) dX7_put_22 (by decide) ?_
      refine fx_icmp_eq 23 38 dX7_put_23 (by decide) (fun c23 => ?_) (fun c23 => ?_)
      · replace h := fx_ip c23 h
        refine fx_sub [0, 1, 2] rfl ?_
        exact vX7_put_J38 h
      · replace h := fx_ne c23 h
        refine fx_aload_n 26 dX7_put_26 rfl 0 rfl ?_
        refine fx_iload_n 27 dX7_put_27 rfl 2 rfl ?_
        obtain ⟨q28, e28, h⟩ := fx_bd h
        refine fx_callVi 28 (mt' := mX7_playerOn) (As := [.int x2]) okm0 (okvX7_playerOn _ _) lmX7_149 (by decide) rfl rfl (Nat.le_of_ble_eq_true rfl) dX7_put_28 (tX7_playerOn e28) ?_
        refine fx_iload_n 31 dX7_put_31 rfl 1 rfl ?_
        refine fx_icmp_eq 32 38 dX7_put_32 (by decide) (fun c32 => ?_) (fun c32 => ?_)
        · replace h := fx_ip c32 h
          refine fx_sub [0, 1, 2] rfl ?_
          exact vX7_put_J38 h
        · replace h := fx_ne c32 h
          refine fx_bipush 35 (x := (-3 : Int32)) dX7_put_35 (by decide) ?_
          obtain rfl := Option.some.inj h
          exact fx_iret 37 dX7_put_37 rfl rfl ⟨rfl, rfl⟩
    · replace h := fx_ip c12 h
      refine fx_iconst 15 (x := (-1 : Int32)) dX7_put_15 (by decide) ?_
      obtain rfl := Option.some.inj h
      exact fx_iret 16 dX7_put_16 rfl rfl ⟨rfl, rfl⟩
def mX7_nearestInColumn : fxM := (yX7_nearestInColumn, cX7_nearestInColumn, 7, (some .int), 3, 120)
theorem okvX7_nearestInColumn (f l : Nat) : fx_okV (yX7_nearestInColumn, cX7_nearestInColumn, 7, (some .int), f, l) 2 := ⟨⟨rin24 _ (List.mem_of_getElem? (i := 8) rfl), rin1 _ (List.mem_of_getElem? (i := 5) rfl), by show yX7_nearestInColumn.cls ≠ _; decide +kernel, by show yX7_nearestInColumn.cls ≠ _; decide +kernel, by show (parseMethodDescriptor yX7_nearestInColumn.desc).map _ = _; decide +kernel⟩, rin24 _ (List.mem_of_getElem? (i := 6) rfl), rin24 _ (List.mem_of_getElem? (i := 7) rfl)⟩
def CX7_nearestInColumn_L5 (x1 : Int32) (x2 : Int32) : Nat → Int32 → Int32 → fxMem → (Int32 → Int32 → fxMem → Option (Int32 × fxMem)) → Option (Int32 × fxMem)
  | 0, _, _, _, _ => none
  | n + 1, x3, x4, M, k => if fx_in (0 : Int32) 900 = true then if M 1 (0 : Int32).toNatClampNeg ≤ x4 then k x3 x4 M else if fx_in ((150 : Int32) + x4) 900 = true then if fx_in ((150 : Int32) + x1) 900 = true then if (if x4 = M 0 13 then (0 : Int32) else (if (M 1 ((150 : Int32) + x4).toNatClampNeg) - (M 1 ((150 : Int32) + x4).toNatClampNeg) / (8 : Int32) * (8 : Int32) = (M 1 ((150 : Int32) + x1).toNatClampNeg) - (M 1 ((150 : Int32) + x1).toNatClampNeg) / (8 : Int32) * (8 : Int32) then (if x2 = (0 : Int32) then (if (0 : Int32) ≤ ((M 1 ((150 : Int32) + x4).toNatClampNeg) / (8 : Int32)) - ((M 1 ((150 : Int32) + x1).toNatClampNeg) / (8 : Int32)) then (0 : Int32) else (1 : Int32)) else (if ((M 1 ((150 : Int32) + x4).toNatClampNeg) / (8 : Int32)) - ((M 1 ((150 : Int32) + x1).toNatClampNeg) / (8 : Int32)) ≤ (0 : Int32) then (0 : Int32) else (1 : Int32))) else (0 : Int32))) = (0 : Int32) then CX7_nearestInColumn_L5 x1 x2 n x3 (x4 + (1 : Int32)) M k else if x3 = (-1 : Int32) then CX7_nearestInColumn_L5 x1 x2 n x4 (x4 + (1 : Int32)) M k else Option.bind (CX7_size (((M 1 ((150 : Int32) + x4).toNatClampNeg) / (8 : Int32)) - ((M 1 ((150 : Int32) + x1).toNatClampNeg) / (8 : Int32))) M) fun q121 => if fx_in ((150 : Int32) + x3) 900 = true then Option.bind (CX7_size (((q121.2 1 ((150 : Int32) + x3).toNatClampNeg) / (8 : Int32)) - ((q121.2 1 ((150 : Int32) + x1).toNatClampNeg) / (8 : Int32))) q121.2) fun q151 => CX7_nearestInColumn_L5 x1 x2 n (if q151.1 ≤ q121.1 then x3 else x4) (x4 + (1 : Int32)) q151.2 k else none else none else none else none
set_option maxRecDepth 100000 in
set_option maxHeartbeats 4000000 in
theorem vX7_nearestInColumn_L5 {x1 : Int32} {x2 : Int32} {R : Int32 × fxMem} {k : Int32 → Int32 → fxMem → Option (Int32 × fxMem)} (hk : ∀ (x3 : Int32) (x4 : Int32) (M : fxMem), k x3 x4 M = some R → fx_V gM mX7_nearestInColumn (fx_ri R) 170 [(0, .ref 0), (1, .int x1), (2, .int x2), (3, .int x3), (4, .int x4)] [] M) : ∀ (n : Nat) (x3 : Int32) (x4 : Int32) (M : fxMem), CX7_nearestInColumn_L5 x1 x2 n x3 x4 M k = some R → fx_V gM mX7_nearestInColumn (fx_ri R) 5 [(0, .ref 0), (1, .int x1), (2, .int x2), (3, .int x3), (4, .int x4)] [] M := by
  intro n
  induction n with
  | zero => intro x3 x4 M h; rw [CX7_nearestInColumn_L5] at h; cases h
  | succ n ih =>
    intro x3 x4 M h
    rw [CX7_nearestInColumn_L5] at h
    refine fx_iload 5 dX7_nearestInColumn_5 4 rfl ?_
    refine fx_aload_n 7 dX7_nearestInColumn_7 rfl 0 rfl ?_
    refine fx_get 8 (j := 1) (v := .ref 1) okm0 dX7_nearestInColumn_8 lfX7_7 (by decide) (fun _ => rfl) ?_
    refine fx_iconst 11 (x := (0 : Int32)) dX7_nearestInColumn_11 (by decide) ?_
    obtain ⟨g12, h⟩ := fx_gt h
    refine fx_iald 12 okb1 dX7_nearestInColumn_12 g12 ?_
    refine fx_icmp_ge 13 170 dX7_nearestInColumn_13 (by decide) (fun c13 => ?_) (fun c13 => ?_)
    · replace h := fx_ip c13 h
      refine fx_sub [0, 1, 2, 3, 4] rfl ?_
      exact hk _ _ _ h
    · replace h := fx_ne c13 h
      refine fx_aload_n 16 dX7_nearestInColumn_16 rfl 0 rfl ?_
      refine fx_get 17 (j := 1) (v := .ref 1) okm0 dX7_nearestInColumn_17 lfX7_7 (by decide) (fun _ => rfl) ?_
      refine fx_sipush 20 (x := (150 : Int32)) dX7_nearestInColumn_20 (by decide) ?_
      refine fx_iload 23 dX7_nearestInColumn_23 4 rfl ?_
      refine fx_iadd 25 dX7_nearestInColumn_25 ?_
      obtain ⟨g26, h⟩ := fx_gt h
      refine fx_iald 26 okb1 dX7_nearestInColumn_26 g26 ?_
      refine fx_bipush 27 (x := (8 : Int32)) dX7_nearestInColumn_27 (by decide) ?_
      refine fx_idiv 29 dX7_nearestInColumn_29 (by decide) ?_
      refine fx_aload_n 30 dX7_nearestInColumn_30 rfl 0 rfl ?_
      refine fx_get 31 (j := 1) (v := .ref 1) okm0 dX7_nearestInColumn_31 lfX7_7 (by decide) (fun _ => rfl) ?_
      refine fx_sipush 34 (x := (150 : Int32)) dX7_nearestInColumn_34 (by decide) ?_
      refine fx_iload_n 37 dX7_nearestInColumn_37 rfl 1 rfl ?_
      refine fx_iadd 38 dX7_nearestInColumn_38 ?_
      obtain ⟨g39, h⟩ := fx_gt h
      refine fx_iald 39 okb1 dX7_nearestInColumn_39 g39 ?_
      refine fx_bipush 40 (x := (8 : Int32)) dX7_nearestInColumn_40 (by decide) ?_
      refine fx_idiv 42 dX7_nearestInColumn_42 (by decide) ?_
      refine fx_isub 43 dX7_nearestInColumn_43 ?_
      refine fx_istore 44 (lv' := [(5, .int (((M 1 ((150 : Int32) + x4).toNatClampNeg) / (8 : Int32)) - ((M 1 ((150 : Int32) + x1).toNatClampNeg) / (8 : Int32)))), (0, .ref 0), (1, .int x1), (2, .int x2), (3, .int x3), (4, .int x4)]) dX7_nearestInColumn_44 (Nat.le_of_ble_eq_true rfl) rfl ?_
      refine fx_iload 46 dX7_nearestInColumn_46 5 rfl ?_
      refine fx_aload_n 48 dX7_nearestInColumn_48 rfl 1 rfl ?_
      refine fx_get 49 (j := 13) (v := .int (M 0 13)) okm0 dX7_nearestInColumn_49 lfX7_23 (by decide) (fun _ => rfl) ?_
      have J : fx_V gM mX7_nearestInColumn (fx_ri R) 107 [(0, .ref 0), (1, .int x1), (2, .int x2), (3, .int x3), (4, .int x4), (5, .int (((M 1 ((150 : Int32) + x4).toNatClampNeg) / (8 : Int32)) - ((M 1 ((150 : Int32) + x1).toNatClampNeg) / (8 : Int32))))] [.int (if x4 = M 0 13 then (0 : Int32) else (if (M 1 ((150 : Int32) + x4).toNatClampNeg) - (M 1 ((150 : Int32) + x4).toNatClampNeg) / (8 : Int32) * (8 : Int32) = (M 1 ((150 : Int32) + x1).toNatClampNeg) - (M 1 ((150 : Int32) + x1).toNatClampNeg) / (8 : Int32) * (8 : Int32) then (if x2 = (0 : Int32) then (if (0 : Int32) ≤ ((M 1 ((150 : Int32) + x4).toNatClampNeg) / (8 : Int32)) - ((M 1 ((150 : Int32) + x1).toNatClampNeg) / (8 : Int32)) then (0 : Int32) else (1 : Int32)) else (if ((M 1 ((150 : Int32) + x4).toNatClampNeg) / (8 : Int32)) - ((M 1 ((150 : Int32) + x1).toNatClampNeg) / (8 : Int32)) ≤ (0 : Int32) then (0 : Int32) else (1 : Int32))) else (0 : Int32)))] M := by
        refine fx_istore 107 (lv' := [(6, .int (if x4 = M 0 13 then (0 : Int32) else (if (M 1 ((150 : Int32) + x4).toNatClampNeg) - (M 1 ((150 : Int32) + x4).toNatClampNeg) / (8 : Int32) * (8 : Int32) = (M 1 ((150 : Int32) + x1).toNatClampNeg) - (M 1 ((150 : Int32) + x1).toNatClampNeg) / (8 : Int32) * (8 : Int32) then (if x2 = (0 : Int32) then (if (0 : Int32) ≤ ((M 1 ((150 : Int32) + x4).toNatClampNeg) / (8 : Int32)) - ((M 1 ((150 : Int32) + x1).toNatClampNeg) / (8 : Int32)) then (0 : Int32) else (1 : Int32)) else (if ((M 1 ((150 : Int32) + x4).toNatClampNeg) / (8 : Int32)) - ((M 1 ((150 : Int32) + x1).toNatClampNeg) / (8 : Int32)) ≤ (0 : Int32) then (0 : Int32) else (1 : Int32))) else (0 : Int32)))), (0, .ref 0), (1, .int x1), (2, .int x2), (3, .int x3), (4, .int x4), (5, .int (((M 1 ((150 : Int32) + x4).toNatClampNeg) / (8 : Int32)) - ((M 1 ((150 : Int32) + x1).toNatClampNeg) / (8 : Int32))))]) dX7_nearestInColumn_107 (Nat.le_of_ble_eq_true rfl) rfl ?_
        refine fx_iload 109 dX7_nearestInColumn_109 0 rfl ?_
        refine fx_if_eq 111 162 dX7_nearestInColumn_111 (by decide) (fun c111 => ?_) (fun c111 => ?_)
        · replace h := fx_ip c111 h
          refine fx_iload_n 162 dX7_nearestInColumn_162 rfl 4 rfl ?_
          refine fx_istore_n 163 (lv' := [(3, .int x3), (6, .int (if x4 = M 0 13 then (0 : Int32) else (if (M 1 ((150 : Int32) + x4).toNatClampNeg) - (M 1 ((150 : Int32) + x4).toNatClampNeg) / (8 : Int32) * (8 : Int32) = (M 1 ((150 : Int32) + x1).toNatClampNeg) - (M 1 ((150 : Int32) + x1).toNatClampNeg) / (8 : Int32) * (8 : Int32) then (if x2 = (0 : Int32) then (if (0 : Int32) ≤ ((M 1 ((150 : Int32) + x4).toNatClampNeg) / (8 : Int32)) - ((M 1 ((150 : Int32) + x1).toNatClampNeg) / (8 : Int32)) then (0 : Int32) else (1 : Int32)) else (if ((M 1 ((150 : Int32) + x4).toNatClampNeg) / (8 : Int32)) - ((M 1 ((150 : Int32) + x1).toNatClampNeg) / (8 : Int32)) ≤ (0 : Int32) then (0 : Int32) else (1 : Int32))) else (0 : Int32)))), (0, .ref 0), (1, .int x1), (2, .int x2), (4, .int x4), (5, .int (((M 1 ((150 : Int32) + x4).toNatClampNeg) / (8 : Int32)) - ((M 1 ((150 : Int32) + x1).toNatClampNeg) / (8 : Int32))))]) dX7_nearestInColumn_163 rfl (Nat.le_of_ble_eq_true rfl) rfl ?_
          refine fx_iinc 164 (lv' := [(4, .int (x4 + (1 : Int32))), (3, .int x3), (6, .int (if x4 = M 0 13 then (0 : Int32) else (if (M 1 ((150 : Int32) + x4).toNatClampNeg) - (M 1 ((150 : Int32) + x4).toNatClampNeg) / (8 : Int32) * (8 : Int32) = (M 1 ((150 : Int32) + x1).toNatClampNeg) - (M 1 ((150 : Int32) + x1).toNatClampNeg) / (8 : Int32) * (8 : Int32) then (if x2 = (0 : Int32) then (if (0 : Int32) ≤ ((M 1 ((150 : Int32) + x4).toNatClampNeg) / (8 : Int32)) - ((M 1 ((150 : Int32) + x1).toNatClampNeg) / (8 : Int32)) then (0 : Int32) else (1 : Int32)) else (if ((M 1 ((150 : Int32) + x4).toNatClampNeg) / (8 : Int32)) - ((M 1 ((150 : Int32) + x1).toNatClampNeg) / (8 : Int32)) ≤ (0 : Int32) then (0 : Int32) else (1 : Int32))) else (0 : Int32)))), (0, .ref 0), (1, .int x1), (2, .int x2), (5, .int (((M 1 ((150 : Int32) + x4).toNatClampNeg) / (8 : Int32)) - ((M 1 ((150 : Int32) + x1).toNatClampNeg) / (8 : Int32))))]) (y := x4 + (1 : Int32)) dX7_nearestInColumn_164 5 rfl (by rfl) (Nat.le_of_ble_eq_true rfl) rfl ?_
          refine fx_goto 167 5 dX7_nearestInColumn_167 (by decide) ?_
          refine fx_sub [3, 4, 5, 1, 0] rfl ?_
          exact ih _ _ _ h
        · replace h := fx_ne c111 h
          refine fx_iload_n 114 dX7_nearestInColumn_114 rfl 4 rfl ?_
          refine fx_iconst 115 (x := (-1 : Int32)) dX7_nearestInColumn_115 (by decide) ?_
          refine fx_icmp_eq 116 157 dX7_nearestInColumn_116 (by decide) (fun c116 => ?_) (fun c116 => ?_)
          · replace h := fx_ip c116 h
            refine fx_iload 157 dX7_nearestInColumn_157 5 rfl ?_
            refine fx_goto 159 163 dX7_nearestInColumn_159 (by decide) ?_
            refine fx_istore_n 163 (lv' := [(3, .int x4), (6, .int (if x4 = M 0 13 then (0 : Int32) else (if (M 1 ((150 : Int32) + x4).toNatClampNeg) - (M 1 ((150 : Int32) + x4).toNatClampNeg) / (8 : Int32) * (8 : Int32) = (M 1 ((150 : Int32) + x1).toNatClampNeg) - (M 1 ((150 : Int32) + x1).toNatClampNeg) / (8 : Int32) * (8 : Int32) then (if x2 = (0 : Int32) then (if (0 : Int32) ≤ ((M 1 ((150 : Int32) + x4).toNatClampNeg) / (8 : Int32)) - ((M 1 ((150 : Int32) + x1).toNatClampNeg) / (8 : Int32)) then (0 : Int32) else (1 : Int32)) else (if ((M 1 ((150 : Int32) + x4).toNatClampNeg) / (8 : Int32)) - ((M 1 ((150 : Int32) + x1).toNatClampNeg) / (8 : Int32)) ≤ (0 : Int32) then (0 : Int32) else (1 : Int32))) else (0 : Int32)))), (0, .ref 0), (1, .int x1), (2, .int x2), (4, .int x4), (5, .int (((M 1 ((150 : Int32) + x4).toNatClampNeg) / (8 : Int32)) - ((M 1 ((150 : Int32) + x1).toNatClampNeg) / (8 : Int32))))]) dX7_nearestInColumn_163 rfl (Nat.le_of_ble_eq_true rfl) rfl ?_
            refine fx_iinc 164 (lv' := [(4, .int (x4 + (1 : Int32))), (3, .int x4), (6, .int (if x4 = M 0 13 then (0 : Int32) else (if (M 1 ((150 : Int32) + x4).toNatClampNeg) - (M 1 ((150 : Int32) + x4).toNatClampNeg) / (8 : Int32) * (8 : Int32) = (M 1 ((150 : Int32) + x1).toNatClampNeg) - (M 1 ((150 : Int32) + x1).toNatClampNeg) / (8 : Int32) * (8 : Int32) then (if x2 = (0 : Int32) then (if (0 : Int32) ≤ ((M 1 ((150 : Int32) + x4).toNatClampNeg) / (8 : Int32)) - ((M 1 ((150 : Int32) + x1).toNatClampNeg) / (8 : Int32)) then (0 : Int32) else (1 : Int32)) else (if ((M 1 ((150 : Int32) + x4).toNatClampNeg) / (8 : Int32)) - ((M 1 ((150 : Int32) + x1).toNatClampNeg) / (8 : Int32)) ≤ (0 : Int32) then (0 : Int32) else (1 : Int32))) else (0 : Int32)))), (0, .ref 0), (1, .int x1), (2, .int x2), (5, .int (((M 1 ((150 : Int32) + x4).toNatClampNeg) / (8 : Int32)) - ((M 1 ((150 : Int32) + x1).toNatClampNeg) / (8 : Int32))))]) (y := x4 + (1 : Int32)) dX7_nearestInColumn_164 5 rfl (by rfl) (Nat.le_of_ble_eq_true rfl) rfl ?_
            refine fx_goto 167 5 dX7_nearestInColumn_167 (by decide) ?_
            refine fx_sub [3, 4, 5, 1, 0] rfl ?_
            exact ih _ _ _ h
          · replace h := fx_ne c116 h
            refine fx_iload 119 dX7_nearestInColumn_119 6 rfl ?_
            obtain ⟨q121, e121, h⟩ := fx_bd h
            refine fx_callSi 121 (mt' := mX7_size) (As := [.int (((M 1 ((150 : Int32) + x4).toNatClampNeg) / (8 : Int32)) - ((M 1 ((150 : Int32) + x1).toNatClampNeg) / (8 : Int32)))]) (oksX7_size _ _) lmX7_43 (by decide) rfl rfl (Nat.le_of_ble_eq_true rfl) dX7_nearestInColumn_121 (tX7_size e121) ?_
            refine fx_aload_n 124 dX7_nearestInColumn_124 rfl 1 rfl ?_
            refine fx_get 125 (j := 1) (v := .ref 1) okm0 dX7_nearestInColumn_125 lfX7_7 (by decide) (fun _ => rfl) ?_
            refine fx_sipush 128 (x := (150 : Int32)) dX7_nearestInColumn_128 (by decide) ?_
            refine fx_iload_n 131 dX7_nearestInColumn_131 rfl 4 rfl ?_
            refine fx_iadd 132 dX7_nearestInColumn_132 ?_
            obtain ⟨g133, h⟩ := fx_gt h
            refine fx_iald 133 okb1 dX7_nearestInColumn_133 g133 ?_
            refine fx_bipush 134 (x := (8 : Int32)) dX7_nearestInColumn_134 (by decide) ?_
            refine fx_idiv 136 dX7_nearestInColumn_136 (by decide) ?_
            refine fx_aload_n 137 dX7_nearestInColumn_137 rfl 1 rfl ?_
            refine fx_get 138 (j := 1) (v := .ref 1) okm0 dX7_nearestInColumn_138 lfX7_7 (by decide) (fun _ => rfl) ?_
            refine fx_sipush 141 (x := (150 : Int32)) dX7_nearestInColumn_141 (by decide) ?_
            refine fx_iload_n 144 dX7_nearestInColumn_144 rfl 2 rfl ?_
            refine fx_iadd 145 dX7_nearestInColumn_145 ?_
            refine fx_iald 146 okb1 dX7_nearestInColumn_146 g39 ?_
            refine fx_bipush 147 (x := (8 : Int32)) dX7_nearestInColumn_147 (by decide) ?_
            refine fx_idiv 149 dX7_nearestInColumn_149 (by decide) ?_
            refine fx_isub 150 dX7_nearestInColumn_150 ?_
            obtain ⟨q151, e151, h⟩ := fx_bd h
            refine fx_callSi 151 (mt' := mX7_size) (As := [.int (((q121.2 1 ((150 : Int32) + x3).toNatClampNeg) / (8 : Int32)) - ((q121.2 1 ((150 : Int32) + x1).toNatClampNeg) / (8 : Int32)))]) (oksX7_size _ _) lmX7_43 (by decide) rfl rfl (Nat.le_of_ble_eq_true rfl) dX7_nearestInColumn_151 (tX7_size e151) ?_
            have J : fx_V gM mX7_nearestInColumn (fx_ri R) 163 [(0, .ref 0), (1, .int x1), (2, .int x2), (3, .int x3), (4, .int x4), (5, .int (((M 1 ((150 : Int32) + x4).toNatClampNeg) / (8 : Int32)) - ((M 1 ((150 : Int32) + x1).toNatClampNeg) / (8 : Int32)))), (6, .int (if x4 = M 0 13 then (0 : Int32) else (if (M 1 ((150 : Int32) + x4).toNatClampNeg) - (M 1 ((150 : Int32) + x4).toNatClampNeg) / (8 : Int32) * (8 : Int32) = (M 1 ((150 : Int32) + x1).toNatClampNeg) - (M 1 ((150 : Int32) + x1).toNatClampNeg) / (8 : Int32) * (8 : Int32) then (if x2 = (0 : Int32) then (if (0 : Int32) ≤ ((M 1 ((150 : Int32) + x4).toNatClampNeg) / (8 : Int32)) - ((M 1 ((150 : Int32) + x1).toNatClampNeg) / (8 : Int32)) then (0 : Int32) else (1 : Int32)) else (if ((M 1 ((150 : Int32) + x4).toNatClampNeg) / (8 : Int32)) - ((M 1 ((150 : Int32) + x1).toNatClampNeg) / (8 : Int32)) ≤ (0 : Int32) then (0 : Int32) else (1 : Int32))) else (0 : Int32))))] [.int (if q151.1 ≤ q121.1 then x3 else x4)] q151.2 := by
              refine fx_istore_n 163 (lv' := [(3, .int (if q151.1 ≤ q121.1 then x3 else x4)), (0, .ref 0), (1, .int x1), (2, .int x2), (4, .int x4), (5, .int (((M 1 ((150 : Int32) + x4).toNatClampNeg) / (8 : Int32)) - ((M 1 ((150 : Int32) + x1).toNatClampNeg) / (8 : Int32)))), (6, .int (if x4 = M 0 13 then (0 : Int32) else (if (M 1 ((150 : Int32) + x4).toNatClampNeg) - (M 1 ((150 : Int32) + x4).toNatClampNeg) / (8 : Int32) * (8 : Int32) = (M 1 ((150 : Int32) + x1).toNatClampNeg) - (M 1 ((150 : Int32) + x1).toNatClampNeg) / (8 : Int32) * (8 : Int32) then (if x2 = (0 : Int32) then (if (0 : Int32) ≤ ((M 1 ((150 : Int32) + x4).toNatClampNeg) / (8 : Int32)) - ((M 1 ((150 : Int32) + x1).toNatClampNeg) / (8 : Int32)) then (0 : Int32) else (1 : Int32)) else (if ((M 1 ((150 : Int32) + x4).toNatClampNeg) / (8 : Int32)) - ((M 1 ((150 : Int32) + x1).toNatClampNeg) / (8 : Int32)) ≤ (0 : Int32) then (0 : Int32) else (1 : Int32))) else (0 : Int32))))]) dX7_nearestInColumn_163 rfl (Nat.le_of_ble_eq_true rfl) rfl ?_
              refine fx_iinc 164 (lv' := [(4, .int (x4 + (1 : Int32))), (3, .int (if q151.1 ≤ q121.1 then x3 else x4)), (0, .ref 0), (1, .int x1), (2, .int x2), (5, .int (((M 1 ((150 : Int32) + x4).toNatClampNeg) / (8 : Int32)) - ((M 1 ((150 : Int32) + x1).toNatClampNeg) / (8 : Int32)))), (6, .int (if x4 = M 0 13 then (0 : Int32) else (if (M 1 ((150 : Int32) + x4).toNatClampNeg) - (M 1 ((150 : Int32) + x4).toNatClampNeg) / (8 : Int32) * (8 : Int32) = (M 1 ((150 : Int32) + x1).toNatClampNeg) - (M 1 ((150 : Int32) + x1).toNatClampNeg) / (8 : Int32) * (8 : Int32) then (if x2 = (0 : Int32) then (if (0 : Int32) ≤ ((M 1 ((150 : Int32) + x4).toNatClampNeg) / (8 : Int32)) - ((M 1 ((150 : Int32) + x1).toNatClampNeg) / (8 : Int32)) then (0 : Int32) else (1 : Int32)) else (if ((M 1 ((150 : Int32) + x4).toNatClampNeg) / (8 : Int32)) - ((M 1 ((150 : Int32) + x1).toNatClampNeg) / (8 : Int32)) ≤ (0 : Int32) then (0 : Int32) else (1 : Int32))) else (0 : Int32))))]) (y := x4 + (1 : Int32)) dX7_nearestInColumn_164 4 rfl (by rfl) (Nat.le_of_ble_eq_true rfl) rfl ?_
              refine fx_goto 167 5 dX7_nearestInColumn_167 (by decide) ?_
              refine fx_sub [2, 3, 4, 1, 0] rfl ?_
              exact ih _ _ _ h
            refine fx_icmp_ge 154 162 dX7_nearestInColumn_154 (by decide) (fun c154 => ?_) (fun c154 => ?_)
            · refine fx_iload_n 162 dX7_nearestInColumn_162 rfl 4 rfl ?_
              refine fx_sub (lv' := [(0, .ref 0), (1, .int x1), (2, .int x2), (3, .int x3), (4, .int x4), (5, .int (((M 1 ((150 : Int32) + x4).toNatClampNeg) / (8 : Int32)) - ((M 1 ((150 : Int32) + x1).toNatClampNeg) / (8 : Int32)))), (6, .int (if x4 = M 0 13 then (0 : Int32) else (if (M 1 ((150 : Int32) + x4).toNatClampNeg) - (M 1 ((150 : Int32) + x4).toNatClampNeg) / (8 : Int32) * (8 : Int32) = (M 1 ((150 : Int32) + x1).toNatClampNeg) - (M 1 ((150 : Int32) + x1).toNatClampNeg) / (8 : Int32) * (8 : Int32) then (if x2 = (0 : Int32) then (if (0 : Int32) ≤ ((M 1 ((150 : Int32) + x4).toNatClampNeg) / (8 : Int32)) - ((M 1 ((150 : Int32) + x1).toNatClampNeg) / (8 : Int32)) then (0 : Int32) else (1 : Int32)) else (if ((M 1 ((150 : Int32) + x4).toNatClampNeg) / (8 : Int32)) - ((M 1 ((150 : Int32) + x1).toNatClampNeg) / (8 : Int32)) ≤ (0 : Int32) then (0 : Int32) else (1 : Int32))) else (0 : Int32))))]) [1, 2, 3, 4, 5, 6, 0] rfl ?_
              show fx_V gM mX7_nearestInColumn (fx_ri R) 163 [(0, .ref 0), (1, .int x1), (2, .int x2), (3, .int x3), (4, .int x4), (5, .int (((M 1 ((150 : Int32) + x4).toNatClampNeg) / (8 : Int32)) - ((M 1 ((150 : Int32) + x1).toNatClampNeg) / (8 : Int32)))), (6, .int (if x4 = M 0 13 then (0 : Int32) else (if (M 1 ((150 : Int32) + x4).toNatClampNeg) - (M 1 ((150 : Int32) + x4).toNatClampNeg) / (8 : Int32) * (8 : Int32) = (M 1 ((150 : Int32) + x1).toNatClampNeg) - (M 1 ((150 : Int32) + x1).toNatClampNeg) / (8 : Int32) * (8 : Int32) then (if x2 = (0 : Int32) then (if (0 : Int32) ≤ ((M 1 ((150 : Int32) + x4).toNatClampNeg) / (8 : Int32)) - ((M 1 ((150 : Int32) + x1).toNatClampNeg) / (8 : Int32)) then (0 : Int32) else (1 : Int32)) else (if ((M 1 ((150 : Int32) + x4).toNatClampNeg) / (8 : Int32)) - ((M 1 ((150 : Int32) + x1).toNatClampNeg) / (8 : Int32)) ≤ (0 : Int32) then (0 : Int32) else (1 : Int32))) else (0 : Int32))))] [.int x3] q151.2
              simpa only [if_pos c154] using J
            · refine fx_iload 157 dX7_nearestInColumn_157 5 rfl ?_
              refine fx_goto 159 163 dX7_nearestInColumn_159 (by decide) ?_
              refine fx_sub (lv' := [(0, .ref 0), (1, .int x1), (2, .int x2), (3, .int x3), (4, .int x4), (5, .int (((M 1 ((150 : Int32) + x4).toNatClampNeg) / (8 : Int32)) - ((M 1 ((150 : Int32) + x1).toNatClampNeg) / (8 : Int32)))), (6, .int (if x4 = M 0 13 then (0 : Int32) else (if (M 1 ((150 : Int32) + x4).toNatClampNeg) - (M 1 ((150 : Int32) + x4).toNatClampNeg) / (8 : Int32) * (8 : Int32) = (M 1 ((150 : Int32) + x1).toNatClampNeg) - (M 1 ((150 : Int32) + x1).toNatClampNeg) / (8 : Int32) * (8 : Int32) then (if x2 = (0 : Int32) then (if (0 : Int32) ≤ ((M 1 ((150 : Int32) + x4).toNatClampNeg) / (8 : Int32)) - ((M 1 ((150 : Int32) + x1).toNatClampNeg) / (8 : Int32)) then (0 : Int32) else (1 : Int32)) else (if ((M 1 ((150 : Int32) + x4).toNatClampNeg) / (8 : Int32)) - ((M 1 ((150 : Int32) + x1).toNatClampNeg) / (8 : Int32)) ≤ (0 : Int32) then (0 : Int32) else (1 : Int32))) else (0 : Int32))))]) [1, 2, 3, 4, 5, 6, 0] rfl ?_
              show fx_V gM mX7_nearestInColumn (fx_ri R) 163 [(0, .ref 0), (1, .int x1), (2, .int x2), (3, .int x3), (4, .int x4), (5, .int (((M 1 ((150 : Int32) + x4).toNatClampNeg) / (8 : Int32)) - ((M 1 ((150 : Int32) + x1).toNatClampNeg) / (8 : Int32)))), (6, .int (if x4 = M 0 13 then (0 : Int32) else (if (M 1 ((150 : Int32) + x4).toNatClampNeg) - (M 1 ((150 : Int32) + x4).toNatClampNeg) / (8 : Int32) * (8 : Int32) = (M 1 ((150 : Int32) + x1).toNatClampNeg) - (M 1 ((150 : Int32) + x1).toNatClampNeg) / (8 : Int32) * (8 : Int32) then (if x2 = (0 : Int32) then (if (0 : Int32) ≤ ((M 1 ((150 : Int32) + x4).toNatClampNeg) / (8 : Int32)) - ((M 1 ((150 : Int32) + x1).toNatClampNeg) / (8 : Int32)) then (0 : Int32) else (1 : Int32)) else (if ((M 1 ((150 : Int32) + x4).toNatClampNeg) / (8 : Int32)) - ((M 1 ((150 : Int32) + x1).toNatClampNeg) / (8 : Int32)) ≤ (0 : Int32) then (0 : Int32) else (1 : Int32))) else (0 : Int32))))] [.int x4] q151.2
              simpa only [if_neg c154] using J
      refine fx_icmp_eq 52 106 dX7_nearestInColumn_52 (by decide) (fun c52 => ?_) (fun c52 => ?_)
      · refine fx_iconst 106 (x := (0 : Int32)) dX7_nearestInColumn_106 (by decide) ?_
        refine fx_sub (lv' := [(0, .ref 0), (1, .int x1), (2, .int x2), (3, .int x3), (4, .int x4), (5, .int (((M 1 ((150 : Int32) + x4).toNatClampNeg) / (8 : Int32)) - ((M 1 ((150 : Int32) + x1).toNatClampNeg) / (8 : Int32))))]) [1, 2, 3, 4, 5, 0] rfl ?_
        show fx_V gM mX7_nearestInColumn (fx_ri R) 107 [(0, .ref 0), (1, .int x1), (2, .int x2), (3, .int x3), (4, .int x4), (5, .int (((M 1 ((150 : Int32) + x4).toNatClampNeg) / (8 : Int32)) - ((M 1 ((150 : Int32) + x1).toNatClampNeg) / (8 : Int32))))] [.int (0 : Int32)] M
        simpa only [if_pos c52] using J
      · refine fx_aload_n 55 dX7_nearestInColumn_55 rfl 1 rfl ?_
        refine fx_get 56 (j := 1) (v := .ref 1) okm0 dX7_nearestInColumn_56 lfX7_7 (by decide) (fun _ => rfl) ?_
        refine fx_sipush 59 (x := (150 : Int32)) dX7_nearestInColumn_59 (by decide) ?_
        refine fx_iload 62 dX7_nearestInColumn_62 5 rfl ?_
        refine fx_iadd 64 dX7_nearestInColumn_64 ?_
        refine fx_iald 65 okb1 dX7_nearestInColumn_65 g26 ?_
        refine fx_bipush 66 (x := (8 : Int32)) dX7_nearestInColumn_66 (by decide) ?_
        refine fx_irem 68 dX7_nearestInColumn_68 (by decide) ?_
        refine fx_aload_n 69 dX7_nearestInColumn_69 rfl 1 rfl ?_
        refine fx_get 70 (j := 1) (v := .ref 1) okm0 dX7_nearestInColumn_70 lfX7_7 (by decide) (fun _ => rfl) ?_
        refine fx_sipush 73 (x := (150 : Int32)) dX7_nearestInColumn_73 (by decide) ?_
        refine fx_iload_n 76 dX7_nearestInColumn_76 rfl 2 rfl ?_
        refine fx_iadd 77 dX7_nearestInColumn_77 ?_
        refine fx_iald 78 okb1 dX7_nearestInColumn_78 g39 ?_
        refine fx_bipush 79 (x := (8 : Int32)) dX7_nearestInColumn_79 (by decide) ?_
        refine fx_irem 81 dX7_nearestInColumn_81 (by decide) ?_
        refine fx_icmp_ne 82 106 dX7_nearestInColumn_82 (by decide) (fun c82 => ?_) (fun c82 => ?_)
        · refine fx_iconst 106 (x := (0 : Int32)) dX7_nearestInColumn_106 (by decide) ?_
          refine fx_sub (lv' := [(0, .ref 0), (1, .int x1), (2, .int x2), (3, .int x3), (4, .int x4), (5, .int (((M 1 ((150 : Int32) + x4).toNatClampNeg) / (8 : Int32)) - ((M 1 ((150 : Int32) + x1).toNatClampNeg) / (8 : Int32))))]) [1, 2, 3, 4, 5, 0] rfl ?_
          show fx_V gM mX7_nearestInColumn (fx_ri R) 107 [(0, .ref 0), (1, .int x1), (2, .int x2), (3, .int x3), (4, .int x4), (5, .int (((M 1 ((150 : Int32) + x4).toNatClampNeg) / (8 : Int32)) - ((M 1 ((150 : Int32) + x1).toNatClampNeg) / (8 : Int32))))] [.int (0 : Int32)] M
          simpa only [if_neg c52, if_neg c82] using J
        · refine fx_iload_n 85 dX7_nearestInColumn_85 rfl 3 rfl ?_
          refine fx_if_eq 86 97 dX7_nearestInColumn_86 (by decide) (fun c86 => ?_) (fun c86 => ?_)
          · refine fx_iload 97 dX7_nearestInColumn_97 0 rfl ?_
            refine fx_if_ge 99 106 dX7_nearestInColumn_99 (by decide) (fun c99 => ?_) (fun c99 => ?_)
            · refine fx_iconst 106 (x := (0 : Int32)) dX7_nearestInColumn_106 (by decide) ?_
              refine fx_sub (lv' := [(0, .ref 0), (1, .int x1), (2, .int x2), (3, .int x3), (4, .int x4), (5, .int (((M 1 ((150 : Int32) + x4).toNatClampNeg) / (8 : Int32)) - ((M 1 ((150 : Int32) + x1).toNatClampNeg) / (8 : Int32))))]) [1, 2, 3, 4, 5, 0] rfl ?_
              show fx_V gM mX7_nearestInColumn (fx_ri R) 107 [(0, .ref 0), (1, .int x1), (2, .int x2), (3, .int x3), (4, .int x4), (5, .int (((M 1 ((150 : Int32) + x4).toNatClampNeg) / (8 : Int32)) - ((M 1 ((150 : Int32) + x1).toNatClampNeg) / (8 : Int32))))] [.int (0 : Int32)] M
              simpa only [if_neg c52, if_pos c82, if_pos c86, if_pos c99] using J
            · refine fx_iconst 102 (x := (1 : Int32)) dX7_nearestInColumn_102 (by decide) ?_
              refine fx_goto 103 107 dX7_nearestInColumn_103 (by decide) ?_
              refine fx_sub (lv' := [(0, .ref 0), (1, .int x1), (2, .int x2), (3, .int x3), (4, .int x4), (5, .int (((M 1 ((150 : Int32) + x4).toNatClampNeg) / (8 : Int32)) - ((M 1 ((150 : Int32) + x1).toNatClampNeg) / (8 : Int32))))]) [1, 2, 3, 4, 5, 0] rfl ?_
              show fx_V gM mX7_nearestInColumn (fx_ri R) 107 [(0, .ref 0), (1, .int x1), (2, .int x2), (3, .int x3), (4, .int x4), (5, .int (((M 1 ((150 : Int32) + x4).toNatClampNeg) / (8 : Int32)) - ((M 1 ((150 : Int32) + x1).toNatClampNeg) / (8 : Int32))))] [.int (1 : Int32)] M
              simpa only [if_neg c52, if_pos c82, if_pos c86, if_neg c99] using J
          · refine fx_iload 89 dX7_nearestInColumn_89 0 rfl ?_
            refine fx_if_le 91 106 dX7_nearestInColumn_91 (by decide) (fun c91 => ?_) (fun c91 => ?_)
            · refine fx_iconst 106 (x := (0 : Int32)) dX7_nearestInColumn_106 (by decide) ?_
              refine fx_sub (lv' := [(0, .ref 0), (1, .int x1), (2, .int x2), (3, .int x3), (4, .int x4), (5, .int (((M 1 ((150 : Int32) + x4).toNatClampNeg) / (8 : Int32)) - ((M 1 ((150 : Int32) + x1).toNatClampNeg) / (8 : Int32))))]) [1, 2, 3, 4, 5, 0] rfl ?_
              show fx_V gM mX7_nearestInColumn (fx_ri R) 107 [(0, .ref 0), (1, .int x1), (2, .int x2), (3, .int x3), (4, .int x4), (5, .int (((M 1 ((150 : Int32) + x4).toNatClampNeg) / (8 : Int32)) - ((M 1 ((150 : Int32) + x1).toNatClampNeg) / (8 : Int32))))] [.int (0 : Int32)] M
              simpa only [if_neg c52, if_pos c82, if_neg c86, if_pos c91] using J
            · refine fx_goto 94 102 dX7_nearestInColumn_94 (by decide) ?_
              refine fx_iconst 102 (x := (1 : Int32)) dX7_nearestInColumn_102 (by decide) ?_
              refine fx_goto 103 107 dX7_nearestInColumn_103 (by decide) ?_
              refine fx_sub (lv' := [(0, .ref 0), (1, .int x1), (2, .int x2), (3, .int x3), (4, .int x4), (5, .int (((M 1 ((150 : Int32) + x4).toNatClampNeg) / (8 : Int32)) - ((M 1 ((150 : Int32) + x1).toNatClampNeg) / (8 : Int32))))]) [1, 2, 3, 4, 5, 0] rfl ?_
              show fx_V gM mX7_nearestInColumn (fx_ri R) 107 [(0, .ref 0), (1, .int x1), (2, .int x2), (3, .int x3), (4, .int x4), (5, .int (((M 1 ((150 : Int32) + x4).toNatClampNeg) / (8 : Int32)) - ((M 1 ((150 : Int32) + x1).toNatClampNeg) / (8 : Int32))))] [.int (1 : Int32)] M
              simpa only [if_neg c52, if_pos c82, if_neg c86, if_neg c91] using J
def CX7_nearestInColumn (x1 : Int32) (x2 : Int32) (M : fxMem) : Option (Int32 × fxMem) := CX7_nearestInColumn_L5 x1 x2 1000 (-1 : Int32) (0 : Int32) M (fun y3_5 y4_5 M5 => some (y3_5, M5))
set_option maxRecDepth 100000 in
set_option maxHeartbeats 4000000 in
theorem tX7_nearestInColumn {x1 : Int32} {x2 : Int32} {M : fxMem} {R : Int32 × fxMem} (h : CX7_nearestInColumn x1 x2 M = some R) : fx_T gM mX7_nearestInColumn [.ref 0, .int x1, .int x2] M (fx_ri R) := by
  rw [CX7_nearestInColumn] at h
  refine fx_enter [(0, .ref 0), (1, .int x1), (2, .int x2)] (by show plainName RX7 = true; decide) (fun _ => rfl) (fun _ => Nat.le_of_ble_eq_true rfl) ?_
  refine fx_iconst 0 (x := (-1 : Int32)) dX7_nearestInColumn_0 (by decide) ?_
  refine fx_istore_n 1 (lv' := [(3, .int (-1 : Int32)), (0, .ref 0), (1, .int x1), (2, .int x2)]) dX7_nearestInColumn_1 rfl (Nat.le_of_ble_eq_true rfl) rfl ?_
  refine fx_iconst 2 (x := (0 : Int32)) dX7_nearestInColumn_2 (by decide) ?_
  refine fx_istore 3 (lv' := [(4, .int (0 : Int32)), (3, .int (-1 : Int32)), (0, .ref 0), (1, .int x1), (2, .int x2)]) dX7_nearestInColumn_3 (Nat.le_of_ble_eq_true rfl) rfl ?_
  refine fx_sub [2, 3, 4, 1, 0] rfl ?_
  refine vX7_nearestInColumn_L5 (fun y3_5 y4_5 M5 h => ?_) 1000 _ _ _ h
  refine fx_iload_n 170 dX7_nearestInColumn_170 rfl 3 rfl ?_
  obtain rfl := Option.some.inj h
  exact fx_iret 171 dX7_nearestInColumn_171 rfl rfl ⟨rfl, rfl⟩
def mX7_listening : fxM := (yX7_listening, cX7_listening, 2, (some .int), 4, 160)
theorem okvX7_listening (f l : Nat) : fx_okV (yX7_listening, cX7_listening, 2, (some .int), f, l) 1 := ⟨⟨rin23 _ (List.mem_of_getElem? (i := 15) rfl), rin1 _ (List.mem_of_getElem? (i := 5) rfl), by show yX7_listening.cls ≠ _; decide +kernel, by show yX7_listening.cls ≠ _; decide +kernel, by show (parseMethodDescriptor yX7_listening.desc).map _ = _; decide +kernel⟩, rin23 _ (List.mem_of_getElem? (i := 13) rfl), rin23 _ (List.mem_of_getElem? (i := 14) rfl)⟩
def CX7_listening (x1 : Int32) (M : fxMem) : Option (Int32 × fxMem) := Option.bind (CX7_speed M) fun q1 => if fx_in ((150 : Int32) + x1) 900 = true then if fx_in (5 : Int32) 900 = true then Option.bind (CX7_far (q1.2 1 ((150 : Int32) + x1).toNatClampNeg) (q1.2 1 (5 : Int32).toNatClampNeg) q1.2) fun q20 => some (q1.1 * q20.1, q20.2) else none else none
set_option maxRecDepth 100000 in
set_option maxHeartbeats 4000000 in
theorem tX7_listening {x1 : Int32} {M : fxMem} {R : Int32 × fxMem} (h : CX7_listening x1 M = some R) : fx_T gM mX7_listening [.ref 0, .int x1] M (fx_ri R) := by
  rw [CX7_listening] at h
  refine fx_enter [(0, .ref 0), (1, .int x1)] (by show plainName RX7 = true; decide) (fun _ => rfl) (fun _ => Nat.le_of_ble_eq_true rfl) ?_
  refine fx_aload_n 0 dX7_listening_0 rfl 0 rfl ?_
  obtain ⟨q1, e1, h⟩ := fx_bd h
  refine fx_callVi 1 (mt' := mX7_speed) (As := []) okm0 (okvX7_speed _ _) lmX7_133 (by decide) rfl rfl (Nat.le_of_ble_eq_true rfl) dX7_listening_1 (tX7_speed e1) ?_
  refine fx_aload_n 4 dX7_listening_4 rfl 0 rfl ?_
  refine fx_get 5 (j := 1) (v := .ref 1) okm0 dX7_listening_5 lfX7_7 (by decide) (fun _ => rfl) ?_
  refine fx_sipush 8 (x := (150 : Int32)) dX7_listening_8 (by decide) ?_
  refine fx_iload_n 11 dX7_listening_11 rfl 1 rfl ?_
  refine fx_iadd 12 dX7_listening_12 ?_
  obtain ⟨g13, h⟩ := fx_gt h
  refine fx_iald 13 okb1 dX7_listening_13 g13 ?_
  refine fx_aload_n 14 dX7_listening_14 rfl 0 rfl ?_
  refine fx_get 15 (j := 1) (v := .ref 1) okm0 dX7_listening_15 lfX7_7 (by decide) (fun _ => rfl) ?_
  refine fx_iconst 18 (x := (5 : Int32)) dX7_listening_18 (by decide) ?_
  obtain ⟨g19, h⟩ := fx_gt h
  refine fx_iald 19 okb1 dX7_listening_19 g19 ?_
  obtain ⟨q20, e20, h⟩ := fx_bd h
  refine fx_callSi 20 (mt' := mX7_far) (As := [.int (q1.2 1 ((150 : Int32) + x1).toNatClampNeg), .int (q1.2 1 (5 : Int32).toNatClampNeg)]) (oksX7_far _ _) lmX7_155 (by decide) rfl rfl (Nat.le_of_ble_eq_true rfl) dX7_listening_20 (tX7_far e20) ?_
  refine fx_imul 23 dX7_listening_23 ?_
  obtain rfl := Option.some.inj h
  exact fx_iret 24 dX7_listening_24 rfl rfl ⟨rfl, rfl⟩
def mX7_playsAs (d : Nat) : fxM := (yX7_playsAs, cX7_playsAs, 4, (some .int), 5 + d, 40 * (5 + d))
theorem okvX7_playsAs (f l : Nat) : fx_okV (yX7_playsAs, cX7_playsAs, 4, (some .int), f, l) 2 := ⟨⟨rin23 _ (List.mem_of_getElem? (i := 11) rfl), rin1 _ (List.mem_of_getElem? (i := 5) rfl), by show yX7_playsAs.cls ≠ _; decide +kernel, by show yX7_playsAs.cls ≠ _; decide +kernel, by show (parseMethodDescriptor yX7_playsAs.desc).map _ = _; decide +kernel⟩, rin23 _ (List.mem_of_getElem? (i := 9) rfl), rin23 _ (List.mem_of_getElem? (i := 10) rfl)⟩
def mX7_backward (d : Nat) : fxM := (yX7_backward, cX7_backward, 3, (some .int), 5 + d, 40 * (5 + d))
theorem okvX7_backward (f l : Nat) : fx_okV (yX7_backward, cX7_backward, 3, (some .int), f, l) 1 := ⟨⟨rin24 _ (List.mem_of_getElem? (i := 4) rfl), rin1 _ (List.mem_of_getElem? (i := 5) rfl), by show yX7_backward.cls ≠ _; decide +kernel, by show yX7_backward.cls ≠ _; decide +kernel, by show (parseMethodDescriptor yX7_backward.desc).map _ = _; decide +kernel⟩, rin23 _ (List.mem_of_getElem? (i := 23) rfl), rin24 _ (List.mem_of_getElem? (i := 0) rfl)⟩
def mX7_forward (d : Nat) : fxM := (yX7_forward, cX7_forward, 3, (some .int), 5 + d, 40 * (5 + d))
theorem okvX7_forward (f l : Nat) : fx_okV (yX7_forward, cX7_forward, 3, (some .int), f, l) 1 := ⟨⟨rin24 _ (List.mem_of_getElem? (i := 12) rfl), rin1 _ (List.mem_of_getElem? (i := 5) rfl), by show yX7_forward.cls ≠ _; decide +kernel, by show yX7_forward.cls ≠ _; decide +kernel, by show (parseMethodDescriptor yX7_forward.desc).map _ = _; decide +kernel⟩, rin24 _ (List.mem_of_getElem? (i := 2) rfl), rin24 _ (List.mem_of_getElem? (i := 3) rfl)⟩
def mX7_heardFrom (d : Nat) : fxM := (yX7_heardFrom, cX7_heardFrom, 3, (some .int), 5 + d, 40 * (5 + d))
theorem okvX7_heardFrom (f l : Nat) : fx_okV (yX7_heardFrom, cX7_heardFrom, 3, (some .int), f, l) 2 := ⟨⟨rin24 _ (List.mem_of_getElem? (i := 13) rfl), rin1 _ (List.mem_of_getElem? (i := 5) rfl), by show yX7_heardFrom.cls ≠ _; decide +kernel, by show yX7_heardFrom.cls ≠ _; decide +kernel, by show (parseMethodDescriptor yX7_heardFrom.desc).map _ = _; decide +kernel⟩, rin24 _ (List.mem_of_getElem? (i := 10) rfl), rin24 _ (List.mem_of_getElem? (i := 11) rfl)⟩
def CX7_playsAs_J130 (rec : Nat → Int32 → Int32 → fxMem → Option (Int32 × fxMem)) (x1 : Int32) (x2 : Int32) (x3 : Int32) (M : fxMem) : Option (Int32 × fxMem) := Option.bind (CX7_looks x1 x2 M) fun q133 => some ((q133 0 12) + x3, q133)
set_option maxRecDepth 100000 in
set_option maxHeartbeats 4000000 in
theorem vX7_playsAs_J130 {d : Nat} {rec : Nat → Int32 → Int32 → fxMem → Option (Int32 × fxMem)} (H0 : ∀ {a1 a2 : Int32} {M : fxMem} {R : Int32 × fxMem}, rec 0 a1 a2 M = some R → fx_T gM (mX7_playsAs d) [.ref 0, .int a1, .int a2] M (fx_ri R)) (H1 : ∀ {a1 : Int32} {M : fxMem} {R : Int32 × fxMem}, rec 1 a1 0 M = some R → fx_T gM (mX7_backward d) [.ref 0, .int a1] M (fx_ri R)) (H2 : ∀ {a1 : Int32} {M : fxMem} {R : Int32 × fxMem}, rec 2 a1 0 M = some R → fx_T gM (mX7_forward d) [.ref 0, .int a1] M (fx_ri R)) (H3 : ∀ {a1 a2 : Int32} {M : fxMem} {R : Int32 × fxMem}, rec 3 a1 a2 M = some R → fx_T gM (mX7_heardFrom d) [.ref 0, .int a1, .int a2] M (fx_ri R))  {x1 : Int32} {x2 : Int32} {x3 : Int32} {R : Int32 × fxMem} {M : fxMem} (h : CX7_playsAs_J130 rec x1 x2 x3 M = some R) : fx_V gM (mX7_playsAs (d + 1)) (fx_ri R) 130 [(0, .ref 0), (1, .int x1), (2, .int x2), (3, .int x3)] [] M := by
  rw [CX7_playsAs_J130] at h
  refine fx_aload_n 130 dX7_playsAs_130 rfl 0 rfl ?_
  refine fx_iload_n 131 dX7_playsAs_131 rfl 1 rfl ?_
  refine fx_iload_n 132 dX7_playsAs_132 rfl 2 rfl ?_
  obtain ⟨q133, e133, h⟩ := fx_bd h
  refine fx_callVv 133 (mt' := mX7_looks) (As := [.int x1, .int x2]) okm0 (okvX7_looks _ _) lmX7_177 (by simp only [mX7_playsAs, mX7_looks]; omega) rfl rfl (Nat.le_of_ble_eq_true rfl) dX7_playsAs_133 (tX7_looks e133) ?_
  refine fx_aload_n 136 dX7_playsAs_136 rfl 0 rfl ?_
  refine fx_get 137 (j := 12) (v := .int (q133 0 12)) okm0 dX7_playsAs_137 lfX7_142 (by decide) (fun _ => rfl) ?_
  refine fx_iload_n 140 dX7_playsAs_140 rfl 3 rfl ?_
  refine fx_iadd 141 dX7_playsAs_141 ?_
  obtain rfl := Option.some.inj h
  exact fx_iret 142 dX7_playsAs_142 rfl rfl ⟨rfl, rfl⟩
def BX7_playsAs (rec : Nat → Int32 → Int32 → fxMem → Option (Int32 × fxMem)) (x1 : Int32) (x2 : Int32) (M : fxMem) : Option (Int32 × fxMem) := if x2 = (0 : Int32) then Option.bind (CX7_listening x1 M) fun q46 => CX7_playsAs_J130 rec x1 x2 q46.1 q46.2 else if x2 = (2 : Int32) then Option.bind (rec 1 x1 0 M) fun q55 => CX7_playsAs_J130 rec x1 x2 q55.1 q55.2 else if x2 = (3 : Int32) then Option.bind (rec 2 x1 0 M) fun q64 => CX7_playsAs_J130 rec x1 x2 q64.1 q64.2 else if x2 = (4 : Int32) then if fx_in ((140 : Int32) + x1) 900 = true then CX7_playsAs_J130 rec x1 x2 (-(M 1 ((140 : Int32) + x1).toNatClampNeg)) M else none else if x2 = (5 : Int32) then Option.bind (rec 1 x1 0 M) fun q88 => Option.bind (CX7_speed q88.2) fun q92 => if fx_in ((150 : Int32) + x1) 900 = true then CX7_playsAs_J130 rec x1 x2 (q88.1 + (q92.1 * ((q92.2 1 ((150 : Int32) + x1).toNatClampNeg) / (8 : Int32)))) q92.2 else none else if x2 = (6 : Int32) then if fx_in ((140 : Int32) + x1) 900 = true then CX7_playsAs_J130 rec x1 x2 ((M 1 ((140 : Int32) + x1).toNatClampNeg) * x1) M else none else CX7_playsAs_J130 rec x1 x2 (0 : Int32) M
set_option maxRecDepth 100000 in
set_option maxHeartbeats 4000000 in
theorem bX7_playsAs {d : Nat} {rec : Nat → Int32 → Int32 → fxMem → Option (Int32 × fxMem)} (H0 : ∀ {a1 a2 : Int32} {M : fxMem} {R : Int32 × fxMem}, rec 0 a1 a2 M = some R → fx_T gM (mX7_playsAs d) [.ref 0, .int a1, .int a2] M (fx_ri R)) (H1 : ∀ {a1 : Int32} {M : fxMem} {R : Int32 × fxMem}, rec 1 a1 0 M = some R → fx_T gM (mX7_backward d) [.ref 0, .int a1] M (fx_ri R)) (H2 : ∀ {a1 : Int32} {M : fxMem} {R : Int32 × fxMem}, rec 2 a1 0 M = some R → fx_T gM (mX7_forward d) [.ref 0, .int a1] M (fx_ri R)) (H3 : ∀ {a1 a2 : Int32} {M : fxMem} {R : Int32 × fxMem}, rec 3 a1 a2 M = some R → fx_T gM (mX7_heardFrom d) [.ref 0, .int a1, .int a2] M (fx_ri R)) {x1 : Int32} {x2 : Int32} {M : fxMem} {R : Int32 × fxMem} (h : BX7_playsAs rec x1 x2 M = some R) : fx_T gM (mX7_playsAs (d + 1)) [.ref 0, .int x1, .int x2] M (fx_ri R) := by
  rw [BX7_playsAs] at h
  refine fx_enter [(0, .ref 0), (1, .int x1), (2, .int x2)] (by show plainName RX7 = true; decide) (fun _ => rfl) (fun _ => Nat.le_of_ble_eq_true rfl) ?_
  refine fx_iconst 0 (x := (0 : Int32)) dX7_playsAs_0 (by decide) ?_
  refine fx_istore_n 1 (lv' := [(3, .int (0 : Int32)), (0, .ref 0), (1, .int x1), (2, .int x2)]) dX7_playsAs_1 rfl (Nat.le_of_ble_eq_true rfl) rfl ?_
  refine fx_iload_n 2 dX7_playsAs_2 rfl 3 rfl ?_
  by_cases s3_0 : x2 = (0 : Int32)
  · replace h := fx_ip s3_0 h
    refine fx_tsI 3 44 dX7_playsAs_3 (by rw [s3_0]; decide) (by rw [s3_0]; decide) (by rw [s3_0]; try rfl) (by decide) ?_
    refine fx_aload_n 44 dX7_playsAs_44 rfl 1 rfl ?_
    refine fx_iload_n 45 dX7_playsAs_45 rfl 2 rfl ?_
    obtain ⟨q46, e46, h⟩ := fx_bd h
    refine fx_callVi 46 (mt' := mX7_listening) (As := [.int x1]) okm0 (okvX7_listening _ _) lmX7_165 (by simp only [mX7_playsAs, mX7_listening]; omega) rfl rfl (Nat.le_of_ble_eq_true rfl) dX7_playsAs_46 (tX7_listening e46) ?_
    refine fx_istore_n 49 (lv' := [(3, .int q46.1), (0, .ref 0), (1, .int x1), (2, .int x2)]) dX7_playsAs_49 rfl (Nat.le_of_ble_eq_true rfl) rfl ?_
    refine fx_goto 50 130 dX7_playsAs_50 (by decide) ?_
    refine fx_sub [1, 2, 3, 0] rfl ?_
    exact vX7_playsAs_J130 H0 H1 H2 H3 h
  · replace h := fx_ne s3_0 h
    by_cases s3_1 : x2 = (2 : Int32)
    · replace h := fx_ip s3_1 h
      refine fx_tsI 3 53 dX7_playsAs_3 (by rw [s3_1]; decide) (by rw [s3_1]; decide) (by rw [s3_1]; try rfl) (by decide) ?_
      refine fx_aload_n 53 dX7_playsAs_53 rfl 1 rfl ?_
      refine fx_iload_n 54 dX7_playsAs_54 rfl 2 rfl ?_
      obtain ⟨q55, e55, h⟩ := fx_bd h
      refine fx_callVi 55 (mt' := (mX7_backward d)) (As := [.int x1]) okm0 (okvX7_backward _ _) lmX7_171 (by simp only [mX7_playsAs, mX7_backward]; omega) rfl rfl (Nat.le_of_ble_eq_true rfl) dX7_playsAs_55 (H1 e55) ?_
      refine fx_istore_n 58 (lv' := [(3, .int q55.1), (0, .ref 0), (1, .int x1), (2, .int x2)]) dX7_playsAs_58 rfl (Nat.le_of_ble_eq_true rfl) rfl ?_
      refine fx_goto 59 130 dX7_playsAs_59 (by decide) ?_
      refine fx_sub [1, 2, 3, 0] rfl ?_
      exact vX7_playsAs_J130 H0 H1 H2 H3 h
    · replace h := fx_ne s3_1 h
      by_cases s3_2 : x2 = (3 : Int32)
      · replace h := fx_ip s3_2 h
        refine fx_tsI 3 62 dX7_playsAs_3 (by rw [s3_2]; decide) (by rw [s3_2]; decide) (by rw [s3_2]; try rfl) (by decide) ?_
        refine fx_aload_n 62 dX7_playsAs_62 rfl 1 rfl ?_
        refine fx_iload_n 63 dX7_playsAs_63 rfl 2 rfl ?_
        obtain ⟨q64, e64, h⟩ := fx_bd h
        refine fx_callVi 64 (mt' := (mX7_forward d)) (As := [.int x1]) okm0 (okvX7_forward _ _) lmX7_174 (by simp only [mX7_playsAs, mX7_forward]; omega) rfl rfl (Nat.le_of_ble_eq_true rfl) dX7_playsAs_64 (H2 e64) ?_
        refine fx_istore_n 67 (lv' := [(3, .int q64.1), (0, .ref 0), (1, .int x1), (2, .int x2)]) dX7_playsAs_67 rfl (Nat.le_of_ble_eq_true rfl) rfl ?_
        refine fx_goto 68 130 dX7_playsAs_68 (by decide) ?_
        refine fx_sub [1, 2, 3, 0] rfl ?_
        exact vX7_playsAs_J130 H0 H1 H2 H3 h
      · replace h := fx_ne s3_2 h
        by_cases s3_3 : x2 = (4 : Int32)
        · replace h := fx_ip s3_3 h
          refine fx_tsI 3 71 dX7_playsAs_3 (by rw [s3_3]; decide) (by rw [s3_3]; decide) (by rw [s3_3]; try rfl) (by decide) ?_
          refine fx_aload_n 71 dX7_playsAs_71 rfl 1 rfl ?_
          refine fx_get 72 (j := 1) (v := .ref 1) okm0 dX7_playsAs_72 lfX7_7 (by decide) (fun _ => rfl) ?_
          refine fx_sipush 75 (x := (140 : Int32)) dX7_playsAs_75 (by decide) ?_
          refine fx_iload_n 78 dX7_playsAs_78 rfl 2 rfl ?_
          refine fx_iadd 79 dX7_playsAs_79 ?_
          obtain ⟨g80, h⟩ := fx_gt h
          refine fx_iald 80 okb1 dX7_playsAs_80 g80 ?_
          refine fx_ineg 81 dX7_playsAs_81 ?_
          refine fx_istore_n 82 (lv' := [(3, .int (-(M 1 ((140 : Int32) + x1).toNatClampNeg))), (0, .ref 0), (1, .int x1), (2, .int x2)]) dX7_playsAs_82 rfl (Nat.le_of_ble_eq_true rfl) rfl ?_
          refine fx_goto 83 130 dX7_playsAs_83 (by decide) ?_
          refine fx_sub [1, 2, 3, 0] rfl ?_
          exact vX7_playsAs_J130 H0 H1 H2 H3 h
        · replace h := fx_ne s3_3 h
          by_cases s3_4 : x2 = (5 : Int32)
          · replace h := fx_ip s3_4 h
            refine fx_tsI 3 86 dX7_playsAs_3 (by rw [s3_4]; decide) (by rw [s3_4]; decide) (by rw [s3_4]; try rfl) (by decide) ?_
            refine fx_aload_n 86 dX7_playsAs_86 rfl 1 rfl ?_
            refine fx_iload_n 87 dX7_playsAs_87 rfl 2 rfl ?_
            obtain ⟨q88, e88, h⟩ := fx_bd h
            refine fx_callVi 88 (mt' := (mX7_backward d)) (As := [.int x1]) okm0 (okvX7_backward _ _) lmX7_171 (by simp only [mX7_playsAs, mX7_backward]; omega) rfl rfl (Nat.le_of_ble_eq_true rfl) dX7_playsAs_88 (H1 e88) ?_
            refine fx_aload_n 91 dX7_playsAs_91 rfl 1 rfl ?_
            obtain ⟨q92, e92, h⟩ := fx_bd h
            refine fx_callVi 92 (mt' := mX7_speed) (As := []) okm0 (okvX7_speed _ _) lmX7_133 (by simp only [mX7_playsAs, mX7_speed]; omega) rfl rfl (Nat.le_of_ble_eq_true rfl) dX7_playsAs_92 (tX7_speed e92) ?_
            refine fx_aload_n 95 dX7_playsAs_95 rfl 1 rfl ?_
            refine fx_get 96 (j := 1) (v := .ref 1) okm0 dX7_playsAs_96 lfX7_7 (by decide) (fun _ => rfl) ?_
            refine fx_sipush 99 (x := (150 : Int32)) dX7_playsAs_99 (by decide) ?_
            refine fx_iload_n 102 dX7_playsAs_102 rfl 2 rfl ?_
            refine fx_iadd 103 dX7_playsAs_103 ?_
            obtain ⟨g104, h⟩ := fx_gt h
            refine fx_iald 104 okb1 dX7_playsAs_104 g104 ?_
            refine fx_bipush 105 (x := (8 : Int32)) dX7_playsAs_105 (by decide) ?_
            refine fx_idiv 107 dX7_playsAs_107 (by decide) ?_
            refine fx_imul 108 dX7_playsAs_108 ?_
            refine fx_iadd 109 dX7_playsAs_109 ?_
            refine fx_istore_n 110 (lv' := [(3, .int (q88.1 + (q92.1 * ((q92.2 1 ((150 : Int32) + x1).toNatClampNeg) / (8 : Int32))))), (0, .ref 0), (1, .int x1), (2, .int x2)]) dX7_playsAs_110 rfl (Nat.le_of_ble_eq_true rfl) rfl ?_
            refine fx_goto 111 130 dX7_playsAs_111 (by decide) ?_
            refine fx_sub [1, 2, 3, 0] rfl ?_
            exact vX7_playsAs_J130 H0 H1 H2 H3 h
          · replace h := fx_ne s3_4 h
            by_cases s3_5 : x2 = (6 : Int32)
            · replace h := fx_ip s3_5 h
              refine fx_tsI 3 114 dX7_playsAs_3 (by rw [s3_5]; decide) (by rw [s3_5]; decide) (by rw [s3_5]; try rfl) (by decide) ?_
              refine fx_aload_n 114 dX7_playsAs_114 rfl 1 rfl ?_
              refine fx_get 115 (j := 1) (v := .ref 1) okm0 dX7_playsAs_115 lfX7_7 (by decide) (fun _ => rfl) ?_
              refine fx_sipush 118 (x := (140 : Int32)) dX7_playsAs_118 (by decide) ?_
              refine fx_iload_n 121 dX7_playsAs_121 rfl 2 rfl ?_
              refine fx_iadd 122 dX7_playsAs_122 ?_
              obtain ⟨g123, h⟩ := fx_gt h
              refine fx_iald 123 okb1 dX7_playsAs_123 g123 ?_
              refine fx_iload_n 124 dX7_playsAs_124 rfl 2 rfl ?_
              refine fx_imul 125 dX7_playsAs_125 ?_
              refine fx_istore_n 126 (lv' := [(3, .int ((M 1 ((140 : Int32) + x1).toNatClampNeg) * x1)), (0, .ref 0), (1, .int x1), (2, .int x2)]) dX7_playsAs_126 rfl (Nat.le_of_ble_eq_true rfl) rfl ?_
              refine fx_goto 127 130 dX7_playsAs_127 (by decide) ?_
              refine fx_sub [1, 2, 3, 0] rfl ?_
              exact vX7_playsAs_J130 H0 H1 H2 H3 h
            · replace h := fx_ne s3_5 h
              refine fx_tsD 3 130 [(0 : Int32), (2 : Int32), (3 : Int32), (4 : Int32), (5 : Int32), (6 : Int32)] dX7_playsAs_3 (by decide) (by decide) (by intro q hq; simp only [List.mem_cons, List.not_mem_nil, or_false] at hq; rcases hq with rfl | rfl | rfl | rfl | rfl | rfl <;> assumption) (by decide) ?_
              refine fx_sub [1, 2, 3, 0] rfl ?_
              exact vX7_playsAs_J130 H0 H1 H2 H3 h
def BX7_backward (rec : Nat → Int32 → Int32 → fxMem → Option (Int32 × fxMem)) (x1 : Int32) (M : fxMem) : Option (Int32 × fxMem) := Option.bind (CX7_nearestInColumn x1 (1 : Int32) M) fun q3 => if q3.1 = (-1 : Int32) then Option.bind (CX7_listening x1 q3.2) fun q14 => some (q14.1, q14.2) else Option.bind (rec 3 x1 q3.1 q3.2) fun q23 => some (q23.1, q23.2)
set_option maxRecDepth 100000 in
set_option maxHeartbeats 4000000 in
theorem bX7_backward {d : Nat} {rec : Nat → Int32 → Int32 → fxMem → Option (Int32 × fxMem)} (H0 : ∀ {a1 a2 : Int32} {M : fxMem} {R : Int32 × fxMem}, rec 0 a1 a2 M = some R → fx_T gM (mX7_playsAs d) [.ref 0, .int a1, .int a2] M (fx_ri R)) (H1 : ∀ {a1 : Int32} {M : fxMem} {R : Int32 × fxMem}, rec 1 a1 0 M = some R → fx_T gM (mX7_backward d) [.ref 0, .int a1] M (fx_ri R)) (H2 : ∀ {a1 : Int32} {M : fxMem} {R : Int32 × fxMem}, rec 2 a1 0 M = some R → fx_T gM (mX7_forward d) [.ref 0, .int a1] M (fx_ri R)) (H3 : ∀ {a1 a2 : Int32} {M : fxMem} {R : Int32 × fxMem}, rec 3 a1 a2 M = some R → fx_T gM (mX7_heardFrom d) [.ref 0, .int a1, .int a2] M (fx_ri R)) {x1 : Int32} {M : fxMem} {R : Int32 × fxMem} (h : BX7_backward rec x1 M = some R) : fx_T gM (mX7_backward (d + 1)) [.ref 0, .int x1] M (fx_ri R) := by
  rw [BX7_backward] at h
  refine fx_enter [(0, .ref 0), (1, .int x1)] (by show plainName RX7 = true; decide) (fun _ => rfl) (fun _ => Nat.le_of_ble_eq_true rfl) ?_
  refine fx_aload_n 0 dX7_backward_0 rfl 0 rfl ?_
  refine fx_iload_n 1 dX7_backward_1 rfl 1 rfl ?_
  refine fx_iconst 2 (x := (1 : Int32)) dX7_backward_2 (by decide) ?_
  obtain ⟨q3, e3, h⟩ := fx_bd h
  refine fx_callVi 3 (mt' := mX7_nearestInColumn) (As := [.int x1, .int (1 : Int32)]) okm0 (okvX7_nearestInColumn _ _) lmX7_161 (by simp only [mX7_backward, mX7_nearestInColumn]; omega) rfl rfl (Nat.le_of_ble_eq_true rfl) dX7_backward_3 (tX7_nearestInColumn e3) ?_
  refine fx_istore_n 6 (lv' := [(2, .int q3.1), (0, .ref 0), (1, .int x1)]) dX7_backward_6 rfl (Nat.le_of_ble_eq_true rfl) rfl ?_
  refine fx_iload_n 7 dX7_backward_7 rfl 0 rfl ?_
  refine fx_iconst 8 (x := (-1 : Int32)) dX7_backward_8 (by decide) ?_
  refine fx_icmp_ne 9 20 dX7_backward_9 (by decide) (fun c9 => ?_) (fun c9 => ?_)
  · replace h := fx_ne c9 h
    refine fx_aload_n 20 dX7_backward_20 rfl 1 rfl ?_
    refine fx_iload_n 21 dX7_backward_21 rfl 2 rfl ?_
    refine fx_iload_n 22 dX7_backward_22 rfl 0 rfl ?_
    obtain ⟨q23, e23, h⟩ := fx_bd h
    refine fx_callVi 23 (mt' := (mX7_heardFrom d)) (As := [.int x1, .int q3.1]) okm0 (okvX7_heardFrom _ _) lmX7_168 (by simp only [mX7_backward, mX7_heardFrom]; omega) rfl rfl (Nat.le_of_ble_eq_true rfl) dX7_backward_23 (H3 e23) ?_
    obtain rfl := Option.some.inj h
    exact fx_iret 26 dX7_backward_26 rfl rfl ⟨rfl, rfl⟩
  · replace h := fx_ip c9 h
    refine fx_aload_n 12 dX7_backward_12 rfl 1 rfl ?_
    refine fx_iload_n 13 dX7_backward_13 rfl 2 rfl ?_
    obtain ⟨q14, e14, h⟩ := fx_bd h
    refine fx_callVi 14 (mt' := mX7_listening) (As := [.int x1]) okm0 (okvX7_listening _ _) lmX7_165 (by simp only [mX7_backward, mX7_listening]; omega) rfl rfl (Nat.le_of_ble_eq_true rfl) dX7_backward_14 (tX7_listening e14) ?_
    refine fx_goto 17 26 dX7_backward_17 (by decide) ?_
    obtain rfl := Option.some.inj h
    exact fx_iret 26 dX7_backward_26 rfl rfl ⟨rfl, rfl⟩
def CX7_forward_J42 (rec : Nat → Int32 → Int32 → fxMem → Option (Int32 × fxMem)) (x1 : Int32) (x2 : Int32) (M : fxMem) : Option (Int32 × fxMem) := Option.bind (CX7_listening x1 M) fun q44 => some (q44.1, q44.2)
set_option maxRecDepth 100000 in
set_option maxHeartbeats 4000000 in
theorem vX7_forward_J42 {d : Nat} {rec : Nat → Int32 → Int32 → fxMem → Option (Int32 × fxMem)} (H0 : ∀ {a1 a2 : Int32} {M : fxMem} {R : Int32 × fxMem}, rec 0 a1 a2 M = some R → fx_T gM (mX7_playsAs d) [.ref 0, .int a1, .int a2] M (fx_ri R)) (H1 : ∀ {a1 : Int32} {M : fxMem} {R : Int32 × fxMem}, rec 1 a1 0 M = some R → fx_T gM (mX7_backward d) [.ref 0, .int a1] M (fx_ri R)) (H2 : ∀ {a1 : Int32} {M : fxMem} {R : Int32 × fxMem}, rec 2 a1 0 M = some R → fx_T gM (mX7_forward d) [.ref 0, .int a1] M (fx_ri R)) (H3 : ∀ {a1 a2 : Int32} {M : fxMem} {R : Int32 × fxMem}, rec 3 a1 a2 M = some R → fx_T gM (mX7_heardFrom d) [.ref 0, .int a1, .int a2] M (fx_ri R))  {x1 : Int32} {x2 : Int32} {R : Int32 × fxMem} {M : fxMem} (h : CX7_forward_J42 rec x1 x2 M = some R) : fx_V gM (mX7_forward (d + 1)) (fx_ri R) 42 [(0, .ref 0), (1, .int x1), (2, .int x2)] [] M := by
  rw [CX7_forward_J42] at h
  refine fx_aload_n 42 dX7_forward_42 rfl 0 rfl ?_
  refine fx_iload_n 43 dX7_forward_43 rfl 1 rfl ?_
  obtain ⟨q44, e44, h⟩ := fx_bd h
  refine fx_callVi 44 (mt' := mX7_listening) (As := [.int x1]) okm0 (okvX7_listening _ _) lmX7_165 (by simp only [mX7_forward, mX7_listening]; omega) rfl rfl (Nat.le_of_ble_eq_true rfl) dX7_forward_44 (tX7_listening e44) ?_
  refine fx_goto 47 56 dX7_forward_47 (by decide) ?_
  obtain rfl := Option.some.inj h
  exact fx_iret 56 dX7_forward_56 rfl rfl ⟨rfl, rfl⟩
def BX7_forward (rec : Nat → Int32 → Int32 → fxMem → Option (Int32 × fxMem)) (x1 : Int32) (M : fxMem) : Option (Int32 × fxMem) := Option.bind (CX7_nearestInColumn x1 (0 : Int32) M) fun q3 => if q3.1 = (-1 : Int32) then some ((0 : Int32), q3.2) else if fx_in ((130 : Int32) + q3.1) 900 = true then if q3.2 1 ((130 : Int32) + q3.1).toNatClampNeg = (2 : Int32) then CX7_forward_J42 rec x1 q3.1 q3.2 else if q3.2 1 ((130 : Int32) + q3.1).toNatClampNeg = (5 : Int32) then CX7_forward_J42 rec x1 q3.1 q3.2 else Option.bind (rec 3 x1 q3.1 q3.2) fun q53 => some (q53.1, q53.2) else none
set_option maxRecDepth 100000 in
set_option maxHeartbeats 4000000 in
theorem bX7_forward {d : Nat} {rec : Nat → Int32 → Int32 → fxMem → Option (Int32 × fxMem)} (H0 : ∀ {a1 a2 : Int32} {M : fxMem} {R : Int32 × fxMem}, rec 0 a1 a2 M = some R → fx_T gM (mX7_playsAs d) [.ref 0, .int a1, .int a2] M (fx_ri R)) (H1 : ∀ {a1 : Int32} {M : fxMem} {R : Int32 × fxMem}, rec 1 a1 0 M = some R → fx_T gM (mX7_backward d) [.ref 0, .int a1] M (fx_ri R)) (H2 : ∀ {a1 : Int32} {M : fxMem} {R : Int32 × fxMem}, rec 2 a1 0 M = some R → fx_T gM (mX7_forward d) [.ref 0, .int a1] M (fx_ri R)) (H3 : ∀ {a1 a2 : Int32} {M : fxMem} {R : Int32 × fxMem}, rec 3 a1 a2 M = some R → fx_T gM (mX7_heardFrom d) [.ref 0, .int a1, .int a2] M (fx_ri R)) {x1 : Int32} {M : fxMem} {R : Int32 × fxMem} (h : BX7_forward rec x1 M = some R) : fx_T gM (mX7_forward (d + 1)) [.ref 0, .int x1] M (fx_ri R) := by
  rw [BX7_forward] at h
  refine fx_enter [(0, .ref 0), (1, .int x1)] (by show plainName RX7 = true; decide) (fun _ => rfl) (fun _ => Nat.le_of_ble_eq_true rfl) ?_
  refine fx_aload_n 0 dX7_forward_0 rfl 0 rfl ?_
  refine fx_iload_n 1 dX7_forward_1 rfl 1 rfl ?_
  refine fx_iconst 2 (x := (0 : Int32)) dX7_forward_2 (by decide) ?_
  obtain ⟨q3, e3, h⟩ := fx_bd h
  refine fx_callVi 3 (mt' := mX7_nearestInColumn) (As := [.int x1, .int (0 : Int32)]) okm0 (okvX7_nearestInColumn _ _) lmX7_161 (by simp only [mX7_forward, mX7_nearestInColumn]; omega) rfl rfl (Nat.le_of_ble_eq_true rfl) dX7_forward_3 (tX7_nearestInColumn e3) ?_
  refine fx_istore_n 6 (lv' := [(2, .int q3.1), (0, .ref 0), (1, .int x1)]) dX7_forward_6 rfl (Nat.le_of_ble_eq_true rfl) rfl ?_
  refine fx_iload_n 7 dX7_forward_7 rfl 0 rfl ?_
  refine fx_iconst 8 (x := (-1 : Int32)) dX7_forward_8 (by decide) ?_
  refine fx_icmp_ne 9 14 dX7_forward_9 (by decide) (fun c9 => ?_) (fun c9 => ?_)
  · replace h := fx_ne c9 h
    refine fx_aload_n 14 dX7_forward_14 rfl 1 rfl ?_
    refine fx_get 15 (j := 1) (v := .ref 1) okm0 dX7_forward_15 lfX7_7 (by decide) (fun _ => rfl) ?_
    refine fx_sipush 18 (x := (130 : Int32)) dX7_forward_18 (by decide) ?_
    refine fx_iload_n 21 dX7_forward_21 rfl 0 rfl ?_
    refine fx_iadd 22 dX7_forward_22 ?_
    obtain ⟨g23, h⟩ := fx_gt h
    refine fx_iald 23 okb1 dX7_forward_23 g23 ?_
    refine fx_iconst 24 (x := (2 : Int32)) dX7_forward_24 (by decide) ?_
    refine fx_icmp_eq 25 42 dX7_forward_25 (by decide) (fun c25 => ?_) (fun c25 => ?_)
    · replace h := fx_ip c25 h
      refine fx_sub [1, 2, 0] rfl ?_
      exact vX7_forward_J42 H0 H1 H2 H3 h
    · replace h := fx_ne c25 h
      refine fx_aload_n 28 dX7_forward_28 rfl 1 rfl ?_
      refine fx_get 29 (j := 1) (v := .ref 1) okm0 dX7_forward_29 lfX7_7 (by decide) (fun _ => rfl) ?_
      refine fx_sipush 32 (x := (130 : Int32)) dX7_forward_32 (by decide) ?_
      refine fx_iload_n 35 dX7_forward_35 rfl 0 rfl ?_
      refine fx_iadd 36 dX7_forward_36 ?_
      refine fx_iald 37 okb1 dX7_forward_37 g23 ?_
      refine fx_iconst 38 (x := (5 : Int32)) dX7_forward_38 (by decide) ?_
      refine fx_icmp_ne 39 50 dX7_forward_39 (by decide) (fun c39 => ?_) (fun c39 => ?_)
      · replace h := fx_ne c39 h
        refine fx_aload_n 50 dX7_forward_50 rfl 1 rfl ?_
        refine fx_iload_n 51 dX7_forward_51 rfl 2 rfl ?_
        refine fx_iload_n 52 dX7_forward_52 rfl 0 rfl ?_
        obtain ⟨q53, e53, h⟩ := fx_bd h
        refine fx_callVi 53 (mt' := (mX7_heardFrom d)) (As := [.int x1, .int q3.1]) okm0 (okvX7_heardFrom _ _) lmX7_168 (by simp only [mX7_forward, mX7_heardFrom]; omega) rfl rfl (Nat.le_of_ble_eq_true rfl) dX7_forward_53 (H3 e53) ?_
        obtain rfl := Option.some.inj h
        exact fx_iret 56 dX7_forward_56 rfl rfl ⟨rfl, rfl⟩
      · replace h := fx_ip c39 h
        refine fx_sub [1, 2, 0] rfl ?_
        exact vX7_forward_J42 H0 H1 H2 H3 h
  · replace h := fx_ip c9 h
    refine fx_iconst 12 (x := (0 : Int32)) dX7_forward_12 (by decide) ?_
    obtain rfl := Option.some.inj h
    exact fx_iret 13 dX7_forward_13 rfl rfl ⟨rfl, rfl⟩
def BX7_heardFrom (rec : Nat → Int32 → Int32 → fxMem → Option (Int32 × fxMem)) (x1 : Int32) (x2 : Int32) (M : fxMem) : Option (Int32 × fxMem) := if fx_in ((130 : Int32) + x2) 900 = true then Option.bind (rec 0 x2 (M 1 ((130 : Int32) + x2).toNatClampNeg) M) fun q12 => Option.bind (CX7_speed q12.2) fun q16 => if fx_in ((150 : Int32) + x1) 900 = true then if fx_in ((150 : Int32) + x2) 900 = true then Option.bind (CX7_far (q16.2 1 ((150 : Int32) + x1).toNatClampNeg) (q16.2 1 ((150 : Int32) + x2).toNatClampNeg) q16.2) fun q39 => some (q12.1 + (q16.1 * q39.1), q39.2) else none else none else none
set_option maxRecDepth 100000 in
set_option maxHeartbeats 4000000 in
theorem bX7_heardFrom {d : Nat} {rec : Nat → Int32 → Int32 → fxMem → Option (Int32 × fxMem)} (H0 : ∀ {a1 a2 : Int32} {M : fxMem} {R : Int32 × fxMem}, rec 0 a1 a2 M = some R → fx_T gM (mX7_playsAs d) [.ref 0, .int a1, .int a2] M (fx_ri R)) (H1 : ∀ {a1 : Int32} {M : fxMem} {R : Int32 × fxMem}, rec 1 a1 0 M = some R → fx_T gM (mX7_backward d) [.ref 0, .int a1] M (fx_ri R)) (H2 : ∀ {a1 : Int32} {M : fxMem} {R : Int32 × fxMem}, rec 2 a1 0 M = some R → fx_T gM (mX7_forward d) [.ref 0, .int a1] M (fx_ri R)) (H3 : ∀ {a1 a2 : Int32} {M : fxMem} {R : Int32 × fxMem}, rec 3 a1 a2 M = some R → fx_T gM (mX7_heardFrom d) [.ref 0, .int a1, .int a2] M (fx_ri R)) {x1 : Int32} {x2 : Int32} {M : fxMem} {R : Int32 × fxMem} (h : BX7_heardFrom rec x1 x2 M = some R) : fx_T gM (mX7_heardFrom (d + 1)) [.ref 0, .int x1, .int x2] M (fx_ri R) := by
  rw [BX7_heardFrom] at h
  refine fx_enter [(0, .ref 0), (1, .int x1), (2, .int x2)] (by show plainName RX7 = true; decide) (fun _ => rfl) (fun _ => Nat.le_of_ble_eq_true rfl) ?_
  refine fx_aload_n 0 dX7_heardFrom_0 rfl 0 rfl ?_
  refine fx_iload_n 1 dX7_heardFrom_1 rfl 2 rfl ?_
  refine fx_aload_n 2 dX7_heardFrom_2 rfl 0 rfl ?_
  refine fx_get 3 (j := 1) (v := .ref 1) okm0 dX7_heardFrom_3 lfX7_7 (by decide) (fun _ => rfl) ?_
  refine fx_sipush 6 (x := (130 : Int32)) dX7_heardFrom_6 (by decide) ?_
  refine fx_iload_n 9 dX7_heardFrom_9 rfl 2 rfl ?_
  refine fx_iadd 10 dX7_heardFrom_10 ?_
  obtain ⟨g11, h⟩ := fx_gt h
  refine fx_iald 11 okb1 dX7_heardFrom_11 g11 ?_
  obtain ⟨q12, e12, h⟩ := fx_bd h
  refine fx_callVi 12 (mt' := (mX7_playsAs d)) (As := [.int x2, .int (M 1 ((130 : Int32) + x2).toNatClampNeg)]) okm0 (okvX7_playsAs _ _) lmX7_158 (by simp only [mX7_heardFrom, mX7_playsAs]; omega) rfl rfl (Nat.le_of_ble_eq_true rfl) dX7_heardFrom_12 (H0 e12) ?_
  refine fx_aload_n 15 dX7_heardFrom_15 rfl 0 rfl ?_
  obtain ⟨q16, e16, h⟩ := fx_bd h
  refine fx_callVi 16 (mt' := mX7_speed) (As := []) okm0 (okvX7_speed _ _) lmX7_133 (by simp only [mX7_heardFrom, mX7_speed]; omega) rfl rfl (Nat.le_of_ble_eq_true rfl) dX7_heardFrom_16 (tX7_speed e16) ?_
  refine fx_aload_n 19 dX7_heardFrom_19 rfl 0 rfl ?_
  refine fx_get 20 (j := 1) (v := .ref 1) okm0 dX7_heardFrom_20 lfX7_7 (by decide) (fun _ => rfl) ?_
  refine fx_sipush 23 (x := (150 : Int32)) dX7_heardFrom_23 (by decide) ?_
  refine fx_iload_n 26 dX7_heardFrom_26 rfl 1 rfl ?_
  refine fx_iadd 27 dX7_heardFrom_27 ?_
  obtain ⟨g28, h⟩ := fx_gt h
  refine fx_iald 28 okb1 dX7_heardFrom_28 g28 ?_
  refine fx_aload_n 29 dX7_heardFrom_29 rfl 0 rfl ?_
  refine fx_get 30 (j := 1) (v := .ref 1) okm0 dX7_heardFrom_30 lfX7_7 (by decide) (fun _ => rfl) ?_
  refine fx_sipush 33 (x := (150 : Int32)) dX7_heardFrom_33 (by decide) ?_
  refine fx_iload_n 36 dX7_heardFrom_36 rfl 2 rfl ?_
  refine fx_iadd 37 dX7_heardFrom_37 ?_
  obtain ⟨g38, h⟩ := fx_gt h
  refine fx_iald 38 okb1 dX7_heardFrom_38 g38 ?_
  obtain ⟨q39, e39, h⟩ := fx_bd h
  refine fx_callSi 39 (mt' := mX7_far) (As := [.int (q16.2 1 ((150 : Int32) + x1).toNatClampNeg), .int (q16.2 1 ((150 : Int32) + x2).toNatClampNeg)]) (oksX7_far _ _) lmX7_155 (by simp only [mX7_heardFrom, mX7_far]; omega) rfl rfl (Nat.le_of_ble_eq_true rfl) dX7_heardFrom_39 (tX7_far e39) ?_
  refine fx_imul 42 dX7_heardFrom_42 ?_
  refine fx_iadd 43 dX7_heardFrom_43 ?_
  obtain rfl := Option.some.inj h
  exact fx_iret 44 dX7_heardFrom_44 rfl rfl ⟨rfl, rfl⟩
def gX7p : Nat → Nat → Int32 → Int32 → fxMem → Option (Int32 × fxMem)
  | 0, _, _, _, _ => none
  | d + 1, t, a0, a1, M => if t = 0 then BX7_playsAs (fun t a0 a1 M => gX7p d t a0 a1 M) a0 a1 M else if t = 1 then BX7_backward (fun t a0 a1 M => gX7p d t a0 a1 M) a0 M else if t = 2 then BX7_forward (fun t a0 a1 M => gX7p d t a0 a1 M) a0 M else BX7_heardFrom (fun t a0 a1 M => gX7p d t a0 a1 M) a0 a1 M
theorem tgX7p : ∀ d : Nat, (∀ {a1 a2 : Int32} {M : fxMem} {R : Int32 × fxMem}, gX7p d 0 a1 a2 M = some R → fx_T gM (mX7_playsAs d) [.ref 0, .int a1, .int a2] M (fx_ri R)) ∧ (∀ {a1 : Int32} {M : fxMem} {R : Int32 × fxMem}, gX7p d 1 a1 0 M = some R → fx_T gM (mX7_backward d) [.ref 0, .int a1] M (fx_ri R)) ∧ (∀ {a1 : Int32} {M : fxMem} {R : Int32 × fxMem}, gX7p d 2 a1 0 M = some R → fx_T gM (mX7_forward d) [.ref 0, .int a1] M (fx_ri R)) ∧ (∀ {a1 a2 : Int32} {M : fxMem} {R : Int32 × fxMem}, gX7p d 3 a1 a2 M = some R → fx_T gM (mX7_heardFrom d) [.ref 0, .int a1, .int a2] M (fx_ri R)) := by
  intro d
  induction d with
  | zero => exact ⟨(fun h => by rw [gX7p] at h; cases h), (fun h => by rw [gX7p] at h; cases h), (fun h => by rw [gX7p] at h; cases h), (fun h => by rw [gX7p] at h; cases h)⟩
  | succ d ih =>
    obtain ⟨i0, i1, i2, i3⟩ := ih
    exact ⟨(fun h => by rw [gX7p] at h; exact bX7_playsAs i0 i1 i2 i3 (by simpa using h)), (fun h => by rw [gX7p] at h; exact bX7_backward i0 i1 i2 i3 (by simpa using h)), (fun h => by rw [gX7p] at h; exact bX7_forward i0 i1 i2 i3 (by simpa using h)), (fun h => by rw [gX7p] at h; exact bX7_heardFrom i0 i1 i2 i3 (by simpa using h))⟩
def CX7_playsAs (x1 : Int32) (x2 : Int32) (M : fxMem) : Option (Int32 × fxMem) := gX7p 40 0 x1 x2 M
theorem tX7_playsAs {x1 : Int32} {x2 : Int32} {M : fxMem} {R : Int32 × fxMem} (h : CX7_playsAs x1 x2 M = some R) : fx_T gM (mX7_playsAs 40) [.ref 0, .int x1, .int x2] M (fx_ri R) := (tgX7p 40).1 h
def CX7_backward (x1 : Int32) (M : fxMem) : Option (Int32 × fxMem) := gX7p 40 1 x1 0 M
theorem tX7_backward {x1 : Int32} {M : fxMem} {R : Int32 × fxMem} (h : CX7_backward x1 M = some R) : fx_T gM (mX7_backward 40) [.ref 0, .int x1] M (fx_ri R) := (tgX7p 40).2.1 h
def CX7_forward (x1 : Int32) (M : fxMem) : Option (Int32 × fxMem) := gX7p 40 2 x1 0 M
theorem tX7_forward {x1 : Int32} {M : fxMem} {R : Int32 × fxMem} (h : CX7_forward x1 M = some R) : fx_T gM (mX7_forward 40) [.ref 0, .int x1] M (fx_ri R) := (tgX7p 40).2.2.1 h
def CX7_heardFrom (x1 : Int32) (x2 : Int32) (M : fxMem) : Option (Int32 × fxMem) := gX7p 40 3 x1 x2 M
theorem tX7_heardFrom {x1 : Int32} {x2 : Int32} {M : fxMem} {R : Int32 × fxMem} (h : CX7_heardFrom x1 x2 M = some R) : fx_T gM (mX7_heardFrom 40) [.ref 0, .int x1, .int x2] M (fx_ri R) := (tgX7p 40).2.2.2 h
def mX7_playsOf : fxM := (yX7_playsOf, cX7_playsOf, 2, (some .int), 46, 1840)
theorem okvX7_playsOf (f l : Nat) : fx_okV (yX7_playsOf, cX7_playsOf, 2, (some .int), f, l) 1 := ⟨⟨rin23 _ (List.mem_of_getElem? (i := 7) rfl), rin1 _ (List.mem_of_getElem? (i := 5) rfl), by show yX7_playsOf.cls ≠ _; decide +kernel, by show yX7_playsOf.cls ≠ _; decide +kernel, by show (parseMethodDescriptor yX7_playsOf.desc).map _ = _; decide +kernel⟩, rin23 _ (List.mem_of_getElem? (i := 5) rfl), rin23 _ (List.mem_of_getElem? (i := 6) rfl)⟩
def CX7_playsOf (x1 : Int32) (M : fxMem) : Option (Int32 × fxMem) := if fx_in ((130 : Int32) + x1) 900 = true then Option.bind (CX7_playsAs x1 (M 1 ((130 : Int32) + x1).toNatClampNeg) M) fun q12 => some (q12.1, q12.2) else none
set_option maxRecDepth 100000 in
set_option maxHeartbeats 4000000 in
theorem tX7_playsOf {x1 : Int32} {M : fxMem} {R : Int32 × fxMem} (h : CX7_playsOf x1 M = some R) : fx_T gM mX7_playsOf [.ref 0, .int x1] M (fx_ri R) := by
  rw [CX7_playsOf] at h
  refine fx_enter [(0, .ref 0), (1, .int x1)] (by show plainName RX7 = true; decide) (fun _ => rfl) (fun _ => Nat.le_of_ble_eq_true rfl) ?_
  refine fx_aload_n 0 dX7_playsOf_0 rfl 0 rfl ?_
  refine fx_iload_n 1 dX7_playsOf_1 rfl 1 rfl ?_
  refine fx_aload_n 2 dX7_playsOf_2 rfl 0 rfl ?_
  refine fx_get 3 (j := 1) (v := .ref 1) okm0 dX7_playsOf_3 lfX7_7 (by decide) (fun _ => rfl) ?_
  refine fx_sipush 6 (x := (130 : Int32)) dX7_playsOf_6 (by decide) ?_
  refine fx_iload_n 9 dX7_playsOf_9 rfl 1 rfl ?_
  refine fx_iadd 10 dX7_playsOf_10 ?_
  obtain ⟨g11, h⟩ := fx_gt h
  refine fx_iald 11 okb1 dX7_playsOf_11 g11 ?_
  obtain ⟨q12, e12, h⟩ := fx_bd h
  refine fx_callVi 12 (mt' := (mX7_playsAs 40)) (As := [.int x1, .int (M 1 ((130 : Int32) + x1).toNatClampNeg)]) okm0 (okvX7_playsAs _ _) lmX7_158 (by decide) rfl rfl (Nat.le_of_ble_eq_true rfl) dX7_playsOf_12 (tX7_playsAs e12) ?_
  obtain rfl := Option.some.inj h
  exact fx_iret 15 dX7_playsOf_15 rfl rfl ⟨rfl, rfl⟩
def mX7_loudOf : fxM := (yX7_loudOf, cX7_loudOf, 2, (some .int), 4, 160)
theorem okvX7_loudOf (f l : Nat) : fx_okV (yX7_loudOf, cX7_loudOf, 2, (some .int), f, l) 1 := ⟨⟨rin27 _ (List.mem_of_getElem? (i := 15) rfl), rin1 _ (List.mem_of_getElem? (i := 5) rfl), by show yX7_loudOf.cls ≠ _; decide +kernel, by show yX7_loudOf.cls ≠ _; decide +kernel, by show (parseMethodDescriptor yX7_loudOf.desc).map _ = _; decide +kernel⟩, rin27 _ (List.mem_of_getElem? (i := 13) rfl), rin27 _ (List.mem_of_getElem? (i := 14) rfl)⟩
def CX7_loudOf (x1 : Int32) (M : fxMem) : Option (Int32 × fxMem) := if fx_in ((130 : Int32) + x1) 900 = true then Option.bind (CX7_looks x1 (M 1 ((130 : Int32) + x1).toNatClampNeg) M) fun q12 => some (q12 0 11, q12) else none
set_option maxRecDepth 100000 in
set_option maxHeartbeats 4000000 in
theorem tX7_loudOf {x1 : Int32} {M : fxMem} {R : Int32 × fxMem} (h : CX7_loudOf x1 M = some R) : fx_T gM mX7_loudOf [.ref 0, .int x1] M (fx_ri R) := by
  rw [CX7_loudOf] at h
  refine fx_enter [(0, .ref 0), (1, .int x1)] (by show plainName RX7 = true; decide) (fun _ => rfl) (fun _ => Nat.le_of_ble_eq_true rfl) ?_
  refine fx_aload_n 0 dX7_loudOf_0 rfl 0 rfl ?_
  refine fx_iload_n 1 dX7_loudOf_1 rfl 1 rfl ?_
  refine fx_aload_n 2 dX7_loudOf_2 rfl 0 rfl ?_
  refine fx_get 3 (j := 1) (v := .ref 1) okm0 dX7_loudOf_3 lfX7_7 (by decide) (fun _ => rfl) ?_
  refine fx_sipush 6 (x := (130 : Int32)) dX7_loudOf_6 (by decide) ?_
  refine fx_iload_n 9 dX7_loudOf_9 rfl 1 rfl ?_
  refine fx_iadd 10 dX7_loudOf_10 ?_
  obtain ⟨g11, h⟩ := fx_gt h
  refine fx_iald 11 okb1 dX7_loudOf_11 g11 ?_
  obtain ⟨q12, e12, h⟩ := fx_bd h
  refine fx_callVv 12 (mt' := mX7_looks) (As := [.int x1, .int (M 1 ((130 : Int32) + x1).toNatClampNeg)]) okm0 (okvX7_looks _ _) lmX7_177 (by decide) rfl rfl (Nat.le_of_ble_eq_true rfl) dX7_loudOf_12 (tX7_looks e12) ?_
  refine fx_aload_n 15 dX7_loudOf_15 rfl 0 rfl ?_
  refine fx_get 16 (j := 11) (v := .int (q12 0 11)) okm0 dX7_loudOf_16 lfX7_139 (by decide) (fun _ => rfl) ?_
  obtain rfl := Option.some.inj h
  exact fx_iret 19 dX7_loudOf_19 rfl rfl ⟨rfl, rfl⟩
