def mX6_of : fxM := (yX6_of, cX6_of, 3, (some .int), 9, 360)
theorem okvX6_of (f l : Nat) : fx_okV (yX6_of, cX6_of, 3, (some .int), f, l) 2 := ⟨⟨rin18 _ (List.mem_of_getElem? (i := 23) rfl), rin1 _ (List.mem_of_getElem? (i := 2) rfl), by show yX6_of.cls ≠ _; decide +kernel, by show yX6_of.cls ≠ _; decide +kernel, by show (parseMethodDescriptor yX6_of.desc).map _ = _; decide +kernel⟩, rin18 _ (List.mem_of_getElem? (i := 21) rfl), rin18 _ (List.mem_of_getElem? (i := 22) rfl)⟩
def CX6_of (x1 : Int32) (x2 : Int32) (M : fxMem) : Option (Int32 × fxMem) := Option.bind (CX6_isPlayer x1 M) fun q2 => if q2.1 = (0 : Int32) then some ((-1001 : Int32), q2.2) else if x2 = (0 : Int32) then if fx_in x1 10 = true then some (q2.2 2 x1.toNatClampNeg, q2.2) else none else if x2 = (1 : Int32) then if fx_in x1 10 = true then some (q2.2 3 x1.toNatClampNeg, q2.2) else none else if x2 = (2 : Int32) then if fx_in x1 10 = true then some (q2.2 4 x1.toNatClampNeg, q2.2) else none else if x2 = (3 : Int32) then Option.bind (CX6_listen q2.2) fun q83 => Option.bind (CX4_loudness x1 q83) fun q87 => some (q87.1, q87.2) else if x2 = (4 : Int32) then Option.bind (CX6_listen q2.2) fun q92 => if fx_in x1 10 = true then some (q92 60 x1.toNatClampNeg, q92) else none else if x2 = (5 : Int32) then Option.bind (CX6_listen q2.2) fun q102 => if fx_in x1 10 = true then some (q102 62 x1.toNatClampNeg, q102) else none else some ((-1001 : Int32), q2.2)
set_option maxRecDepth 100000 in
set_option maxHeartbeats 4000000 in
theorem tX6_of {x1 : Int32} {x2 : Int32} {M : fxMem} {R : Int32 × fxMem} (h : CX6_of x1 x2 M = some R) : fx_T gC mX6_of [.ref 0, .int x1, .int x2] M (fx_ri R) := by
  rw [CX6_of] at h
  refine fx_enter [(0, .ref 0), (1, .int x1), (2, .int x2)] (by show plainName RX6 = true; decide) (fun _ => rfl) (fun _ => Nat.le_of_ble_eq_true rfl) ?_
  refine fx_aload_n 0 dX6_of_0 rfl 0 rfl ?_
  refine fx_iload_n 1 dX6_of_1 rfl 1 rfl ?_
  obtain ⟨q2, e2, h⟩ := fx_bd h
  refine fx_callVi 2 (mt' := mX6_isPlayer) (As := [.int x1]) okc0 (okvX6_isPlayer _ _) lmX6_110 (by decide) rfl rfl (Nat.le_of_ble_eq_true rfl) dX6_of_2 (tX6_isPlayer e2) ?_
  refine fx_if_ne 5 12 dX6_of_5 (by decide) (fun c5 => ?_) (fun c5 => ?_)
  · replace h := fx_ne c5 h
    refine fx_iload_n 12 dX6_of_12 rfl 2 rfl ?_
    by_cases s13_0 : x2 = (0 : Int32)
    · replace h := fx_ip s13_0 h
      refine fx_tsI 13 52 dX6_of_13 (by rw [s13_0]; decide) (by rw [s13_0]; decide) (by rw [s13_0]; try rfl) (by decide) ?_
      refine fx_aload_n 52 dX6_of_52 rfl 0 rfl ?_
      refine fx_get 53 (j := 0) (v := .ref 1) okc0 dX6_of_53 lfX6_12 (by decide) (fun _ => rfl) ?_
      refine fx_get 56 (j := 1) (v := .ref 2) okc1 dX6_of_56 lfX6_100 (by decide) (fun _ => rfl) ?_
      refine fx_iload_n 59 dX6_of_59 rfl 1 rfl ?_
      obtain ⟨g60, h⟩ := fx_gt h
      refine fx_iald 60 oka2 dX6_of_60 g60 ?_
      obtain rfl := Option.some.inj h
      exact fx_iret 61 dX6_of_61 rfl rfl ⟨rfl, rfl⟩
    · replace h := fx_ne s13_0 h
      by_cases s13_1 : x2 = (1 : Int32)
      · replace h := fx_ip s13_1 h
        refine fx_tsI 13 62 dX6_of_13 (by rw [s13_1]; decide) (by rw [s13_1]; decide) (by rw [s13_1]; try rfl) (by decide) ?_
        refine fx_aload_n 62 dX6_of_62 rfl 0 rfl ?_
        refine fx_get 63 (j := 0) (v := .ref 1) okc0 dX6_of_63 lfX6_12 (by decide) (fun _ => rfl) ?_
        refine fx_get 66 (j := 2) (v := .ref 3) okc1 dX6_of_66 lfX6_104 (by decide) (fun _ => rfl) ?_
        refine fx_iload_n 69 dX6_of_69 rfl 1 rfl ?_
        obtain ⟨g70, h⟩ := fx_gt h
        refine fx_iald 70 oka3 dX6_of_70 g70 ?_
        obtain rfl := Option.some.inj h
        exact fx_iret 71 dX6_of_71 rfl rfl ⟨rfl, rfl⟩
      · replace h := fx_ne s13_1 h
        by_cases s13_2 : x2 = (2 : Int32)
        · replace h := fx_ip s13_2 h
          refine fx_tsI 13 72 dX6_of_13 (by rw [s13_2]; decide) (by rw [s13_2]; decide) (by rw [s13_2]; try rfl) (by decide) ?_
          refine fx_aload_n 72 dX6_of_72 rfl 0 rfl ?_
          refine fx_get 73 (j := 0) (v := .ref 1) okc0 dX6_of_73 lfX6_12 (by decide) (fun _ => rfl) ?_
          refine fx_get 76 (j := 3) (v := .ref 4) okc1 dX6_of_76 lfX6_107 (by decide) (fun _ => rfl) ?_
          refine fx_iload_n 79 dX6_of_79 rfl 1 rfl ?_
          obtain ⟨g80, h⟩ := fx_gt h
          refine fx_iald 80 oka4 dX6_of_80 g80 ?_
          obtain rfl := Option.some.inj h
          exact fx_iret 81 dX6_of_81 rfl rfl ⟨rfl, rfl⟩
        · replace h := fx_ne s13_2 h
          by_cases s13_3 : x2 = (3 : Int32)
          · replace h := fx_ip s13_3 h
            refine fx_tsI 13 82 dX6_of_13 (by rw [s13_3]; decide) (by rw [s13_3]; decide) (by rw [s13_3]; try rfl) (by decide) ?_
            refine fx_aload_n 82 dX6_of_82 rfl 0 rfl ?_
            obtain ⟨q83, e83, h⟩ := fx_bd h
            refine fx_callVk 83 (mt' := mX6_listen) (As := []) okc0 (okvX6_listen _ _) lmX6_114 (by decide) rfl rfl (Nat.le_of_ble_eq_true rfl) dX6_of_83 (tX6_listen e83) ?_
            refine fx_iload_n 86 dX6_of_86 rfl 1 rfl ?_
            obtain ⟨q87, e87, h⟩ := fx_bd h
            refine fx_callVi 87 (mt' := mX4_loudness) (As := [.int x1]) okc58 (okvX4_loudness _ _) lmX6_118 (by decide) rfl rfl (Nat.le_of_ble_eq_true rfl) dX6_of_87 (tX4_loudness e87) ?_
            obtain rfl := Option.some.inj h
            exact fx_iret 90 dX6_of_90 rfl rfl ⟨rfl, rfl⟩
          · replace h := fx_ne s13_3 h
            by_cases s13_4 : x2 = (4 : Int32)
            · replace h := fx_ip s13_4 h
              refine fx_tsI 13 91 dX6_of_13 (by rw [s13_4]; decide) (by rw [s13_4]; decide) (by rw [s13_4]; try rfl) (by decide) ?_
              refine fx_aload_n 91 dX6_of_91 rfl 0 rfl ?_
              obtain ⟨q92, e92, h⟩ := fx_bd h
              refine fx_callVk 92 (mt' := mX6_listen) (As := []) okc0 (okvX6_listen _ _) lmX6_114 (by decide) rfl rfl (Nat.le_of_ble_eq_true rfl) dX6_of_92 (tX6_listen e92) ?_
              refine fx_get 95 (j := 5) (v := .ref 60) okc58 dX6_of_95 lfX6_121 (by decide) (fun _ => rfl) ?_
              refine fx_iload_n 98 dX6_of_98 rfl 1 rfl ?_
              obtain ⟨g99, h⟩ := fx_gt h
              refine fx_iald 99 oka60 dX6_of_99 g99 ?_
              obtain rfl := Option.some.inj h
              exact fx_iret 100 dX6_of_100 rfl rfl ⟨rfl, rfl⟩
            · replace h := fx_ne s13_4 h
              by_cases s13_5 : x2 = (5 : Int32)
              · replace h := fx_ip s13_5 h
                refine fx_tsI 13 101 dX6_of_13 (by rw [s13_5]; decide) (by rw [s13_5]; decide) (by rw [s13_5]; try rfl) (by decide) ?_
                refine fx_aload_n 101 dX6_of_101 rfl 0 rfl ?_
                obtain ⟨q102, e102, h⟩ := fx_bd h
                refine fx_callVk 102 (mt' := mX6_listen) (As := []) okc0 (okvX6_listen _ _) lmX6_114 (by decide) rfl rfl (Nat.le_of_ble_eq_true rfl) dX6_of_102 (tX6_listen e102) ?_
                refine fx_get 105 (j := 7) (v := .ref 62) okc58 dX6_of_105 lfX6_124 (by decide) (fun _ => rfl) ?_
                refine fx_iload_n 108 dX6_of_108 rfl 1 rfl ?_
                obtain ⟨g109, h⟩ := fx_gt h
                refine fx_iald 109 oka62 dX6_of_109 g109 ?_
                obtain rfl := Option.some.inj h
                exact fx_iret 110 dX6_of_110 rfl rfl ⟨rfl, rfl⟩
              · replace h := fx_ne s13_5 h
                refine fx_tsD 13 111 [(0 : Int32), (1 : Int32), (2 : Int32), (3 : Int32), (4 : Int32), (5 : Int32)] dX6_of_13 (by decide) (by decide) (by intro q hq; simp only [List.mem_cons, List.not_mem_nil, or_false] at hq; rcases hq with rfl | rfl | rfl | rfl | rfl | rfl <;> assumption) (by decide) ?_
                refine fx_sipush 111 (x := (-1001 : Int32)) dX6_of_111 (by decide) ?_
                obtain rfl := Option.some.inj h
                exact fx_iret 114 dX6_of_114 rfl rfl ⟨rfl, rfl⟩
  · replace h := fx_ip c5 h
    refine fx_sipush 8 (x := (-1001 : Int32)) dX6_of_8 (by decide) ?_
    obtain rfl := Option.some.inj h
    exact fx_iret 11 dX6_of_11 rfl rfl ⟨rfl, rfl⟩
def mX6_drum : fxM := (yX6_drum, cX6_drum, 3, (some .int), 3, 120)
theorem okvX6_drum (f l : Nat) : fx_okV (yX6_drum, cX6_drum, 3, (some .int), f, l) 1 := ⟨⟨rin24 _ (List.mem_of_getElem? (i := 17) rfl), rin1 _ (List.mem_of_getElem? (i := 2) rfl), by show yX6_drum.cls ≠ _; decide +kernel, by show yX6_drum.cls ≠ _; decide +kernel, by show (parseMethodDescriptor yX6_drum.desc).map _ = _; decide +kernel⟩, rin24 _ (List.mem_of_getElem? (i := 15) rfl), rin24 _ (List.mem_of_getElem? (i := 16) rfl)⟩
def CX6_drum (x1 : Int32) (M : fxMem) : Option (Int32 × fxMem) := Option.bind (CX6_isBelow x1 (64 : Int32) M) fun q3 => if q3.1 = (0 : Int32) then some ((-1 : Int32), q3.2) else some (q3.2 1 4, fx_st q3.2 1 4 x1)
set_option maxRecDepth 100000 in
set_option maxHeartbeats 4000000 in
theorem tX6_drum {x1 : Int32} {M : fxMem} {R : Int32 × fxMem} (h : CX6_drum x1 M = some R) : fx_T gC mX6_drum [.ref 0, .int x1] M (fx_ri R) := by
  rw [CX6_drum] at h
  refine fx_enter [(0, .ref 0), (1, .int x1)] (by show plainName RX6 = true; decide) (fun _ => rfl) (fun _ => Nat.le_of_ble_eq_true rfl) ?_
  refine fx_iload_n 0 dX6_drum_0 rfl 1 rfl ?_
  refine fx_bipush 1 (x := (64 : Int32)) dX6_drum_1 (by decide) ?_
  obtain ⟨q3, e3, h⟩ := fx_bd h
  refine fx_callSi 3 (mt' := mX6_isBelow) (As := [.int x1, .int (64 : Int32)]) (oksX6_isBelow _ _) lmX6_89 (by decide) rfl rfl (Nat.le_of_ble_eq_true rfl) dX6_drum_3 (tX6_isBelow e3) ?_
  refine fx_if_ne 6 11 dX6_drum_6 (by decide) (fun c6 => ?_) (fun c6 => ?_)
  · replace h := fx_ne c6 h
    refine fx_aload_n 11 dX6_drum_11 rfl 0 rfl ?_
    refine fx_get 12 (j := 0) (v := .ref 1) okc0 dX6_drum_12 lfX6_12 (by decide) (fun _ => rfl) ?_
    refine fx_get 15 (j := 4) (v := .int (q3.2 1 4)) okc1 dX6_drum_15 lfX6_127 (by decide) (fun _ => rfl) ?_
    refine fx_istore_n 18 (lv' := [(2, .int (q3.2 1 4)), (0, .ref 0), (1, .int x1)]) dX6_drum_18 rfl (Nat.le_of_ble_eq_true rfl) rfl ?_
    refine fx_aload_n 19 dX6_drum_19 rfl 1 rfl ?_
    refine fx_get 20 (j := 0) (v := .ref 1) okc0 dX6_drum_20 lfX6_12 (by decide) (fun _ => rfl) ?_
    refine fx_iload_n 23 dX6_drum_23 rfl 2 rfl ?_
    refine fx_putI 24 (j := 4) okc1 dX6_drum_24 lfX6_127 (by decide) rfl (by decide +kernel) (fun _ _ => Nat.le_of_ble_eq_true rfl) (fun _ _ _ => rfl) ?_
    refine fx_iload_n 27 dX6_drum_27 rfl 0 rfl ?_
    obtain rfl := Option.some.inj h
    exact fx_iret 28 dX6_drum_28 rfl rfl ⟨rfl, rfl⟩
  · replace h := fx_ip c6 h
    refine fx_iconst 9 (x := (-1 : Int32)) dX6_drum_9 (by decide) ?_
    obtain rfl := Option.some.inj h
    exact fx_iret 10 dX6_drum_10 rfl rfl ⟨rfl, rfl⟩
def mX6_put : fxM := (yX6_put, cX6_put, 5, (some .int), 4, 160)
theorem okvX6_put (f l : Nat) : fx_okV (yX6_put, cX6_put, 5, (some .int), f, l) 2 := ⟨⟨rin25 _ (List.mem_of_getElem? (i := 2) rfl), rin1 _ (List.mem_of_getElem? (i := 2) rfl), by show yX6_put.cls ≠ _; decide +kernel, by show yX6_put.cls ≠ _; decide +kernel, by show (parseMethodDescriptor yX6_put.desc).map _ = _; decide +kernel⟩, rin25 _ (List.mem_of_getElem? (i := 0) rfl), rin25 _ (List.mem_of_getElem? (i := 1) rfl)⟩
def CX6_put_J41  (x1 : Int32) (x2 : Int32) (x3 : Int32) (M : fxMem) : Option (Int32 × fxMem) := if fx_in x1 10 = true then some (M 4 x1.toNatClampNeg, fx_st M 4 x1.toNatClampNeg x2) else none
set_option maxRecDepth 100000 in
set_option maxHeartbeats 4000000 in
theorem vX6_put_J41  {x1 : Int32} {x2 : Int32} {x3 : Int32} {R : Int32 × fxMem} {M : fxMem} (h : CX6_put_J41 x1 x2 x3 M = some R) : fx_V gC mX6_put (fx_ri R) 41 [(0, .ref 0), (1, .int x1), (2, .int x2), (3, .int x3)] [] M := by
  rw [CX6_put_J41] at h
  refine fx_aload_n 41 dX6_put_41 rfl 0 rfl ?_
  refine fx_get 42 (j := 0) (v := .ref 1) okc0 dX6_put_42 lfX6_12 (by decide) (fun _ => rfl) ?_
  refine fx_get 45 (j := 3) (v := .ref 4) okc1 dX6_put_45 lfX6_107 (by decide) (fun _ => rfl) ?_
  refine fx_iload_n 48 dX6_put_48 rfl 1 rfl ?_
  obtain ⟨g49, h⟩ := fx_gt h
  refine fx_iald 49 oka4 dX6_put_49 g49 ?_
  refine fx_istore 50 (lv' := [(4, .int (M 4 x1.toNatClampNeg)), (0, .ref 0), (1, .int x1), (2, .int x2), (3, .int x3)]) dX6_put_50 (Nat.le_of_ble_eq_true rfl) rfl ?_
  refine fx_aload_n 52 dX6_put_52 rfl 1 rfl ?_
  refine fx_get 53 (j := 0) (v := .ref 1) okc0 dX6_put_53 lfX6_12 (by decide) (fun _ => rfl) ?_
  refine fx_get 56 (j := 3) (v := .ref 4) okc1 dX6_put_56 lfX6_107 (by decide) (fun _ => rfl) ?_
  refine fx_iload_n 59 dX6_put_59 rfl 2 rfl ?_
  refine fx_iload_n 60 dX6_put_60 rfl 3 rfl ?_
  refine fx_iast 61 oka4 dX6_put_61 g49 ?_
  refine fx_iload 62 dX6_put_62 0 rfl ?_
  obtain rfl := Option.some.inj h
  exact fx_iret 64 dX6_put_64 rfl rfl ⟨rfl, rfl⟩
def CX6_put (x1 : Int32) (x2 : Int32) (M : fxMem) : Option (Int32 × fxMem) := Option.bind (CX6_isPlayer x1 M) fun q2 => if q2.1 = (0 : Int32) then some ((-1 : Int32), q2.2) else Option.bind (CX6_isBelow x2 (64 : Int32) q2.2) fun q11 => if q11.1 = (0 : Int32) then some ((-1 : Int32), q11.2) else Option.bind (CX1_playerOn x2 q11.2) fun q24 => if q24.1 = (-1 : Int32) then CX6_put_J41 x1 x2 q24.1 q24.2 else if q24.1 = x1 then CX6_put_J41 x1 x2 q24.1 q24.2 else some ((-3 : Int32), q24.2)
set_option maxRecDepth 100000 in
set_option maxHeartbeats 4000000 in
theorem tX6_put {x1 : Int32} {x2 : Int32} {M : fxMem} {R : Int32 × fxMem} (h : CX6_put x1 x2 M = some R) : fx_T gC mX6_put [.ref 0, .int x1, .int x2] M (fx_ri R) := by
  rw [CX6_put] at h
  refine fx_enter [(0, .ref 0), (1, .int x1), (2, .int x2)] (by show plainName RX6 = true; decide) (fun _ => rfl) (fun _ => Nat.le_of_ble_eq_true rfl) ?_
  refine fx_aload_n 0 dX6_put_0 rfl 0 rfl ?_
  refine fx_iload_n 1 dX6_put_1 rfl 1 rfl ?_
  obtain ⟨q2, e2, h⟩ := fx_bd h
  refine fx_callVi 2 (mt' := mX6_isPlayer) (As := [.int x1]) okc0 (okvX6_isPlayer _ _) lmX6_110 (by decide) rfl rfl (Nat.le_of_ble_eq_true rfl) dX6_put_2 (tX6_isPlayer e2) ?_
  refine fx_if_eq 5 17 dX6_put_5 (by decide) (fun c5 => ?_) (fun c5 => ?_)
  · replace h := fx_ip c5 h
    refine fx_iconst 17 (x := (-1 : Int32)) dX6_put_17 (by decide) ?_
    obtain rfl := Option.some.inj h
    exact fx_iret 18 dX6_put_18 rfl rfl ⟨rfl, rfl⟩
  · replace h := fx_ne c5 h
    refine fx_iload_n 8 dX6_put_8 rfl 2 rfl ?_
    refine fx_bipush 9 (x := (64 : Int32)) dX6_put_9 (by decide) ?_
    obtain ⟨q11, e11, h⟩ := fx_bd h
    refine fx_callSi 11 (mt' := mX6_isBelow) (As := [.int x2, .int (64 : Int32)]) (oksX6_isBelow _ _) lmX6_89 (by decide) rfl rfl (Nat.le_of_ble_eq_true rfl) dX6_put_11 (tX6_isBelow e11) ?_
    refine fx_if_ne 14 19 dX6_put_14 (by decide) (fun c14 => ?_) (fun c14 => ?_)
    · replace h := fx_ne c14 h
      refine fx_aload_n 19 dX6_put_19 rfl 0 rfl ?_
      refine fx_get 20 (j := 0) (v := .ref 1) okc0 dX6_put_20 lfX6_12 (by decide) (fun _ => rfl) ?_
      refine fx_iload_n 23 dX6_put_23 rfl 2 rfl ?_
      obtain ⟨q24, e24, h⟩ := fx_bd h
      refine fx_callVi 24 (mt' := mX1_playerOn) (As := [.int x2]) okc1 (okvX1_playerOn _ _) lmX6_93 (by decide) rfl rfl (Nat.le_of_ble_eq_true rfl) dX6_put_24 (tX1_playerOn e24) ?_
      refine fx_istore_n 27 (lv' := [(3, .int q24.1), (0, .ref 0), (1, .int x1), (2, .int x2)]) dX6_put_27 rfl (Nat.le_of_ble_eq_true rfl) rfl ?_
      refine fx_iload_n 28 dX6_put_28 rfl 0 rfl ?_
      refine fx_iconst 29 (x := (-1 : Int32)) dX6_put_29 (by decide) ?_
      refine fx_icmp_eq 30 41 dX6_put_30 (by decide) (fun c30 => ?_) (fun c30 => ?_)
      · replace h := fx_ip c30 h
        refine fx_sub [1, 2, 3, 0] rfl ?_
        exact vX6_put_J41 h
      · replace h := fx_ne c30 h
        refine fx_iload_n 33 dX6_put_33 rfl 0 rfl ?_
        refine fx_iload_n 34 dX6_put_34 rfl 2 rfl ?_
        refine fx_icmp_eq 35 41 dX6_put_35 (by decide) (fun c35 => ?_) (fun c35 => ?_)
        · replace h := fx_ip c35 h
          refine fx_sub [1, 2, 3, 0] rfl ?_
          exact vX6_put_J41 h
        · replace h := fx_ne c35 h
          refine fx_bipush 38 (x := (-3 : Int32)) dX6_put_38 (by decide) ?_
          obtain rfl := Option.some.inj h
          exact fx_iret 40 dX6_put_40 rfl rfl ⟨rfl, rfl⟩
    · replace h := fx_ip c14 h
      refine fx_iconst 17 (x := (-1 : Int32)) dX6_put_17 (by decide) ?_
      obtain rfl := Option.some.inj h
      exact fx_iret 18 dX6_put_18 rfl rfl ⟨rfl, rfl⟩
def mX6_placeOfSeat : fxM := (yX6_placeOfSeat, cX6_placeOfSeat, 1, (some .int), 2, 80)
theorem oksX6_placeOfSeat (f l : Nat) : fx_okS (yX6_placeOfSeat, cX6_placeOfSeat, 1, (some .int), f, l) 1 := ⟨⟨rin25 _ (List.mem_of_getElem? (i := 16) rfl), rin1 _ (List.mem_of_getElem? (i := 2) rfl), by show yX6_placeOfSeat.cls ≠ _; decide +kernel, by show yX6_placeOfSeat.cls ≠ _; decide +kernel, by show (parseMethodDescriptor yX6_placeOfSeat.desc).map _ = _; decide +kernel⟩, rin25 _ (List.mem_of_getElem? (i := 15) rfl)⟩
def CX6_placeOfSeat (x0 : Int32) (M : fxMem) : Option (Int32 × fxMem) := some (x0 - (8 : Int32), M)
set_option maxRecDepth 100000 in
set_option maxHeartbeats 4000000 in
theorem tX6_placeOfSeat {x0 : Int32} {M : fxMem} {R : Int32 × fxMem} (h : CX6_placeOfSeat x0 M = some R) : fx_T gC mX6_placeOfSeat [.int x0] M (fx_ri R) := by
  rw [CX6_placeOfSeat] at h
  refine fx_enter [(0, .int x0)] (by show plainName RX6 = true; decide) (fun _ => rfl) (fun _ => Nat.le_of_ble_eq_true rfl) ?_
  refine fx_iload_n 0 dX6_placeOfSeat_0 rfl 0 rfl ?_
  refine fx_bipush 1 (x := (8 : Int32)) dX6_placeOfSeat_1 (by decide) ?_
  refine fx_isub 3 dX6_placeOfSeat_3 ?_
  obtain rfl := Option.some.inj h
  exact fx_iret 4 dX6_placeOfSeat_4 rfl rfl ⟨rfl, rfl⟩
def mX4_arrival : fxM := (yX4_arrival, cX4_arrival, 3, (some .int), 4, 160)
theorem okvX4_arrival (f l : Nat) : fx_okV (yX4_arrival, cX4_arrival, 3, (some .int), f, l) 2 := ⟨⟨rin25 _ (List.mem_of_getElem? (i := 14) rfl), rin2 _ (List.mem_of_getElem? (i := 13) rfl), by show yX4_arrival.cls ≠ _; decide +kernel, by show yX4_arrival.cls ≠ _; decide +kernel, by show (parseMethodDescriptor yX4_arrival.desc).map _ = _; decide +kernel⟩, rin25 _ (List.mem_of_getElem? (i := 12) rfl), rin25 _ (List.mem_of_getElem? (i := 13) rfl)⟩
def CX4_arrival (x1 : Int32) (x2 : Int32) (M : fxMem) : Option (Int32 × fxMem) := if fx_in x2 10 = true then if fx_isSh ((M 58 1).toNatClampNeg) = true then Option.bind (CX6_placeOfSeat x1 M) fun q14 => Option.bind (CX6_far q14.1 (q14.2 4 x2.toNatClampNeg) q14.2) fun q26 => some ((M 62 x2.toNatClampNeg) + ((M ((M 58 1).toNatClampNeg) 0) * q26.1), q26.2) else none else none
set_option maxRecDepth 100000 in
set_option maxHeartbeats 4000000 in
theorem tX4_arrival {x1 : Int32} {x2 : Int32} {M : fxMem} {R : Int32 × fxMem} (h : CX4_arrival x1 x2 M = some R) : fx_T gC mX4_arrival [.ref 58, .int x1, .int x2] M (fx_ri R) := by
  rw [CX4_arrival] at h
  refine fx_enter [(0, .ref 58), (1, .int x1), (2, .int x2)] (by show plainName RX4 = true; decide) (fun _ => rfl) (fun _ => Nat.le_of_ble_eq_true rfl) ?_
  refine fx_aload_n 0 dX4_arrival_0 rfl 0 rfl ?_
  refine fx_get 1 (j := 7) (v := .ref 62) okc58 dX4_arrival_1 lfX4_28 (by decide) (fun _ => rfl) ?_
  refine fx_iload_n 4 dX4_arrival_4 rfl 2 rfl ?_
  obtain ⟨g5, h⟩ := fx_gt h
  refine fx_iald 5 oka62 dX4_arrival_5 g5 ?_
  refine fx_aload_n 6 dX4_arrival_6 rfl 0 rfl ?_
  refine fx_get 7 (j := 1) (v := .ref ((M 58 1).toNatClampNeg)) okc58 dX4_arrival_7 lfX4_46 (by decide) (fun _ => rfl) ?_
  obtain ⟨g10, h⟩ := fx_gt h
  refine fx_get 10 (j := 0) (v := .int (M ((M 58 1).toNatClampNeg) 0)) (okcS g10) dX4_arrival_10 lfX4_111 (by decide) (fun _ => rfl) ?_
  refine fx_iload_n 13 dX4_arrival_13 rfl 1 rfl ?_
  obtain ⟨q14, e14, h⟩ := fx_bd h
  refine fx_callNi 14 (mt' := mX6_placeOfSeat) (host := "FieldBand") (As := [.int x1]) (oksX6_placeOfSeat _ _) (List.mem_of_getElem? (i := 7) rfl) (by decide) rfl rfl (Nat.le_of_ble_eq_true rfl) dX4_arrival_14 (tX6_placeOfSeat e14) ?_
  refine fx_aload_n 17 dX4_arrival_17 rfl 0 rfl ?_
  refine fx_get 18 (j := 0) (v := .ref 1) okc58 dX4_arrival_18 lfX4_42 (by decide) (fun _ => rfl) ?_
  refine fx_get 21 (j := 3) (v := .ref 4) okc1 dX4_arrival_21 lfX4_83 (by decide) (fun _ => rfl) ?_
  refine fx_iload_n 24 dX4_arrival_24 rfl 2 rfl ?_
  refine fx_iald 25 oka4 dX4_arrival_25 g5 ?_
  obtain ⟨q26, e26, h⟩ := fx_bd h
  refine fx_callNi 26 (mt' := mX6_far) (host := "FieldBand") (As := [.int q14.1, .int (q14.2 4 x2.toNatClampNeg)]) (oksX6_far _ _) (List.mem_of_getElem? (i := 6) rfl) (by decide) rfl rfl (Nat.le_of_ble_eq_true rfl) dX4_arrival_26 (tX6_far e26) ?_
  refine fx_imul 29 dX4_arrival_29 ?_
  refine fx_iadd 30 dX4_arrival_30 ?_
  obtain rfl := Option.some.inj h
  exact fx_iret 31 dX4_arrival_31 rfl rfl ⟨rfl, rfl⟩
def mX6_heard : fxM := (yX6_heard, cX6_heard, 3, (some .int), 9, 360)
theorem okvX6_heard (f l : Nat) : fx_okV (yX6_heard, cX6_heard, 3, (some .int), f, l) 2 := ⟨⟨rin25 _ (List.mem_of_getElem? (i := 10) rfl), rin1 _ (List.mem_of_getElem? (i := 2) rfl), by show yX6_heard.cls ≠ _; decide +kernel, by show yX6_heard.cls ≠ _; decide +kernel, by show (parseMethodDescriptor yX6_heard.desc).map _ = _; decide +kernel⟩, rin25 _ (List.mem_of_getElem? (i := 8) rfl), rin25 _ (List.mem_of_getElem? (i := 9) rfl)⟩
def CX6_heard (x1 : Int32) (x2 : Int32) (M : fxMem) : Option (Int32 × fxMem) := Option.bind (CX6_isBelow x1 (8 : Int32) M) fun q3 => if q3.1 = (0 : Int32) then some ((-1001 : Int32), q3.2) else Option.bind (CX6_isPlayer x2 q3.2) fun q11 => if q11.1 = (0 : Int32) then some ((-1001 : Int32), q11.2) else Option.bind (CX6_listen q11.2) fun q22 => Option.bind (CX4_arrival x1 x2 q22) fun q27 => some (q27.1, q27.2)
set_option maxRecDepth 100000 in
set_option maxHeartbeats 4000000 in
theorem tX6_heard {x1 : Int32} {x2 : Int32} {M : fxMem} {R : Int32 × fxMem} (h : CX6_heard x1 x2 M = some R) : fx_T gC mX6_heard [.ref 0, .int x1, .int x2] M (fx_ri R) := by
  rw [CX6_heard] at h
  refine fx_enter [(0, .ref 0), (1, .int x1), (2, .int x2)] (by show plainName RX6 = true; decide) (fun _ => rfl) (fun _ => Nat.le_of_ble_eq_true rfl) ?_
  refine fx_iload_n 0 dX6_heard_0 rfl 1 rfl ?_
  refine fx_bipush 1 (x := (8 : Int32)) dX6_heard_1 (by decide) ?_
  obtain ⟨q3, e3, h⟩ := fx_bd h
  refine fx_callSi 3 (mt' := mX6_isBelow) (As := [.int x1, .int (8 : Int32)]) (oksX6_isBelow _ _) lmX6_89 (by decide) rfl rfl (Nat.le_of_ble_eq_true rfl) dX6_heard_3 (tX6_isBelow e3) ?_
  refine fx_if_eq 6 17 dX6_heard_6 (by decide) (fun c6 => ?_) (fun c6 => ?_)
  · replace h := fx_ip c6 h
    refine fx_sipush 17 (x := (-1001 : Int32)) dX6_heard_17 (by decide) ?_
    obtain rfl := Option.some.inj h
    exact fx_iret 20 dX6_heard_20 rfl rfl ⟨rfl, rfl⟩
  · replace h := fx_ne c6 h
    refine fx_aload_n 9 dX6_heard_9 rfl 0 rfl ?_
    refine fx_iload_n 10 dX6_heard_10 rfl 2 rfl ?_
    obtain ⟨q11, e11, h⟩ := fx_bd h
    refine fx_callVi 11 (mt' := mX6_isPlayer) (As := [.int x2]) okc0 (okvX6_isPlayer _ _) lmX6_110 (by decide) rfl rfl (Nat.le_of_ble_eq_true rfl) dX6_heard_11 (tX6_isPlayer e11) ?_
    refine fx_if_ne 14 21 dX6_heard_14 (by decide) (fun c14 => ?_) (fun c14 => ?_)
    · replace h := fx_ne c14 h
      refine fx_aload_n 21 dX6_heard_21 rfl 0 rfl ?_
      obtain ⟨q22, e22, h⟩ := fx_bd h
      refine fx_callVk 22 (mt' := mX6_listen) (As := []) okc0 (okvX6_listen _ _) lmX6_114 (by decide) rfl rfl (Nat.le_of_ble_eq_true rfl) dX6_heard_22 (tX6_listen e22) ?_
      refine fx_iload_n 25 dX6_heard_25 rfl 1 rfl ?_
      refine fx_iload_n 26 dX6_heard_26 rfl 2 rfl ?_
      obtain ⟨q27, e27, h⟩ := fx_bd h
      refine fx_callVi 27 (mt' := mX4_arrival) (As := [.int x1, .int x2]) okc58 (okvX4_arrival _ _) lmX6_130 (by decide) rfl rfl (Nat.le_of_ble_eq_true rfl) dX6_heard_27 (tX4_arrival e27) ?_
      obtain rfl := Option.some.inj h
      exact fx_iret 30 dX6_heard_30 rfl rfl ⟨rfl, rfl⟩
    · replace h := fx_ip c14 h
      refine fx_sipush 17 (x := (-1001 : Int32)) dX6_heard_17 (by decide) ?_
      obtain rfl := Option.some.inj h
      exact fx_iret 20 dX6_heard_20 rfl rfl ⟨rfl, rfl⟩
def mX4_spreadAt : fxM := (yX4_spreadAt, cX4_spreadAt, 6, (some .int), 5, 200)
theorem okvX4_spreadAt (f l : Nat) : fx_okV (yX4_spreadAt, cX4_spreadAt, 6, (some .int), f, l) 1 := ⟨⟨rin26 _ (List.mem_of_getElem? (i := 11) rfl), rin2 _ (List.mem_of_getElem? (i := 13) rfl), by show yX4_spreadAt.cls ≠ _; decide +kernel, by show yX4_spreadAt.cls ≠ _; decide +kernel, by show (parseMethodDescriptor yX4_spreadAt.desc).map _ = _; decide +kernel⟩, rin26 _ (List.mem_of_getElem? (i := 9) rfl), rin26 _ (List.mem_of_getElem? (i := 10) rfl)⟩
def CX4_spreadAt_L9 (x1 : Int32) : Nat → Int32 → Int32 → Int32 → fxMem → (Int32 → Int32 → Int32 → fxMem → Option (Int32 × fxMem)) → Option (Int32 × fxMem)
  | 0, _, _, _, _, _ => none
  | n + 1, x2, x3, x4, M, k => if M 1 0 ≤ x4 then k x2 x3 x4 M else if x4 = M 58 3 then CX4_spreadAt_L9 x1 n x2 x3 (x4 + (1 : Int32)) M k else Option.bind (CX4_arrival x1 x4 M) fun q34 => CX4_spreadAt_L9 x1 n (if q34.1 < x2 then q34.1 else x2) (if x3 < q34.1 then q34.1 else x3) (x4 + (1 : Int32)) q34.2 k
set_option maxRecDepth 100000 in
set_option maxHeartbeats 4000000 in
theorem vX4_spreadAt_L9 {x1 : Int32} {R : Int32 × fxMem} {k : Int32 → Int32 → Int32 → fxMem → Option (Int32 × fxMem)} (hk : ∀ (x2 : Int32) (x3 : Int32) (x4 : Int32) (M : fxMem), k x2 x3 x4 M = some R → fx_V gC mX4_spreadAt (fx_ri R) 59 [(0, .ref 58), (1, .int x1), (2, .int x2), (3, .int x3), (4, .int x4)] [] M) : ∀ (n : Nat) (x2 : Int32) (x3 : Int32) (x4 : Int32) (M : fxMem), CX4_spreadAt_L9 x1 n x2 x3 x4 M k = some R → fx_V gC mX4_spreadAt (fx_ri R) 9 [(0, .ref 58), (1, .int x1), (2, .int x2), (3, .int x3), (4, .int x4)] [] M := by
  intro n
  induction n with
  | zero => intro x2 x3 x4 M h; rw [CX4_spreadAt_L9] at h; cases h
  | succ n ih =>
    intro x2 x3 x4 M h
    rw [CX4_spreadAt_L9] at h
    refine fx_iload 9 dX4_spreadAt_9 4 rfl ?_
    refine fx_aload_n 11 dX4_spreadAt_11 rfl 0 rfl ?_
    refine fx_get 12 (j := 0) (v := .ref 1) okc58 dX4_spreadAt_12 lfX4_42 (by decide) (fun _ => rfl) ?_
    refine fx_get 15 (j := 0) (v := .int (M 1 0)) okc1 dX4_spreadAt_15 lfX4_69 (by decide) (fun _ => rfl) ?_
    refine fx_icmp_ge 18 59 dX4_spreadAt_18 (by decide) (fun c18 => ?_) (fun c18 => ?_)
    · replace h := fx_ip c18 h
      refine fx_sub [0, 1, 2, 3, 4] rfl ?_
      exact hk _ _ _ _ h
    · replace h := fx_ne c18 h
      refine fx_iload 21 dX4_spreadAt_21 4 rfl ?_
      refine fx_aload_n 23 dX4_spreadAt_23 rfl 0 rfl ?_
      refine fx_get 24 (j := 3) (v := .int (M 58 3)) okc58 dX4_spreadAt_24 lfX4_15 (by decide) (fun _ => rfl) ?_
      refine fx_icmp_eq 27 53 dX4_spreadAt_27 (by decide) (fun c27 => ?_) (fun c27 => ?_)
      · replace h := fx_ip c27 h
        refine fx_iinc 53 (lv' := [(4, .int (x4 + (1 : Int32))), (0, .ref 58), (1, .int x1), (2, .int x2), (3, .int x3)]) (y := x4 + (1 : Int32)) dX4_spreadAt_53 4 rfl (by rfl) (Nat.le_of_ble_eq_true rfl) rfl ?_
        refine fx_goto 56 9 dX4_spreadAt_56 (by decide) ?_
        refine fx_sub [1, 2, 3, 4, 0] rfl ?_
        exact ih _ _ _ _ h
      · replace h := fx_ne c27 h
        refine fx_aload_n 30 dX4_spreadAt_30 rfl 0 rfl ?_
        refine fx_iload_n 31 dX4_spreadAt_31 rfl 1 rfl ?_
        refine fx_iload 32 dX4_spreadAt_32 4 rfl ?_
        obtain ⟨q34, e34, h⟩ := fx_bd h
        refine fx_callVi 34 (mt' := mX4_arrival) (As := [.int x1, .int x4]) okc58 (okvX4_arrival _ _) lmX4_123 (by decide) rfl rfl (Nat.le_of_ble_eq_true rfl) dX4_spreadAt_34 (tX4_arrival e34) ?_
        refine fx_istore 37 (lv' := [(5, .int q34.1), (0, .ref 58), (1, .int x1), (2, .int x2), (3, .int x3), (4, .int x4)]) dX4_spreadAt_37 (Nat.le_of_ble_eq_true rfl) rfl ?_
        refine fx_iload_n 39 dX4_spreadAt_39 rfl 3 rfl ?_
        refine fx_iload 40 dX4_spreadAt_40 0 rfl ?_
        refine fx_mmin 42 dX4_spreadAt_42 lmX4_126 (by decide) (Nat.le_of_ble_eq_true rfl) ?_
        refine fx_istore_n 45 (lv' := [(2, .int (if q34.1 < x2 then q34.1 else x2)), (5, .int q34.1), (0, .ref 58), (1, .int x1), (3, .int x3), (4, .int x4)]) dX4_spreadAt_45 rfl (Nat.le_of_ble_eq_true rfl) rfl ?_
        refine fx_iload_n 46 dX4_spreadAt_46 rfl 4 rfl ?_
        refine fx_iload 47 dX4_spreadAt_47 1 rfl ?_
        refine fx_mmax 49 dX4_spreadAt_49 lmX4_132 (by decide) (Nat.le_of_ble_eq_true rfl) ?_
        refine fx_istore_n 52 (lv' := [(3, .int (if x3 < q34.1 then q34.1 else x3)), (2, .int (if q34.1 < x2 then q34.1 else x2)), (5, .int q34.1), (0, .ref 58), (1, .int x1), (4, .int x4)]) dX4_spreadAt_52 rfl (Nat.le_of_ble_eq_true rfl) rfl ?_
        refine fx_iinc 53 (lv' := [(4, .int (x4 + (1 : Int32))), (3, .int (if x3 < q34.1 then q34.1 else x3)), (2, .int (if q34.1 < x2 then q34.1 else x2)), (5, .int q34.1), (0, .ref 58), (1, .int x1)]) (y := x4 + (1 : Int32)) dX4_spreadAt_53 5 rfl (by rfl) (Nat.le_of_ble_eq_true rfl) rfl ?_
        refine fx_goto 56 9 dX4_spreadAt_56 (by decide) ?_
        refine fx_sub [4, 5, 2, 1, 0] rfl ?_
        exact ih _ _ _ _ h
def CX4_spreadAt (x1 : Int32) (M : fxMem) : Option (Int32 × fxMem) := CX4_spreadAt_L9 x1 1000 (2147483647 : Int32) (-2147483648 : Int32) (0 : Int32) M (fun y2_9 y3_9 y4_9 M9 => some ((if y2_9 ≤ y3_9 then y3_9 - y2_9 else (0 : Int32)), M9))
set_option maxRecDepth 100000 in
set_option maxHeartbeats 4000000 in
theorem tX4_spreadAt {x1 : Int32} {M : fxMem} {R : Int32 × fxMem} (h : CX4_spreadAt x1 M = some R) : fx_T gC mX4_spreadAt [.ref 58, .int x1] M (fx_ri R) := by
  rw [CX4_spreadAt] at h
  refine fx_enter [(0, .ref 58), (1, .int x1)] (by show plainName RX4 = true; decide) (fun _ => rfl) (fun _ => Nat.le_of_ble_eq_true rfl) ?_
  refine fx_ldc 0 dX4_spreadAt_0 lcX4_122 ?_
  refine fx_istore_n 2 (lv' := [(2, .int (2147483647 : Int32)), (0, .ref 58), (1, .int x1)]) dX4_spreadAt_2 rfl (Nat.le_of_ble_eq_true rfl) rfl ?_
  refine fx_ldc 3 dX4_spreadAt_3 lcX4_131 ?_
  refine fx_istore_n 5 (lv' := [(3, .int (-2147483648 : Int32)), (2, .int (2147483647 : Int32)), (0, .ref 58), (1, .int x1)]) dX4_spreadAt_5 rfl (Nat.le_of_ble_eq_true rfl) rfl ?_
  refine fx_iconst 6 (x := (0 : Int32)) dX4_spreadAt_6 (by decide) ?_
  refine fx_istore 7 (lv' := [(4, .int (0 : Int32)), (3, .int (-2147483648 : Int32)), (2, .int (2147483647 : Int32)), (0, .ref 58), (1, .int x1)]) dX4_spreadAt_7 (Nat.le_of_ble_eq_true rfl) rfl ?_
  refine fx_sub [3, 4, 2, 1, 0] rfl ?_
  refine vX4_spreadAt_L9 (fun y2_9 y3_9 y4_9 M9 h => ?_) 1000 _ _ _ _ h
  refine fx_iload_n 59 dX4_spreadAt_59 rfl 2 rfl ?_
  refine fx_iload_n 60 dX4_spreadAt_60 rfl 3 rfl ?_
  have J : fx_V gC mX4_spreadAt (fx_ri R) 71 [(0, .ref 58), (1, .int x1), (2, .int y2_9), (3, .int y3_9), (4, .int y4_9)] [.int (if y2_9 ≤ y3_9 then y3_9 - y2_9 else (0 : Int32))] M9 := by
    obtain rfl := Option.some.inj h
    exact fx_iret 71 dX4_spreadAt_71 rfl rfl ⟨rfl, rfl⟩
  refine fx_icmp_le 61 68 dX4_spreadAt_61 (by decide) (fun c61 => ?_) (fun c61 => ?_)
  · refine fx_iload_n 68 dX4_spreadAt_68 rfl 3 rfl ?_
    refine fx_iload_n 69 dX4_spreadAt_69 rfl 2 rfl ?_
    refine fx_isub 70 dX4_spreadAt_70 ?_
    refine fx_sub (lv' := [(0, .ref 58), (1, .int x1), (2, .int y2_9), (3, .int y3_9), (4, .int y4_9)]) [0, 1, 2, 3, 4] rfl ?_
    show fx_V gC mX4_spreadAt (fx_ri R) 71 [(0, .ref 58), (1, .int x1), (2, .int y2_9), (3, .int y3_9), (4, .int y4_9)] [.int (y3_9 - y2_9)] M9
    simpa only [if_pos c61] using J
  · refine fx_iconst 64 (x := (0 : Int32)) dX4_spreadAt_64 (by decide) ?_
    refine fx_goto 65 71 dX4_spreadAt_65 (by decide) ?_
    refine fx_sub (lv' := [(0, .ref 58), (1, .int x1), (2, .int y2_9), (3, .int y3_9), (4, .int y4_9)]) [0, 1, 2, 3, 4] rfl ?_
    show fx_V gC mX4_spreadAt (fx_ri R) 71 [(0, .ref 58), (1, .int x1), (2, .int y2_9), (3, .int y3_9), (4, .int y4_9)] [.int (0 : Int32)] M9
    simpa only [if_neg c61] using J
def mX4_loudTogether : fxM := (yX4_loudTogether, cX4_loudTogether, 7, (some .int), 7, 280)
theorem okvX4_loudTogether (f l : Nat) : fx_okV (yX4_loudTogether, cX4_loudTogether, 7, (some .int), f, l) 2 := ⟨⟨rin26 _ (List.mem_of_getElem? (i := 20) rfl), rin2 _ (List.mem_of_getElem? (i := 13) rfl), by show yX4_loudTogether.cls ≠ _; decide +kernel, by show yX4_loudTogether.cls ≠ _; decide +kernel, by show (parseMethodDescriptor yX4_loudTogether.desc).map _ = _; decide +kernel⟩, rin26 _ (List.mem_of_getElem? (i := 18) rfl), rin26 _ (List.mem_of_getElem? (i := 19) rfl)⟩
def CX4_loudTogether_L8 (x1 : Int32) (x2 : Int32) : Nat → Int32 → Int32 → Int32 → fxMem → (Int32 → Int32 → Int32 → fxMem → Option (Int32 × fxMem)) → Option (Int32 × fxMem)
  | 0, _, _, _, _, _ => none
  | n + 1, x3, x4, x5, M, k => if M 1 0 ≤ x5 then k x3 x4 x5 M else Option.bind (CX4_loudness x5 M) fun q23 => CX4_loudTogether_L8 x1 x2 n (if x3 = (-1 : Int32) then x5 else (if q23.1 ≤ x4 then x3 else x5)) (if x3 = (-1 : Int32) then q23.1 else (if q23.1 ≤ x4 then x4 else q23.1)) (x5 + (1 : Int32)) q23.2 k
set_option maxRecDepth 100000 in
set_option maxHeartbeats 4000000 in
theorem vX4_loudTogether_L8 {x1 : Int32} {x2 : Int32} {R : Int32 × fxMem} {k : Int32 → Int32 → Int32 → fxMem → Option (Int32 × fxMem)} (hk : ∀ (x3 : Int32) (x4 : Int32) (x5 : Int32) (M : fxMem), k x3 x4 x5 M = some R → fx_V gC mX4_loudTogether (fx_ri R) 53 [(0, .ref 58), (1, .int x1), (2, .int x2), (3, .int x3), (4, .int x4), (5, .int x5)] [] M) : ∀ (n : Nat) (x3 : Int32) (x4 : Int32) (x5 : Int32) (M : fxMem), CX4_loudTogether_L8 x1 x2 n x3 x4 x5 M k = some R → fx_V gC mX4_loudTogether (fx_ri R) 8 [(0, .ref 58), (1, .int x1), (2, .int x2), (3, .int x3), (4, .int x4), (5, .int x5)] [] M := by
  intro n
  induction n with
  | zero => intro x3 x4 x5 M h; rw [CX4_loudTogether_L8] at h; cases h
  | succ n ih =>
    intro x3 x4 x5 M h
    rw [CX4_loudTogether_L8] at h
    refine fx_iload 8 dX4_loudTogether_8 5 rfl ?_
    refine fx_aload_n 10 dX4_loudTogether_10 rfl 0 rfl ?_
    refine fx_get 11 (j := 0) (v := .ref 1) okc58 dX4_loudTogether_11 lfX4_42 (by decide) (fun _ => rfl) ?_
    refine fx_get 14 (j := 0) (v := .int (M 1 0)) okc1 dX4_loudTogether_14 lfX4_69 (by decide) (fun _ => rfl) ?_
    refine fx_icmp_ge 17 53 dX4_loudTogether_17 (by decide) (fun c17 => ?_) (fun c17 => ?_)
    · replace h := fx_ip c17 h
      refine fx_sub [0, 1, 2, 3, 4, 5] rfl ?_
      exact hk _ _ _ _ h
    · replace h := fx_ne c17 h
      refine fx_aload_n 20 dX4_loudTogether_20 rfl 0 rfl ?_
      refine fx_iload 21 dX4_loudTogether_21 5 rfl ?_
      obtain ⟨q23, e23, h⟩ := fx_bd h
      refine fx_callVi 23 (mt' := mX4_loudness) (As := [.int x5]) okc58 (okvX4_loudness _ _) lmX4_141 (by decide) rfl rfl (Nat.le_of_ble_eq_true rfl) dX4_loudTogether_23 (tX4_loudness e23) ?_
      refine fx_istore 26 (lv' := [(6, .int q23.1), (0, .ref 58), (1, .int x1), (2, .int x2), (3, .int x3), (4, .int x4), (5, .int x5)]) dX4_loudTogether_26 (Nat.le_of_ble_eq_true rfl) rfl ?_
      refine fx_iload_n 28 dX4_loudTogether_28 rfl 4 rfl ?_
      refine fx_iconst 29 (x := (-1 : Int32)) dX4_loudTogether_29 (by decide) ?_
      have J : fx_V gC mX4_loudTogether (fx_ri R) 47 [(0, .ref 58), (1, .int x1), (2, .int x2), (3, .int (if x3 = (-1 : Int32) then x5 else (if q23.1 ≤ x4 then x3 else x5))), (4, .int (if x3 = (-1 : Int32) then q23.1 else (if q23.1 ≤ x4 then x4 else q23.1))), (5, .int x5), (6, .int q23.1)] [] q23.2 := by
        refine fx_iinc 47 (lv' := [(5, .int (x5 + (1 : Int32))), (0, .ref 58), (1, .int x1), (2, .int x2), (3, .int (if x3 = (-1 : Int32) then x5 else (if q23.1 ≤ x4 then x3 else x5))), (4, .int (if x3 = (-1 : Int32) then q23.1 else (if q23.1 ≤ x4 then x4 else q23.1))), (6, .int q23.1)]) (y := x5 + (1 : Int32)) dX4_loudTogether_47 5 rfl (by rfl) (Nat.le_of_ble_eq_true rfl) rfl ?_
        refine fx_goto 50 8 dX4_loudTogether_50 (by decide) ?_
        refine fx_sub [1, 2, 3, 4, 5, 0] rfl ?_
        exact ih _ _ _ _ h
      refine fx_icmp_eq 30 40 dX4_loudTogether_30 (by decide) (fun c30 => ?_) (fun c30 => ?_)
      · refine fx_iload 40 dX4_loudTogether_40 6 rfl ?_
        refine fx_istore_n 42 (lv' := [(3, .int x5), (6, .int q23.1), (0, .ref 58), (1, .int x1), (2, .int x2), (4, .int x4), (5, .int x5)]) dX4_loudTogether_42 rfl (Nat.le_of_ble_eq_true rfl) rfl ?_
        refine fx_iload 43 dX4_loudTogether_43 1 rfl ?_
        refine fx_istore 45 (lv' := [(4, .int q23.1), (3, .int x5), (6, .int q23.1), (0, .ref 58), (1, .int x1), (2, .int x2), (5, .int x5)]) dX4_loudTogether_45 (Nat.le_of_ble_eq_true rfl) rfl ?_
        refine fx_sub (lv' := [(0, .ref 58), (1, .int x1), (2, .int x2), (3, .int x5), (4, .int q23.1), (5, .int x5), (6, .int q23.1)]) [3, 4, 5, 1, 0, 6, 2] rfl ?_
        show fx_V gC mX4_loudTogether (fx_ri R) 47 [(0, .ref 58), (1, .int x1), (2, .int x2), (3, .int x5), (4, .int q23.1), (5, .int x5), (6, .int q23.1)] [] q23.2
        simpa only [if_pos c30] using J
      · refine fx_iload 33 dX4_loudTogether_33 0 rfl ?_
        refine fx_iload 35 dX4_loudTogether_35 5 rfl ?_
        refine fx_icmp_le 37 47 dX4_loudTogether_37 (by decide) (fun c37 => ?_) (fun c37 => ?_)
        · refine fx_sub (lv' := [(0, .ref 58), (1, .int x1), (2, .int x2), (3, .int x3), (4, .int x4), (5, .int x5), (6, .int q23.1)]) [1, 2, 3, 4, 5, 6, 0] rfl ?_
          show fx_V gC mX4_loudTogether (fx_ri R) 47 [(0, .ref 58), (1, .int x1), (2, .int x2), (3, .int x3), (4, .int x4), (5, .int x5), (6, .int q23.1)] [] q23.2
          simpa only [if_neg c30, if_pos c37] using J
        · refine fx_iload 40 dX4_loudTogether_40 6 rfl ?_
          refine fx_istore_n 42 (lv' := [(3, .int x5), (6, .int q23.1), (0, .ref 58), (1, .int x1), (2, .int x2), (4, .int x4), (5, .int x5)]) dX4_loudTogether_42 rfl (Nat.le_of_ble_eq_true rfl) rfl ?_
          refine fx_iload 43 dX4_loudTogether_43 1 rfl ?_
          refine fx_istore 45 (lv' := [(4, .int q23.1), (3, .int x5), (6, .int q23.1), (0, .ref 58), (1, .int x1), (2, .int x2), (5, .int x5)]) dX4_loudTogether_45 (Nat.le_of_ble_eq_true rfl) rfl ?_
          refine fx_sub (lv' := [(0, .ref 58), (1, .int x1), (2, .int x2), (3, .int x5), (4, .int q23.1), (5, .int x5), (6, .int q23.1)]) [3, 4, 5, 1, 0, 6, 2] rfl ?_
          show fx_V gC mX4_loudTogether (fx_ri R) 47 [(0, .ref 58), (1, .int x1), (2, .int x2), (3, .int x5), (4, .int q23.1), (5, .int x5), (6, .int q23.1)] [] q23.2
          simpa only [if_neg c30, if_neg c37] using J
def CX4_loudTogether_L59 (x1 : Int32) (x2 : Int32) (x3 : Int32) (x4 : Int32) : Nat → Int32 → Int32 → fxMem → (Int32 → Int32 → fxMem → Option (Int32 × fxMem)) → Option (Int32 × fxMem)
  | 0, _, _, _, _ => none
  | n + 1, x5, x6, M, k => if M 1 0 ≤ x6 then k x5 x6 M else Option.bind (CX4_arrival x1 x6 M) fun q75 => Option.bind (CX4_arrival x1 x3 q75.2) fun q81 => if x2 < (if (0 : Int32) ≤ q75.1 - q81.1 then q75.1 - q81.1 else (0 : Int32) - (q75.1 - q81.1)) then CX4_loudTogether_L59 x1 x2 x3 x4 n x5 (x6 + (1 : Int32)) q81.2 k else Option.bind (CX4_loudness x6 q81.2) fun q97 => CX4_loudTogether_L59 x1 x2 x3 x4 n (x5 + q97.1) (x6 + (1 : Int32)) q97.2 k
set_option maxRecDepth 100000 in
set_option maxHeartbeats 4000000 in
theorem vX4_loudTogether_L59 {x1 : Int32} {x2 : Int32} {x3 : Int32} {x4 : Int32} {R : Int32 × fxMem} {k : Int32 → Int32 → fxMem → Option (Int32 × fxMem)} (hk : ∀ (x5 : Int32) (x6 : Int32) (M : fxMem), k x5 x6 M = some R → fx_V gC mX4_loudTogether (fx_ri R) 109 [(0, .ref 58), (1, .int x1), (2, .int x2), (3, .int x3), (4, .int x4), (5, .int x5), (6, .int x6)] [] M) : ∀ (n : Nat) (x5 : Int32) (x6 : Int32) (M : fxMem), CX4_loudTogether_L59 x1 x2 x3 x4 n x5 x6 M k = some R → fx_V gC mX4_loudTogether (fx_ri R) 59 [(0, .ref 58), (1, .int x1), (2, .int x2), (3, .int x3), (4, .int x4), (5, .int x5), (6, .int x6)] [] M := by
  intro n
  induction n with
  | zero => intro x5 x6 M h; rw [CX4_loudTogether_L59] at h; cases h
  | succ n ih =>
    intro x5 x6 M h
    rw [CX4_loudTogether_L59] at h
    refine fx_iload 59 dX4_loudTogether_59 6 rfl ?_
    refine fx_aload_n 61 dX4_loudTogether_61 rfl 0 rfl ?_
    refine fx_get 62 (j := 0) (v := .ref 1) okc58 dX4_loudTogether_62 lfX4_42 (by decide) (fun _ => rfl) ?_
    refine fx_get 65 (j := 0) (v := .int (M 1 0)) okc1 dX4_loudTogether_65 lfX4_69 (by decide) (fun _ => rfl) ?_
    refine fx_icmp_ge 68 109 dX4_loudTogether_68 (by decide) (fun c68 => ?_) (fun c68 => ?_)
    · replace h := fx_ip c68 h
      refine fx_sub [0, 1, 2, 3, 4, 5, 6] rfl ?_
      exact hk _ _ _ h
    · replace h := fx_ne c68 h
      refine fx_aload_n 71 dX4_loudTogether_71 rfl 0 rfl ?_
      refine fx_iload_n 72 dX4_loudTogether_72 rfl 1 rfl ?_
      refine fx_iload 73 dX4_loudTogether_73 6 rfl ?_
      obtain ⟨q75, e75, h⟩ := fx_bd h
      refine fx_callVi 75 (mt' := mX4_arrival) (As := [.int x1, .int x6]) okc58 (okvX4_arrival _ _) lmX4_123 (by decide) rfl rfl (Nat.le_of_ble_eq_true rfl) dX4_loudTogether_75 (tX4_arrival e75) ?_
      refine fx_aload_n 78 dX4_loudTogether_78 rfl 0 rfl ?_
      refine fx_iload_n 79 dX4_loudTogether_79 rfl 1 rfl ?_
      refine fx_iload_n 80 dX4_loudTogether_80 rfl 3 rfl ?_
      obtain ⟨q81, e81, h⟩ := fx_bd h
      refine fx_callVi 81 (mt' := mX4_arrival) (As := [.int x1, .int x3]) okc58 (okvX4_arrival _ _) lmX4_123 (by decide) rfl rfl (Nat.le_of_ble_eq_true rfl) dX4_loudTogether_81 (tX4_arrival e81) ?_
      refine fx_isub 84 dX4_loudTogether_84 ?_
      refine fx_mabs 85 dX4_loudTogether_85 lmX4_144 (by decide) (Nat.le_of_ble_eq_true rfl) ?_
      refine fx_iload_n 88 dX4_loudTogether_88 rfl 2 rfl ?_
      refine fx_icmp_gt 89 103 dX4_loudTogether_89 (by decide) (fun c89 => ?_) (fun c89 => ?_)
      · replace h := fx_ip c89 h
        refine fx_iinc 103 (lv' := [(6, .int (x6 + (1 : Int32))), (0, .ref 58), (1, .int x1), (2, .int x2), (3, .int x3), (4, .int x4), (5, .int x5)]) (y := x6 + (1 : Int32)) dX4_loudTogether_103 6 rfl (by rfl) (Nat.le_of_ble_eq_true rfl) rfl ?_
        refine fx_goto 106 59 dX4_loudTogether_106 (by decide) ?_
        refine fx_sub [1, 2, 3, 4, 5, 6, 0] rfl ?_
        exact ih _ _ _ h
      · replace h := fx_ne c89 h
        refine fx_iload 92 dX4_loudTogether_92 5 rfl ?_
        refine fx_aload_n 94 dX4_loudTogether_94 rfl 0 rfl ?_
        refine fx_iload 95 dX4_loudTogether_95 6 rfl ?_
        obtain ⟨q97, e97, h⟩ := fx_bd h
        refine fx_callVi 97 (mt' := mX4_loudness) (As := [.int x6]) okc58 (okvX4_loudness _ _) lmX4_141 (by decide) rfl rfl (Nat.le_of_ble_eq_true rfl) dX4_loudTogether_97 (tX4_loudness e97) ?_
        refine fx_iadd 100 dX4_loudTogether_100 ?_
        refine fx_istore 101 (lv' := [(5, .int (x5 + q97.1)), (0, .ref 58), (1, .int x1), (2, .int x2), (3, .int x3), (4, .int x4), (6, .int x6)]) dX4_loudTogether_101 (Nat.le_of_ble_eq_true rfl) rfl ?_
        refine fx_iinc 103 (lv' := [(6, .int (x6 + (1 : Int32))), (5, .int (x5 + q97.1)), (0, .ref 58), (1, .int x1), (2, .int x2), (3, .int x3), (4, .int x4)]) (y := x6 + (1 : Int32)) dX4_loudTogether_103 6 rfl (by rfl) (Nat.le_of_ble_eq_true rfl) rfl ?_
        refine fx_goto 106 59 dX4_loudTogether_106 (by decide) ?_
        refine fx_sub [2, 3, 4, 5, 6, 1, 0] rfl ?_
        exact ih _ _ _ h
def CX4_loudTogether (x1 : Int32) (x2 : Int32) (M : fxMem) : Option (Int32 × fxMem) := CX4_loudTogether_L8 x1 x2 1000 (-1 : Int32) (0 : Int32) (0 : Int32) M (fun y3_8 y4_8 y5_8 M8 => CX4_loudTogether_L59 x1 x2 y3_8 y4_8 1000 (0 : Int32) (0 : Int32) M8 (fun y5_59 y6_59 M59 => some (y5_59, M59)))
set_option maxRecDepth 100000 in
set_option maxHeartbeats 4000000 in
theorem tX4_loudTogether {x1 : Int32} {x2 : Int32} {M : fxMem} {R : Int32 × fxMem} (h : CX4_loudTogether x1 x2 M = some R) : fx_T gC mX4_loudTogether [.ref 58, .int x1, .int x2] M (fx_ri R) := by
  rw [CX4_loudTogether] at h
  refine fx_enter [(0, .ref 58), (1, .int x1), (2, .int x2)] (by show plainName RX4 = true; decide) (fun _ => rfl) (fun _ => Nat.le_of_ble_eq_true rfl) ?_
  refine fx_iconst 0 (x := (-1 : Int32)) dX4_loudTogether_0 (by decide) ?_
  refine fx_istore_n 1 (lv' := [(3, .int (-1 : Int32)), (0, .ref 58), (1, .int x1), (2, .int x2)]) dX4_loudTogether_1 rfl (Nat.le_of_ble_eq_true rfl) rfl ?_
  refine fx_iconst 2 (x := (0 : Int32)) dX4_loudTogether_2 (by decide) ?_
  refine fx_istore 3 (lv' := [(4, .int (0 : Int32)), (3, .int (-1 : Int32)), (0, .ref 58), (1, .int x1), (2, .int x2)]) dX4_loudTogether_3 (Nat.le_of_ble_eq_true rfl) rfl ?_
  refine fx_iconst 5 (x := (0 : Int32)) dX4_loudTogether_5 (by decide) ?_
  refine fx_istore 6 (lv' := [(5, .int (0 : Int32)), (4, .int (0 : Int32)), (3, .int (-1 : Int32)), (0, .ref 58), (1, .int x1), (2, .int x2)]) dX4_loudTogether_6 (Nat.le_of_ble_eq_true rfl) rfl ?_
  refine fx_sub [3, 4, 5, 2, 1, 0] rfl ?_
  refine vX4_loudTogether_L8 (fun y3_8 y4_8 y5_8 M8 h => ?_) 1000 _ _ _ _ h
  refine fx_iconst 53 (x := (0 : Int32)) dX4_loudTogether_53 (by decide) ?_
  refine fx_istore 54 (lv' := [(5, .int (0 : Int32)), (0, .ref 58), (1, .int x1), (2, .int x2), (3, .int y3_8), (4, .int y4_8)]) dX4_loudTogether_54 (Nat.le_of_ble_eq_true rfl) rfl ?_
  refine fx_iconst 56 (x := (0 : Int32)) dX4_loudTogether_56 (by decide) ?_
  refine fx_istore 57 (lv' := [(6, .int (0 : Int32)), (5, .int (0 : Int32)), (0, .ref 58), (1, .int x1), (2, .int x2), (3, .int y3_8), (4, .int y4_8)]) dX4_loudTogether_57 (Nat.le_of_ble_eq_true rfl) rfl ?_
  refine fx_sub [2, 3, 4, 5, 6, 1, 0] rfl ?_
  refine vX4_loudTogether_L59 (fun y5_59 y6_59 M59 h => ?_) 1000 _ _ _ h
  refine fx_iload 109 dX4_loudTogether_109 5 rfl ?_
  obtain rfl := Option.some.inj h
  exact fx_iret 111 dX4_loudTogether_111 rfl rfl ⟨rfl, rfl⟩
def mX6_spread : fxM := (yX6_spread, cX6_spread, 3, (some .int), 9, 360)
theorem okvX6_spread (f l : Nat) : fx_okV (yX6_spread, cX6_spread, 3, (some .int), f, l) 2 := ⟨⟨rin26 _ (List.mem_of_getElem? (i := 7) rfl), rin1 _ (List.mem_of_getElem? (i := 2) rfl), by show yX6_spread.cls ≠ _; decide +kernel, by show yX6_spread.cls ≠ _; decide +kernel, by show (parseMethodDescriptor yX6_spread.desc).map _ = _; decide +kernel⟩, rin26 _ (List.mem_of_getElem? (i := 5) rfl), rin26 _ (List.mem_of_getElem? (i := 6) rfl)⟩
def CX6_spread (x1 : Int32) (x2 : Int32) (M : fxMem) : Option (Int32 × fxMem) := Option.bind (CX6_isBelow x1 (8 : Int32) M) fun q3 => if q3.1 = (0 : Int32) then some ((-1 : Int32), q3.2) else Option.bind (CX6_isBelow x2 (51 : Int32) q3.2) fun q12 => if q12.1 = (0 : Int32) then some ((-1 : Int32), q12.2) else if x2 = (0 : Int32) then Option.bind (CX6_listen q12.2) fun q25 => Option.bind (CX4_spreadAt x1 q25) fun q29 => some (q29.1, q29.2) else Option.bind (CX6_listen q12.2) fun q36 => Option.bind (CX4_loudTogether x1 (x2 - (1 : Int32)) q36) fun q43 => some (q43.1, q43.2)
set_option maxRecDepth 100000 in
set_option maxHeartbeats 4000000 in
theorem tX6_spread {x1 : Int32} {x2 : Int32} {M : fxMem} {R : Int32 × fxMem} (h : CX6_spread x1 x2 M = some R) : fx_T gC mX6_spread [.ref 0, .int x1, .int x2] M (fx_ri R) := by
  rw [CX6_spread] at h
  refine fx_enter [(0, .ref 0), (1, .int x1), (2, .int x2)] (by show plainName RX6 = true; decide) (fun _ => rfl) (fun _ => Nat.le_of_ble_eq_true rfl) ?_
  refine fx_iload_n 0 dX6_spread_0 rfl 1 rfl ?_
  refine fx_bipush 1 (x := (8 : Int32)) dX6_spread_1 (by decide) ?_
  obtain ⟨q3, e3, h⟩ := fx_bd h
  refine fx_callSi 3 (mt' := mX6_isBelow) (As := [.int x1, .int (8 : Int32)]) (oksX6_isBelow _ _) lmX6_89 (by decide) rfl rfl (Nat.le_of_ble_eq_true rfl) dX6_spread_3 (tX6_isBelow e3) ?_
  refine fx_if_eq 6 18 dX6_spread_6 (by decide) (fun c6 => ?_) (fun c6 => ?_)
  · replace h := fx_ip c6 h
    refine fx_iconst 18 (x := (-1 : Int32)) dX6_spread_18 (by decide) ?_
    obtain rfl := Option.some.inj h
    exact fx_iret 19 dX6_spread_19 rfl rfl ⟨rfl, rfl⟩
  · replace h := fx_ne c6 h
    refine fx_iload_n 9 dX6_spread_9 rfl 2 rfl ?_
    refine fx_bipush 10 (x := (51 : Int32)) dX6_spread_10 (by decide) ?_
    obtain ⟨q12, e12, h⟩ := fx_bd h
    refine fx_callSi 12 (mt' := mX6_isBelow) (As := [.int x2, .int (51 : Int32)]) (oksX6_isBelow _ _) lmX6_89 (by decide) rfl rfl (Nat.le_of_ble_eq_true rfl) dX6_spread_12 (tX6_isBelow e12) ?_
    refine fx_if_ne 15 20 dX6_spread_15 (by decide) (fun c15 => ?_) (fun c15 => ?_)
    · replace h := fx_ne c15 h
      refine fx_iload_n 20 dX6_spread_20 rfl 2 rfl ?_
      refine fx_if_ne 21 35 dX6_spread_21 (by decide) (fun c21 => ?_) (fun c21 => ?_)
      · replace h := fx_ne c21 h
        refine fx_aload_n 35 dX6_spread_35 rfl 0 rfl ?_
        obtain ⟨q36, e36, h⟩ := fx_bd h
        refine fx_callVk 36 (mt' := mX6_listen) (As := []) okc0 (okvX6_listen _ _) lmX6_114 (by decide) rfl rfl (Nat.le_of_ble_eq_true rfl) dX6_spread_36 (tX6_listen e36) ?_
        refine fx_iload_n 39 dX6_spread_39 rfl 1 rfl ?_
        refine fx_iload_n 40 dX6_spread_40 rfl 2 rfl ?_
        refine fx_iconst 41 (x := (1 : Int32)) dX6_spread_41 (by decide) ?_
        refine fx_isub 42 dX6_spread_42 ?_
        obtain ⟨q43, e43, h⟩ := fx_bd h
        refine fx_callVi 43 (mt' := mX4_loudTogether) (As := [.int x1, .int (x2 - (1 : Int32))]) okc58 (okvX4_loudTogether _ _) lmX6_137 (by decide) rfl rfl (Nat.le_of_ble_eq_true rfl) dX6_spread_43 (tX4_loudTogether e43) ?_
        obtain rfl := Option.some.inj h
        exact fx_iret 46 dX6_spread_46 rfl rfl ⟨rfl, rfl⟩
      · replace h := fx_ip c21 h
        refine fx_aload_n 24 dX6_spread_24 rfl 0 rfl ?_
        obtain ⟨q25, e25, h⟩ := fx_bd h
        refine fx_callVk 25 (mt' := mX6_listen) (As := []) okc0 (okvX6_listen _ _) lmX6_114 (by decide) rfl rfl (Nat.le_of_ble_eq_true rfl) dX6_spread_25 (tX6_listen e25) ?_
        refine fx_iload_n 28 dX6_spread_28 rfl 1 rfl ?_
        obtain ⟨q29, e29, h⟩ := fx_bd h
        refine fx_callVi 29 (mt' := mX4_spreadAt) (As := [.int x1]) okc58 (okvX4_spreadAt _ _) lmX6_134 (by decide) rfl rfl (Nat.le_of_ble_eq_true rfl) dX6_spread_29 (tX4_spreadAt e29) ?_
        refine fx_goto 32 46 dX6_spread_32 (by decide) ?_
        obtain rfl := Option.some.inj h
        exact fx_iret 46 dX6_spread_46 rfl rfl ⟨rfl, rfl⟩
    · replace h := fx_ip c15 h
      refine fx_iconst 18 (x := (-1 : Int32)) dX6_spread_18 (by decide) ?_
      obtain rfl := Option.some.inj h
      exact fx_iret 19 dX6_spread_19 rfl rfl ⟨rfl, rfl⟩
def mX4_likeDrum : fxM := (yX4_likeDrum, cX4_likeDrum, 6, (some .int), 7, 280)
theorem okvX4_likeDrum (f l : Nat) : fx_okV (yX4_likeDrum, cX4_likeDrum, 6, (some .int), f, l) 2 := ⟨⟨rin27 _ (List.mem_of_getElem? (i := 23) rfl), rin2 _ (List.mem_of_getElem? (i := 13) rfl), by show yX4_likeDrum.cls ≠ _; decide +kernel, by show yX4_likeDrum.cls ≠ _; decide +kernel, by show (parseMethodDescriptor yX4_likeDrum.desc).map _ = _; decide +kernel⟩, rin27 _ (List.mem_of_getElem? (i := 21) rfl), rin27 _ (List.mem_of_getElem? (i := 22) rfl)⟩
def CX4_likeDrum_L2 (x1 : Int32) (x2 : Int32) : Nat → Int32 → fxMem → (Int32 → fxMem → Option (Int32 × fxMem)) → Option (Int32 × fxMem)
  | 0, _, _, _ => none
  | n + 1, x3, M, k => if M 1 0 ≤ x3 then k x3 M else if fx_in x3 10 = true then CX4_likeDrum_L2 x1 x2 n (x3 + (1 : Int32)) (fx_st M 59 x3.toNatClampNeg (0 : Int32)) k else none
set_option maxRecDepth 100000 in
set_option maxHeartbeats 4000000 in
theorem vX4_likeDrum_L2 {x1 : Int32} {x2 : Int32} {R : Int32 × fxMem} {k : Int32 → fxMem → Option (Int32 × fxMem)} (hk : ∀ (x3 : Int32) (M : fxMem), k x3 M = some R → fx_V gC mX4_likeDrum (fx_ri R) 26 [(0, .ref 58), (1, .int x1), (2, .int x2), (3, .int x3)] [] M) : ∀ (n : Nat) (x3 : Int32) (M : fxMem), CX4_likeDrum_L2 x1 x2 n x3 M k = some R → fx_V gC mX4_likeDrum (fx_ri R) 2 [(0, .ref 58), (1, .int x1), (2, .int x2), (3, .int x3)] [] M := by
  intro n
  induction n with
  | zero => intro x3 M h; rw [CX4_likeDrum_L2] at h; cases h
  | succ n ih =>
    intro x3 M h
    rw [CX4_likeDrum_L2] at h
    refine fx_iload_n 2 dX4_likeDrum_2 rfl 3 rfl ?_
    refine fx_aload_n 3 dX4_likeDrum_3 rfl 0 rfl ?_
    refine fx_get 4 (j := 0) (v := .ref 1) okc58 dX4_likeDrum_4 lfX4_42 (by decide) (fun _ => rfl) ?_
    refine fx_get 7 (j := 0) (v := .int (M 1 0)) okc1 dX4_likeDrum_7 lfX4_69 (by decide) (fun _ => rfl) ?_
    refine fx_icmp_ge 10 26 dX4_likeDrum_10 (by decide) (fun c10 => ?_) (fun c10 => ?_)
    · replace h := fx_ip c10 h
      refine fx_sub [0, 1, 2, 3] rfl ?_
      exact hk _ _ h
    · replace h := fx_ne c10 h
      refine fx_aload_n 13 dX4_likeDrum_13 rfl 0 rfl ?_
      refine fx_get 14 (j := 4) (v := .ref 59) okc58 dX4_likeDrum_14 lfX4_18 (by decide) (fun _ => rfl) ?_
      refine fx_iload_n 17 dX4_likeDrum_17 rfl 3 rfl ?_
      refine fx_iconst 18 (x := (0 : Int32)) dX4_likeDrum_18 (by decide) ?_
      obtain ⟨g19, h⟩ := fx_gt h
      refine fx_iast 19 oka59 dX4_likeDrum_19 g19 ?_
      refine fx_iinc 20 (lv' := [(3, .int (x3 + (1 : Int32))), (0, .ref 58), (1, .int x1), (2, .int x2)]) (y := x3 + (1 : Int32)) dX4_likeDrum_20 3 rfl (by rfl) (Nat.le_of_ble_eq_true rfl) rfl ?_
      refine fx_goto 23 2 dX4_likeDrum_23 (by decide) ?_
      refine fx_sub [1, 2, 3, 0] rfl ?_
      exact ih _ _ h
def CX4_likeDrum_L64 (x1 : Int32) (x2 : Int32) (x3 : Int32) : Nat → Int32 → Int32 → fxMem → (Int32 → Int32 → fxMem → Option (Int32 × fxMem)) → Option (Int32 × fxMem)
  | 0, _, _, _, _ => none
  | n + 1, x4, x5, M, k => if M 1 0 ≤ x5 then k x4 x5 M else Option.bind (CX4_arrival x1 x5 M) fun q80 => CX4_likeDrum_L64 x1 x2 x3 n (if x2 < (if (0 : Int32) ≤ q80.1 - x3 then q80.1 - x3 else (0 : Int32) - (q80.1 - x3)) then x4 else x4 ||| ((1 : Int32) <<< (x5 &&& 31))) (x5 + (1 : Int32)) q80.2 k
set_option maxRecDepth 100000 in
set_option maxHeartbeats 4000000 in
theorem vX4_likeDrum_L64 {x1 : Int32} {x2 : Int32} {x3 : Int32} {R : Int32 × fxMem} {k : Int32 → Int32 → fxMem → Option (Int32 × fxMem)} (hk : ∀ (x4 : Int32) (x5 : Int32) (M : fxMem), k x4 x5 M = some R → fx_V gC mX4_likeDrum (fx_ri R) 107 [(0, .ref 58), (1, .int x1), (2, .int x2), (3, .int x3), (4, .int x4), (5, .int x5)] [] M) : ∀ (n : Nat) (x4 : Int32) (x5 : Int32) (M : fxMem), CX4_likeDrum_L64 x1 x2 x3 n x4 x5 M k = some R → fx_V gC mX4_likeDrum (fx_ri R) 64 [(0, .ref 58), (1, .int x1), (2, .int x2), (3, .int x3), (4, .int x4), (5, .int x5)] [] M := by
  intro n
  induction n with
  | zero => intro x4 x5 M h; rw [CX4_likeDrum_L64] at h; cases h
  | succ n ih =>
    intro x4 x5 M h
    rw [CX4_likeDrum_L64] at h
    refine fx_iload 64 dX4_likeDrum_64 5 rfl ?_
    refine fx_aload_n 66 dX4_likeDrum_66 rfl 0 rfl ?_
    refine fx_get 67 (j := 0) (v := .ref 1) okc58 dX4_likeDrum_67 lfX4_42 (by decide) (fun _ => rfl) ?_
    refine fx_get 70 (j := 0) (v := .int (M 1 0)) okc1 dX4_likeDrum_70 lfX4_69 (by decide) (fun _ => rfl) ?_
    refine fx_icmp_ge 73 107 dX4_likeDrum_73 (by decide) (fun c73 => ?_) (fun c73 => ?_)
    · replace h := fx_ip c73 h
      refine fx_sub [0, 1, 2, 3, 4, 5] rfl ?_
      exact hk _ _ _ h
    · replace h := fx_ne c73 h
      refine fx_aload_n 76 dX4_likeDrum_76 rfl 0 rfl ?_
      refine fx_iload_n 77 dX4_likeDrum_77 rfl 1 rfl ?_
      refine fx_iload 78 dX4_likeDrum_78 5 rfl ?_
      obtain ⟨q80, e80, h⟩ := fx_bd h
      refine fx_callVi 80 (mt' := mX4_arrival) (As := [.int x1, .int x5]) okc58 (okvX4_arrival _ _) lmX4_123 (by decide) rfl rfl (Nat.le_of_ble_eq_true rfl) dX4_likeDrum_80 (tX4_arrival e80) ?_
      refine fx_iload_n 83 dX4_likeDrum_83 rfl 3 rfl ?_
      refine fx_isub 84 dX4_likeDrum_84 ?_
      refine fx_mabs 85 dX4_likeDrum_85 lmX4_144 (by decide) (Nat.le_of_ble_eq_true rfl) ?_
      refine fx_iload_n 88 dX4_likeDrum_88 rfl 2 rfl ?_
      have J : fx_V gC mX4_likeDrum (fx_ri R) 101 [(0, .ref 58), (1, .int x1), (2, .int x2), (3, .int x3), (4, .int (if x2 < (if (0 : Int32) ≤ q80.1 - x3 then q80.1 - x3 else (0 : Int32) - (q80.1 - x3)) then x4 else x4 ||| ((1 : Int32) <<< (x5 &&& 31)))), (5, .int x5)] [] q80.2 := by
        refine fx_iinc 101 (lv' := [(5, .int (x5 + (1 : Int32))), (0, .ref 58), (1, .int x1), (2, .int x2), (3, .int x3), (4, .int (if x2 < (if (0 : Int32) ≤ q80.1 - x3 then q80.1 - x3 else (0 : Int32) - (q80.1 - x3)) then x4 else x4 ||| ((1 : Int32) <<< (x5 &&& 31))))]) (y := x5 + (1 : Int32)) dX4_likeDrum_101 5 rfl (by rfl) (Nat.le_of_ble_eq_true rfl) rfl ?_
        refine fx_goto 104 64 dX4_likeDrum_104 (by decide) ?_
        refine fx_sub [1, 2, 3, 4, 5, 0] rfl ?_
        exact ih _ _ _ h
      refine fx_icmp_gt 89 101 dX4_likeDrum_89 (by decide) (fun c89 => ?_) (fun c89 => ?_)
      · refine fx_sub (lv' := [(0, .ref 58), (1, .int x1), (2, .int x2), (3, .int x3), (4, .int x4), (5, .int x5)]) [0, 1, 2, 3, 4, 5] rfl ?_
        show fx_V gC mX4_likeDrum (fx_ri R) 101 [(0, .ref 58), (1, .int x1), (2, .int x2), (3, .int x3), (4, .int x4), (5, .int x5)] [] q80.2
        simpa only [if_pos c89] using J
      · refine fx_iload 92 dX4_likeDrum_92 4 rfl ?_
        refine fx_iconst 94 (x := (1 : Int32)) dX4_likeDrum_94 (by decide) ?_
        refine fx_iload 95 dX4_likeDrum_95 5 rfl ?_
        refine fx_ishl 97 dX4_likeDrum_97 ?_
        refine fx_ior 98 dX4_likeDrum_98 ?_
        refine fx_istore 99 (lv' := [(4, .int (x4 ||| ((1 : Int32) <<< (x5 &&& 31)))), (0, .ref 58), (1, .int x1), (2, .int x2), (3, .int x3), (5, .int x5)]) dX4_likeDrum_99 (Nat.le_of_ble_eq_true rfl) rfl ?_
        refine fx_sub (lv' := [(0, .ref 58), (1, .int x1), (2, .int x2), (3, .int x3), (4, .int (x4 ||| ((1 : Int32) <<< (x5 &&& 31)))), (5, .int x5)]) [1, 2, 3, 4, 0, 5] rfl ?_
        show fx_V gC mX4_likeDrum (fx_ri R) 101 [(0, .ref 58), (1, .int x1), (2, .int x2), (3, .int x3), (4, .int (x4 ||| ((1 : Int32) <<< (x5 &&& 31)))), (5, .int x5)] [] q80.2
        simpa only [if_neg c89] using J
def CX4_likeDrum (x1 : Int32) (x2 : Int32) (M : fxMem) : Option (Int32 × fxMem) := CX4_likeDrum_L2 x1 x2 1000 (0 : Int32) M (fun y3_2 M2 => Option.bind (CX4_slipAll M2) fun q27 => Option.bind (CX4_arrange q27) fun q31 => Option.bind (CX4_playAll q31) fun q35 => if fx_isSh ((q35 58 1).toNatClampNeg) = true then Option.bind (CX6_placeOfSeat x1 q35) fun q46 => Option.bind (CX6_far q46.1 (q46.2 58 2) q46.2) fun q53 => CX4_likeDrum_L64 x1 x2 ((q35 ((q35 58 1).toNatClampNeg) 0) * q53.1) 1000 (0 : Int32) (0 : Int32) q53.2 (fun y4_64 y5_64 M64 => some (y4_64, M64)) else none)
set_option maxRecDepth 100000 in
set_option maxHeartbeats 4000000 in
theorem tX4_likeDrum {x1 : Int32} {x2 : Int32} {M : fxMem} {R : Int32 × fxMem} (h : CX4_likeDrum x1 x2 M = some R) : fx_T gC mX4_likeDrum [.ref 58, .int x1, .int x2] M (fx_ri R) := by
  rw [CX4_likeDrum] at h
  refine fx_enter [(0, .ref 58), (1, .int x1), (2, .int x2)] (by show plainName RX4 = true; decide) (fun _ => rfl) (fun _ => Nat.le_of_ble_eq_true rfl) ?_
  refine fx_iconst 0 (x := (0 : Int32)) dX4_likeDrum_0 (by decide) ?_
  refine fx_istore_n 1 (lv' := [(3, .int (0 : Int32)), (0, .ref 58), (1, .int x1), (2, .int x2)]) dX4_likeDrum_1 rfl (Nat.le_of_ble_eq_true rfl) rfl ?_
  refine fx_sub [1, 2, 3, 0] rfl ?_
  refine vX4_likeDrum_L2 (fun y3_2 M2 h => ?_) 1000 _ _ h
  refine fx_aload_n 26 dX4_likeDrum_26 rfl 0 rfl ?_
  obtain ⟨q27, e27, h⟩ := fx_bd h
  refine fx_callVv 27 (mt' := mX4_slipAll) (As := []) okc58 (okvX4_slipAll _ _) lmX4_60 (by decide) rfl rfl (Nat.le_of_ble_eq_true rfl) dX4_likeDrum_27 (tX4_slipAll e27) ?_
  refine fx_aload_n 30 dX4_likeDrum_30 rfl 0 rfl ?_
  obtain ⟨q31, e31, h⟩ := fx_bd h
  refine fx_callVv 31 (mt' := mX4_arrange) (As := []) okc58 (okvX4_arrange _ _) lmX4_63 (by decide) rfl rfl (Nat.le_of_ble_eq_true rfl) dX4_likeDrum_31 (tX4_arrange e31) ?_
  refine fx_aload_n 34 dX4_likeDrum_34 rfl 0 rfl ?_
  obtain ⟨q35, e35, h⟩ := fx_bd h
  refine fx_callVv 35 (mt' := mX4_playAll) (As := []) okc58 (okvX4_playAll _ _) lmX4_66 (by decide) rfl rfl (Nat.le_of_ble_eq_true rfl) dX4_likeDrum_35 (tX4_playAll e35) ?_
  refine fx_aload_n 38 dX4_likeDrum_38 rfl 0 rfl ?_
  refine fx_get 39 (j := 1) (v := .ref ((q35 58 1).toNatClampNeg)) okc58 dX4_likeDrum_39 lfX4_46 (by decide) (fun _ => rfl) ?_
  obtain ⟨g42, h⟩ := fx_gt h
  refine fx_get 42 (j := 0) (v := .int (q35 ((q35 58 1).toNatClampNeg) 0)) (okcS g42) dX4_likeDrum_42 lfX4_111 (by decide) (fun _ => rfl) ?_
  refine fx_iload_n 45 dX4_likeDrum_45 rfl 1 rfl ?_
  obtain ⟨q46, e46, h⟩ := fx_bd h
  refine fx_callNi 46 (mt' := mX6_placeOfSeat) (host := "FieldBand") (As := [.int x1]) (oksX6_placeOfSeat _ _) (List.mem_of_getElem? (i := 7) rfl) (by decide) rfl rfl (Nat.le_of_ble_eq_true rfl) dX4_likeDrum_46 (tX6_placeOfSeat e46) ?_
  refine fx_aload_n 49 dX4_likeDrum_49 rfl 0 rfl ?_
  refine fx_get 50 (j := 2) (v := .int (q46.2 58 2)) okc58 dX4_likeDrum_50 lfX4_9 (by decide) (fun _ => rfl) ?_
  obtain ⟨q53, e53, h⟩ := fx_bd h
  refine fx_callNi 53 (mt' := mX6_far) (host := "FieldBand") (As := [.int q46.1, .int (q46.2 58 2)]) (oksX6_far _ _) (List.mem_of_getElem? (i := 6) rfl) (by decide) rfl rfl (Nat.le_of_ble_eq_true rfl) dX4_likeDrum_53 (tX6_far e53) ?_
  refine fx_imul 56 dX4_likeDrum_56 ?_
  refine fx_istore_n 57 (lv' := [(3, .int ((q35 ((q35 58 1).toNatClampNeg) 0) * q53.1)), (0, .ref 58), (1, .int x1), (2, .int x2)]) dX4_likeDrum_57 rfl (Nat.le_of_ble_eq_true rfl) rfl ?_
  refine fx_iconst 58 (x := (0 : Int32)) dX4_likeDrum_58 (by decide) ?_
  refine fx_istore 59 (lv' := [(4, .int (0 : Int32)), (3, .int ((q35 ((q35 58 1).toNatClampNeg) 0) * q53.1)), (0, .ref 58), (1, .int x1), (2, .int x2)]) dX4_likeDrum_59 (Nat.le_of_ble_eq_true rfl) rfl ?_
  refine fx_iconst 61 (x := (0 : Int32)) dX4_likeDrum_61 (by decide) ?_
  refine fx_istore 62 (lv' := [(5, .int (0 : Int32)), (4, .int (0 : Int32)), (3, .int ((q35 ((q35 58 1).toNatClampNeg) 0) * q53.1)), (0, .ref 58), (1, .int x1), (2, .int x2)]) dX4_likeDrum_62 (Nat.le_of_ble_eq_true rfl) rfl ?_
  refine fx_sub [3, 4, 5, 2, 1, 0] rfl ?_
  refine vX4_likeDrum_L64 (fun y4_64 y5_64 M64 h => ?_) 1000 _ _ _ h
  refine fx_iload 107 dX4_likeDrum_107 4 rfl ?_
  obtain rfl := Option.some.inj h
  exact fx_iret 109 dX4_likeDrum_109 rfl rfl ⟨rfl, rfl⟩
def mX6_back : fxM := (yX6_back, cX6_back, 3, (some .int), 9, 360)
theorem okvX6_back (f l : Nat) : fx_okV (yX6_back, cX6_back, 3, (some .int), f, l) 2 := ⟨⟨rin27 _ (List.mem_of_getElem? (i := 19) rfl), rin1 _ (List.mem_of_getElem? (i := 2) rfl), by show yX6_back.cls ≠ _; decide +kernel, by show yX6_back.cls ≠ _; decide +kernel, by show (parseMethodDescriptor yX6_back.desc).map _ = _; decide +kernel⟩, rin27 _ (List.mem_of_getElem? (i := 17) rfl), rin27 _ (List.mem_of_getElem? (i := 18) rfl)⟩
def CX6_back (x1 : Int32) (x2 : Int32) (M : fxMem) : Option (Int32 × fxMem) := Option.bind (CX6_isBelow x1 (8 : Int32) M) fun q3 => if q3.1 = (0 : Int32) then some ((-1 : Int32), q3.2) else Option.bind (CX6_isBelow x2 (100 : Int32) q3.2) fun q14 => if q14.1 = (0 : Int32) then some ((-2 : Int32), q14.2) else Option.bind (CX6_listen q14.2) fun q24 => Option.bind (CX4_likeDrum x1 x2 q24) fun q29 => some (q29.1, q29.2)
set_option maxRecDepth 100000 in
set_option maxHeartbeats 4000000 in
theorem tX6_back {x1 : Int32} {x2 : Int32} {M : fxMem} {R : Int32 × fxMem} (h : CX6_back x1 x2 M = some R) : fx_T gC mX6_back [.ref 0, .int x1, .int x2] M (fx_ri R) := by
  rw [CX6_back] at h
  refine fx_enter [(0, .ref 0), (1, .int x1), (2, .int x2)] (by show plainName RX6 = true; decide) (fun _ => rfl) (fun _ => Nat.le_of_ble_eq_true rfl) ?_
  refine fx_iload_n 0 dX6_back_0 rfl 1 rfl ?_
  refine fx_bipush 1 (x := (8 : Int32)) dX6_back_1 (by decide) ?_
  obtain ⟨q3, e3, h⟩ := fx_bd h
  refine fx_callSi 3 (mt' := mX6_isBelow) (As := [.int x1, .int (8 : Int32)]) (oksX6_isBelow _ _) lmX6_89 (by decide) rfl rfl (Nat.le_of_ble_eq_true rfl) dX6_back_3 (tX6_isBelow e3) ?_
  refine fx_if_ne 6 11 dX6_back_6 (by decide) (fun c6 => ?_) (fun c6 => ?_)
  · replace h := fx_ne c6 h
    refine fx_iload_n 11 dX6_back_11 rfl 2 rfl ?_
    refine fx_bipush 12 (x := (100 : Int32)) dX6_back_12 (by decide) ?_
    obtain ⟨q14, e14, h⟩ := fx_bd h
    refine fx_callSi 14 (mt' := mX6_isBelow) (As := [.int x2, .int (100 : Int32)]) (oksX6_isBelow _ _) lmX6_89 (by decide) rfl rfl (Nat.le_of_ble_eq_true rfl) dX6_back_14 (tX6_isBelow e14) ?_
    refine fx_if_ne 17 23 dX6_back_17 (by decide) (fun c17 => ?_) (fun c17 => ?_)
    · replace h := fx_ne c17 h
      refine fx_aload_n 23 dX6_back_23 rfl 0 rfl ?_
      obtain ⟨q24, e24, h⟩ := fx_bd h
      refine fx_callVk 24 (mt' := mX6_listen) (As := []) okc0 (okvX6_listen _ _) lmX6_114 (by decide) rfl rfl (Nat.le_of_ble_eq_true rfl) dX6_back_24 (tX6_listen e24) ?_
      refine fx_iload_n 27 dX6_back_27 rfl 1 rfl ?_
      refine fx_iload_n 28 dX6_back_28 rfl 2 rfl ?_
      obtain ⟨q29, e29, h⟩ := fx_bd h
      refine fx_callVi 29 (mt' := mX4_likeDrum) (As := [.int x1, .int x2]) okc58 (okvX4_likeDrum _ _) lmX6_140 (by decide) rfl rfl (Nat.le_of_ble_eq_true rfl) dX6_back_29 (tX4_likeDrum e29) ?_
      obtain rfl := Option.some.inj h
      exact fx_iret 32 dX6_back_32 rfl rfl ⟨rfl, rfl⟩
    · replace h := fx_ip c17 h
      refine fx_bipush 20 (x := (-2 : Int32)) dX6_back_20 (by decide) ?_
      obtain rfl := Option.some.inj h
      exact fx_iret 22 dX6_back_22 rfl rfl ⟨rfl, rfl⟩
  · replace h := fx_ip c6 h
    refine fx_iconst 9 (x := (-1 : Int32)) dX6_back_9 (by decide) ?_
    obtain rfl := Option.some.inj h
    exact fx_iret 10 dX6_back_10 rfl rfl ⟨rfl, rfl⟩
def mX4_sumOfSpreads : fxM := (yX4_sumOfSpreads, cX4_sumOfSpreads, 3, (some .int), 6, 240)
theorem okvX4_sumOfSpreads (f l : Nat) : fx_okV (yX4_sumOfSpreads, cX4_sumOfSpreads, 3, (some .int), f, l) 0 := ⟨⟨rin28 _ (List.mem_of_getElem? (i := 15) rfl), rin2 _ (List.mem_of_getElem? (i := 13) rfl), by show yX4_sumOfSpreads.cls ≠ _; decide +kernel, by show yX4_sumOfSpreads.cls ≠ _; decide +kernel, by show (parseMethodDescriptor yX4_sumOfSpreads.desc).map _ = _; decide +kernel⟩, rin28 _ (List.mem_of_getElem? (i := 13) rfl), rin28 _ (List.mem_of_getElem? (i := 14) rfl)⟩
def CX4_sumOfSpreads_L4 : Nat → Int32 → Int32 → fxMem → (Int32 → Int32 → fxMem → Option (Int32 × fxMem)) → Option (Int32 × fxMem)
  | 0, _, _, _, _ => none
  | n + 1, x1, x2, M, k => if (8 : Int32) ≤ x2 then k x1 x2 M else Option.bind (CX4_spreadAt x2 M) fun q13 => CX4_sumOfSpreads_L4  n (x1 + q13.1) (x2 + (1 : Int32)) q13.2 k
set_option maxRecDepth 100000 in
set_option maxHeartbeats 4000000 in
theorem vX4_sumOfSpreads_L4 {R : Int32 × fxMem} {k : Int32 → Int32 → fxMem → Option (Int32 × fxMem)} (hk : ∀ (x1 : Int32) (x2 : Int32) (M : fxMem), k x1 x2 M = some R → fx_V gC mX4_sumOfSpreads (fx_ri R) 24 [(0, .ref 58), (1, .int x1), (2, .int x2)] [] M) : ∀ (n : Nat) (x1 : Int32) (x2 : Int32) (M : fxMem), CX4_sumOfSpreads_L4  n x1 x2 M k = some R → fx_V gC mX4_sumOfSpreads (fx_ri R) 4 [(0, .ref 58), (1, .int x1), (2, .int x2)] [] M := by
  intro n
  induction n with
  | zero => intro x1 x2 M h; rw [CX4_sumOfSpreads_L4] at h; cases h
  | succ n ih =>
    intro x1 x2 M h
    rw [CX4_sumOfSpreads_L4] at h
    refine fx_iload_n 4 dX4_sumOfSpreads_4 rfl 2 rfl ?_
    refine fx_bipush 5 (x := (8 : Int32)) dX4_sumOfSpreads_5 (by decide) ?_
    refine fx_icmp_ge 7 24 dX4_sumOfSpreads_7 (by decide) (fun c7 => ?_) (fun c7 => ?_)
    · replace h := fx_ip c7 h
      refine fx_sub [0, 1, 2] rfl ?_
      exact hk _ _ _ h
    · replace h := fx_ne c7 h
      refine fx_iload_n 10 dX4_sumOfSpreads_10 rfl 1 rfl ?_
      refine fx_aload_n 11 dX4_sumOfSpreads_11 rfl 0 rfl ?_
      refine fx_iload_n 12 dX4_sumOfSpreads_12 rfl 2 rfl ?_
      obtain ⟨q13, e13, h⟩ := fx_bd h
      refine fx_callVi 13 (mt' := mX4_spreadAt) (As := [.int x2]) okc58 (okvX4_spreadAt _ _) lmX4_135 (by decide) rfl rfl (Nat.le_of_ble_eq_true rfl) dX4_sumOfSpreads_13 (tX4_spreadAt e13) ?_
      refine fx_iadd 16 dX4_sumOfSpreads_16 ?_
      refine fx_istore_n 17 (lv' := [(1, .int (x1 + q13.1)), (0, .ref 58), (2, .int x2)]) dX4_sumOfSpreads_17 rfl (Nat.le_of_ble_eq_true rfl) rfl ?_
      refine fx_iinc 18 (lv' := [(2, .int (x2 + (1 : Int32))), (1, .int (x1 + q13.1)), (0, .ref 58)]) (y := x2 + (1 : Int32)) dX4_sumOfSpreads_18 2 rfl (by rfl) (Nat.le_of_ble_eq_true rfl) rfl ?_
      refine fx_goto 21 4 dX4_sumOfSpreads_21 (by decide) ?_
      refine fx_sub [2, 1, 0] rfl ?_
      exact ih _ _ _ h
def CX4_sumOfSpreads  (M : fxMem) : Option (Int32 × fxMem) := CX4_sumOfSpreads_L4  1000 (0 : Int32) (0 : Int32) M (fun y1_4 y2_4 M4 => some (y1_4, M4))
set_option maxRecDepth 100000 in
set_option maxHeartbeats 4000000 in
theorem tX4_sumOfSpreads  {M : fxMem} {R : Int32 × fxMem} (h : CX4_sumOfSpreads  M = some R) : fx_T gC mX4_sumOfSpreads [.ref 58] M (fx_ri R) := by
  rw [CX4_sumOfSpreads] at h
  refine fx_enter [(0, .ref 58)] (by show plainName RX4 = true; decide) (fun _ => rfl) (fun _ => Nat.le_of_ble_eq_true rfl) ?_
  refine fx_iconst 0 (x := (0 : Int32)) dX4_sumOfSpreads_0 (by decide) ?_
  refine fx_istore_n 1 (lv' := [(1, .int (0 : Int32)), (0, .ref 58)]) dX4_sumOfSpreads_1 rfl (Nat.le_of_ble_eq_true rfl) rfl ?_
  refine fx_iconst 2 (x := (0 : Int32)) dX4_sumOfSpreads_2 (by decide) ?_
  refine fx_istore_n 3 (lv' := [(2, .int (0 : Int32)), (1, .int (0 : Int32)), (0, .ref 58)]) dX4_sumOfSpreads_3 rfl (Nat.le_of_ble_eq_true rfl) rfl ?_
  refine fx_sub [2, 1, 0] rfl ?_
  refine vX4_sumOfSpreads_L4 (fun y1_4 y2_4 M4 h => ?_) 1000 _ _ _ h
  refine fx_iload_n 24 dX4_sumOfSpreads_24 rfl 1 rfl ?_
  obtain rfl := Option.some.inj h
  exact fx_iret 25 dX4_sumOfSpreads_25 rfl rfl ⟨rfl, rfl⟩
def mX4_sumWithDrumOn : fxM := (yX4_sumWithDrumOn, cX4_sumWithDrumOn, 2, (some .int), 7, 280)
theorem okvX4_sumWithDrumOn (f l : Nat) : fx_okV (yX4_sumWithDrumOn, cX4_sumWithDrumOn, 2, (some .int), f, l) 1 := ⟨⟨rin28 _ (List.mem_of_getElem? (i := 11) rfl), rin2 _ (List.mem_of_getElem? (i := 13) rfl), by show yX4_sumWithDrumOn.cls ≠ _; decide +kernel, by show yX4_sumWithDrumOn.cls ≠ _; decide +kernel, by show (parseMethodDescriptor yX4_sumWithDrumOn.desc).map _ = _; decide +kernel⟩, rin28 _ (List.mem_of_getElem? (i := 9) rfl), rin28 _ (List.mem_of_getElem? (i := 10) rfl)⟩
def CX4_sumWithDrumOn (x1 : Int32) (M : fxMem) : Option (Int32 × fxMem) := Option.bind (CX4_playAll (fx_st M 58 2 x1)) fun q6 => Option.bind (CX4_sumOfSpreads q6) fun q10 => some (q10.1, q10.2)
set_option maxRecDepth 100000 in
set_option maxHeartbeats 4000000 in
theorem tX4_sumWithDrumOn {x1 : Int32} {M : fxMem} {R : Int32 × fxMem} (h : CX4_sumWithDrumOn x1 M = some R) : fx_T gC mX4_sumWithDrumOn [.ref 58, .int x1] M (fx_ri R) := by
  rw [CX4_sumWithDrumOn] at h
  refine fx_enter [(0, .ref 58), (1, .int x1)] (by show plainName RX4 = true; decide) (fun _ => rfl) (fun _ => Nat.le_of_ble_eq_true rfl) ?_
  refine fx_aload_n 0 dX4_sumWithDrumOn_0 rfl 0 rfl ?_
  refine fx_iload_n 1 dX4_sumWithDrumOn_1 rfl 1 rfl ?_
  refine fx_putI 2 (j := 2) okc58 dX4_sumWithDrumOn_2 lfX4_9 (by decide) rfl (by decide +kernel) (fun _ _ => Nat.le_of_ble_eq_true rfl) (fun _ _ _ => rfl) ?_
  refine fx_aload_n 5 dX4_sumWithDrumOn_5 rfl 0 rfl ?_
  obtain ⟨q6, e6, h⟩ := fx_bd h
  refine fx_callVv 6 (mt' := mX4_playAll) (As := []) okc58 (okvX4_playAll _ _) lmX4_66 (by decide) rfl rfl (Nat.le_of_ble_eq_true rfl) dX4_sumWithDrumOn_6 (tX4_playAll e6) ?_
  refine fx_aload_n 9 dX4_sumWithDrumOn_9 rfl 0 rfl ?_
  obtain ⟨q10, e10, h⟩ := fx_bd h
  refine fx_callVi 10 (mt' := mX4_sumOfSpreads) (As := []) okc58 (okvX4_sumOfSpreads _ _) lmX4_138 (by decide) rfl rfl (Nat.le_of_ble_eq_true rfl) dX4_sumWithDrumOn_10 (tX4_sumOfSpreads e10) ?_
  obtain rfl := Option.some.inj h
  exact fx_iret 13 dX4_sumWithDrumOn_13 rfl rfl ⟨rfl, rfl⟩
def mX6_best : fxM := (yX6_best, cX6_best, 6, (some .int), 9, 360)
theorem okvX6_best (f l : Nat) : fx_okV (yX6_best, cX6_best, 6, (some .int), f, l) 1 := ⟨⟨rin28 _ (List.mem_of_getElem? (i := 7) rfl), rin1 _ (List.mem_of_getElem? (i := 2) rfl), by show yX6_best.cls ≠ _; decide +kernel, by show yX6_best.cls ≠ _; decide +kernel, by show (parseMethodDescriptor yX6_best.desc).map _ = _; decide +kernel⟩, rin28 _ (List.mem_of_getElem? (i := 5) rfl), rin28 _ (List.mem_of_getElem? (i := 6) rfl)⟩
def CX6_best_L22 (x1 : Int32) : Nat → Int32 → Int32 → Int32 → fxMem → (Int32 → Int32 → Int32 → fxMem → Option (Int32 × fxMem)) → Option (Int32 × fxMem)
  | 0, _, _, _, _, _ => none
  | n + 1, x2, x3, x4, M, k => if (64 : Int32) ≤ x4 then k x2 x3 x4 M else Option.bind (CX1_playerOn x4 M) fun q35 => if q35.1 = (-1 : Int32) then Option.bind (CX4_sumWithDrumOn x4 q35.2) fun q48 => CX6_best_L22 x1 n (if x2 = (-1 : Int32) then x4 else (if x3 ≤ q48.1 then x2 else x4)) (if x2 = (-1 : Int32) then q48.1 else (if x3 ≤ q48.1 then x3 else q48.1)) (x4 + (1 : Int32)) q48.2 k else CX6_best_L22 x1 n x2 x3 (x4 + (1 : Int32)) q35.2 k
set_option maxRecDepth 100000 in
set_option maxHeartbeats 4000000 in
theorem vX6_best_L22 {x1 : Int32} {R : Int32 × fxMem} {k : Int32 → Int32 → Int32 → fxMem → Option (Int32 × fxMem)} (hk : ∀ (x2 : Int32) (x3 : Int32) (x4 : Int32) (M : fxMem), k x2 x3 x4 M = some R → fx_V gC mX6_best (fx_ri R) 76 [(0, .ref 0), (1, .int x1), (2, .int x2), (3, .int x3), (4, .int x4)] [] M) : ∀ (n : Nat) (x2 : Int32) (x3 : Int32) (x4 : Int32) (M : fxMem), CX6_best_L22 x1 n x2 x3 x4 M k = some R → fx_V gC mX6_best (fx_ri R) 22 [(0, .ref 0), (1, .int x1), (2, .int x2), (3, .int x3), (4, .int x4)] [] M := by
  intro n
  induction n with
  | zero => intro x2 x3 x4 M h; rw [CX6_best_L22] at h; cases h
  | succ n ih =>
    intro x2 x3 x4 M h
    rw [CX6_best_L22] at h
    refine fx_iload 22 dX6_best_22 4 rfl ?_
    refine fx_bipush 24 (x := (64 : Int32)) dX6_best_24 (by decide) ?_
    refine fx_icmp_ge 26 76 dX6_best_26 (by decide) (fun c26 => ?_) (fun c26 => ?_)
    · replace h := fx_ip c26 h
      refine fx_sub [0, 1, 2, 3, 4] rfl ?_
      exact hk _ _ _ _ h
    · replace h := fx_ne c26 h
      refine fx_aload_n 29 dX6_best_29 rfl 0 rfl ?_
      refine fx_get 30 (j := 0) (v := .ref 1) okc0 dX6_best_30 lfX6_12 (by decide) (fun _ => rfl) ?_
      refine fx_iload 33 dX6_best_33 4 rfl ?_
      obtain ⟨q35, e35, h⟩ := fx_bd h
      refine fx_callVi 35 (mt' := mX1_playerOn) (As := [.int x4]) okc1 (okvX1_playerOn _ _) lmX6_93 (by decide) rfl rfl (Nat.le_of_ble_eq_true rfl) dX6_best_35 (tX1_playerOn e35) ?_
      refine fx_iconst 38 (x := (-1 : Int32)) dX6_best_38 (by decide) ?_
      refine fx_icmp_ne 39 70 dX6_best_39 (by decide) (fun c39 => ?_) (fun c39 => ?_)
      · replace h := fx_ne c39 h
        refine fx_iinc 70 (lv' := [(4, .int (x4 + (1 : Int32))), (0, .ref 0), (1, .int x1), (2, .int x2), (3, .int x3)]) (y := x4 + (1 : Int32)) dX6_best_70 4 rfl (by rfl) (Nat.le_of_ble_eq_true rfl) rfl ?_
        refine fx_goto 73 22 dX6_best_73 (by decide) ?_
        refine fx_sub [1, 2, 3, 4, 0] rfl ?_
        exact ih _ _ _ _ h
      · replace h := fx_ip c39 h
        refine fx_aload_n 42 dX6_best_42 rfl 0 rfl ?_
        refine fx_get 43 (j := 5) (v := .ref 58) okc0 dX6_best_43 lfX6_58 (by decide) (fun _ => rfl) ?_
        refine fx_iload 46 dX6_best_46 4 rfl ?_
        obtain ⟨q48, e48, h⟩ := fx_bd h
        refine fx_callVi 48 (mt' := mX4_sumWithDrumOn) (As := [.int x4]) okc58 (okvX4_sumWithDrumOn _ _) lmX6_143 (by decide) rfl rfl (Nat.le_of_ble_eq_true rfl) dX6_best_48 (tX4_sumWithDrumOn e48) ?_
        refine fx_istore 51 (lv' := [(5, .int q48.1), (0, .ref 0), (1, .int x1), (2, .int x2), (3, .int x3), (4, .int x4)]) dX6_best_51 (Nat.le_of_ble_eq_true rfl) rfl ?_
        refine fx_iload_n 53 dX6_best_53 rfl 3 rfl ?_
        refine fx_iconst 54 (x := (-1 : Int32)) dX6_best_54 (by decide) ?_
        have J : fx_V gC mX6_best (fx_ri R) 70 [(0, .ref 0), (1, .int x1), (2, .int (if x2 = (-1 : Int32) then x4 else (if x3 ≤ q48.1 then x2 else x4))), (3, .int (if x2 = (-1 : Int32) then q48.1 else (if x3 ≤ q48.1 then x3 else q48.1))), (4, .int x4), (5, .int q48.1)] [] q48.2 := by
          refine fx_iinc 70 (lv' := [(4, .int (x4 + (1 : Int32))), (0, .ref 0), (1, .int x1), (2, .int (if x2 = (-1 : Int32) then x4 else (if x3 ≤ q48.1 then x2 else x4))), (3, .int (if x2 = (-1 : Int32) then q48.1 else (if x3 ≤ q48.1 then x3 else q48.1))), (5, .int q48.1)]) (y := x4 + (1 : Int32)) dX6_best_70 4 rfl (by rfl) (Nat.le_of_ble_eq_true rfl) rfl ?_
          refine fx_goto 73 22 dX6_best_73 (by decide) ?_
          refine fx_sub [1, 2, 3, 4, 0] rfl ?_
          exact ih _ _ _ _ h
        refine fx_icmp_eq 55 64 dX6_best_55 (by decide) (fun c55 => ?_) (fun c55 => ?_)
        · refine fx_iload 64 dX6_best_64 5 rfl ?_
          refine fx_istore_n 66 (lv' := [(2, .int x4), (5, .int q48.1), (0, .ref 0), (1, .int x1), (3, .int x3), (4, .int x4)]) dX6_best_66 rfl (Nat.le_of_ble_eq_true rfl) rfl ?_
          refine fx_iload 67 dX6_best_67 1 rfl ?_
          refine fx_istore_n 69 (lv' := [(3, .int q48.1), (2, .int x4), (5, .int q48.1), (0, .ref 0), (1, .int x1), (4, .int x4)]) dX6_best_69 rfl (Nat.le_of_ble_eq_true rfl) rfl ?_
          refine fx_sub (lv' := [(0, .ref 0), (1, .int x1), (2, .int x4), (3, .int q48.1), (4, .int x4), (5, .int q48.1)]) [3, 4, 1, 0, 5, 2] rfl ?_
          show fx_V gC mX6_best (fx_ri R) 70 [(0, .ref 0), (1, .int x1), (2, .int x4), (3, .int q48.1), (4, .int x4), (5, .int q48.1)] [] q48.2
          simpa only [if_pos c55] using J
        · refine fx_iload 58 dX6_best_58 0 rfl ?_
          refine fx_iload_n 60 dX6_best_60 rfl 4 rfl ?_
          refine fx_icmp_ge 61 70 dX6_best_61 (by decide) (fun c61 => ?_) (fun c61 => ?_)
          · refine fx_sub (lv' := [(0, .ref 0), (1, .int x1), (2, .int x2), (3, .int x3), (4, .int x4), (5, .int q48.1)]) [1, 2, 3, 4, 5, 0] rfl ?_
            show fx_V gC mX6_best (fx_ri R) 70 [(0, .ref 0), (1, .int x1), (2, .int x2), (3, .int x3), (4, .int x4), (5, .int q48.1)] [] q48.2
            simpa only [if_neg c55, if_pos c61] using J
          · refine fx_iload 64 dX6_best_64 5 rfl ?_
            refine fx_istore_n 66 (lv' := [(2, .int x4), (5, .int q48.1), (0, .ref 0), (1, .int x1), (3, .int x3), (4, .int x4)]) dX6_best_66 rfl (Nat.le_of_ble_eq_true rfl) rfl ?_
            refine fx_iload 67 dX6_best_67 1 rfl ?_
            refine fx_istore_n 69 (lv' := [(3, .int q48.1), (2, .int x4), (5, .int q48.1), (0, .ref 0), (1, .int x1), (4, .int x4)]) dX6_best_69 rfl (Nat.le_of_ble_eq_true rfl) rfl ?_
            refine fx_sub (lv' := [(0, .ref 0), (1, .int x1), (2, .int x4), (3, .int q48.1), (4, .int x4), (5, .int q48.1)]) [3, 4, 1, 0, 5, 2] rfl ?_
            show fx_V gC mX6_best (fx_ri R) 70 [(0, .ref 0), (1, .int x1), (2, .int x4), (3, .int q48.1), (4, .int x4), (5, .int q48.1)] [] q48.2
            simpa only [if_neg c55, if_neg c61] using J
def CX6_best (x1 : Int32) (M : fxMem) : Option (Int32 × fxMem) := Option.bind (CX6_isBelow x1 (2 : Int32) M) fun q2 => if q2.1 = (0 : Int32) then some ((-1 : Int32), q2.2) else Option.bind (CX6_listen q2.2) fun q11 => CX6_best_L22 x1 1000 (-1 : Int32) (0 : Int32) (0 : Int32) q11 (fun y2_22 y3_22 y4_22 M22 => some ((if x1 = (0 : Int32) then y2_22 else y3_22), M22))
set_option maxRecDepth 100000 in
set_option maxHeartbeats 4000000 in
theorem tX6_best {x1 : Int32} {M : fxMem} {R : Int32 × fxMem} (h : CX6_best x1 M = some R) : fx_T gC mX6_best [.ref 0, .int x1] M (fx_ri R) := by
  rw [CX6_best] at h
  refine fx_enter [(0, .ref 0), (1, .int x1)] (by show plainName RX6 = true; decide) (fun _ => rfl) (fun _ => Nat.le_of_ble_eq_true rfl) ?_
  refine fx_iload_n 0 dX6_best_0 rfl 1 rfl ?_
  refine fx_iconst 1 (x := (2 : Int32)) dX6_best_1 (by decide) ?_
  obtain ⟨q2, e2, h⟩ := fx_bd h
  refine fx_callSi 2 (mt' := mX6_isBelow) (As := [.int x1, .int (2 : Int32)]) (oksX6_isBelow _ _) lmX6_89 (by decide) rfl rfl (Nat.le_of_ble_eq_true rfl) dX6_best_2 (tX6_isBelow e2) ?_
  refine fx_if_ne 5 10 dX6_best_5 (by decide) (fun c5 => ?_) (fun c5 => ?_)
  · replace h := fx_ne c5 h
    refine fx_aload_n 10 dX6_best_10 rfl 0 rfl ?_
    obtain ⟨q11, e11, h⟩ := fx_bd h
    refine fx_callVk 11 (mt' := mX6_listen) (As := []) okc0 (okvX6_listen _ _) lmX6_114 (by decide) rfl rfl (Nat.le_of_ble_eq_true rfl) dX6_best_11 (tX6_listen e11) ?_
    refine fx_pop 14 dX6_best_14 rfl ?_
    refine fx_iconst 15 (x := (-1 : Int32)) dX6_best_15 (by decide) ?_
    refine fx_istore_n 16 (lv' := [(2, .int (-1 : Int32)), (0, .ref 0), (1, .int x1)]) dX6_best_16 rfl (Nat.le_of_ble_eq_true rfl) rfl ?_
    refine fx_iconst 17 (x := (0 : Int32)) dX6_best_17 (by decide) ?_
    refine fx_istore_n 18 (lv' := [(3, .int (0 : Int32)), (2, .int (-1 : Int32)), (0, .ref 0), (1, .int x1)]) dX6_best_18 rfl (Nat.le_of_ble_eq_true rfl) rfl ?_
    refine fx_iconst 19 (x := (0 : Int32)) dX6_best_19 (by decide) ?_
    refine fx_istore 20 (lv' := [(4, .int (0 : Int32)), (3, .int (0 : Int32)), (2, .int (-1 : Int32)), (0, .ref 0), (1, .int x1)]) dX6_best_20 (Nat.le_of_ble_eq_true rfl) rfl ?_
    refine fx_sub [3, 4, 2, 1, 0] rfl ?_
    refine vX6_best_L22 (fun y2_22 y3_22 y4_22 M22 h => ?_) 1000 _ _ _ _ h
    refine fx_iload_n 76 dX6_best_76 rfl 1 rfl ?_
    have J : fx_V gC mX6_best (fx_ri R) 85 [(0, .ref 0), (1, .int x1), (2, .int y2_22), (3, .int y3_22), (4, .int y4_22)] [.int (if x1 = (0 : Int32) then y2_22 else y3_22)] M22 := by
      obtain rfl := Option.some.inj h
      exact fx_iret 85 dX6_best_85 rfl rfl ⟨rfl, rfl⟩
    refine fx_if_ne 77 84 dX6_best_77 (by decide) (fun c77 => ?_) (fun c77 => ?_)
    · refine fx_iload_n 84 dX6_best_84 rfl 3 rfl ?_
      refine fx_sub (lv' := [(0, .ref 0), (1, .int x1), (2, .int y2_22), (3, .int y3_22), (4, .int y4_22)]) [0, 1, 2, 3, 4] rfl ?_
      show fx_V gC mX6_best (fx_ri R) 85 [(0, .ref 0), (1, .int x1), (2, .int y2_22), (3, .int y3_22), (4, .int y4_22)] [.int y3_22] M22
      simpa only [if_neg c77] using J
    · refine fx_iload_n 80 dX6_best_80 rfl 2 rfl ?_
      refine fx_goto 81 85 dX6_best_81 (by decide) ?_
      refine fx_sub (lv' := [(0, .ref 0), (1, .int x1), (2, .int y2_22), (3, .int y3_22), (4, .int y4_22)]) [0, 1, 2, 3, 4] rfl ?_
      show fx_V gC mX6_best (fx_ri R) 85 [(0, .ref 0), (1, .int x1), (2, .int y2_22), (3, .int y3_22), (4, .int y4_22)] [.int y2_22] M22
      simpa only [if_pos c77] using J
  · replace h := fx_ip c5 h
    refine fx_iconst 8 (x := (-1 : Int32)) dX6_best_8 (by decide) ?_
    obtain rfl := Option.some.inj h
    exact fx_iret 9 dX6_best_9 rfl rfl ⟨rfl, rfl⟩
def mX4_earliest : fxM := (yX4_earliest, cX4_earliest, 4, (some .int), 5, 200)
theorem okvX4_earliest (f l : Nat) : fx_okV (yX4_earliest, cX4_earliest, 4, (some .int), f, l) 1 := ⟨⟨rin29 _ (List.mem_of_getElem? (i := 8) rfl), rin2 _ (List.mem_of_getElem? (i := 13) rfl), by show yX4_earliest.cls ≠ _; decide +kernel, by show yX4_earliest.cls ≠ _; decide +kernel, by show (parseMethodDescriptor yX4_earliest.desc).map _ = _; decide +kernel⟩, rin29 _ (List.mem_of_getElem? (i := 6) rfl), rin29 _ (List.mem_of_getElem? (i := 7) rfl)⟩
def CX4_earliest_L5 (x1 : Int32) : Nat → Int32 → Int32 → fxMem → (Int32 → Int32 → fxMem → Option (Int32 × fxMem)) → Option (Int32 × fxMem)
  | 0, _, _, _, _ => none
  | n + 1, x2, x3, M, k => if M 1 0 ≤ x3 then k x2 x3 M else if x3 = M 58 3 then CX4_earliest_L5 x1 n x2 (x3 + (1 : Int32)) M k else Option.bind (CX4_arrival x1 x3 M) fun q28 => CX4_earliest_L5 x1 n (if q28.1 < x2 then q28.1 else x2) (x3 + (1 : Int32)) q28.2 k
set_option maxRecDepth 100000 in
set_option maxHeartbeats 4000000 in
theorem vX4_earliest_L5 {x1 : Int32} {R : Int32 × fxMem} {k : Int32 → Int32 → fxMem → Option (Int32 × fxMem)} (hk : ∀ (x2 : Int32) (x3 : Int32) (M : fxMem), k x2 x3 M = some R → fx_V gC mX4_earliest (fx_ri R) 41 [(0, .ref 58), (1, .int x1), (2, .int x2), (3, .int x3)] [] M) : ∀ (n : Nat) (x2 : Int32) (x3 : Int32) (M : fxMem), CX4_earliest_L5 x1 n x2 x3 M k = some R → fx_V gC mX4_earliest (fx_ri R) 5 [(0, .ref 58), (1, .int x1), (2, .int x2), (3, .int x3)] [] M := by
  intro n
  induction n with
  | zero => intro x2 x3 M h; rw [CX4_earliest_L5] at h; cases h
  | succ n ih =>
    intro x2 x3 M h
    rw [CX4_earliest_L5] at h
    refine fx_iload_n 5 dX4_earliest_5 rfl 3 rfl ?_
    refine fx_aload_n 6 dX4_earliest_6 rfl 0 rfl ?_
    refine fx_get 7 (j := 0) (v := .ref 1) okc58 dX4_earliest_7 lfX4_42 (by decide) (fun _ => rfl) ?_
    refine fx_get 10 (j := 0) (v := .int (M 1 0)) okc1 dX4_earliest_10 lfX4_69 (by decide) (fun _ => rfl) ?_
    refine fx_icmp_ge 13 41 dX4_earliest_13 (by decide) (fun c13 => ?_) (fun c13 => ?_)
    · replace h := fx_ip c13 h
      refine fx_sub [0, 1, 2, 3] rfl ?_
      exact hk _ _ _ h
    · replace h := fx_ne c13 h
      refine fx_iload_n 16 dX4_earliest_16 rfl 3 rfl ?_
      refine fx_aload_n 17 dX4_earliest_17 rfl 0 rfl ?_
      refine fx_get 18 (j := 3) (v := .int (M 58 3)) okc58 dX4_earliest_18 lfX4_15 (by decide) (fun _ => rfl) ?_
      refine fx_icmp_eq 21 35 dX4_earliest_21 (by decide) (fun c21 => ?_) (fun c21 => ?_)
      · replace h := fx_ip c21 h
        refine fx_iinc 35 (lv' := [(3, .int (x3 + (1 : Int32))), (0, .ref 58), (1, .int x1), (2, .int x2)]) (y := x3 + (1 : Int32)) dX4_earliest_35 3 rfl (by rfl) (Nat.le_of_ble_eq_true rfl) rfl ?_
        refine fx_goto 38 5 dX4_earliest_38 (by decide) ?_
        refine fx_sub [1, 2, 3, 0] rfl ?_
        exact ih _ _ _ h
      · replace h := fx_ne c21 h
        refine fx_iload_n 24 dX4_earliest_24 rfl 2 rfl ?_
        refine fx_aload_n 25 dX4_earliest_25 rfl 0 rfl ?_
        refine fx_iload_n 26 dX4_earliest_26 rfl 1 rfl ?_
        refine fx_iload_n 27 dX4_earliest_27 rfl 3 rfl ?_
        obtain ⟨q28, e28, h⟩ := fx_bd h
        refine fx_callVi 28 (mt' := mX4_arrival) (As := [.int x1, .int x3]) okc58 (okvX4_arrival _ _) lmX4_123 (by decide) rfl rfl (Nat.le_of_ble_eq_true rfl) dX4_earliest_28 (tX4_arrival e28) ?_
        refine fx_mmin 31 dX4_earliest_31 lmX4_126 (by decide) (Nat.le_of_ble_eq_true rfl) ?_
        refine fx_istore_n 34 (lv' := [(2, .int (if q28.1 < x2 then q28.1 else x2)), (0, .ref 58), (1, .int x1), (3, .int x3)]) dX4_earliest_34 rfl (Nat.le_of_ble_eq_true rfl) rfl ?_
        refine fx_iinc 35 (lv' := [(3, .int (x3 + (1 : Int32))), (2, .int (if q28.1 < x2 then q28.1 else x2)), (0, .ref 58), (1, .int x1)]) (y := x3 + (1 : Int32)) dX4_earliest_35 3 rfl (by rfl) (Nat.le_of_ble_eq_true rfl) rfl ?_
        refine fx_goto 38 5 dX4_earliest_38 (by decide) ?_
        refine fx_sub [2, 3, 1, 0] rfl ?_
        exact ih _ _ _ h
def CX4_earliest (x1 : Int32) (M : fxMem) : Option (Int32 × fxMem) := CX4_earliest_L5 x1 1000 (2147483647 : Int32) (0 : Int32) M (fun y2_5 y3_5 M5 => some (y2_5, M5))
set_option maxRecDepth 100000 in
set_option maxHeartbeats 4000000 in
theorem tX4_earliest {x1 : Int32} {M : fxMem} {R : Int32 × fxMem} (h : CX4_earliest x1 M = some R) : fx_T gC mX4_earliest [.ref 58, .int x1] M (fx_ri R) := by
  rw [CX4_earliest] at h
  refine fx_enter [(0, .ref 58), (1, .int x1)] (by show plainName RX4 = true; decide) (fun _ => rfl) (fun _ => Nat.le_of_ble_eq_true rfl) ?_
  refine fx_ldc 0 dX4_earliest_0 lcX4_122 ?_
  refine fx_istore_n 2 (lv' := [(2, .int (2147483647 : Int32)), (0, .ref 58), (1, .int x1)]) dX4_earliest_2 rfl (Nat.le_of_ble_eq_true rfl) rfl ?_
  refine fx_iconst 3 (x := (0 : Int32)) dX4_earliest_3 (by decide) ?_
  refine fx_istore_n 4 (lv' := [(3, .int (0 : Int32)), (2, .int (2147483647 : Int32)), (0, .ref 58), (1, .int x1)]) dX4_earliest_4 rfl (Nat.le_of_ble_eq_true rfl) rfl ?_
  refine fx_sub [2, 3, 1, 0] rfl ?_
  refine vX4_earliest_L5 (fun y2_5 y3_5 M5 h => ?_) 1000 _ _ _ h
  refine fx_iload_n 41 dX4_earliest_41 rfl 2 rfl ?_
  obtain rfl := Option.some.inj h
  exact fx_iret 42 dX4_earliest_42 rfl rfl ⟨rfl, rfl⟩
def mX6_early : fxM := (yX6_early, cX6_early, 3, (some .int), 9, 360)
theorem okvX6_early (f l : Nat) : fx_okV (yX6_early, cX6_early, 3, (some .int), f, l) 2 := ⟨⟨rin29 _ (List.mem_of_getElem? (i := 4) rfl), rin1 _ (List.mem_of_getElem? (i := 2) rfl), by show yX6_early.cls ≠ _; decide +kernel, by show yX6_early.cls ≠ _; decide +kernel, by show (parseMethodDescriptor yX6_early.desc).map _ = _; decide +kernel⟩, rin29 _ (List.mem_of_getElem? (i := 2) rfl), rin29 _ (List.mem_of_getElem? (i := 3) rfl)⟩
def CX6_early (x1 : Int32) (x2 : Int32) (M : fxMem) : Option (Int32 × fxMem) := Option.bind (CX6_isPlayer x1 M) fun q2 => if q2.1 = (0 : Int32) then some ((-1 : Int32), q2.2) else Option.bind (CX6_isBelow x2 (8 : Int32) q2.2) fun q11 => if q11.1 = (0 : Int32) then some ((-1 : Int32), q11.2) else Option.bind (CX6_listen q11.2) fun q20 => Option.bind (CX4_arrival x2 x1 q20) fun q30 => Option.bind (CX4_earliest x2 q30.2) fun q38 => some (q30.1 - q38.1, q38.2)
set_option maxRecDepth 100000 in
set_option maxHeartbeats 4000000 in
theorem tX6_early {x1 : Int32} {x2 : Int32} {M : fxMem} {R : Int32 × fxMem} (h : CX6_early x1 x2 M = some R) : fx_T gC mX6_early [.ref 0, .int x1, .int x2] M (fx_ri R) := by
  rw [CX6_early] at h
  refine fx_enter [(0, .ref 0), (1, .int x1), (2, .int x2)] (by show plainName RX6 = true; decide) (fun _ => rfl) (fun _ => Nat.le_of_ble_eq_true rfl) ?_
  refine fx_aload_n 0 dX6_early_0 rfl 0 rfl ?_
  refine fx_iload_n 1 dX6_early_1 rfl 1 rfl ?_
  obtain ⟨q2, e2, h⟩ := fx_bd h
  refine fx_callVi 2 (mt' := mX6_isPlayer) (As := [.int x1]) okc0 (okvX6_isPlayer _ _) lmX6_110 (by decide) rfl rfl (Nat.le_of_ble_eq_true rfl) dX6_early_2 (tX6_isPlayer e2) ?_
  refine fx_if_eq 5 17 dX6_early_5 (by decide) (fun c5 => ?_) (fun c5 => ?_)
  · replace h := fx_ip c5 h
    refine fx_iconst 17 (x := (-1 : Int32)) dX6_early_17 (by decide) ?_
    obtain rfl := Option.some.inj h
    exact fx_iret 18 dX6_early_18 rfl rfl ⟨rfl, rfl⟩
  · replace h := fx_ne c5 h
    refine fx_iload_n 8 dX6_early_8 rfl 2 rfl ?_
    refine fx_bipush 9 (x := (8 : Int32)) dX6_early_9 (by decide) ?_
    obtain ⟨q11, e11, h⟩ := fx_bd h
    refine fx_callSi 11 (mt' := mX6_isBelow) (As := [.int x2, .int (8 : Int32)]) (oksX6_isBelow _ _) lmX6_89 (by decide) rfl rfl (Nat.le_of_ble_eq_true rfl) dX6_early_11 (tX6_isBelow e11) ?_
    refine fx_if_ne 14 19 dX6_early_14 (by decide) (fun c14 => ?_) (fun c14 => ?_)
    · replace h := fx_ne c14 h
      refine fx_aload_n 19 dX6_early_19 rfl 0 rfl ?_
      obtain ⟨q20, e20, h⟩ := fx_bd h
      refine fx_callVk 20 (mt' := mX6_listen) (As := []) okc0 (okvX6_listen _ _) lmX6_114 (by decide) rfl rfl (Nat.le_of_ble_eq_true rfl) dX6_early_20 (tX6_listen e20) ?_
      refine fx_pop 23 dX6_early_23 rfl ?_
      refine fx_aload_n 24 dX6_early_24 rfl 0 rfl ?_
      refine fx_get 25 (j := 5) (v := .ref 58) okc0 dX6_early_25 lfX6_58 (by decide) (fun _ => rfl) ?_
      refine fx_iload_n 28 dX6_early_28 rfl 2 rfl ?_
      refine fx_iload_n 29 dX6_early_29 rfl 1 rfl ?_
      obtain ⟨q30, e30, h⟩ := fx_bd h
      refine fx_callVi 30 (mt' := mX4_arrival) (As := [.int x2, .int x1]) okc58 (okvX4_arrival _ _) lmX6_130 (by decide) rfl rfl (Nat.le_of_ble_eq_true rfl) dX6_early_30 (tX4_arrival e30) ?_
      refine fx_aload_n 33 dX6_early_33 rfl 0 rfl ?_
      refine fx_get 34 (j := 5) (v := .ref 58) okc0 dX6_early_34 lfX6_58 (by decide) (fun _ => rfl) ?_
      refine fx_iload_n 37 dX6_early_37 rfl 2 rfl ?_
      obtain ⟨q38, e38, h⟩ := fx_bd h
      refine fx_callVi 38 (mt' := mX4_earliest) (As := [.int x2]) okc58 (okvX4_earliest _ _) lmX6_146 (by decide) rfl rfl (Nat.le_of_ble_eq_true rfl) dX6_early_38 (tX4_earliest e38) ?_
      refine fx_isub 41 dX6_early_41 ?_
      obtain rfl := Option.some.inj h
      exact fx_iret 42 dX6_early_42 rfl rfl ⟨rfl, rfl⟩
    · replace h := fx_ip c14 h
      refine fx_iconst 17 (x := (-1 : Int32)) dX6_early_17 (by decide) ?_
      obtain rfl := Option.some.inj h
      exact fx_iret 18 dX6_early_18 rfl rfl ⟨rfl, rfl⟩
def mX6_beats : fxM := (yX6_beats, cX6_beats, 2, (some .int), 9, 360)
theorem okvX6_beats (f l : Nat) : fx_okV (yX6_beats, cX6_beats, 2, (some .int), f, l) 1 := ⟨⟨rin29 _ (List.mem_of_getElem? (i := 16) rfl), rin1 _ (List.mem_of_getElem? (i := 2) rfl), by show yX6_beats.cls ≠ _; decide +kernel, by show yX6_beats.cls ≠ _; decide +kernel, by show (parseMethodDescriptor yX6_beats.desc).map _ = _; decide +kernel⟩, rin29 _ (List.mem_of_getElem? (i := 14) rfl), rin29 _ (List.mem_of_getElem? (i := 15) rfl)⟩
def CX6_beats (x1 : Int32) (M : fxMem) : Option (Int32 × fxMem) := Option.bind (CX6_isBelow x1 (8 : Int32) M) fun q3 => if q3.1 = (0 : Int32) then some ((-1 : Int32), q3.2) else Option.bind (CX6_listen q3.2) fun q12 => Option.bind (CX4_spreadAt x1 q12) fun q16 => Option.bind (CX6_held q16.2) fun q21 => if fx_isSh q21.1 = true then if (if (1 : Int32) < q21.2 q21.1 1 then q21.2 q21.1 1 else (1 : Int32)) = (0 : Int32) then none else some (q16.1 / (if (1 : Int32) < q21.2 q21.1 1 then q21.2 q21.1 1 else (1 : Int32)), q21.2) else none
set_option maxRecDepth 100000 in
set_option maxHeartbeats 4000000 in
theorem tX6_beats {x1 : Int32} {M : fxMem} {R : Int32 × fxMem} (h : CX6_beats x1 M = some R) : fx_T gC mX6_beats [.ref 0, .int x1] M (fx_ri R) := by
  rw [CX6_beats] at h
  refine fx_enter [(0, .ref 0), (1, .int x1)] (by show plainName RX6 = true; decide) (fun _ => rfl) (fun _ => Nat.le_of_ble_eq_true rfl) ?_
  refine fx_iload_n 0 dX6_beats_0 rfl 1 rfl ?_
  refine fx_bipush 1 (x := (8 : Int32)) dX6_beats_1 (by decide) ?_
  obtain ⟨q3, e3, h⟩ := fx_bd h
  refine fx_callSi 3 (mt' := mX6_isBelow) (As := [.int x1, .int (8 : Int32)]) (oksX6_isBelow _ _) lmX6_89 (by decide) rfl rfl (Nat.le_of_ble_eq_true rfl) dX6_beats_3 (tX6_isBelow e3) ?_
  refine fx_if_ne 6 11 dX6_beats_6 (by decide) (fun c6 => ?_) (fun c6 => ?_)
  · replace h := fx_ne c6 h
    refine fx_aload_n 11 dX6_beats_11 rfl 0 rfl ?_
    obtain ⟨q12, e12, h⟩ := fx_bd h
    refine fx_callVk 12 (mt' := mX6_listen) (As := []) okc0 (okvX6_listen _ _) lmX6_114 (by decide) rfl rfl (Nat.le_of_ble_eq_true rfl) dX6_beats_12 (tX6_listen e12) ?_
    refine fx_iload_n 15 dX6_beats_15 rfl 1 rfl ?_
    obtain ⟨q16, e16, h⟩ := fx_bd h
    refine fx_callVi 16 (mt' := mX4_spreadAt) (As := [.int x1]) okc58 (okvX4_spreadAt _ _) lmX6_134 (by decide) rfl rfl (Nat.le_of_ble_eq_true rfl) dX6_beats_16 (tX4_spreadAt e16) ?_
    refine fx_iconst 19 (x := (1 : Int32)) dX6_beats_19 (by decide) ?_
    refine fx_aload_n 20 dX6_beats_20 rfl 0 rfl ?_
    obtain ⟨q21, e21, h⟩ := fx_bd h
    refine fx_callVq 21 (mt' := mX6_held) (As := []) okc0 (okvX6_held _ _) lmX6_76 (by decide) rfl rfl (Nat.le_of_ble_eq_true rfl) dX6_beats_21 (tX6_held e21) ?_
    obtain ⟨g24, h⟩ := fx_gt h
    refine fx_get 24 (j := 1) (v := .int (q21.2 q21.1 1)) (okcS g24) dX6_beats_24 lfX6_83 (by decide) (fun _ => rfl) ?_
    refine fx_mmax 27 dX6_beats_27 lmX6_149 (by decide) (Nat.le_of_ble_eq_true rfl) ?_
    obtain ⟨z30, h⟩ := fx_gn h
    refine fx_idiv 30 dX6_beats_30 z30 ?_
    obtain rfl := Option.some.inj h
    exact fx_iret 31 dX6_beats_31 rfl rfl ⟨rfl, rfl⟩
  · replace h := fx_ip c6 h
    refine fx_iconst 9 (x := (-1 : Int32)) dX6_beats_9 (by decide) ?_
    obtain rfl := Option.some.inj h
    exact fx_iret 10 dX6_beats_10 rfl rfl ⟨rfl, rfl⟩
def mX1_isInForm : fxM := (yX1_isInForm, cX1_isInForm, 3, (some .boolean), 2, 80)
theorem okvX1_isInForm (f l : Nat) : fx_okV (yX1_isInForm, cX1_isInForm, 3, (some .boolean), f, l) 1 := ⟨⟨rin30 _ (List.mem_of_getElem? (i := 7) rfl), rin1 _ (List.mem_of_getElem? (i := 15) rfl), by show yX1_isInForm.cls ≠ _; decide +kernel, by show yX1_isInForm.cls ≠ _; decide +kernel, by show (parseMethodDescriptor yX1_isInForm.desc).map _ = _; decide +kernel⟩, rin30 _ (List.mem_of_getElem? (i := 5) rfl), rin30 _ (List.mem_of_getElem? (i := 6) rfl)⟩
def CX1_isInForm_L2 (x1 : Int32) : Nat → Int32 → fxMem → (Int32 → fxMem → Option (Int32 × fxMem)) → Option (Int32 × fxMem)
  | 0, _, _, _ => none
  | n + 1, x2, M, k => if M 1 5 ≤ x2 then k x2 M else if fx_in x2 10 = true then if M 5 x2.toNatClampNeg = x1 then some ((1 : Int32), M) else CX1_isInForm_L2 x1 n (x2 + (1 : Int32)) M k else none
set_option maxRecDepth 100000 in
set_option maxHeartbeats 4000000 in
theorem vX1_isInForm_L2 {x1 : Int32} {R : Int32 × fxMem} {k : Int32 → fxMem → Option (Int32 × fxMem)} (hk : ∀ (x2 : Int32) (M : fxMem), k x2 M = some R → fx_V gC mX1_isInForm (fx_ri R) 28 [(0, .ref 1), (1, .int x1), (2, .int x2)] [] M) : ∀ (n : Nat) (x2 : Int32) (M : fxMem), CX1_isInForm_L2 x1 n x2 M k = some R → fx_V gC mX1_isInForm (fx_ri R) 2 [(0, .ref 1), (1, .int x1), (2, .int x2)] [] M := by
  intro n
  induction n with
  | zero => intro x2 M h; rw [CX1_isInForm_L2] at h; cases h
  | succ n ih =>
    intro x2 M h
    rw [CX1_isInForm_L2] at h
    refine fx_iload_n 2 dX1_isInForm_2 rfl 2 rfl ?_
    refine fx_aload_n 3 dX1_isInForm_3 rfl 0 rfl ?_
    refine fx_get 4 (j := 5) (v := .int (M 1 5)) okc1 dX1_isInForm_4 lfX1_28 (by decide) (fun _ => rfl) ?_
    refine fx_icmp_ge 7 28 dX1_isInForm_7 (by decide) (fun c7 => ?_) (fun c7 => ?_)
    · replace h := fx_ip c7 h
      refine fx_sub [0, 1, 2] rfl ?_
      exact hk _ _ h
    · replace h := fx_ne c7 h
      refine fx_aload_n 10 dX1_isInForm_10 rfl 0 rfl ?_
      refine fx_get 11 (j := 6) (v := .ref 5) okc1 dX1_isInForm_11 lfX1_31 (by decide) (fun _ => rfl) ?_
      refine fx_iload_n 14 dX1_isInForm_14 rfl 2 rfl ?_
      obtain ⟨g15, h⟩ := fx_gt h
      refine fx_iald 15 oka5 dX1_isInForm_15 g15 ?_
      refine fx_iload_n 16 dX1_isInForm_16 rfl 1 rfl ?_
      refine fx_icmp_ne 17 22 dX1_isInForm_17 (by decide) (fun c17 => ?_) (fun c17 => ?_)
      · replace h := fx_ne c17 h
        refine fx_iinc 22 (lv' := [(2, .int (x2 + (1 : Int32))), (0, .ref 1), (1, .int x1)]) (y := x2 + (1 : Int32)) dX1_isInForm_22 2 rfl (by rfl) (Nat.le_of_ble_eq_true rfl) rfl ?_
        refine fx_goto 25 2 dX1_isInForm_25 (by decide) ?_
        refine fx_sub [1, 2, 0] rfl ?_
        exact ih _ _ h
      · replace h := fx_ip c17 h
        refine fx_iconst 20 (x := (1 : Int32)) dX1_isInForm_20 (by decide) ?_
        obtain rfl := Option.some.inj h
        exact fx_iret 21 dX1_isInForm_21 rfl rfl ⟨rfl, rfl⟩
def CX1_isInForm (x1 : Int32) (M : fxMem) : Option (Int32 × fxMem) := CX1_isInForm_L2 x1 1000 (0 : Int32) M (fun y2_2 M2 => some ((0 : Int32), M2))
set_option maxRecDepth 100000 in
set_option maxHeartbeats 4000000 in
theorem tX1_isInForm {x1 : Int32} {M : fxMem} {R : Int32 × fxMem} (h : CX1_isInForm x1 M = some R) : fx_T gC mX1_isInForm [.ref 1, .int x1] M (fx_ri R) := by
  rw [CX1_isInForm] at h
  refine fx_enter [(0, .ref 1), (1, .int x1)] (by show plainName RX1 = true; decide) (fun _ => rfl) (fun _ => Nat.le_of_ble_eq_true rfl) ?_
  refine fx_iconst 0 (x := (0 : Int32)) dX1_isInForm_0 (by decide) ?_
  refine fx_istore_n 1 (lv' := [(2, .int (0 : Int32)), (0, .ref 1), (1, .int x1)]) dX1_isInForm_1 rfl (Nat.le_of_ble_eq_true rfl) rfl ?_
  refine fx_sub [1, 2, 0] rfl ?_
  refine vX1_isInForm_L2 (fun y2_2 M2 h => ?_) 1000 _ _ h
  refine fx_iconst 28 (x := (0 : Int32)) dX1_isInForm_28 (by decide) ?_
  obtain rfl := Option.some.inj h
  exact fx_iret 29 dX1_isInForm_29 rfl rfl ⟨rfl, rfl⟩
def mX6_form : fxM := (yX6_form, cX6_form, 2, (some .int), 3, 120)
theorem okvX6_form (f l : Nat) : fx_okV (yX6_form, cX6_form, 2, (some .int), f, l) 1 := ⟨⟨rin30 _ (List.mem_of_getElem? (i := 1) rfl), rin1 _ (List.mem_of_getElem? (i := 2) rfl), by show yX6_form.cls ≠ _; decide +kernel, by show yX6_form.cls ≠ _; decide +kernel, by show (parseMethodDescriptor yX6_form.desc).map _ = _; decide +kernel⟩, rin29 _ (List.mem_of_getElem? (i := 23) rfl), rin30 _ (List.mem_of_getElem? (i := 0) rfl)⟩
def CX6_form (x1 : Int32) (M : fxMem) : Option (Int32 × fxMem) := if x1 = (-1 : Int32) then some ((0 : Int32), fx_st M 1 5 (0 : Int32)) else Option.bind (CX6_isBelow x1 (64 : Int32) M) fun q18 => if q18.1 = (0 : Int32) then some ((-1 : Int32), q18.2) else Option.bind (CX1_isInForm x1 q18.2) fun q31 => if q31.1 = (0 : Int32) then if q31.2 1 5 < (10 : Int32) then if fx_in (q31.2 1 5) 10 = true then fx_lt (fx_st q31.2 5 (q31.2 1 5).toNatClampNeg x1) fun M76 => fx_lt (fx_st M76 1 5 ((M76 1 5) + (1 : Int32))) fun M88 => some (M88 1 5, M88) else none else some ((-4 : Int32), q31.2) else some ((-3 : Int32), q31.2)
set_option maxRecDepth 100000 in
set_option maxHeartbeats 4000000 in
theorem tX6_form {x1 : Int32} {M : fxMem} {R : Int32 × fxMem} (h : CX6_form x1 M = some R) : fx_T gC mX6_form [.ref 0, .int x1] M (fx_ri R) := by
  rw [CX6_form] at h
  refine fx_enter [(0, .ref 0), (1, .int x1)] (by show plainName RX6 = true; decide) (fun _ => rfl) (fun _ => Nat.le_of_ble_eq_true rfl) ?_
  refine fx_iload_n 0 dX6_form_0 rfl 1 rfl ?_
  refine fx_iconst 1 (x := (-1 : Int32)) dX6_form_1 (by decide) ?_
  refine fx_icmp_ne 2 15 dX6_form_2 (by decide) (fun c2 => ?_) (fun c2 => ?_)
  · replace h := fx_ne c2 h
    refine fx_iload_n 15 dX6_form_15 rfl 1 rfl ?_
    refine fx_bipush 16 (x := (64 : Int32)) dX6_form_16 (by decide) ?_
    obtain ⟨q18, e18, h⟩ := fx_bd h
    refine fx_callSi 18 (mt' := mX6_isBelow) (As := [.int x1, .int (64 : Int32)]) (oksX6_isBelow _ _) lmX6_89 (by decide) rfl rfl (Nat.le_of_ble_eq_true rfl) dX6_form_18 (tX6_isBelow e18) ?_
    refine fx_if_ne 21 26 dX6_form_21 (by decide) (fun c21 => ?_) (fun c21 => ?_)
    · replace h := fx_ne c21 h
      refine fx_aload_n 26 dX6_form_26 rfl 0 rfl ?_
      refine fx_get 27 (j := 0) (v := .ref 1) okc0 dX6_form_27 lfX6_12 (by decide) (fun _ => rfl) ?_
      refine fx_iload_n 30 dX6_form_30 rfl 1 rfl ?_
      obtain ⟨q31, e31, h⟩ := fx_bd h
      refine fx_callVi 31 (mt' := mX1_isInForm) (As := [.int x1]) okc1 (okvX1_isInForm _ _) lmX6_157 (by decide) rfl rfl (Nat.le_of_ble_eq_true rfl) dX6_form_31 (tX1_isInForm e31) ?_
      refine fx_if_eq 34 40 dX6_form_34 (by decide) (fun c34 => ?_) (fun c34 => ?_)
      · replace h := fx_ip c34 h
        refine fx_aload_n 40 dX6_form_40 rfl 0 rfl ?_
        refine fx_get 41 (j := 0) (v := .ref 1) okc0 dX6_form_41 lfX6_12 (by decide) (fun _ => rfl) ?_
        refine fx_get 44 (j := 5) (v := .int (q31.2 1 5)) okc1 dX6_form_44 lfX6_154 (by decide) (fun _ => rfl) ?_
        refine fx_bipush 47 (x := (10 : Int32)) dX6_form_47 (by decide) ?_
        refine fx_icmp_lt 49 55 dX6_form_49 (by decide) (fun c49 => ?_) (fun c49 => ?_)
        · replace h := fx_ip c49 h
          refine fx_aload_n 55 dX6_form_55 rfl 0 rfl ?_
          refine fx_get 56 (j := 0) (v := .ref 1) okc0 dX6_form_56 lfX6_12 (by decide) (fun _ => rfl) ?_
          refine fx_get 59 (j := 6) (v := .ref 5) okc1 dX6_form_59 lfX6_160 (by decide) (fun _ => rfl) ?_
          refine fx_aload_n 62 dX6_form_62 rfl 0 rfl ?_
          refine fx_get 63 (j := 0) (v := .ref 1) okc0 dX6_form_63 lfX6_12 (by decide) (fun _ => rfl) ?_
          refine fx_get 66 (j := 5) (v := .int (q31.2 1 5)) okc1 dX6_form_66 lfX6_154 (by decide) (fun _ => rfl) ?_
          refine fx_iload_n 69 dX6_form_69 rfl 1 rfl ?_
          obtain ⟨g70, h⟩ := fx_gt h
          refine fx_iast 70 oka5 dX6_form_70 g70 ?_
          refine fx_aload_n 71 dX6_form_71 rfl 0 rfl ?_
          refine fx_get 72 (j := 0) (v := .ref 1) okc0 dX6_form_72 lfX6_12 (by decide) (fun _ => rfl) ?_
          refine fx_dup 75 dX6_form_75 rfl ?_
          replace h := fx_ltd h
          generalize fx_st q31.2 5 (q31.2 1 5).toNatClampNeg x1 = M76 at h ⊢
          refine fx_get 76 (j := 5) (v := .int (M76 1 5)) okc1 dX6_form_76 lfX6_154 (by decide) (fun _ => rfl) ?_
          refine fx_iconst 79 (x := (1 : Int32)) dX6_form_79 (by decide) ?_
          refine fx_iadd 80 dX6_form_80 ?_
          refine fx_putI 81 (j := 5) okc1 dX6_form_81 lfX6_154 (by decide) rfl (by decide +kernel) (fun _ _ => Nat.le_of_ble_eq_true rfl) (fun _ _ _ => rfl) ?_
          refine fx_aload_n 84 dX6_form_84 rfl 0 rfl ?_
          refine fx_get 85 (j := 0) (v := .ref 1) okc0 dX6_form_85 lfX6_12 (by decide) (fun _ => rfl) ?_
          replace h := fx_ltd h
          generalize fx_st M76 1 5 ((M76 1 5) + (1 : Int32)) = M88 at h ⊢
          refine fx_get 88 (j := 5) (v := .int (M88 1 5)) okc1 dX6_form_88 lfX6_154 (by decide) (fun _ => rfl) ?_
          obtain rfl := Option.some.inj h
          exact fx_iret 91 dX6_form_91 rfl rfl ⟨rfl, rfl⟩
        · replace h := fx_ne c49 h
          refine fx_bipush 52 (x := (-4 : Int32)) dX6_form_52 (by decide) ?_
          obtain rfl := Option.some.inj h
          exact fx_iret 54 dX6_form_54 rfl rfl ⟨rfl, rfl⟩
      · replace h := fx_ne c34 h
        refine fx_bipush 37 (x := (-3 : Int32)) dX6_form_37 (by decide) ?_
        obtain rfl := Option.some.inj h
        exact fx_iret 39 dX6_form_39 rfl rfl ⟨rfl, rfl⟩
    · replace h := fx_ip c21 h
      refine fx_iconst 24 (x := (-1 : Int32)) dX6_form_24 (by decide) ?_
      obtain rfl := Option.some.inj h
      exact fx_iret 25 dX6_form_25 rfl rfl ⟨rfl, rfl⟩
  · replace h := fx_ip c2 h
    refine fx_aload_n 5 dX6_form_5 rfl 0 rfl ?_
    refine fx_get 6 (j := 0) (v := .ref 1) okc0 dX6_form_6 lfX6_12 (by decide) (fun _ => rfl) ?_
    refine fx_iconst 9 (x := (0 : Int32)) dX6_form_9 (by decide) ?_
    refine fx_putI 10 (j := 5) okc1 dX6_form_10 lfX6_154 (by decide) rfl (by decide +kernel) (fun _ _ => Nat.le_of_ble_eq_true rfl) (fun _ _ _ => rfl) ?_
    refine fx_iconst 13 (x := (0 : Int32)) dX6_form_13 (by decide) ?_
    obtain rfl := Option.some.inj h
    exact fx_iret 14 dX6_form_14 rfl rfl ⟨rfl, rfl⟩
def mX1_hasTooFewDots : fxM := (yX1_hasTooFewDots, cX1_hasTooFewDots, 1, (some .boolean), 2, 80)
theorem okvX1_hasTooFewDots (f l : Nat) : fx_okV (yX1_hasTooFewDots, cX1_hasTooFewDots, 1, (some .boolean), f, l) 0 := ⟨⟨rin31 _ (List.mem_of_getElem? (i := 2) rfl), rin1 _ (List.mem_of_getElem? (i := 15) rfl), by show yX1_hasTooFewDots.cls ≠ _; decide +kernel, by show yX1_hasTooFewDots.cls ≠ _; decide +kernel, by show (parseMethodDescriptor yX1_hasTooFewDots.desc).map _ = _; decide +kernel⟩, rin31 _ (List.mem_of_getElem? (i := 0) rfl), rin31 _ (List.mem_of_getElem? (i := 1) rfl)⟩
def CX1_hasTooFewDots  (M : fxMem) : Option (Int32 × fxMem) := some ((if M 1 0 ≤ M 1 5 then (0 : Int32) else (1 : Int32)), M)
set_option maxRecDepth 100000 in
set_option maxHeartbeats 4000000 in
theorem tX1_hasTooFewDots  {M : fxMem} {R : Int32 × fxMem} (h : CX1_hasTooFewDots  M = some R) : fx_T gC mX1_hasTooFewDots [.ref 1] M (fx_ri R) := by
  rw [CX1_hasTooFewDots] at h
  refine fx_enter [(0, .ref 1)] (by show plainName RX1 = true; decide) (fun _ => rfl) (fun _ => Nat.le_of_ble_eq_true rfl) ?_
  refine fx_aload_n 0 dX1_hasTooFewDots_0 rfl 0 rfl ?_
  refine fx_get 1 (j := 5) (v := .int (M 1 5)) okc1 dX1_hasTooFewDots_1 lfX1_28 (by decide) (fun _ => rfl) ?_
  refine fx_aload_n 4 dX1_hasTooFewDots_4 rfl 0 rfl ?_
  refine fx_get 5 (j := 0) (v := .int (M 1 0)) okc1 dX1_hasTooFewDots_5 lfX1_9 (by decide) (fun _ => rfl) ?_
  have J : fx_V gC mX1_hasTooFewDots (fx_ri R) 16 [(0, .ref 1)] [.int (if M 1 0 ≤ M 1 5 then (0 : Int32) else (1 : Int32))] M := by
    obtain rfl := Option.some.inj h
    exact fx_iret 16 dX1_hasTooFewDots_16 rfl (by (repeat' split) <;> rfl) ⟨rfl, rfl⟩
  refine fx_icmp_ge 8 15 dX1_hasTooFewDots_8 (by decide) (fun c8 => ?_) (fun c8 => ?_)
  · refine fx_iconst 15 (x := (0 : Int32)) dX1_hasTooFewDots_15 (by decide) ?_
    refine fx_sub (lv' := [(0, .ref 1)]) [0] rfl ?_
    show fx_V gC mX1_hasTooFewDots (fx_ri R) 16 [(0, .ref 1)] [.int (0 : Int32)] M
    simpa only [if_pos c8] using J
  · refine fx_iconst 11 (x := (1 : Int32)) dX1_hasTooFewDots_11 (by decide) ?_
    refine fx_goto 12 16 dX1_hasTooFewDots_12 (by decide) ?_
    refine fx_sub (lv' := [(0, .ref 1)]) [0] rfl ?_
    show fx_V gC mX1_hasTooFewDots (fx_ri R) 16 [(0, .ref 1)] [.int (1 : Int32)] M
    simpa only [if_neg c8] using J
def mX5_isBetter : fxM := (yX5_isBetter, cX5_isBetter, 3, (some .boolean), 2, 80)
theorem okvX5_isBetter (f l : Nat) : fx_okV (yX5_isBetter, cX5_isBetter, 3, (some .boolean), f, l) 2 := ⟨⟨rin31 _ (List.mem_of_getElem? (i := 20) rfl), rin1 _ (List.mem_of_getElem? (i := 23) rfl), by show yX5_isBetter.cls ≠ _; decide +kernel, by show yX5_isBetter.cls ≠ _; decide +kernel, by show (parseMethodDescriptor yX5_isBetter.desc).map _ = _; decide +kernel⟩, rin31 _ (List.mem_of_getElem? (i := 18) rfl), rin31 _ (List.mem_of_getElem? (i := 19) rfl)⟩
def CX5_isBetter (x1 : Int32) (x2 : Int32) (M : fxMem) : Option (Int32 × fxMem) := some ((if x1 < M 19 3 then (1 : Int32) else (if x1 = M 19 3 then (if M 19 4 ≤ x2 then (0 : Int32) else (1 : Int32)) else (0 : Int32))), M)
set_option maxRecDepth 100000 in
set_option maxHeartbeats 4000000 in
theorem tX5_isBetter {x1 : Int32} {x2 : Int32} {M : fxMem} {R : Int32 × fxMem} (h : CX5_isBetter x1 x2 M = some R) : fx_T gC mX5_isBetter [.ref 19, .int x1, .int x2] M (fx_ri R) := by
  rw [CX5_isBetter] at h
  refine fx_enter [(0, .ref 19), (1, .int x1), (2, .int x2)] (by show plainName RX5 = true; decide) (fun _ => rfl) (fun _ => Nat.le_of_ble_eq_true rfl) ?_
  refine fx_iload_n 0 dX5_isBetter_0 rfl 1 rfl ?_
  refine fx_aload_n 1 dX5_isBetter_1 rfl 0 rfl ?_
  refine fx_get 2 (j := 3) (v := .int (M 19 3)) okc19 dX5_isBetter_2 lfX5_18 (by decide) (fun _ => rfl) ?_
  have J : fx_V gC mX5_isBetter (fx_ri R) 29 [(0, .ref 19), (1, .int x1), (2, .int x2)] [.int (if x1 < M 19 3 then (1 : Int32) else (if x1 = M 19 3 then (if M 19 4 ≤ x2 then (0 : Int32) else (1 : Int32)) else (0 : Int32)))] M := by
    obtain rfl := Option.some.inj h
    exact fx_iret 29 dX5_isBetter_29 rfl (by (repeat' split) <;> rfl) ⟨rfl, rfl⟩
  refine fx_icmp_lt 5 24 dX5_isBetter_5 (by decide) (fun c5 => ?_) (fun c5 => ?_)
  · refine fx_iconst 24 (x := (1 : Int32)) dX5_isBetter_24 (by decide) ?_
    refine fx_goto 25 29 dX5_isBetter_25 (by decide) ?_
    refine fx_sub (lv' := [(0, .ref 19), (1, .int x1), (2, .int x2)]) [0, 1, 2] rfl ?_
    show fx_V gC mX5_isBetter (fx_ri R) 29 [(0, .ref 19), (1, .int x1), (2, .int x2)] [.int (1 : Int32)] M
    simpa only [if_pos c5] using J
  · refine fx_iload_n 8 dX5_isBetter_8 rfl 1 rfl ?_
    refine fx_aload_n 9 dX5_isBetter_9 rfl 0 rfl ?_
    refine fx_get 10 (j := 3) (v := .int (M 19 3)) okc19 dX5_isBetter_10 lfX5_18 (by decide) (fun _ => rfl) ?_
    refine fx_icmp_ne 13 28 dX5_isBetter_13 (by decide) (fun c13 => ?_) (fun c13 => ?_)
    · refine fx_iconst 28 (x := (0 : Int32)) dX5_isBetter_28 (by decide) ?_
      refine fx_sub (lv' := [(0, .ref 19), (1, .int x1), (2, .int x2)]) [0, 1, 2] rfl ?_
      show fx_V gC mX5_isBetter (fx_ri R) 29 [(0, .ref 19), (1, .int x1), (2, .int x2)] [.int (0 : Int32)] M
      simpa only [if_neg c5, if_neg c13] using J
    · refine fx_iload_n 16 dX5_isBetter_16 rfl 2 rfl ?_
      refine fx_aload_n 17 dX5_isBetter_17 rfl 0 rfl ?_
      refine fx_get 18 (j := 4) (v := .int (M 19 4)) okc19 dX5_isBetter_18 lfX5_22 (by decide) (fun _ => rfl) ?_
      refine fx_icmp_ge 21 28 dX5_isBetter_21 (by decide) (fun c21 => ?_) (fun c21 => ?_)
      · refine fx_iconst 28 (x := (0 : Int32)) dX5_isBetter_28 (by decide) ?_
        refine fx_sub (lv' := [(0, .ref 19), (1, .int x1), (2, .int x2)]) [0, 1, 2] rfl ?_
        show fx_V gC mX5_isBetter (fx_ri R) 29 [(0, .ref 19), (1, .int x1), (2, .int x2)] [.int (0 : Int32)] M
        simpa only [if_neg c5, if_pos c13, if_pos c21] using J
      · refine fx_iconst 24 (x := (1 : Int32)) dX5_isBetter_24 (by decide) ?_
        refine fx_goto 25 29 dX5_isBetter_25 (by decide) ?_
        refine fx_sub (lv' := [(0, .ref 19), (1, .int x1), (2, .int x2)]) [0, 1, 2] rfl ?_
        show fx_V gC mX5_isBetter (fx_ri R) 29 [(0, .ref 19), (1, .int x1), (2, .int x2)] [.int (1 : Int32)] M
        simpa only [if_neg c5, if_pos c13, if_neg c21] using J
def mX5_tryPlaces (d : Nat) : fxM := (yX5_tryPlaces, cX5_tryPlaces, 7, none, 9 + d, 40 * (9 + d))
theorem okvX5_tryPlaces (f l : Nat) : fx_okV (yX5_tryPlaces, cX5_tryPlaces, 7, none, f, l) 4 := ⟨⟨rin31 _ (List.mem_of_getElem? (i := 11) rfl), rin1 _ (List.mem_of_getElem? (i := 23) rfl), by show yX5_tryPlaces.cls ≠ _; decide +kernel, by show yX5_tryPlaces.cls ≠ _; decide +kernel, by show (parseMethodDescriptor yX5_tryPlaces.desc).map _ = _; decide +kernel⟩, rin31 _ (List.mem_of_getElem? (i := 9) rfl), rin31 _ (List.mem_of_getElem? (i := 10) rfl)⟩
def CX5_tryPlaces_J28 (rec : Int32 → Int32 → Int32 → Int32 → fxMem → Option (fxMem)) (x1 : Int32) (x2 : Int32) (x3 : Int32) (x4 : Int32) (M : fxMem) : Option (fxMem) := some (fx_cp (fx_st (fx_st M 19 3 x3) 19 4 x4) 56 57 6)
set_option maxRecDepth 100000 in
set_option maxHeartbeats 4000000 in
theorem vX5_tryPlaces_J28 {d : Nat} {rec : Int32 → Int32 → Int32 → Int32 → fxMem → Option (fxMem)} (H0 : ∀ {a1 a2 a3 a4 : Int32} {M : fxMem} {R : fxMem}, rec a1 a2 a3 a4 M = some R → fx_T gC (mX5_tryPlaces d) [.ref 19, .int a1, .int a2, .int a3, .int a4] M (fx_rv R))  {x1 : Int32} {x2 : Int32} {x3 : Int32} {x4 : Int32} {R : fxMem} {M : fxMem} (h : CX5_tryPlaces_J28 rec x1 x2 x3 x4 M = some R) : fx_V gC (mX5_tryPlaces (d + 1)) (fx_rv R) 28 [(0, .ref 19), (1, .int x1), (2, .int x2), (3, .int x3), (4, .int x4)] [] M := by
  rw [CX5_tryPlaces_J28] at h
  refine fx_aload_n 28 dX5_tryPlaces_28 rfl 0 rfl ?_
  refine fx_iload_n 29 dX5_tryPlaces_29 rfl 3 rfl ?_
  refine fx_putI 30 (j := 3) okc19 dX5_tryPlaces_30 lfX5_18 (by decide) rfl (by decide +kernel) (fun _ _ => Nat.le_of_ble_eq_true rfl) (fun _ _ _ => rfl) ?_
  refine fx_aload_n 33 dX5_tryPlaces_33 rfl 0 rfl ?_
  refine fx_iload 34 dX5_tryPlaces_34 4 rfl ?_
  refine fx_putI 36 (j := 4) okc19 dX5_tryPlaces_36 lfX5_22 (by decide) rfl (by decide +kernel) (fun _ _ => Nat.le_of_ble_eq_true rfl) (fun _ _ _ => rfl) ?_
  refine fx_aload_n 39 dX5_tryPlaces_39 rfl 0 rfl ?_
  refine fx_get 40 (j := 1) (v := .ref 56) okc19 dX5_tryPlaces_40 lfX5_9 (by decide) (fun _ => rfl) ?_
  refine fx_iconst 43 (x := (0 : Int32)) dX5_tryPlaces_43 (by decide) ?_
  refine fx_aload_n 44 dX5_tryPlaces_44 rfl 0 rfl ?_
  refine fx_get 45 (j := 2) (v := .ref 57) okc19 dX5_tryPlaces_45 lfX5_15 (by decide) (fun _ => rfl) ?_
  refine fx_iconst 48 (x := (0 : Int32)) dX5_tryPlaces_48 (by decide) ?_
  refine fx_bipush 49 (x := (6 : Int32)) dX5_tryPlaces_49 (by decide) ?_
  refine fx_copyz 51 6 .int oka56 oka57 (fun _ => rfl) rfl (by decide) (by decide) (by decide) (fun _ _ => rfl) dX5_tryPlaces_51 lmX5_45 (by simp only [mX5_tryPlaces]; omega) (Nat.le_trans (Nat.le_of_ble_eq_true rfl : _ ≤ 40) (by simp only [mX5_tryPlaces]; omega)) ?_
  obtain rfl := Option.some.inj h
  exact fx_vret 54 dX5_tryPlaces_54 rfl ⟨rfl, rfl⟩
def CX5_tryPlaces_L58 (rec : Int32 → Int32 → Int32 → Int32 → fxMem → Option (fxMem)) (x1 : Int32) (x2 : Int32) (x3 : Int32) (x4 : Int32) : Nat → Int32 → fxMem → (Int32 → fxMem → Option (fxMem)) → Option (fxMem)
  | 0, _, _, _ => none
  | n + 1, x5, M, k => if M 1 0 ≤ x5 then k x5 M else if (x2 >>> (x5 &&& 31)) &&& (1 : Int32) = (0 : Int32) then if fx_in x1 10 = true then if fx_in x5 10 = true then Option.bind (CX6_far (M 4 x1.toNatClampNeg) (M 5 x5.toNatClampNeg) M) fun q98 => if fx_in x1 6 = true then Option.bind (rec (x1 + (1 : Int32)) (x2 ||| ((1 : Int32) <<< (x5 &&& 31))) (if x3 < q98.1 then q98.1 else x3) (x4 + q98.1) (fx_st q98.2 56 x1.toNatClampNeg x5)) fun q132 => CX5_tryPlaces_L58 rec x1 x2 x3 x4 n (x5 + (1 : Int32)) q132 k else none else none else none else CX5_tryPlaces_L58 rec x1 x2 x3 x4 n (x5 + (1 : Int32)) M k
set_option maxRecDepth 100000 in
set_option maxHeartbeats 4000000 in
theorem vX5_tryPlaces_L58 {d : Nat} {rec : Int32 → Int32 → Int32 → Int32 → fxMem → Option (fxMem)} (H0 : ∀ {a1 a2 a3 a4 : Int32} {M : fxMem} {R : fxMem}, rec a1 a2 a3 a4 M = some R → fx_T gC (mX5_tryPlaces d) [.ref 19, .int a1, .int a2, .int a3, .int a4] M (fx_rv R)) {x1 : Int32} {x2 : Int32} {x3 : Int32} {x4 : Int32} {R : fxMem} {k : Int32 → fxMem → Option (fxMem)} (hk : ∀ (x5 : Int32) (M : fxMem), k x5 M = some R → fx_V gC (mX5_tryPlaces (d + 1)) (fx_rv R) 141 [(0, .ref 19), (1, .int x1), (2, .int x2), (3, .int x3), (4, .int x4), (5, .int x5)] [] M) : ∀ (n : Nat) (x5 : Int32) (M : fxMem), CX5_tryPlaces_L58 rec x1 x2 x3 x4 n x5 M k = some R → fx_V gC (mX5_tryPlaces (d + 1)) (fx_rv R) 58 [(0, .ref 19), (1, .int x1), (2, .int x2), (3, .int x3), (4, .int x4), (5, .int x5)] [] M := by
  intro n
  induction n with
  | zero => intro x5 M h; rw [CX5_tryPlaces_L58] at h; cases h
  | succ n ih =>
    intro x5 M h
    rw [CX5_tryPlaces_L58] at h
    refine fx_iload 58 dX5_tryPlaces_58 5 rfl ?_
    refine fx_aload_n 60 dX5_tryPlaces_60 rfl 0 rfl ?_
    refine fx_get 61 (j := 0) (v := .ref 1) okc19 dX5_tryPlaces_61 lfX5_25 (by decide) (fun _ => rfl) ?_
    refine fx_get 64 (j := 0) (v := .int (M 1 0)) okc1 dX5_tryPlaces_64 lfX5_40 (by decide) (fun _ => rfl) ?_
    refine fx_icmp_ge 67 141 dX5_tryPlaces_67 (by decide) (fun c67 => ?_) (fun c67 => ?_)
    · replace h := fx_ip c67 h
      refine fx_sub [0, 1, 2, 3, 4, 5] rfl ?_
      exact hk _ _ h
    · replace h := fx_ne c67 h
      refine fx_iload_n 70 dX5_tryPlaces_70 rfl 2 rfl ?_
      refine fx_iload 71 dX5_tryPlaces_71 5 rfl ?_
      refine fx_ishr 73 dX5_tryPlaces_73 ?_
      refine fx_iconst 74 (x := (1 : Int32)) dX5_tryPlaces_74 (by decide) ?_
      refine fx_iand 75 dX5_tryPlaces_75 ?_
      refine fx_if_ne 76 135 dX5_tryPlaces_76 (by decide) (fun c76 => ?_) (fun c76 => ?_)
      · replace h := fx_ne c76 h
        refine fx_iinc 135 (lv' := [(5, .int (x5 + (1 : Int32))), (0, .ref 19), (1, .int x1), (2, .int x2), (3, .int x3), (4, .int x4)]) (y := x5 + (1 : Int32)) dX5_tryPlaces_135 5 rfl (by rfl) (Nat.le_of_ble_eq_true rfl) rfl ?_
        refine fx_goto 138 58 dX5_tryPlaces_138 (by decide) ?_
        refine fx_sub [1, 2, 3, 4, 5, 0] rfl ?_
        exact ih _ _ h
      · replace h := fx_ip c76 h
        refine fx_aload_n 79 dX5_tryPlaces_79 rfl 0 rfl ?_
        refine fx_get 80 (j := 0) (v := .ref 1) okc19 dX5_tryPlaces_80 lfX5_25 (by decide) (fun _ => rfl) ?_
        refine fx_get 83 (j := 3) (v := .ref 4) okc1 dX5_tryPlaces_83 lfX5_51 (by decide) (fun _ => rfl) ?_
        refine fx_iload_n 86 dX5_tryPlaces_86 rfl 1 rfl ?_
        obtain ⟨g87, h⟩ := fx_gt h
        refine fx_iald 87 oka4 dX5_tryPlaces_87 g87 ?_
        refine fx_aload_n 88 dX5_tryPlaces_88 rfl 0 rfl ?_
        refine fx_get 89 (j := 0) (v := .ref 1) okc19 dX5_tryPlaces_89 lfX5_25 (by decide) (fun _ => rfl) ?_
        refine fx_get 92 (j := 6) (v := .ref 5) okc1 dX5_tryPlaces_92 lfX5_54 (by decide) (fun _ => rfl) ?_
        refine fx_iload 95 dX5_tryPlaces_95 5 rfl ?_
        obtain ⟨g97, h⟩ := fx_gt h
        refine fx_iald 97 oka5 dX5_tryPlaces_97 g97 ?_
        obtain ⟨q98, e98, h⟩ := fx_bd h
        refine fx_callNi 98 (mt' := mX6_far) (host := "FieldBand") (As := [.int (M 4 x1.toNatClampNeg), .int (M 5 x5.toNatClampNeg)]) (oksX6_far _ _) (List.mem_of_getElem? (i := 8) rfl) (by simp only [mX5_tryPlaces, mX6_far]; omega) rfl rfl (Nat.le_of_ble_eq_true rfl) dX5_tryPlaces_98 (tX6_far e98) ?_
        refine fx_istore 101 (lv' := [(6, .int q98.1), (0, .ref 19), (1, .int x1), (2, .int x2), (3, .int x3), (4, .int x4), (5, .int x5)]) dX5_tryPlaces_101 (Nat.le_of_ble_eq_true rfl) rfl ?_
        refine fx_aload_n 103 dX5_tryPlaces_103 rfl 1 rfl ?_
        refine fx_get 104 (j := 1) (v := .ref 56) okc19 dX5_tryPlaces_104 lfX5_9 (by decide) (fun _ => rfl) ?_
        refine fx_iload_n 107 dX5_tryPlaces_107 rfl 2 rfl ?_
        refine fx_iload 108 dX5_tryPlaces_108 6 rfl ?_
        obtain ⟨g110, h⟩ := fx_gt h
        refine fx_iast 110 oka56 dX5_tryPlaces_110 g110 ?_
        refine fx_aload_n 111 dX5_tryPlaces_111 rfl 1 rfl ?_
        refine fx_iload_n 112 dX5_tryPlaces_112 rfl 2 rfl ?_
        refine fx_iconst 113 (x := (1 : Int32)) dX5_tryPlaces_113 (by decide) ?_
        refine fx_iadd 114 dX5_tryPlaces_114 ?_
        refine fx_iload_n 115 dX5_tryPlaces_115 rfl 3 rfl ?_
        refine fx_iconst 116 (x := (1 : Int32)) dX5_tryPlaces_116 (by decide) ?_
        refine fx_iload 117 dX5_tryPlaces_117 6 rfl ?_
        refine fx_ishl 119 dX5_tryPlaces_119 ?_
        refine fx_ior 120 dX5_tryPlaces_120 ?_
        refine fx_iload_n 121 dX5_tryPlaces_121 rfl 4 rfl ?_
        refine fx_iload 122 dX5_tryPlaces_122 0 rfl ?_
        refine fx_mmax 124 dX5_tryPlaces_124 lmX5_61 (by simp only [mX5_tryPlaces]; omega) (Nat.le_trans (Nat.le_of_ble_eq_true rfl : _ ≤ 40) (by simp only [mX5_tryPlaces]; omega)) ?_
        refine fx_iload 127 dX5_tryPlaces_127 5 rfl ?_
        refine fx_iload 129 dX5_tryPlaces_129 0 rfl ?_
        refine fx_iadd 131 dX5_tryPlaces_131 ?_
        obtain ⟨q132, e132, h⟩ := fx_bd h
        refine fx_callVv 132 (mt' := (mX5_tryPlaces d)) (As := [.int (x1 + (1 : Int32)), .int (x2 ||| ((1 : Int32) <<< (x5 &&& 31))), .int (if x3 < q98.1 then q98.1 else x3), .int (x4 + q98.1)]) okc19 (okvX5_tryPlaces _ _) lmX5_32 (by simp only [mX5_tryPlaces]; omega) rfl rfl (Nat.le_of_ble_eq_true rfl) dX5_tryPlaces_132 (H0 e132) ?_
        refine fx_iinc 135 (lv' := [(5, .int (x5 + (1 : Int32))), (6, .int q98.1), (0, .ref 19), (1, .int x1), (2, .int x2), (3, .int x3), (4, .int x4)]) (y := x5 + (1 : Int32)) dX5_tryPlaces_135 6 rfl (by rfl) (Nat.le_of_ble_eq_true rfl) rfl ?_
        refine fx_goto 138 58 dX5_tryPlaces_138 (by decide) ?_
        refine fx_sub [2, 3, 4, 5, 6, 0] rfl ?_
        exact ih _ _ h
def BX5_tryPlaces (rec : Int32 → Int32 → Int32 → Int32 → fxMem → Option (fxMem)) (x1 : Int32) (x2 : Int32) (x3 : Int32) (x4 : Int32) (M : fxMem) : Option (fxMem) := Option.bind (CX5_isBetter x3 x4 M) fun q4 => if q4.1 = (0 : Int32) then some q4.2 else if q4.2 1 0 ≤ x1 then CX5_tryPlaces_J28 rec x1 x2 x3 x4 q4.2 else if x1 < (6 : Int32) then CX5_tryPlaces_L58 rec x1 x2 x3 x4 1000 (0 : Int32) q4.2 (fun y5_58 M58 => some M58) else CX5_tryPlaces_J28 rec x1 x2 x3 x4 q4.2
set_option maxRecDepth 100000 in
set_option maxHeartbeats 4000000 in
theorem bX5_tryPlaces {d : Nat} {rec : Int32 → Int32 → Int32 → Int32 → fxMem → Option (fxMem)} (H0 : ∀ {a1 a2 a3 a4 : Int32} {M : fxMem} {R : fxMem}, rec a1 a2 a3 a4 M = some R → fx_T gC (mX5_tryPlaces d) [.ref 19, .int a1, .int a2, .int a3, .int a4] M (fx_rv R)) {x1 : Int32} {x2 : Int32} {x3 : Int32} {x4 : Int32} {M : fxMem} {R : fxMem} (h : BX5_tryPlaces rec x1 x2 x3 x4 M = some R) : fx_T gC (mX5_tryPlaces (d + 1)) [.ref 19, .int x1, .int x2, .int x3, .int x4] M (fx_rv R) := by
  rw [BX5_tryPlaces] at h
  refine fx_enter [(0, .ref 19), (1, .int x1), (2, .int x2), (3, .int x3), (4, .int x4)] (by show plainName RX5 = true; decide) (fun _ => rfl) (fun _ => Nat.le_of_ble_eq_true rfl) ?_
  refine fx_aload_n 0 dX5_tryPlaces_0 rfl 0 rfl ?_
  refine fx_iload_n 1 dX5_tryPlaces_1 rfl 3 rfl ?_
  refine fx_iload 2 dX5_tryPlaces_2 4 rfl ?_
  obtain ⟨q4, e4, h⟩ := fx_bd h
  refine fx_callVi 4 (mt' := mX5_isBetter) (As := [.int x3, .int x4]) okc19 (okvX5_isBetter _ _) lmX5_36 (by simp only [mX5_tryPlaces, mX5_isBetter]; omega) rfl rfl (Nat.le_of_ble_eq_true rfl) dX5_tryPlaces_4 (tX5_isBetter e4) ?_
  refine fx_if_ne 7 11 dX5_tryPlaces_7 (by decide) (fun c7 => ?_) (fun c7 => ?_)
  · replace h := fx_ne c7 h
    refine fx_iload_n 11 dX5_tryPlaces_11 rfl 1 rfl ?_
    refine fx_aload_n 12 dX5_tryPlaces_12 rfl 0 rfl ?_
    refine fx_get 13 (j := 0) (v := .ref 1) okc19 dX5_tryPlaces_13 lfX5_25 (by decide) (fun _ => rfl) ?_
    refine fx_get 16 (j := 0) (v := .int (q4.2 1 0)) okc1 dX5_tryPlaces_16 lfX5_40 (by decide) (fun _ => rfl) ?_
    refine fx_icmp_ge 19 28 dX5_tryPlaces_19 (by decide) (fun c19 => ?_) (fun c19 => ?_)
    · replace h := fx_ip c19 h
      refine fx_sub [0, 1, 2, 3, 4] rfl ?_
      exact vX5_tryPlaces_J28 H0 h
    · replace h := fx_ne c19 h
      refine fx_iload_n 22 dX5_tryPlaces_22 rfl 1 rfl ?_
      refine fx_bipush 23 (x := (6 : Int32)) dX5_tryPlaces_23 (by decide) ?_
      refine fx_icmp_lt 25 55 dX5_tryPlaces_25 (by decide) (fun c25 => ?_) (fun c25 => ?_)
      · replace h := fx_ip c25 h
        refine fx_iconst 55 (x := (0 : Int32)) dX5_tryPlaces_55 (by decide) ?_
        refine fx_istore 56 (lv' := [(5, .int (0 : Int32)), (0, .ref 19), (1, .int x1), (2, .int x2), (3, .int x3), (4, .int x4)]) dX5_tryPlaces_56 (Nat.le_of_ble_eq_true rfl) rfl ?_
        refine fx_sub [1, 2, 3, 4, 5, 0] rfl ?_
        refine vX5_tryPlaces_L58 H0 (fun y5_58 M58 h => ?_) 1000 _ _ h
        obtain rfl := Option.some.inj h
        exact fx_vret 141 dX5_tryPlaces_141 rfl ⟨rfl, rfl⟩
      · replace h := fx_ne c25 h
        refine fx_sub [0, 1, 2, 3, 4] rfl ?_
        exact vX5_tryPlaces_J28 H0 h
  · replace h := fx_ip c7 h
    obtain rfl := Option.some.inj h
    exact fx_vret 10 dX5_tryPlaces_10 rfl ⟨rfl, rfl⟩
def gX5 : Nat → Int32 → Int32 → Int32 → Int32 → fxMem → Option (fxMem)
  | 0, _, _, _, _, _ => none
  | d + 1, a0, a1, a2, a3, M => BX5_tryPlaces (fun a0 a1 a2 a3 M => gX5 d a0 a1 a2 a3 M) a0 a1 a2 a3 M
theorem tgX5 : ∀ d : Nat, (∀ {a1 a2 a3 a4 : Int32} {M : fxMem} {R : fxMem}, gX5 d a1 a2 a3 a4 M = some R → fx_T gC (mX5_tryPlaces d) [.ref 19, .int a1, .int a2, .int a3, .int a4] M (fx_rv R)) := by
  intro d
  induction d with
  | zero => exact fun h => by rw [gX5] at h; cases h
  | succ d ih =>
    exact fun h => by rw [gX5] at h; exact bX5_tryPlaces ih h
def CX5_tryPlaces (x1 : Int32) (x2 : Int32) (x3 : Int32) (x4 : Int32) (M : fxMem) : Option (fxMem) := gX5 40 x1 x2 x3 x4 M
theorem tX5_tryPlaces {x1 : Int32} {x2 : Int32} {x3 : Int32} {x4 : Int32} {M : fxMem} {R : fxMem} (h : CX5_tryPlaces x1 x2 x3 x4 M = some R) : fx_T gC (mX5_tryPlaces 40) [.ref 19, .int x1, .int x2, .int x3, .int x4] M (fx_rv R) := (tgX5 40) h
def mX5_find : fxM := (yX5_find, cX5_find, 1, none, 50, 2000)
theorem okvX5_find (f l : Nat) : fx_okV (yX5_find, cX5_find, 1, none, f, l) 0 := ⟨⟨rin31 _ (List.mem_of_getElem? (i := 6) rfl), rin1 _ (List.mem_of_getElem? (i := 23) rfl), by show yX5_find.cls ≠ _; decide +kernel, by show yX5_find.cls ≠ _; decide +kernel, by show (parseMethodDescriptor yX5_find.desc).map _ = _; decide +kernel⟩, rin31 _ (List.mem_of_getElem? (i := 4) rfl), rin31 _ (List.mem_of_getElem? (i := 5) rfl)⟩
def CX5_find  (M : fxMem) : Option (fxMem) := Option.bind (CX5_tryPlaces (0 : Int32) (0 : Int32) (0 : Int32) (0 : Int32) (fx_st (fx_st M 19 3 (2147483647 : Int32)) 19 4 (2147483647 : Int32))) fun q17 => some q17
set_option maxRecDepth 100000 in
set_option maxHeartbeats 4000000 in
theorem tX5_find  {M : fxMem} {R : fxMem} (h : CX5_find  M = some R) : fx_T gC mX5_find [.ref 19] M (fx_rv R) := by
  rw [CX5_find] at h
  refine fx_enter [(0, .ref 19)] (by show plainName RX5 = true; decide) (fun _ => rfl) (fun _ => Nat.le_of_ble_eq_true rfl) ?_
  refine fx_aload_n 0 dX5_find_0 rfl 0 rfl ?_
  refine fx_ldc 1 dX5_find_1 lcX5_31 ?_
  refine fx_putI 3 (j := 3) okc19 dX5_find_3 lfX5_18 (by decide) rfl (by decide +kernel) (fun _ _ => Nat.le_of_ble_eq_true rfl) (fun _ _ _ => rfl) ?_
  refine fx_aload_n 6 dX5_find_6 rfl 0 rfl ?_
  refine fx_ldc 7 dX5_find_7 lcX5_31 ?_
  refine fx_putI 9 (j := 4) okc19 dX5_find_9 lfX5_22 (by decide) rfl (by decide +kernel) (fun _ _ => Nat.le_of_ble_eq_true rfl) (fun _ _ _ => rfl) ?_
  refine fx_aload_n 12 dX5_find_12 rfl 0 rfl ?_
  refine fx_iconst 13 (x := (0 : Int32)) dX5_find_13 (by decide) ?_
  refine fx_iconst 14 (x := (0 : Int32)) dX5_find_14 (by decide) ?_
  refine fx_iconst 15 (x := (0 : Int32)) dX5_find_15 (by decide) ?_
  refine fx_iconst 16 (x := (0 : Int32)) dX5_find_16 (by decide) ?_
  obtain ⟨q17, e17, h⟩ := fx_bd h
  refine fx_callVv 17 (mt' := (mX5_tryPlaces 40)) (As := [.int (0 : Int32), .int (0 : Int32), .int (0 : Int32), .int (0 : Int32)]) okc19 (okvX5_tryPlaces _ _) lmX5_32 (by decide) rfl rfl (Nat.le_of_ble_eq_true rfl) dX5_find_17 (tX5_tryPlaces e17) ?_
  obtain rfl := Option.some.inj h
  exact fx_vret 20 dX5_find_20 rfl ⟨rfl, rfl⟩
def mX6_findWay : fxM := (yX6_findWay, cX6_findWay, 1, (some .int), 51, 2040)
theorem okvX6_findWay (f l : Nat) : fx_okV (yX6_findWay, cX6_findWay, 1, (some .int), f, l) 0 := ⟨⟨rin30 _ (List.mem_of_getElem? (i := 22) rfl), rin1 _ (List.mem_of_getElem? (i := 2) rfl), by show yX6_findWay.cls ≠ _; decide +kernel, by show yX6_findWay.cls ≠ _; decide +kernel, by show (parseMethodDescriptor yX6_findWay.desc).map _ = _; decide +kernel⟩, rin30 _ (List.mem_of_getElem? (i := 20) rfl), rin30 _ (List.mem_of_getElem? (i := 21) rfl)⟩
def CX6_findWay  (M : fxMem) : Option (Int32 × fxMem) := Option.bind (CX1_hasTooFewDots M) fun q4 => if q4.1 = (0 : Int32) then if q4.2 1 0 ≤ (6 : Int32) then Option.bind (CX5_find q4.2) fun q32 => some ((0 : Int32), q32) else some ((-9 : Int32), q4.2) else some ((-5 : Int32), q4.2)
set_option maxRecDepth 100000 in
set_option maxHeartbeats 4000000 in
theorem tX6_findWay  {M : fxMem} {R : Int32 × fxMem} (h : CX6_findWay  M = some R) : fx_T gC mX6_findWay [.ref 0] M (fx_ri R) := by
  rw [CX6_findWay] at h
  refine fx_enter [(0, .ref 0)] (by show plainName RX6 = true; decide) (fun _ => rfl) (fun _ => Nat.le_of_ble_eq_true rfl) ?_
  refine fx_aload_n 0 dX6_findWay_0 rfl 0 rfl ?_
  refine fx_get 1 (j := 0) (v := .ref 1) okc0 dX6_findWay_1 lfX6_12 (by decide) (fun _ => rfl) ?_
  obtain ⟨q4, e4, h⟩ := fx_bd h
  refine fx_callVi 4 (mt' := mX1_hasTooFewDots) (As := []) okc1 (okvX1_hasTooFewDots _ _) lmX6_176 (by decide) rfl rfl (Nat.le_of_ble_eq_true rfl) dX6_findWay_4 (tX1_hasTooFewDots e4) ?_
  refine fx_if_eq 7 13 dX6_findWay_7 (by decide) (fun c7 => ?_) (fun c7 => ?_)
  · replace h := fx_ip c7 h
    refine fx_aload_n 13 dX6_findWay_13 rfl 0 rfl ?_
    refine fx_get 14 (j := 0) (v := .ref 1) okc0 dX6_findWay_14 lfX6_12 (by decide) (fun _ => rfl) ?_
    refine fx_get 17 (j := 0) (v := .int (q4.2 1 0)) okc1 dX6_findWay_17 lfX6_97 (by decide) (fun _ => rfl) ?_
    refine fx_bipush 20 (x := (6 : Int32)) dX6_findWay_20 (by decide) ?_
    refine fx_icmp_le 22 28 dX6_findWay_22 (by decide) (fun c22 => ?_) (fun c22 => ?_)
    · replace h := fx_ip c22 h
      refine fx_aload_n 28 dX6_findWay_28 rfl 0 rfl ?_
      refine fx_get 29 (j := 6) (v := .ref 19) okc0 dX6_findWay_29 lfX6_34 (by decide) (fun _ => rfl) ?_
      obtain ⟨q32, e32, h⟩ := fx_bd h
      refine fx_callVv 32 (mt' := mX5_find) (As := []) okc19 (okvX5_find _ _) lmX6_226 (by decide) rfl rfl (Nat.le_of_ble_eq_true rfl) dX6_findWay_32 (tX5_find e32) ?_
      refine fx_iconst 35 (x := (0 : Int32)) dX6_findWay_35 (by decide) ?_
      obtain rfl := Option.some.inj h
      exact fx_iret 36 dX6_findWay_36 rfl rfl ⟨rfl, rfl⟩
    · replace h := fx_ne c22 h
      refine fx_bipush 25 (x := (-9 : Int32)) dX6_findWay_25 (by decide) ?_
      obtain rfl := Option.some.inj h
      exact fx_iret 27 dX6_findWay_27 rfl rfl ⟨rfl, rfl⟩
  · replace h := fx_ne c7 h
    refine fx_bipush 10 (x := (-5 : Int32)) dX6_findWay_10 (by decide) ?_
    obtain rfl := Option.some.inj h
    exact fx_iret 12 dX6_findWay_12 rfl rfl ⟨rfl, rfl⟩
def mX6_way : fxM := (yX6_way, cX6_way, 3, (some .int), 52, 2080)
theorem okvX6_way (f l : Nat) : fx_okV (yX6_way, cX6_way, 3, (some .int), f, l) 1 := ⟨⟨rin30 _ (List.mem_of_getElem? (i := 15) rfl), rin1 _ (List.mem_of_getElem? (i := 2) rfl), by show yX6_way.cls ≠ _; decide +kernel, by show yX6_way.cls ≠ _; decide +kernel, by show (parseMethodDescriptor yX6_way.desc).map _ = _; decide +kernel⟩, rin30 _ (List.mem_of_getElem? (i := 13) rfl), rin30 _ (List.mem_of_getElem? (i := 14) rfl)⟩
def CX6_way (x1 : Int32) (M : fxMem) : Option (Int32 × fxMem) := if x1 < (-2 : Int32) then some ((-1 : Int32), M) else if x1 < M 1 0 then Option.bind (CX6_findWay M) fun q20 => if q20.1 = (0 : Int32) then if x1 = (-1 : Int32) then some (q20.2 19 3, q20.2) else if x1 = (-2 : Int32) then some (q20.2 19 4, q20.2) else if fx_in x1 6 = true then some (q20.2 57 x1.toNatClampNeg, q20.2) else none else some (q20.1, q20.2) else some ((-1 : Int32), M)
set_option maxRecDepth 100000 in
set_option maxHeartbeats 4000000 in
theorem tX6_way {x1 : Int32} {M : fxMem} {R : Int32 × fxMem} (h : CX6_way x1 M = some R) : fx_T gC mX6_way [.ref 0, .int x1] M (fx_ri R) := by
  rw [CX6_way] at h
  refine fx_enter [(0, .ref 0), (1, .int x1)] (by show plainName RX6 = true; decide) (fun _ => rfl) (fun _ => Nat.le_of_ble_eq_true rfl) ?_
  refine fx_iload_n 0 dX6_way_0 rfl 1 rfl ?_
  refine fx_bipush 1 (x := (-2 : Int32)) dX6_way_1 (by decide) ?_
  refine fx_icmp_lt 3 17 dX6_way_3 (by decide) (fun c3 => ?_) (fun c3 => ?_)
  · replace h := fx_ip c3 h
    refine fx_iconst 17 (x := (-1 : Int32)) dX6_way_17 (by decide) ?_
    obtain rfl := Option.some.inj h
    exact fx_iret 18 dX6_way_18 rfl rfl ⟨rfl, rfl⟩
  · replace h := fx_ne c3 h
    refine fx_iload_n 6 dX6_way_6 rfl 1 rfl ?_
    refine fx_aload_n 7 dX6_way_7 rfl 0 rfl ?_
    refine fx_get 8 (j := 0) (v := .ref 1) okc0 dX6_way_8 lfX6_12 (by decide) (fun _ => rfl) ?_
    refine fx_get 11 (j := 0) (v := .int (M 1 0)) okc1 dX6_way_11 lfX6_97 (by decide) (fun _ => rfl) ?_
    refine fx_icmp_lt 14 19 dX6_way_14 (by decide) (fun c14 => ?_) (fun c14 => ?_)
    · replace h := fx_ip c14 h
      refine fx_aload_n 19 dX6_way_19 rfl 0 rfl ?_
      obtain ⟨q20, e20, h⟩ := fx_bd h
      refine fx_callVi 20 (mt' := mX6_findWay) (As := []) okc0 (okvX6_findWay _ _) lmX6_163 (by decide) rfl rfl (Nat.le_of_ble_eq_true rfl) dX6_way_20 (tX6_findWay e20) ?_
      refine fx_istore_n 23 (lv' := [(2, .int q20.1), (0, .ref 0), (1, .int x1)]) dX6_way_23 rfl (Nat.le_of_ble_eq_true rfl) rfl ?_
      refine fx_iload_n 24 dX6_way_24 rfl 0 rfl ?_
      refine fx_if_eq 25 30 dX6_way_25 (by decide) (fun c25 => ?_) (fun c25 => ?_)
      · replace h := fx_ip c25 h
        refine fx_iload_n 30 dX6_way_30 rfl 2 rfl ?_
        refine fx_iconst 31 (x := (-1 : Int32)) dX6_way_31 (by decide) ?_
        refine fx_icmp_ne 32 43 dX6_way_32 (by decide) (fun c32 => ?_) (fun c32 => ?_)
        · replace h := fx_ne c32 h
          refine fx_iload_n 43 dX6_way_43 rfl 2 rfl ?_
          refine fx_bipush 44 (x := (-2 : Int32)) dX6_way_44 (by decide) ?_
          refine fx_icmp_ne 46 59 dX6_way_46 (by decide) (fun c46 => ?_) (fun c46 => ?_)
          · replace h := fx_ne c46 h
            refine fx_aload_n 59 dX6_way_59 rfl 1 rfl ?_
            refine fx_get 60 (j := 6) (v := .ref 19) okc0 dX6_way_60 lfX6_34 (by decide) (fun _ => rfl) ?_
            refine fx_get 63 (j := 2) (v := .ref 57) okc19 dX6_way_63 lfX6_173 (by decide) (fun _ => rfl) ?_
            refine fx_iload_n 66 dX6_way_66 rfl 2 rfl ?_
            obtain ⟨g67, h⟩ := fx_gt h
            refine fx_iald 67 oka57 dX6_way_67 g67 ?_
            obtain rfl := Option.some.inj h
            exact fx_iret 68 dX6_way_68 rfl rfl ⟨rfl, rfl⟩
          · replace h := fx_ip c46 h
            refine fx_aload_n 49 dX6_way_49 rfl 1 rfl ?_
            refine fx_get 50 (j := 6) (v := .ref 19) okc0 dX6_way_50 lfX6_34 (by decide) (fun _ => rfl) ?_
            refine fx_get 53 (j := 4) (v := .int (q20.2 19 4)) okc19 dX6_way_53 lfX6_170 (by decide) (fun _ => rfl) ?_
            refine fx_goto 56 68 dX6_way_56 (by decide) ?_
            obtain rfl := Option.some.inj h
            exact fx_iret 68 dX6_way_68 rfl rfl ⟨rfl, rfl⟩
        · replace h := fx_ip c32 h
          refine fx_aload_n 35 dX6_way_35 rfl 1 rfl ?_
          refine fx_get 36 (j := 6) (v := .ref 19) okc0 dX6_way_36 lfX6_34 (by decide) (fun _ => rfl) ?_
          refine fx_get 39 (j := 3) (v := .int (q20.2 19 3)) okc19 dX6_way_39 lfX6_167 (by decide) (fun _ => rfl) ?_
          obtain rfl := Option.some.inj h
          exact fx_iret 42 dX6_way_42 rfl rfl ⟨rfl, rfl⟩
      · replace h := fx_ne c25 h
        refine fx_iload_n 28 dX6_way_28 rfl 0 rfl ?_
        obtain rfl := Option.some.inj h
        exact fx_iret 29 dX6_way_29 rfl rfl ⟨rfl, rfl⟩
    · replace h := fx_ne c14 h
      refine fx_iconst 17 (x := (-1 : Int32)) dX6_way_17 (by decide) ?_
      obtain rfl := Option.some.inj h
      exact fx_iret 18 dX6_way_18 rfl rfl ⟨rfl, rfl⟩
def mX6_counts : fxM := (yX6_counts, cX6_counts, 3, (some .int), 52, 2080)
theorem okvX6_counts (f l : Nat) : fx_okV (yX6_counts, cX6_counts, 3, (some .int), f, l) 0 := ⟨⟨rin32 _ (List.mem_of_getElem? (i := 22) rfl), rin1 _ (List.mem_of_getElem? (i := 2) rfl), by show yX6_counts.cls ≠ _; decide +kernel, by show yX6_counts.cls ≠ _; decide +kernel, by show (parseMethodDescriptor yX6_counts.desc).map _ = _; decide +kernel⟩, rin32 _ (List.mem_of_getElem? (i := 20) rfl), rin32 _ (List.mem_of_getElem? (i := 21) rfl)⟩
def CX6_counts  (M : fxMem) : Option (Int32 × fxMem) := Option.bind (CX6_findWay M) fun q1 => if q1.1 = (0 : Int32) then Option.bind (CX6_held q1.2) fun q13 => if fx_isSh q13.1 = true then if (if (1 : Int32) < q13.2 q13.1 2 then q13.2 q13.1 2 else (1 : Int32)) = (0 : Int32) then none else some ((((q13.2 19 3) + (if (1 : Int32) < q13.2 q13.1 2 then q13.2 q13.1 2 else (1 : Int32))) - (1 : Int32)) / (if (1 : Int32) < q13.2 q13.1 2 then q13.2 q13.1 2 else (1 : Int32)), q13.2) else none else some (q1.1, q1.2)
set_option maxRecDepth 100000 in
set_option maxHeartbeats 4000000 in
theorem tX6_counts  {M : fxMem} {R : Int32 × fxMem} (h : CX6_counts  M = some R) : fx_T gC mX6_counts [.ref 0] M (fx_ri R) := by
  rw [CX6_counts] at h
  refine fx_enter [(0, .ref 0)] (by show plainName RX6 = true; decide) (fun _ => rfl) (fun _ => Nat.le_of_ble_eq_true rfl) ?_
  refine fx_aload_n 0 dX6_counts_0 rfl 0 rfl ?_
  obtain ⟨q1, e1, h⟩ := fx_bd h
  refine fx_callVi 1 (mt' := mX6_findWay) (As := []) okc0 (okvX6_findWay _ _) lmX6_163 (by decide) rfl rfl (Nat.le_of_ble_eq_true rfl) dX6_counts_1 (tX6_findWay e1) ?_
  refine fx_istore_n 4 (lv' := [(1, .int q1.1), (0, .ref 0)]) dX6_counts_4 rfl (Nat.le_of_ble_eq_true rfl) rfl ?_
  refine fx_iload_n 5 dX6_counts_5 rfl 0 rfl ?_
  refine fx_if_eq 6 11 dX6_counts_6 (by decide) (fun c6 => ?_) (fun c6 => ?_)
  · replace h := fx_ip c6 h
    refine fx_iconst 11 (x := (1 : Int32)) dX6_counts_11 (by decide) ?_
    refine fx_aload_n 12 dX6_counts_12 rfl 1 rfl ?_
    obtain ⟨q13, e13, h⟩ := fx_bd h
    refine fx_callVq 13 (mt' := mX6_held) (As := []) okc0 (okvX6_held _ _) lmX6_76 (by decide) rfl rfl (Nat.le_of_ble_eq_true rfl) dX6_counts_13 (tX6_held e13) ?_
    obtain ⟨g16, h⟩ := fx_gt h
    refine fx_get 16 (j := 2) (v := .int (q13.2 q13.1 2)) (okcS g16) dX6_counts_16 lfX6_86 (by decide) (fun _ => rfl) ?_
    refine fx_mmax 19 dX6_counts_19 lmX6_149 (by decide) (Nat.le_of_ble_eq_true rfl) ?_
    refine fx_istore_n 22 (lv' := [(2, .int (if (1 : Int32) < q13.2 q13.1 2 then q13.2 q13.1 2 else (1 : Int32))), (1, .int q1.1), (0, .ref 0)]) dX6_counts_22 rfl (Nat.le_of_ble_eq_true rfl) rfl ?_
    refine fx_aload_n 23 dX6_counts_23 rfl 2 rfl ?_
    refine fx_get 24 (j := 6) (v := .ref 19) okc0 dX6_counts_24 lfX6_34 (by decide) (fun _ => rfl) ?_
    refine fx_get 27 (j := 3) (v := .int (q13.2 19 3)) okc19 dX6_counts_27 lfX6_167 (by decide) (fun _ => rfl) ?_
    refine fx_iload_n 30 dX6_counts_30 rfl 0 rfl ?_
    refine fx_iadd 31 dX6_counts_31 ?_
    refine fx_iconst 32 (x := (1 : Int32)) dX6_counts_32 (by decide) ?_
    refine fx_isub 33 dX6_counts_33 ?_
    refine fx_iload_n 34 dX6_counts_34 rfl 0 rfl ?_
    obtain ⟨z35, h⟩ := fx_gn h
    refine fx_idiv 35 dX6_counts_35 z35 ?_
    obtain rfl := Option.some.inj h
    exact fx_iret 36 dX6_counts_36 rfl rfl ⟨rfl, rfl⟩
  · replace h := fx_ne c6 h
    refine fx_iload_n 9 dX6_counts_9 rfl 0 rfl ?_
    obtain rfl := Option.some.inj h
    exact fx_iret 10 dX6_counts_10 rfl rfl ⟨rfl, rfl⟩
def mX1_meetHalfWay : fxM := (yX1_meetHalfWay, cX1_meetHalfWay, 3, (some .boolean), 3, 120)
theorem okvX1_meetHalfWay (f l : Nat) : fx_okV (yX1_meetHalfWay, cX1_meetHalfWay, 3, (some .boolean), f, l) 2 := ⟨⟨rin33 _ (List.mem_of_getElem? (i := 10) rfl), rin1 _ (List.mem_of_getElem? (i := 15) rfl), by show yX1_meetHalfWay.cls ≠ _; decide +kernel, by show yX1_meetHalfWay.cls ≠ _; decide +kernel, by show (parseMethodDescriptor yX1_meetHalfWay.desc).map _ = _; decide +kernel⟩, rin33 _ (List.mem_of_getElem? (i := 8) rfl), rin33 _ (List.mem_of_getElem? (i := 9) rfl)⟩
def CX1_meetHalfWay (x1 : Int32) (x2 : Int32) (M : fxMem) : Option (Int32 × fxMem) := if fx_in x1 10 = true then Option.bind (CX6_rowOf (M 4 x1.toNatClampNeg) M) fun q6 => Option.bind (CX6_rowOf (q6.2 5 x1.toNatClampNeg) q6.2) fun q15 => if fx_in x2 10 = true then Option.bind (CX6_rowOf (q15.2 4 x2.toNatClampNeg) q15.2) fun q25 => Option.bind (CX6_rowOf (q25.2 5 x2.toNatClampNeg) q25.2) fun q34 => if q6.1 + q15.1 = q25.1 + q34.1 then Option.bind (CX6_columnOf (q34.2 4 x1.toNatClampNeg) q34.2) fun q47 => Option.bind (CX6_columnOf (q47.2 5 x1.toNatClampNeg) q47.2) fun q56 => Option.bind (CX6_columnOf (q56.2 4 x2.toNatClampNeg) q56.2) fun q66 => Option.bind (CX6_columnOf (q66.2 5 x2.toNatClampNeg) q66.2) fun q75 => some ((if q47.1 + q56.1 = q66.1 + q75.1 then (1 : Int32) else (0 : Int32)), q75.2) else some ((0 : Int32), q34.2) else none else none
set_option maxRecDepth 100000 in
set_option maxHeartbeats 4000000 in
theorem tX1_meetHalfWay {x1 : Int32} {x2 : Int32} {M : fxMem} {R : Int32 × fxMem} (h : CX1_meetHalfWay x1 x2 M = some R) : fx_T gC mX1_meetHalfWay [.ref 1, .int x1, .int x2] M (fx_ri R) := by
  rw [CX1_meetHalfWay] at h
  refine fx_enter [(0, .ref 1), (1, .int x1), (2, .int x2)] (by show plainName RX1 = true; decide) (fun _ => rfl) (fun _ => Nat.le_of_ble_eq_true rfl) ?_
  refine fx_aload_n 0 dX1_meetHalfWay_0 rfl 0 rfl ?_
  refine fx_get 1 (j := 3) (v := .ref 4) okc1 dX1_meetHalfWay_1 lfX1_22 (by decide) (fun _ => rfl) ?_
  refine fx_iload_n 4 dX1_meetHalfWay_4 rfl 1 rfl ?_
  obtain ⟨g5, h⟩ := fx_gt h
  refine fx_iald 5 oka4 dX1_meetHalfWay_5 g5 ?_
  obtain ⟨q6, e6, h⟩ := fx_bd h
  refine fx_callNi 6 (mt' := mX6_rowOf) (host := "FieldBand") (As := [.int (M 4 x1.toNatClampNeg)]) (oksX6_rowOf _ _) (List.mem_of_getElem? (i := 9) rfl) (by decide) rfl rfl (Nat.le_of_ble_eq_true rfl) dX1_meetHalfWay_6 (tX6_rowOf e6) ?_
  refine fx_aload_n 9 dX1_meetHalfWay_9 rfl 0 rfl ?_
  refine fx_get 10 (j := 6) (v := .ref 5) okc1 dX1_meetHalfWay_10 lfX1_31 (by decide) (fun _ => rfl) ?_
  refine fx_iload_n 13 dX1_meetHalfWay_13 rfl 1 rfl ?_
  refine fx_iald 14 oka5 dX1_meetHalfWay_14 g5 ?_
  obtain ⟨q15, e15, h⟩ := fx_bd h
  refine fx_callNi 15 (mt' := mX6_rowOf) (host := "FieldBand") (As := [.int (q6.2 5 x1.toNatClampNeg)]) (oksX6_rowOf _ _) (List.mem_of_getElem? (i := 9) rfl) (by decide) rfl rfl (Nat.le_of_ble_eq_true rfl) dX1_meetHalfWay_15 (tX6_rowOf e15) ?_
  refine fx_iadd 18 dX1_meetHalfWay_18 ?_
  refine fx_aload_n 19 dX1_meetHalfWay_19 rfl 0 rfl ?_
  refine fx_get 20 (j := 3) (v := .ref 4) okc1 dX1_meetHalfWay_20 lfX1_22 (by decide) (fun _ => rfl) ?_
  refine fx_iload_n 23 dX1_meetHalfWay_23 rfl 2 rfl ?_
  obtain ⟨g24, h⟩ := fx_gt h
  refine fx_iald 24 oka4 dX1_meetHalfWay_24 g24 ?_
  obtain ⟨q25, e25, h⟩ := fx_bd h
  refine fx_callNi 25 (mt' := mX6_rowOf) (host := "FieldBand") (As := [.int (q15.2 4 x2.toNatClampNeg)]) (oksX6_rowOf _ _) (List.mem_of_getElem? (i := 9) rfl) (by decide) rfl rfl (Nat.le_of_ble_eq_true rfl) dX1_meetHalfWay_25 (tX6_rowOf e25) ?_
  refine fx_aload_n 28 dX1_meetHalfWay_28 rfl 0 rfl ?_
  refine fx_get 29 (j := 6) (v := .ref 5) okc1 dX1_meetHalfWay_29 lfX1_31 (by decide) (fun _ => rfl) ?_
  refine fx_iload_n 32 dX1_meetHalfWay_32 rfl 2 rfl ?_
  refine fx_iald 33 oka5 dX1_meetHalfWay_33 g24 ?_
  obtain ⟨q34, e34, h⟩ := fx_bd h
  refine fx_callNi 34 (mt' := mX6_rowOf) (host := "FieldBand") (As := [.int (q25.2 5 x2.toNatClampNeg)]) (oksX6_rowOf _ _) (List.mem_of_getElem? (i := 9) rfl) (by decide) rfl rfl (Nat.le_of_ble_eq_true rfl) dX1_meetHalfWay_34 (tX6_rowOf e34) ?_
  refine fx_iadd 37 dX1_meetHalfWay_37 ?_
  refine fx_icmp_ne 38 86 dX1_meetHalfWay_38 (by decide) (fun c38 => ?_) (fun c38 => ?_)
  · replace h := fx_ne c38 h
    refine fx_iconst 86 (x := (0 : Int32)) dX1_meetHalfWay_86 (by decide) ?_
    obtain rfl := Option.some.inj h
    exact fx_iret 87 dX1_meetHalfWay_87 rfl rfl ⟨rfl, rfl⟩
  · replace h := fx_ip c38 h
    refine fx_aload_n 41 dX1_meetHalfWay_41 rfl 0 rfl ?_
    refine fx_get 42 (j := 3) (v := .ref 4) okc1 dX1_meetHalfWay_42 lfX1_22 (by decide) (fun _ => rfl) ?_
    refine fx_iload_n 45 dX1_meetHalfWay_45 rfl 1 rfl ?_
    refine fx_iald 46 oka4 dX1_meetHalfWay_46 g5 ?_
    obtain ⟨q47, e47, h⟩ := fx_bd h
    refine fx_callNi 47 (mt' := mX6_columnOf) (host := "FieldBand") (As := [.int (q34.2 4 x1.toNatClampNeg)]) (oksX6_columnOf _ _) (List.mem_of_getElem? (i := 10) rfl) (by decide) rfl rfl (Nat.le_of_ble_eq_true rfl) dX1_meetHalfWay_47 (tX6_columnOf e47) ?_
    refine fx_aload_n 50 dX1_meetHalfWay_50 rfl 0 rfl ?_
    refine fx_get 51 (j := 6) (v := .ref 5) okc1 dX1_meetHalfWay_51 lfX1_31 (by decide) (fun _ => rfl) ?_
    refine fx_iload_n 54 dX1_meetHalfWay_54 rfl 1 rfl ?_
    refine fx_iald 55 oka5 dX1_meetHalfWay_55 g5 ?_
    obtain ⟨q56, e56, h⟩ := fx_bd h
    refine fx_callNi 56 (mt' := mX6_columnOf) (host := "FieldBand") (As := [.int (q47.2 5 x1.toNatClampNeg)]) (oksX6_columnOf _ _) (List.mem_of_getElem? (i := 10) rfl) (by decide) rfl rfl (Nat.le_of_ble_eq_true rfl) dX1_meetHalfWay_56 (tX6_columnOf e56) ?_
    refine fx_iadd 59 dX1_meetHalfWay_59 ?_
    refine fx_aload_n 60 dX1_meetHalfWay_60 rfl 0 rfl ?_
    refine fx_get 61 (j := 3) (v := .ref 4) okc1 dX1_meetHalfWay_61 lfX1_22 (by decide) (fun _ => rfl) ?_
    refine fx_iload_n 64 dX1_meetHalfWay_64 rfl 2 rfl ?_
    refine fx_iald 65 oka4 dX1_meetHalfWay_65 g24 ?_
    obtain ⟨q66, e66, h⟩ := fx_bd h
    refine fx_callNi 66 (mt' := mX6_columnOf) (host := "FieldBand") (As := [.int (q56.2 4 x2.toNatClampNeg)]) (oksX6_columnOf _ _) (List.mem_of_getElem? (i := 10) rfl) (by decide) rfl rfl (Nat.le_of_ble_eq_true rfl) dX1_meetHalfWay_66 (tX6_columnOf e66) ?_
    refine fx_aload_n 69 dX1_meetHalfWay_69 rfl 0 rfl ?_
    refine fx_get 70 (j := 6) (v := .ref 5) okc1 dX1_meetHalfWay_70 lfX1_31 (by decide) (fun _ => rfl) ?_
    refine fx_iload_n 73 dX1_meetHalfWay_73 rfl 2 rfl ?_
    refine fx_iald 74 oka5 dX1_meetHalfWay_74 g24 ?_
    obtain ⟨q75, e75, h⟩ := fx_bd h
    refine fx_callNi 75 (mt' := mX6_columnOf) (host := "FieldBand") (As := [.int (q66.2 5 x2.toNatClampNeg)]) (oksX6_columnOf _ _) (List.mem_of_getElem? (i := 10) rfl) (by decide) rfl rfl (Nat.le_of_ble_eq_true rfl) dX1_meetHalfWay_75 (tX6_columnOf e75) ?_
    refine fx_iadd 78 dX1_meetHalfWay_78 ?_
    have J : fx_V gC mX1_meetHalfWay (fx_ri R) 87 [(0, .ref 1), (1, .int x1), (2, .int x2)] [.int (if q47.1 + q56.1 = q66.1 + q75.1 then (1 : Int32) else (0 : Int32))] q75.2 := by
      obtain rfl := Option.some.inj h
      exact fx_iret 87 dX1_meetHalfWay_87 rfl (by (repeat' split) <;> rfl) ⟨rfl, rfl⟩
    refine fx_icmp_ne 79 86 dX1_meetHalfWay_79 (by decide) (fun c79 => ?_) (fun c79 => ?_)
    · refine fx_iconst 86 (x := (0 : Int32)) dX1_meetHalfWay_86 (by decide) ?_
      refine fx_sub (lv' := [(0, .ref 1), (1, .int x1), (2, .int x2)]) [0, 1, 2] rfl ?_
      show fx_V gC mX1_meetHalfWay (fx_ri R) 87 [(0, .ref 1), (1, .int x1), (2, .int x2)] [.int (0 : Int32)] q75.2
      simpa only [if_neg c79] using J
    · refine fx_iconst 82 (x := (1 : Int32)) dX1_meetHalfWay_82 (by decide) ?_
      refine fx_goto 83 87 dX1_meetHalfWay_83 (by decide) ?_
      refine fx_sub (lv' := [(0, .ref 1), (1, .int x1), (2, .int x2)]) [0, 1, 2] rfl ?_
      show fx_V gC mX1_meetHalfWay (fx_ri R) 87 [(0, .ref 1), (1, .int x1), (2, .int x2)] [.int (1 : Int32)] q75.2
      simpa only [if_pos c79] using J
def mX6_meet : fxM := (yX6_meet, cX6_meet, 4, (some .int), 4, 160)
theorem okvX6_meet (f l : Nat) : fx_okV (yX6_meet, cX6_meet, 4, (some .int), f, l) 0 := ⟨⟨rin33 _ (List.mem_of_getElem? (i := 6) rfl), rin1 _ (List.mem_of_getElem? (i := 2) rfl), by show yX6_meet.cls ≠ _; decide +kernel, by show yX6_meet.cls ≠ _; decide +kernel, by show (parseMethodDescriptor yX6_meet.desc).map _ = _; decide +kernel⟩, rin33 _ (List.mem_of_getElem? (i := 4) rfl), rin33 _ (List.mem_of_getElem? (i := 5) rfl)⟩
def CX6_meet_L32 (x2 : Int32) : Nat → Int32 → Int32 → fxMem → (Int32 → Int32 → fxMem → Option (Int32 × fxMem)) → Option (Int32 × fxMem)
  | 0, _, _, _, _ => none
  | n + 1, x1, x3, M, k => if M 1 0 ≤ x3 then k x1 x3 M else Option.bind (CX1_meetHalfWay x2 x3 M) fun q49 => CX6_meet_L32 x2 n (if q49.1 = (0 : Int32) then x1 else x1 + (1 : Int32)) (x3 + (1 : Int32)) q49.2 k
set_option maxRecDepth 100000 in
set_option maxHeartbeats 4000000 in
theorem vX6_meet_L32 {x2 : Int32} {R : Int32 × fxMem} {k : Int32 → Int32 → fxMem → Option (Int32 × fxMem)} (hk : ∀ (x1 : Int32) (x3 : Int32) (M : fxMem), k x1 x3 M = some R → fx_V gC mX6_meet (fx_ri R) 64 [(0, .ref 0), (1, .int x1), (2, .int x2), (3, .int x3)] [] M) : ∀ (n : Nat) (x1 : Int32) (x3 : Int32) (M : fxMem), CX6_meet_L32 x2 n x1 x3 M k = some R → fx_V gC mX6_meet (fx_ri R) 32 [(0, .ref 0), (1, .int x1), (2, .int x2), (3, .int x3)] [] M := by
  intro n
  induction n with
  | zero => intro x1 x3 M h; rw [CX6_meet_L32] at h; cases h
  | succ n ih =>
    intro x1 x3 M h
    rw [CX6_meet_L32] at h
    refine fx_iload_n 32 dX6_meet_32 rfl 3 rfl ?_
    refine fx_aload_n 33 dX6_meet_33 rfl 0 rfl ?_
    refine fx_get 34 (j := 0) (v := .ref 1) okc0 dX6_meet_34 lfX6_12 (by decide) (fun _ => rfl) ?_
    refine fx_get 37 (j := 0) (v := .int (M 1 0)) okc1 dX6_meet_37 lfX6_97 (by decide) (fun _ => rfl) ?_
    refine fx_icmp_ge 40 64 dX6_meet_40 (by decide) (fun c40 => ?_) (fun c40 => ?_)
    · replace h := fx_ip c40 h
      refine fx_sub [0, 1, 2, 3] rfl ?_
      exact hk _ _ _ h
    · replace h := fx_ne c40 h
      refine fx_aload_n 43 dX6_meet_43 rfl 0 rfl ?_
      refine fx_get 44 (j := 0) (v := .ref 1) okc0 dX6_meet_44 lfX6_12 (by decide) (fun _ => rfl) ?_
      refine fx_iload_n 47 dX6_meet_47 rfl 2 rfl ?_
      refine fx_iload_n 48 dX6_meet_48 rfl 3 rfl ?_
      obtain ⟨q49, e49, h⟩ := fx_bd h
      refine fx_callVi 49 (mt' := mX1_meetHalfWay) (As := [.int x2, .int x3]) okc1 (okvX1_meetHalfWay _ _) lmX6_180 (by decide) rfl rfl (Nat.le_of_ble_eq_true rfl) dX6_meet_49 (tX1_meetHalfWay e49) ?_
      have J : fx_V gC mX6_meet (fx_ri R) 58 [(0, .ref 0), (1, .int (if q49.1 = (0 : Int32) then x1 else x1 + (1 : Int32))), (2, .int x2), (3, .int x3)] [] q49.2 := by
        refine fx_iinc 58 (lv' := [(3, .int (x3 + (1 : Int32))), (0, .ref 0), (1, .int (if q49.1 = (0 : Int32) then x1 else x1 + (1 : Int32))), (2, .int x2)]) (y := x3 + (1 : Int32)) dX6_meet_58 3 rfl (by rfl) (Nat.le_of_ble_eq_true rfl) rfl ?_
        refine fx_goto 61 32 dX6_meet_61 (by decide) ?_
        refine fx_sub [1, 2, 3, 0] rfl ?_
        exact ih _ _ _ h
      refine fx_if_eq 52 58 dX6_meet_52 (by decide) (fun c52 => ?_) (fun c52 => ?_)
      · refine fx_sub (lv' := [(0, .ref 0), (1, .int x1), (2, .int x2), (3, .int x3)]) [0, 1, 2, 3] rfl ?_
        show fx_V gC mX6_meet (fx_ri R) 58 [(0, .ref 0), (1, .int x1), (2, .int x2), (3, .int x3)] [] q49.2
        simpa only [if_pos c52] using J
      · refine fx_iinc 55 (lv' := [(1, .int (x1 + (1 : Int32))), (0, .ref 0), (2, .int x2), (3, .int x3)]) (y := x1 + (1 : Int32)) dX6_meet_55 1 rfl (by rfl) (Nat.le_of_ble_eq_true rfl) rfl ?_
        refine fx_sub (lv' := [(0, .ref 0), (1, .int (x1 + (1 : Int32))), (2, .int x2), (3, .int x3)]) [1, 0, 2, 3] rfl ?_
        show fx_V gC mX6_meet (fx_ri R) 58 [(0, .ref 0), (1, .int (x1 + (1 : Int32))), (2, .int x2), (3, .int x3)] [] q49.2
        simpa only [if_neg c52] using J
def CX6_meet_L17 : Nat → Int32 → Int32 → fxMem → (Int32 → Int32 → fxMem → Option (Int32 × fxMem)) → Option (Int32 × fxMem)
  | 0, _, _, _, _ => none
  | n + 1, x1, x2, M, k => if M 1 0 ≤ x2 then k x1 x2 M else CX6_meet_L32 x2 1000 x1 (x2 + (1 : Int32)) M (fun y1_32 y3_32 M32 => CX6_meet_L17  n y1_32 (x2 + (1 : Int32)) M32 k)
set_option maxRecDepth 100000 in
set_option maxHeartbeats 4000000 in
theorem vX6_meet_L17 {R : Int32 × fxMem} {k : Int32 → Int32 → fxMem → Option (Int32 × fxMem)} (hk : ∀ (x1 : Int32) (x2 : Int32) (M : fxMem), k x1 x2 M = some R → fx_V gC mX6_meet (fx_ri R) 70 [(0, .ref 0), (1, .int x1), (2, .int x2)] [] M) : ∀ (n : Nat) (x1 : Int32) (x2 : Int32) (M : fxMem), CX6_meet_L17  n x1 x2 M k = some R → fx_V gC mX6_meet (fx_ri R) 17 [(0, .ref 0), (1, .int x1), (2, .int x2)] [] M := by
  intro n
  induction n with
  | zero => intro x1 x2 M h; rw [CX6_meet_L17] at h; cases h
  | succ n ih =>
    intro x1 x2 M h
    rw [CX6_meet_L17] at h
    refine fx_iload_n 17 dX6_meet_17 rfl 2 rfl ?_
    refine fx_aload_n 18 dX6_meet_18 rfl 0 rfl ?_
    refine fx_get 19 (j := 0) (v := .ref 1) okc0 dX6_meet_19 lfX6_12 (by decide) (fun _ => rfl) ?_
    refine fx_get 22 (j := 0) (v := .int (M 1 0)) okc1 dX6_meet_22 lfX6_97 (by decide) (fun _ => rfl) ?_
    refine fx_icmp_ge 25 70 dX6_meet_25 (by decide) (fun c25 => ?_) (fun c25 => ?_)
    · replace h := fx_ip c25 h
      refine fx_sub [0, 1, 2] rfl ?_
      exact hk _ _ _ h
    · replace h := fx_ne c25 h
      refine fx_iload_n 28 dX6_meet_28 rfl 2 rfl ?_
      refine fx_iconst 29 (x := (1 : Int32)) dX6_meet_29 (by decide) ?_
      refine fx_iadd 30 dX6_meet_30 ?_
      refine fx_istore_n 31 (lv' := [(3, .int (x2 + (1 : Int32))), (0, .ref 0), (1, .int x1), (2, .int x2)]) dX6_meet_31 rfl (Nat.le_of_ble_eq_true rfl) rfl ?_
      refine fx_sub [1, 2, 3, 0] rfl ?_
      refine vX6_meet_L32 (fun y1_32 y3_32 M32 h => ?_) 1000 _ _ _ h
      refine fx_iinc 64 (lv' := [(2, .int (x2 + (1 : Int32))), (0, .ref 0), (1, .int y1_32), (3, .int y3_32)]) (y := x2 + (1 : Int32)) dX6_meet_64 2 rfl (by rfl) (Nat.le_of_ble_eq_true rfl) rfl ?_
      refine fx_goto 67 17 dX6_meet_67 (by decide) ?_
      refine fx_sub [1, 2, 0] rfl ?_
      exact ih _ _ _ h
def CX6_meet  (M : fxMem) : Option (Int32 × fxMem) := Option.bind (CX1_hasTooFewDots M) fun q4 => if q4.1 = (0 : Int32) then CX6_meet_L17  1000 (0 : Int32) (0 : Int32) q4.2 (fun y1_17 y2_17 M17 => some (y1_17, M17)) else some ((-5 : Int32), q4.2)
set_option maxRecDepth 100000 in
set_option maxHeartbeats 4000000 in
theorem tX6_meet  {M : fxMem} {R : Int32 × fxMem} (h : CX6_meet  M = some R) : fx_T gC mX6_meet [.ref 0] M (fx_ri R) := by
  rw [CX6_meet] at h
  refine fx_enter [(0, .ref 0)] (by show plainName RX6 = true; decide) (fun _ => rfl) (fun _ => Nat.le_of_ble_eq_true rfl) ?_
  refine fx_aload_n 0 dX6_meet_0 rfl 0 rfl ?_
  refine fx_get 1 (j := 0) (v := .ref 1) okc0 dX6_meet_1 lfX6_12 (by decide) (fun _ => rfl) ?_
  obtain ⟨q4, e4, h⟩ := fx_bd h
  refine fx_callVi 4 (mt' := mX1_hasTooFewDots) (As := []) okc1 (okvX1_hasTooFewDots _ _) lmX6_176 (by decide) rfl rfl (Nat.le_of_ble_eq_true rfl) dX6_meet_4 (tX1_hasTooFewDots e4) ?_
  refine fx_if_eq 7 13 dX6_meet_7 (by decide) (fun c7 => ?_) (fun c7 => ?_)
  · replace h := fx_ip c7 h
    refine fx_iconst 13 (x := (0 : Int32)) dX6_meet_13 (by decide) ?_
    refine fx_istore_n 14 (lv' := [(1, .int (0 : Int32)), (0, .ref 0)]) dX6_meet_14 rfl (Nat.le_of_ble_eq_true rfl) rfl ?_
    refine fx_iconst 15 (x := (0 : Int32)) dX6_meet_15 (by decide) ?_
    refine fx_istore_n 16 (lv' := [(2, .int (0 : Int32)), (1, .int (0 : Int32)), (0, .ref 0)]) dX6_meet_16 rfl (Nat.le_of_ble_eq_true rfl) rfl ?_
    refine fx_sub [2, 1, 0] rfl ?_
    refine vX6_meet_L17 (fun y1_17 y2_17 M17 h => ?_) 1000 _ _ _ h
    refine fx_iload_n 70 dX6_meet_70 rfl 1 rfl ?_
    obtain rfl := Option.some.inj h
    exact fx_iret 71 dX6_meet_71 rfl rfl ⟨rfl, rfl⟩
  · replace h := fx_ne c7 h
    refine fx_bipush 10 (x := (-5 : Int32)) dX6_meet_10 (by decide) ?_
    obtain rfl := Option.some.inj h
    exact fx_iret 12 dX6_meet_12 rfl rfl ⟨rfl, rfl⟩
def mX6_hard : fxM := (yX6_hard, cX6_hard, 6, (some .int), 4, 160)
theorem okvX6_hard (f l : Nat) : fx_okV (yX6_hard, cX6_hard, 6, (some .int), f, l) 1 := ⟨⟨rin33 _ (List.mem_of_getElem? (i := 18) rfl), rin1 _ (List.mem_of_getElem? (i := 2) rfl), by show yX6_hard.cls ≠ _; decide +kernel, by show yX6_hard.cls ≠ _; decide +kernel, by show (parseMethodDescriptor yX6_hard.desc).map _ = _; decide +kernel⟩, rin33 _ (List.mem_of_getElem? (i := 16) rfl), rin33 _ (List.mem_of_getElem? (i := 17) rfl)⟩
def CX6_hard_L30 (x1 : Int32) : Nat → Int32 → Int32 → Int32 → fxMem → (Int32 → Int32 → Int32 → fxMem → Option (Int32 × fxMem)) → Option (Int32 × fxMem)
  | 0, _, _, _, _, _ => none
  | n + 1, x2, x3, x4, M, k => if M 1 0 ≤ x4 then k x2 x3 x4 M else if fx_in x4 10 = true then Option.bind (CX6_far (M 4 x4.toNatClampNeg) (M 5 x4.toNatClampNeg) M) fun q62 => CX6_hard_L30 x1 n (if q62.1 ≤ x2 then x2 else q62.1) (if q62.1 = (if q62.1 ≤ x2 then x2 else q62.1) then (if q62.1 ≤ x2 then x3 else (0 : Int32)) ||| ((1 : Int32) <<< (x4 &&& 31)) else (if q62.1 ≤ x2 then x3 else (0 : Int32))) (x4 + (1 : Int32)) q62.2 k else none
set_option maxRecDepth 100000 in
set_option maxHeartbeats 4000000 in
theorem vX6_hard_L30 {x1 : Int32} {R : Int32 × fxMem} {k : Int32 → Int32 → Int32 → fxMem → Option (Int32 × fxMem)} (hk : ∀ (x2 : Int32) (x3 : Int32) (x4 : Int32) (M : fxMem), k x2 x3 x4 M = some R → fx_V gC mX6_hard (fx_ri R) 97 [(0, .ref 0), (1, .int x1), (2, .int x2), (3, .int x3), (4, .int x4)] [] M) : ∀ (n : Nat) (x2 : Int32) (x3 : Int32) (x4 : Int32) (M : fxMem), CX6_hard_L30 x1 n x2 x3 x4 M k = some R → fx_V gC mX6_hard (fx_ri R) 30 [(0, .ref 0), (1, .int x1), (2, .int x2), (3, .int x3), (4, .int x4)] [] M := by
  intro n
  induction n with
  | zero => intro x2 x3 x4 M h; rw [CX6_hard_L30] at h; cases h
  | succ n ih =>
    intro x2 x3 x4 M h
    rw [CX6_hard_L30] at h
    refine fx_iload 30 dX6_hard_30 4 rfl ?_
    refine fx_aload_n 32 dX6_hard_32 rfl 0 rfl ?_
    refine fx_get 33 (j := 0) (v := .ref 1) okc0 dX6_hard_33 lfX6_12 (by decide) (fun _ => rfl) ?_
    refine fx_get 36 (j := 0) (v := .int (M 1 0)) okc1 dX6_hard_36 lfX6_97 (by decide) (fun _ => rfl) ?_
    refine fx_icmp_ge 39 97 dX6_hard_39 (by decide) (fun c39 => ?_) (fun c39 => ?_)
    · replace h := fx_ip c39 h
      refine fx_sub [0, 1, 2, 3, 4] rfl ?_
      exact hk _ _ _ _ h
    · replace h := fx_ne c39 h
      refine fx_aload_n 42 dX6_hard_42 rfl 0 rfl ?_
      refine fx_get 43 (j := 0) (v := .ref 1) okc0 dX6_hard_43 lfX6_12 (by decide) (fun _ => rfl) ?_
      refine fx_get 46 (j := 3) (v := .ref 4) okc1 dX6_hard_46 lfX6_107 (by decide) (fun _ => rfl) ?_
      refine fx_iload 49 dX6_hard_49 4 rfl ?_
      obtain ⟨g51, h⟩ := fx_gt h
      refine fx_iald 51 oka4 dX6_hard_51 g51 ?_
      refine fx_aload_n 52 dX6_hard_52 rfl 0 rfl ?_
      refine fx_get 53 (j := 0) (v := .ref 1) okc0 dX6_hard_53 lfX6_12 (by decide) (fun _ => rfl) ?_
      refine fx_get 56 (j := 6) (v := .ref 5) okc1 dX6_hard_56 lfX6_160 (by decide) (fun _ => rfl) ?_
      refine fx_iload 59 dX6_hard_59 4 rfl ?_
      refine fx_iald 61 oka5 dX6_hard_61 g51 ?_
      obtain ⟨q62, e62, h⟩ := fx_bd h
      refine fx_callSi 62 (mt' := mX6_far) (As := [.int (M 4 x4.toNatClampNeg), .int (M 5 x4.toNatClampNeg)]) (oksX6_far _ _) lmX6_183 (by decide) rfl rfl (Nat.le_of_ble_eq_true rfl) dX6_hard_62 (tX6_far e62) ?_
      refine fx_istore 65 (lv' := [(5, .int q62.1), (0, .ref 0), (1, .int x1), (2, .int x2), (3, .int x3), (4, .int x4)]) dX6_hard_65 (Nat.le_of_ble_eq_true rfl) rfl ?_
      refine fx_iload 67 dX6_hard_67 0 rfl ?_
      refine fx_iload_n 69 dX6_hard_69 rfl 3 rfl ?_
      have J : fx_V gC mX6_hard (fx_ri R) 78 [(0, .ref 0), (1, .int x1), (2, .int (if q62.1 ≤ x2 then x2 else q62.1)), (3, .int (if q62.1 ≤ x2 then x3 else (0 : Int32))), (4, .int x4), (5, .int q62.1)] [] q62.2 := by
        refine fx_iload 78 dX6_hard_78 5 rfl ?_
        refine fx_iload_n 80 dX6_hard_80 rfl 2 rfl ?_
        have J : fx_V gC mX6_hard (fx_ri R) 91 [(0, .ref 0), (1, .int x1), (2, .int (if q62.1 ≤ x2 then x2 else q62.1)), (3, .int (if q62.1 = (if q62.1 ≤ x2 then x2 else q62.1) then (if q62.1 ≤ x2 then x3 else (0 : Int32)) ||| ((1 : Int32) <<< (x4 &&& 31)) else (if q62.1 ≤ x2 then x3 else (0 : Int32)))), (4, .int x4), (5, .int q62.1)] [] q62.2 := by
          refine fx_iinc 91 (lv' := [(4, .int (x4 + (1 : Int32))), (0, .ref 0), (1, .int x1), (2, .int (if q62.1 ≤ x2 then x2 else q62.1)), (3, .int (if q62.1 = (if q62.1 ≤ x2 then x2 else q62.1) then (if q62.1 ≤ x2 then x3 else (0 : Int32)) ||| ((1 : Int32) <<< (x4 &&& 31)) else (if q62.1 ≤ x2 then x3 else (0 : Int32)))), (5, .int q62.1)]) (y := x4 + (1 : Int32)) dX6_hard_91 4 rfl (by rfl) (Nat.le_of_ble_eq_true rfl) rfl ?_
          refine fx_goto 94 30 dX6_hard_94 (by decide) ?_
          refine fx_sub [1, 2, 3, 4, 0] rfl ?_
          exact ih _ _ _ _ h
        refine fx_icmp_ne 81 91 dX6_hard_81 (by decide) (fun c81 => ?_) (fun c81 => ?_)
        · refine fx_sub (lv' := [(0, .ref 0), (1, .int x1), (2, .int (if q62.1 ≤ x2 then x2 else q62.1)), (3, .int (if q62.1 ≤ x2 then x3 else (0 : Int32))), (4, .int x4), (5, .int q62.1)]) [0, 1, 2, 3, 4, 5] rfl ?_
          show fx_V gC mX6_hard (fx_ri R) 91 [(0, .ref 0), (1, .int x1), (2, .int (if q62.1 ≤ x2 then x2 else q62.1)), (3, .int (if q62.1 ≤ x2 then x3 else (0 : Int32))), (4, .int x4), (5, .int q62.1)] [] q62.2
          simpa only [if_neg c81] using J
        · refine fx_iload_n 84 dX6_hard_84 rfl 3 rfl ?_
          refine fx_iconst 85 (x := (1 : Int32)) dX6_hard_85 (by decide) ?_
          refine fx_iload 86 dX6_hard_86 4 rfl ?_
          refine fx_ishl 88 dX6_hard_88 ?_
          refine fx_ior 89 dX6_hard_89 ?_
          refine fx_istore_n 90 (lv' := [(3, .int ((if q62.1 ≤ x2 then x3 else (0 : Int32)) ||| ((1 : Int32) <<< (x4 &&& 31)))), (0, .ref 0), (1, .int x1), (2, .int (if q62.1 ≤ x2 then x2 else q62.1)), (4, .int x4), (5, .int q62.1)]) dX6_hard_90 rfl (Nat.le_of_ble_eq_true rfl) rfl ?_
          refine fx_sub (lv' := [(0, .ref 0), (1, .int x1), (2, .int (if q62.1 ≤ x2 then x2 else q62.1)), (3, .int ((if q62.1 ≤ x2 then x3 else (0 : Int32)) ||| ((1 : Int32) <<< (x4 &&& 31)))), (4, .int x4), (5, .int q62.1)]) [1, 2, 3, 0, 4, 5] rfl ?_
          show fx_V gC mX6_hard (fx_ri R) 91 [(0, .ref 0), (1, .int x1), (2, .int (if q62.1 ≤ x2 then x2 else q62.1)), (3, .int ((if q62.1 ≤ x2 then x3 else (0 : Int32)) ||| ((1 : Int32) <<< (x4 &&& 31)))), (4, .int x4), (5, .int q62.1)] [] q62.2
          simpa only [if_pos c81] using J
      refine fx_icmp_le 70 78 dX6_hard_70 (by decide) (fun c70 => ?_) (fun c70 => ?_)
      · refine fx_sub (lv' := [(0, .ref 0), (1, .int x1), (2, .int x2), (3, .int x3), (4, .int x4), (5, .int q62.1)]) [1, 2, 3, 4, 5, 0] rfl ?_
        show fx_V gC mX6_hard (fx_ri R) 78 [(0, .ref 0), (1, .int x1), (2, .int x2), (3, .int x3), (4, .int x4), (5, .int q62.1)] [] q62.2
        simpa only [if_pos c70] using J
      · refine fx_iload 73 dX6_hard_73 0 rfl ?_
        refine fx_istore_n 75 (lv' := [(2, .int q62.1), (5, .int q62.1), (0, .ref 0), (1, .int x1), (3, .int x3), (4, .int x4)]) dX6_hard_75 rfl (Nat.le_of_ble_eq_true rfl) rfl ?_
        refine fx_iconst 76 (x := (0 : Int32)) dX6_hard_76 (by decide) ?_
        refine fx_istore_n 77 (lv' := [(3, .int (0 : Int32)), (2, .int q62.1), (5, .int q62.1), (0, .ref 0), (1, .int x1), (4, .int x4)]) dX6_hard_77 rfl (Nat.le_of_ble_eq_true rfl) rfl ?_
        refine fx_sub (lv' := [(0, .ref 0), (1, .int x1), (2, .int q62.1), (3, .int (0 : Int32)), (4, .int x4), (5, .int q62.1)]) [3, 4, 1, 0, 5, 2] rfl ?_
        show fx_V gC mX6_hard (fx_ri R) 78 [(0, .ref 0), (1, .int x1), (2, .int q62.1), (3, .int (0 : Int32)), (4, .int x4), (5, .int q62.1)] [] q62.2
        simpa only [if_neg c70] using J
def CX6_hard (x1 : Int32) (M : fxMem) : Option (Int32 × fxMem) := Option.bind (CX6_isBelow x1 (2 : Int32) M) fun q2 => if q2.1 = (0 : Int32) then some ((-1 : Int32), q2.2) else Option.bind (CX1_hasTooFewDots q2.2) fun q14 => if q14.1 = (0 : Int32) then CX6_hard_L30 x1 1000 (0 : Int32) (0 : Int32) (0 : Int32) q14.2 (fun y2_30 y3_30 y4_30 M30 => some ((if x1 = (0 : Int32) then y3_30 else y2_30), M30)) else some ((-5 : Int32), q14.2)
set_option maxRecDepth 100000 in
set_option maxHeartbeats 4000000 in
theorem tX6_hard {x1 : Int32} {M : fxMem} {R : Int32 × fxMem} (h : CX6_hard x1 M = some R) : fx_T gC mX6_hard [.ref 0, .int x1] M (fx_ri R) := by
  rw [CX6_hard] at h
  refine fx_enter [(0, .ref 0), (1, .int x1)] (by show plainName RX6 = true; decide) (fun _ => rfl) (fun _ => Nat.le_of_ble_eq_true rfl) ?_
  refine fx_iload_n 0 dX6_hard_0 rfl 1 rfl ?_
  refine fx_iconst 1 (x := (2 : Int32)) dX6_hard_1 (by decide) ?_
  obtain ⟨q2, e2, h⟩ := fx_bd h
  refine fx_callSi 2 (mt' := mX6_isBelow) (As := [.int x1, .int (2 : Int32)]) (oksX6_isBelow _ _) lmX6_89 (by decide) rfl rfl (Nat.le_of_ble_eq_true rfl) dX6_hard_2 (tX6_isBelow e2) ?_
  refine fx_if_ne 5 10 dX6_hard_5 (by decide) (fun c5 => ?_) (fun c5 => ?_)
  · replace h := fx_ne c5 h
    refine fx_aload_n 10 dX6_hard_10 rfl 0 rfl ?_
    refine fx_get 11 (j := 0) (v := .ref 1) okc0 dX6_hard_11 lfX6_12 (by decide) (fun _ => rfl) ?_
    obtain ⟨q14, e14, h⟩ := fx_bd h
    refine fx_callVi 14 (mt' := mX1_hasTooFewDots) (As := []) okc1 (okvX1_hasTooFewDots _ _) lmX6_176 (by decide) rfl rfl (Nat.le_of_ble_eq_true rfl) dX6_hard_14 (tX1_hasTooFewDots e14) ?_
    refine fx_if_eq 17 23 dX6_hard_17 (by decide) (fun c17 => ?_) (fun c17 => ?_)
    · replace h := fx_ip c17 h
      refine fx_iconst 23 (x := (0 : Int32)) dX6_hard_23 (by decide) ?_
      refine fx_istore_n 24 (lv' := [(2, .int (0 : Int32)), (0, .ref 0), (1, .int x1)]) dX6_hard_24 rfl (Nat.le_of_ble_eq_true rfl) rfl ?_
      refine fx_iconst 25 (x := (0 : Int32)) dX6_hard_25 (by decide) ?_
      refine fx_istore_n 26 (lv' := [(3, .int (0 : Int32)), (2, .int (0 : Int32)), (0, .ref 0), (1, .int x1)]) dX6_hard_26 rfl (Nat.le_of_ble_eq_true rfl) rfl ?_
      refine fx_iconst 27 (x := (0 : Int32)) dX6_hard_27 (by decide) ?_
      refine fx_istore 28 (lv' := [(4, .int (0 : Int32)), (3, .int (0 : Int32)), (2, .int (0 : Int32)), (0, .ref 0), (1, .int x1)]) dX6_hard_28 (Nat.le_of_ble_eq_true rfl) rfl ?_
      refine fx_sub [3, 4, 2, 1, 0] rfl ?_
      refine vX6_hard_L30 (fun y2_30 y3_30 y4_30 M30 h => ?_) 1000 _ _ _ _ h
      refine fx_iload_n 97 dX6_hard_97 rfl 1 rfl ?_
      have J : fx_V gC mX6_hard (fx_ri R) 106 [(0, .ref 0), (1, .int x1), (2, .int y2_30), (3, .int y3_30), (4, .int y4_30)] [.int (if x1 = (0 : Int32) then y3_30 else y2_30)] M30 := by
        obtain rfl := Option.some.inj h
        exact fx_iret 106 dX6_hard_106 rfl rfl ⟨rfl, rfl⟩
      refine fx_if_ne 98 105 dX6_hard_98 (by decide) (fun c98 => ?_) (fun c98 => ?_)
      · refine fx_iload_n 105 dX6_hard_105 rfl 2 rfl ?_
        refine fx_sub (lv' := [(0, .ref 0), (1, .int x1), (2, .int y2_30), (3, .int y3_30), (4, .int y4_30)]) [0, 1, 2, 3, 4] rfl ?_
        show fx_V gC mX6_hard (fx_ri R) 106 [(0, .ref 0), (1, .int x1), (2, .int y2_30), (3, .int y3_30), (4, .int y4_30)] [.int y2_30] M30
        simpa only [if_neg c98] using J
      · refine fx_iload_n 101 dX6_hard_101 rfl 3 rfl ?_
        refine fx_goto 102 106 dX6_hard_102 (by decide) ?_
        refine fx_sub (lv' := [(0, .ref 0), (1, .int x1), (2, .int y2_30), (3, .int y3_30), (4, .int y4_30)]) [0, 1, 2, 3, 4] rfl ?_
        show fx_V gC mX6_hard (fx_ri R) 106 [(0, .ref 0), (1, .int x1), (2, .int y2_30), (3, .int y3_30), (4, .int y4_30)] [.int y3_30] M30
        simpa only [if_pos c98] using J
    · replace h := fx_ne c17 h
      refine fx_bipush 20 (x := (-5 : Int32)) dX6_hard_20 (by decide) ?_
      obtain rfl := Option.some.inj h
      exact fx_iret 22 dX6_hard_22 rfl rfl ⟨rfl, rfl⟩
  · replace h := fx_ip c5 h
    refine fx_iconst 8 (x := (-1 : Int32)) dX6_hard_8 (by decide) ?_
    obtain rfl := Option.some.inj h
    exact fx_iret 9 dX6_hard_9 rfl rfl ⟨rfl, rfl⟩
def mX6_march : fxM := (yX6_march, cX6_march, 3, (some .int), 3, 120)
theorem okvX6_march (f l : Nat) : fx_okV (yX6_march, cX6_march, 3, (some .int), f, l) 0 := ⟨⟨rin34 _ (List.mem_of_getElem? (i := 3) rfl), rin1 _ (List.mem_of_getElem? (i := 2) rfl), by show yX6_march.cls ≠ _; decide +kernel, by show yX6_march.cls ≠ _; decide +kernel, by show (parseMethodDescriptor yX6_march.desc).map _ = _; decide +kernel⟩, rin34 _ (List.mem_of_getElem? (i := 1) rfl), rin34 _ (List.mem_of_getElem? (i := 2) rfl)⟩
def CX6_march_L17 : Nat → Int32 → Int32 → fxMem → (Int32 → Int32 → fxMem → Option (Int32 × fxMem)) → Option (Int32 × fxMem)
  | 0, _, _, _, _ => none
  | n + 1, x1, x2, M, k => if M 1 0 ≤ x2 then k x1 x2 M else if fx_in x2 10 = true then CX6_march_L17  n (if M 4 x2.toNatClampNeg = M 5 x2.toNatClampNeg then x1 else x1 + (1 : Int32)) (x2 + (1 : Int32)) (fx_st M 4 x2.toNatClampNeg (M 5 x2.toNatClampNeg)) k else none
set_option maxRecDepth 100000 in
set_option maxHeartbeats 4000000 in
theorem vX6_march_L17 {R : Int32 × fxMem} {k : Int32 → Int32 → fxMem → Option (Int32 × fxMem)} (hk : ∀ (x1 : Int32) (x2 : Int32) (M : fxMem), k x1 x2 M = some R → fx_V gC mX6_march (fx_ri R) 76 [(0, .ref 0), (1, .int x1), (2, .int x2)] [] M) : ∀ (n : Nat) (x1 : Int32) (x2 : Int32) (M : fxMem), CX6_march_L17  n x1 x2 M k = some R → fx_V gC mX6_march (fx_ri R) 17 [(0, .ref 0), (1, .int x1), (2, .int x2)] [] M := by
  intro n
  induction n with
  | zero => intro x1 x2 M h; rw [CX6_march_L17] at h; cases h
  | succ n ih =>
    intro x1 x2 M h
    rw [CX6_march_L17] at h
    refine fx_iload_n 17 dX6_march_17 rfl 2 rfl ?_
    refine fx_aload_n 18 dX6_march_18 rfl 0 rfl ?_
    refine fx_get 19 (j := 0) (v := .ref 1) okc0 dX6_march_19 lfX6_12 (by decide) (fun _ => rfl) ?_
    refine fx_get 22 (j := 0) (v := .int (M 1 0)) okc1 dX6_march_22 lfX6_97 (by decide) (fun _ => rfl) ?_
    refine fx_icmp_ge 25 76 dX6_march_25 (by decide) (fun c25 => ?_) (fun c25 => ?_)
    · replace h := fx_ip c25 h
      refine fx_sub [0, 1, 2] rfl ?_
      exact hk _ _ _ h
    · replace h := fx_ne c25 h
      refine fx_aload_n 28 dX6_march_28 rfl 0 rfl ?_
      refine fx_get 29 (j := 0) (v := .ref 1) okc0 dX6_march_29 lfX6_12 (by decide) (fun _ => rfl) ?_
      refine fx_get 32 (j := 3) (v := .ref 4) okc1 dX6_march_32 lfX6_107 (by decide) (fun _ => rfl) ?_
      refine fx_iload_n 35 dX6_march_35 rfl 2 rfl ?_
      obtain ⟨g36, h⟩ := fx_gt h
      refine fx_iald 36 oka4 dX6_march_36 g36 ?_
      refine fx_aload_n 37 dX6_march_37 rfl 0 rfl ?_
      refine fx_get 38 (j := 0) (v := .ref 1) okc0 dX6_march_38 lfX6_12 (by decide) (fun _ => rfl) ?_
      refine fx_get 41 (j := 6) (v := .ref 5) okc1 dX6_march_41 lfX6_160 (by decide) (fun _ => rfl) ?_
      refine fx_iload_n 44 dX6_march_44 rfl 2 rfl ?_
      refine fx_iald 45 oka5 dX6_march_45 g36 ?_
      have J : fx_V gC mX6_march (fx_ri R) 52 [(0, .ref 0), (1, .int (if M 4 x2.toNatClampNeg = M 5 x2.toNatClampNeg then x1 else x1 + (1 : Int32))), (2, .int x2)] [] M := by
        refine fx_aload_n 52 dX6_march_52 rfl 0 rfl ?_
        refine fx_get 53 (j := 0) (v := .ref 1) okc0 dX6_march_53 lfX6_12 (by decide) (fun _ => rfl) ?_
        refine fx_get 56 (j := 3) (v := .ref 4) okc1 dX6_march_56 lfX6_107 (by decide) (fun _ => rfl) ?_
        refine fx_iload_n 59 dX6_march_59 rfl 2 rfl ?_
        refine fx_aload_n 60 dX6_march_60 rfl 0 rfl ?_
        refine fx_get 61 (j := 0) (v := .ref 1) okc0 dX6_march_61 lfX6_12 (by decide) (fun _ => rfl) ?_
        refine fx_get 64 (j := 6) (v := .ref 5) okc1 dX6_march_64 lfX6_160 (by decide) (fun _ => rfl) ?_
        refine fx_iload_n 67 dX6_march_67 rfl 2 rfl ?_
        refine fx_iald 68 oka5 dX6_march_68 g36 ?_
        refine fx_iast 69 oka4 dX6_march_69 g36 ?_
        refine fx_iinc 70 (lv' := [(2, .int (x2 + (1 : Int32))), (0, .ref 0), (1, .int (if M 4 x2.toNatClampNeg = M 5 x2.toNatClampNeg then x1 else x1 + (1 : Int32)))]) (y := x2 + (1 : Int32)) dX6_march_70 2 rfl (by rfl) (Nat.le_of_ble_eq_true rfl) rfl ?_
        refine fx_goto 73 17 dX6_march_73 (by decide) ?_
        refine fx_sub [1, 2, 0] rfl ?_
        exact ih _ _ _ h
      refine fx_icmp_eq 46 52 dX6_march_46 (by decide) (fun c46 => ?_) (fun c46 => ?_)
      · refine fx_sub (lv' := [(0, .ref 0), (1, .int x1), (2, .int x2)]) [0, 1, 2] rfl ?_
        show fx_V gC mX6_march (fx_ri R) 52 [(0, .ref 0), (1, .int x1), (2, .int x2)] [] M
        simpa only [if_pos c46] using J
      · refine fx_iinc 49 (lv' := [(1, .int (x1 + (1 : Int32))), (0, .ref 0), (2, .int x2)]) (y := x1 + (1 : Int32)) dX6_march_49 1 rfl (by rfl) (Nat.le_of_ble_eq_true rfl) rfl ?_
        refine fx_sub (lv' := [(0, .ref 0), (1, .int (x1 + (1 : Int32))), (2, .int x2)]) [1, 0, 2] rfl ?_
        show fx_V gC mX6_march (fx_ri R) 52 [(0, .ref 0), (1, .int (x1 + (1 : Int32))), (2, .int x2)] [] M
        simpa only [if_neg c46] using J
def CX6_march  (M : fxMem) : Option (Int32 × fxMem) := Option.bind (CX1_hasTooFewDots M) fun q4 => if q4.1 = (0 : Int32) then CX6_march_L17  1000 (0 : Int32) (0 : Int32) q4.2 (fun y1_17 y2_17 M17 => some (y1_17, M17)) else some ((-3 : Int32), q4.2)
set_option maxRecDepth 100000 in
set_option maxHeartbeats 4000000 in
theorem tX6_march  {M : fxMem} {R : Int32 × fxMem} (h : CX6_march  M = some R) : fx_T gC mX6_march [.ref 0] M (fx_ri R) := by
  rw [CX6_march] at h
  refine fx_enter [(0, .ref 0)] (by show plainName RX6 = true; decide) (fun _ => rfl) (fun _ => Nat.le_of_ble_eq_true rfl) ?_
  refine fx_aload_n 0 dX6_march_0 rfl 0 rfl ?_
  refine fx_get 1 (j := 0) (v := .ref 1) okc0 dX6_march_1 lfX6_12 (by decide) (fun _ => rfl) ?_
  obtain ⟨q4, e4, h⟩ := fx_bd h
  refine fx_callVi 4 (mt' := mX1_hasTooFewDots) (As := []) okc1 (okvX1_hasTooFewDots _ _) lmX6_176 (by decide) rfl rfl (Nat.le_of_ble_eq_true rfl) dX6_march_4 (tX1_hasTooFewDots e4) ?_
  refine fx_if_eq 7 13 dX6_march_7 (by decide) (fun c7 => ?_) (fun c7 => ?_)
  · replace h := fx_ip c7 h
    refine fx_iconst 13 (x := (0 : Int32)) dX6_march_13 (by decide) ?_
    refine fx_istore_n 14 (lv' := [(1, .int (0 : Int32)), (0, .ref 0)]) dX6_march_14 rfl (Nat.le_of_ble_eq_true rfl) rfl ?_
    refine fx_iconst 15 (x := (0 : Int32)) dX6_march_15 (by decide) ?_
    refine fx_istore_n 16 (lv' := [(2, .int (0 : Int32)), (1, .int (0 : Int32)), (0, .ref 0)]) dX6_march_16 rfl (Nat.le_of_ble_eq_true rfl) rfl ?_
    refine fx_sub [2, 1, 0] rfl ?_
    refine vX6_march_L17 (fun y1_17 y2_17 M17 h => ?_) 1000 _ _ _ h
    refine fx_iload_n 76 dX6_march_76 rfl 1 rfl ?_
    obtain rfl := Option.some.inj h
    exact fx_iret 77 dX6_march_77 rfl rfl ⟨rfl, rfl⟩
  · replace h := fx_ne c7 h
    refine fx_bipush 10 (x := (-3 : Int32)) dX6_march_10 (by decide) ?_
    obtain rfl := Option.some.inj h
    exact fx_iret 12 dX6_march_12 rfl rfl ⟨rfl, rfl⟩
def mX6_seen : fxM := (yX6_seen, cX6_seen, 2, (some .int), 3, 120)
theorem okvX6_seen (f l : Nat) : fx_okV (yX6_seen, cX6_seen, 2, (some .int), f, l) 1 := ⟨⟨rin34 _ (List.mem_of_getElem? (i := 11) rfl), rin1 _ (List.mem_of_getElem? (i := 2) rfl), by show yX6_seen.cls ≠ _; decide +kernel, by show yX6_seen.cls ≠ _; decide +kernel, by show (parseMethodDescriptor yX6_seen.desc).map _ = _; decide +kernel⟩, rin34 _ (List.mem_of_getElem? (i := 9) rfl), rin34 _ (List.mem_of_getElem? (i := 10) rfl)⟩
def CX6_seen (x1 : Int32) (M : fxMem) : Option (Int32 × fxMem) := if x1 = (-1 : Int32) then some ((0 : Int32), fx_st M 1 7 (0 : Int32)) else Option.bind (CX6_isBelow x1 (64 : Int32) M) fun q18 => if q18.1 = (0 : Int32) then some ((-1 : Int32), q18.2) else if q18.2 1 7 < (10 : Int32) then if fx_in (q18.2 1 7) 10 = true then fx_lt (fx_st q18.2 6 (q18.2 1 7).toNatClampNeg x1) fun M62 => fx_lt (fx_st M62 1 7 ((M62 1 7) + (1 : Int32))) fun M74 => some (M74 1 7, M74) else none else some ((-4 : Int32), q18.2)
set_option maxRecDepth 100000 in
set_option maxHeartbeats 4000000 in
theorem tX6_seen {x1 : Int32} {M : fxMem} {R : Int32 × fxMem} (h : CX6_seen x1 M = some R) : fx_T gC mX6_seen [.ref 0, .int x1] M (fx_ri R) := by
  rw [CX6_seen] at h
  refine fx_enter [(0, .ref 0), (1, .int x1)] (by show plainName RX6 = true; decide) (fun _ => rfl) (fun _ => Nat.le_of_ble_eq_true rfl) ?_
  refine fx_iload_n 0 dX6_seen_0 rfl 1 rfl ?_
  refine fx_iconst 1 (x := (-1 : Int32)) dX6_seen_1 (by decide) ?_
  refine fx_icmp_ne 2 15 dX6_seen_2 (by decide) (fun c2 => ?_) (fun c2 => ?_)
  · replace h := fx_ne c2 h
    refine fx_iload_n 15 dX6_seen_15 rfl 1 rfl ?_
    refine fx_bipush 16 (x := (64 : Int32)) dX6_seen_16 (by decide) ?_
    obtain ⟨q18, e18, h⟩ := fx_bd h
    refine fx_callSi 18 (mt' := mX6_isBelow) (As := [.int x1, .int (64 : Int32)]) (oksX6_isBelow _ _) lmX6_89 (by decide) rfl rfl (Nat.le_of_ble_eq_true rfl) dX6_seen_18 (tX6_isBelow e18) ?_
    refine fx_if_ne 21 26 dX6_seen_21 (by decide) (fun c21 => ?_) (fun c21 => ?_)
    · replace h := fx_ne c21 h
      refine fx_aload_n 26 dX6_seen_26 rfl 0 rfl ?_
      refine fx_get 27 (j := 0) (v := .ref 1) okc0 dX6_seen_27 lfX6_12 (by decide) (fun _ => rfl) ?_
      refine fx_get 30 (j := 7) (v := .int (q18.2 1 7)) okc1 dX6_seen_30 lfX6_186 (by decide) (fun _ => rfl) ?_
      refine fx_bipush 33 (x := (10 : Int32)) dX6_seen_33 (by decide) ?_
      refine fx_icmp_lt 35 41 dX6_seen_35 (by decide) (fun c35 => ?_) (fun c35 => ?_)
      · replace h := fx_ip c35 h
        refine fx_aload_n 41 dX6_seen_41 rfl 0 rfl ?_
        refine fx_get 42 (j := 0) (v := .ref 1) okc0 dX6_seen_42 lfX6_12 (by decide) (fun _ => rfl) ?_
        refine fx_get 45 (j := 8) (v := .ref 6) okc1 dX6_seen_45 lfX6_189 (by decide) (fun _ => rfl) ?_
        refine fx_aload_n 48 dX6_seen_48 rfl 0 rfl ?_
        refine fx_get 49 (j := 0) (v := .ref 1) okc0 dX6_seen_49 lfX6_12 (by decide) (fun _ => rfl) ?_
        refine fx_get 52 (j := 7) (v := .int (q18.2 1 7)) okc1 dX6_seen_52 lfX6_186 (by decide) (fun _ => rfl) ?_
        refine fx_iload_n 55 dX6_seen_55 rfl 1 rfl ?_
        obtain ⟨g56, h⟩ := fx_gt h
        refine fx_iast 56 oka6 dX6_seen_56 g56 ?_
        refine fx_aload_n 57 dX6_seen_57 rfl 0 rfl ?_
        refine fx_get 58 (j := 0) (v := .ref 1) okc0 dX6_seen_58 lfX6_12 (by decide) (fun _ => rfl) ?_
        refine fx_dup 61 dX6_seen_61 rfl ?_
        replace h := fx_ltd h
        generalize fx_st q18.2 6 (q18.2 1 7).toNatClampNeg x1 = M62 at h ⊢
        refine fx_get 62 (j := 7) (v := .int (M62 1 7)) okc1 dX6_seen_62 lfX6_186 (by decide) (fun _ => rfl) ?_
        refine fx_iconst 65 (x := (1 : Int32)) dX6_seen_65 (by decide) ?_
        refine fx_iadd 66 dX6_seen_66 ?_
        refine fx_putI 67 (j := 7) okc1 dX6_seen_67 lfX6_186 (by decide) rfl (by decide +kernel) (fun _ _ => Nat.le_of_ble_eq_true rfl) (fun _ _ _ => rfl) ?_
        refine fx_aload_n 70 dX6_seen_70 rfl 0 rfl ?_
        refine fx_get 71 (j := 0) (v := .ref 1) okc0 dX6_seen_71 lfX6_12 (by decide) (fun _ => rfl) ?_
        replace h := fx_ltd h
        generalize fx_st M62 1 7 ((M62 1 7) + (1 : Int32)) = M74 at h ⊢
        refine fx_get 74 (j := 7) (v := .int (M74 1 7)) okc1 dX6_seen_74 lfX6_186 (by decide) (fun _ => rfl) ?_
        obtain rfl := Option.some.inj h
        exact fx_iret 77 dX6_seen_77 rfl rfl ⟨rfl, rfl⟩
      · replace h := fx_ne c35 h
        refine fx_bipush 38 (x := (-4 : Int32)) dX6_seen_38 (by decide) ?_
        obtain rfl := Option.some.inj h
        exact fx_iret 40 dX6_seen_40 rfl rfl ⟨rfl, rfl⟩
    · replace h := fx_ip c21 h
      refine fx_iconst 24 (x := (-1 : Int32)) dX6_seen_24 (by decide) ?_
      obtain rfl := Option.some.inj h
      exact fx_iret 25 dX6_seen_25 rfl rfl ⟨rfl, rfl⟩
  · replace h := fx_ip c2 h
    refine fx_aload_n 5 dX6_seen_5 rfl 0 rfl ?_
    refine fx_get 6 (j := 0) (v := .ref 1) okc0 dX6_seen_6 lfX6_12 (by decide) (fun _ => rfl) ?_
    refine fx_iconst 9 (x := (0 : Int32)) dX6_seen_9 (by decide) ?_
    refine fx_putI 10 (j := 7) okc1 dX6_seen_10 lfX6_186 (by decide) rfl (by decide +kernel) (fun _ _ => Nat.le_of_ble_eq_true rfl) (fun _ _ _ => rfl) ?_
    refine fx_iconst 13 (x := (0 : Int32)) dX6_seen_13 (by decide) ?_
    obtain rfl := Option.some.inj h
    exact fx_iret 14 dX6_seen_14 rfl rfl ⟨rfl, rfl⟩
def mX6_off : fxM := (yX6_off, cX6_off, 7, (some .int), 4, 160)
theorem okvX6_off (f l : Nat) : fx_okV (yX6_off, cX6_off, 7, (some .int), f, l) 1 := ⟨⟨rin34 _ (List.mem_of_getElem? (i := 21) rfl), rin1 _ (List.mem_of_getElem? (i := 2) rfl), by show yX6_off.cls ≠ _; decide +kernel, by show yX6_off.cls ≠ _; decide +kernel, by show (parseMethodDescriptor yX6_off.desc).map _ = _; decide +kernel⟩, rin34 _ (List.mem_of_getElem? (i := 19) rfl), rin34 _ (List.mem_of_getElem? (i := 20) rfl)⟩
def CX6_off_L21 (x1 : Int32) : Nat → Int32 → Int32 → Int32 → Int32 → fxMem → (Int32 → Int32 → Int32 → Int32 → fxMem → Option (Int32 × fxMem)) → Option (Int32 × fxMem)
  | 0, _, _, _, _, _, _ => none
  | n + 1, x2, x3, x4, x5, M, k => if M 1 0 ≤ x5 then k x2 x3 x4 x5 M else if M 1 7 ≤ x5 then k x2 x3 x4 x5 M else if fx_in x5 10 = true then Option.bind (CX6_far (M 4 x5.toNatClampNeg) (M 6 x5.toNatClampNeg) M) fun q65 => CX6_off_L21 x1 n (if q65.1 ≤ (0 : Int32) then x2 else x2 + (1 : Int32)) (if q65.1 ≤ x4 then x3 else x5) (if q65.1 ≤ x4 then x4 else q65.1) (x5 + (1 : Int32)) q65.2 k else none
set_option maxRecDepth 100000 in
set_option maxHeartbeats 4000000 in
theorem vX6_off_L21 {x1 : Int32} {R : Int32 × fxMem} {k : Int32 → Int32 → Int32 → Int32 → fxMem → Option (Int32 × fxMem)} (hk : ∀ (x2 : Int32) (x3 : Int32) (x4 : Int32) (x5 : Int32) (M : fxMem), k x2 x3 x4 x5 M = some R → fx_V gC mX6_off (fx_ri R) 98 [(0, .ref 0), (1, .int x1), (2, .int x2), (3, .int x3), (4, .int x4), (5, .int x5)] [] M) : ∀ (n : Nat) (x2 : Int32) (x3 : Int32) (x4 : Int32) (x5 : Int32) (M : fxMem), CX6_off_L21 x1 n x2 x3 x4 x5 M k = some R → fx_V gC mX6_off (fx_ri R) 21 [(0, .ref 0), (1, .int x1), (2, .int x2), (3, .int x3), (4, .int x4), (5, .int x5)] [] M := by
  intro n
  induction n with
  | zero => intro x2 x3 x4 x5 M h; rw [CX6_off_L21] at h; cases h
  | succ n ih =>
    intro x2 x3 x4 x5 M h
    rw [CX6_off_L21] at h
    refine fx_iload 21 dX6_off_21 5 rfl ?_
    refine fx_aload_n 23 dX6_off_23 rfl 0 rfl ?_
    refine fx_get 24 (j := 0) (v := .ref 1) okc0 dX6_off_24 lfX6_12 (by decide) (fun _ => rfl) ?_
    refine fx_get 27 (j := 0) (v := .int (M 1 0)) okc1 dX6_off_27 lfX6_97 (by decide) (fun _ => rfl) ?_
    refine fx_icmp_ge 30 98 dX6_off_30 (by decide) (fun c30 => ?_) (fun c30 => ?_)
    · replace h := fx_ip c30 h
      refine fx_sub [0, 1, 2, 3, 4, 5] rfl ?_
      exact hk _ _ _ _ _ h
    · replace h := fx_ne c30 h
      refine fx_iload 33 dX6_off_33 5 rfl ?_
      refine fx_aload_n 35 dX6_off_35 rfl 0 rfl ?_
      refine fx_get 36 (j := 0) (v := .ref 1) okc0 dX6_off_36 lfX6_12 (by decide) (fun _ => rfl) ?_
      refine fx_get 39 (j := 7) (v := .int (M 1 7)) okc1 dX6_off_39 lfX6_186 (by decide) (fun _ => rfl) ?_
      refine fx_icmp_ge 42 98 dX6_off_42 (by decide) (fun c42 => ?_) (fun c42 => ?_)
      · replace h := fx_ip c42 h
        refine fx_sub [0, 1, 2, 3, 4, 5] rfl ?_
        exact hk _ _ _ _ _ h
      · replace h := fx_ne c42 h
        refine fx_aload_n 45 dX6_off_45 rfl 0 rfl ?_
        refine fx_get 46 (j := 0) (v := .ref 1) okc0 dX6_off_46 lfX6_12 (by decide) (fun _ => rfl) ?_
        refine fx_get 49 (j := 3) (v := .ref 4) okc1 dX6_off_49 lfX6_107 (by decide) (fun _ => rfl) ?_
        refine fx_iload 52 dX6_off_52 5 rfl ?_
        obtain ⟨g54, h⟩ := fx_gt h
        refine fx_iald 54 oka4 dX6_off_54 g54 ?_
        refine fx_aload_n 55 dX6_off_55 rfl 0 rfl ?_
        refine fx_get 56 (j := 0) (v := .ref 1) okc0 dX6_off_56 lfX6_12 (by decide) (fun _ => rfl) ?_
        refine fx_get 59 (j := 8) (v := .ref 6) okc1 dX6_off_59 lfX6_189 (by decide) (fun _ => rfl) ?_
        refine fx_iload 62 dX6_off_62 5 rfl ?_
        refine fx_iald 64 oka6 dX6_off_64 g54 ?_
        obtain ⟨q65, e65, h⟩ := fx_bd h
        refine fx_callSi 65 (mt' := mX6_far) (As := [.int (M 4 x5.toNatClampNeg), .int (M 6 x5.toNatClampNeg)]) (oksX6_far _ _) lmX6_183 (by decide) rfl rfl (Nat.le_of_ble_eq_true rfl) dX6_off_65 (tX6_far e65) ?_
        refine fx_istore 68 (lv' := [(6, .int q65.1), (0, .ref 0), (1, .int x1), (2, .int x2), (3, .int x3), (4, .int x4), (5, .int x5)]) dX6_off_68 (Nat.le_of_ble_eq_true rfl) rfl ?_
        refine fx_iload 70 dX6_off_70 0 rfl ?_
        have J : fx_V gC mX6_off (fx_ri R) 78 [(0, .ref 0), (1, .int x1), (2, .int (if q65.1 ≤ (0 : Int32) then x2 else x2 + (1 : Int32))), (3, .int x3), (4, .int x4), (5, .int x5), (6, .int q65.1)] [] q65.2 := by
          refine fx_iload 78 dX6_off_78 6 rfl ?_
          refine fx_iload 80 dX6_off_80 4 rfl ?_
          have J : fx_V gC mX6_off (fx_ri R) 92 [(0, .ref 0), (1, .int x1), (2, .int (if q65.1 ≤ (0 : Int32) then x2 else x2 + (1 : Int32))), (3, .int (if q65.1 ≤ x4 then x3 else x5)), (4, .int (if q65.1 ≤ x4 then x4 else q65.1)), (5, .int x5), (6, .int q65.1)] [] q65.2 := by
            refine fx_iinc 92 (lv' := [(5, .int (x5 + (1 : Int32))), (0, .ref 0), (1, .int x1), (2, .int (if q65.1 ≤ (0 : Int32) then x2 else x2 + (1 : Int32))), (3, .int (if q65.1 ≤ x4 then x3 else x5)), (4, .int (if q65.1 ≤ x4 then x4 else q65.1)), (6, .int q65.1)]) (y := x5 + (1 : Int32)) dX6_off_92 5 rfl (by rfl) (Nat.le_of_ble_eq_true rfl) rfl ?_
            refine fx_goto 95 21 dX6_off_95 (by decide) ?_
            refine fx_sub [1, 2, 3, 4, 5, 0] rfl ?_
            exact ih _ _ _ _ _ h
          refine fx_icmp_le 82 92 dX6_off_82 (by decide) (fun c82 => ?_) (fun c82 => ?_)
          · refine fx_sub (lv' := [(0, .ref 0), (1, .int x1), (2, .int (if q65.1 ≤ (0 : Int32) then x2 else x2 + (1 : Int32))), (3, .int x3), (4, .int x4), (5, .int x5), (6, .int q65.1)]) [0, 1, 2, 3, 4, 5, 6] rfl ?_
            show fx_V gC mX6_off (fx_ri R) 92 [(0, .ref 0), (1, .int x1), (2, .int (if q65.1 ≤ (0 : Int32) then x2 else x2 + (1 : Int32))), (3, .int x3), (4, .int x4), (5, .int x5), (6, .int q65.1)] [] q65.2
            simpa only [if_pos c82] using J
          · refine fx_iload 85 dX6_off_85 6 rfl ?_
            refine fx_istore 87 (lv' := [(4, .int q65.1), (0, .ref 0), (1, .int x1), (2, .int (if q65.1 ≤ (0 : Int32) then x2 else x2 + (1 : Int32))), (3, .int x3), (5, .int x5), (6, .int q65.1)]) dX6_off_87 (Nat.le_of_ble_eq_true rfl) rfl ?_
            refine fx_iload 89 dX6_off_89 5 rfl ?_
            refine fx_istore_n 91 (lv' := [(3, .int x5), (4, .int q65.1), (0, .ref 0), (1, .int x1), (2, .int (if q65.1 ≤ (0 : Int32) then x2 else x2 + (1 : Int32))), (5, .int x5), (6, .int q65.1)]) dX6_off_91 rfl (Nat.le_of_ble_eq_true rfl) rfl ?_
            refine fx_sub (lv' := [(0, .ref 0), (1, .int x1), (2, .int (if q65.1 ≤ (0 : Int32) then x2 else x2 + (1 : Int32))), (3, .int x5), (4, .int q65.1), (5, .int x5), (6, .int q65.1)]) [2, 3, 4, 0, 1, 5, 6] rfl ?_
            show fx_V gC mX6_off (fx_ri R) 92 [(0, .ref 0), (1, .int x1), (2, .int (if q65.1 ≤ (0 : Int32) then x2 else x2 + (1 : Int32))), (3, .int x5), (4, .int q65.1), (5, .int x5), (6, .int q65.1)] [] q65.2
            simpa only [if_neg c82] using J
        refine fx_if_le 72 78 dX6_off_72 (by decide) (fun c72 => ?_) (fun c72 => ?_)
        · refine fx_sub (lv' := [(0, .ref 0), (1, .int x1), (2, .int x2), (3, .int x3), (4, .int x4), (5, .int x5), (6, .int q65.1)]) [1, 2, 3, 4, 5, 6, 0] rfl ?_
          show fx_V gC mX6_off (fx_ri R) 78 [(0, .ref 0), (1, .int x1), (2, .int x2), (3, .int x3), (4, .int x4), (5, .int x5), (6, .int q65.1)] [] q65.2
          simpa only [if_pos c72] using J
        · refine fx_iinc 75 (lv' := [(2, .int (x2 + (1 : Int32))), (6, .int q65.1), (0, .ref 0), (1, .int x1), (3, .int x3), (4, .int x4), (5, .int x5)]) (y := x2 + (1 : Int32)) dX6_off_75 3 rfl (by rfl) (Nat.le_of_ble_eq_true rfl) rfl ?_
          refine fx_sub (lv' := [(0, .ref 0), (1, .int x1), (2, .int (x2 + (1 : Int32))), (3, .int x3), (4, .int x4), (5, .int x5), (6, .int q65.1)]) [2, 3, 0, 4, 5, 6, 1] rfl ?_
          show fx_V gC mX6_off (fx_ri R) 78 [(0, .ref 0), (1, .int x1), (2, .int (x2 + (1 : Int32))), (3, .int x3), (4, .int x4), (5, .int x5), (6, .int q65.1)] [] q65.2
          simpa only [if_neg c72] using J
def CX6_off_J98  (x1 : Int32) (x2 : Int32) (x3 : Int32) (x4 : Int32) (x5 : Int32) (M : fxMem) : Option (Int32 × fxMem) := some ((if x1 = (0 : Int32) then x2 else x3), M)
set_option maxRecDepth 100000 in
set_option maxHeartbeats 4000000 in
theorem vX6_off_J98  {x1 : Int32} {x2 : Int32} {x3 : Int32} {x4 : Int32} {x5 : Int32} {R : Int32 × fxMem} {M : fxMem} (h : CX6_off_J98 x1 x2 x3 x4 x5 M = some R) : fx_V gC mX6_off (fx_ri R) 98 [(0, .ref 0), (1, .int x1), (2, .int x2), (3, .int x3), (4, .int x4), (5, .int x5)] [] M := by
  rw [CX6_off_J98] at h
  refine fx_iload_n 98 dX6_off_98 rfl 1 rfl ?_
  have J : fx_V gC mX6_off (fx_ri R) 107 [(0, .ref 0), (1, .int x1), (2, .int x2), (3, .int x3), (4, .int x4), (5, .int x5)] [.int (if x1 = (0 : Int32) then x2 else x3)] M := by
    obtain rfl := Option.some.inj h
    exact fx_iret 107 dX6_off_107 rfl rfl ⟨rfl, rfl⟩
  refine fx_if_ne 99 106 dX6_off_99 (by decide) (fun c99 => ?_) (fun c99 => ?_)
  · refine fx_iload_n 106 dX6_off_106 rfl 3 rfl ?_
    refine fx_sub (lv' := [(0, .ref 0), (1, .int x1), (2, .int x2), (3, .int x3), (4, .int x4), (5, .int x5)]) [0, 1, 2, 3, 4, 5] rfl ?_
    show fx_V gC mX6_off (fx_ri R) 107 [(0, .ref 0), (1, .int x1), (2, .int x2), (3, .int x3), (4, .int x4), (5, .int x5)] [.int x3] M
    simpa only [if_neg c99] using J
  · refine fx_iload_n 102 dX6_off_102 rfl 2 rfl ?_
    refine fx_goto 103 107 dX6_off_103 (by decide) ?_
    refine fx_sub (lv' := [(0, .ref 0), (1, .int x1), (2, .int x2), (3, .int x3), (4, .int x4), (5, .int x5)]) [0, 1, 2, 3, 4, 5] rfl ?_
    show fx_V gC mX6_off (fx_ri R) 107 [(0, .ref 0), (1, .int x1), (2, .int x2), (3, .int x3), (4, .int x4), (5, .int x5)] [.int x2] M
    simpa only [if_pos c99] using J
def CX6_off (x1 : Int32) (M : fxMem) : Option (Int32 × fxMem) := Option.bind (CX6_isBelow x1 (2 : Int32) M) fun q2 => if q2.1 = (0 : Int32) then some ((-1 : Int32), q2.2) else CX6_off_L21 x1 1000 (0 : Int32) (-5 : Int32) (0 : Int32) (0 : Int32) q2.2 (fun y2_21 y3_21 y4_21 y5_21 M21 => CX6_off_J98 x1 y2_21 y3_21 y4_21 y5_21 M21)
set_option maxRecDepth 100000 in
set_option maxHeartbeats 4000000 in
theorem tX6_off {x1 : Int32} {M : fxMem} {R : Int32 × fxMem} (h : CX6_off x1 M = some R) : fx_T gC mX6_off [.ref 0, .int x1] M (fx_ri R) := by
  rw [CX6_off] at h
  refine fx_enter [(0, .ref 0), (1, .int x1)] (by show plainName RX6 = true; decide) (fun _ => rfl) (fun _ => Nat.le_of_ble_eq_true rfl) ?_
  refine fx_iload_n 0 dX6_off_0 rfl 1 rfl ?_
  refine fx_iconst 1 (x := (2 : Int32)) dX6_off_1 (by decide) ?_
  obtain ⟨q2, e2, h⟩ := fx_bd h
  refine fx_callSi 2 (mt' := mX6_isBelow) (As := [.int x1, .int (2 : Int32)]) (oksX6_isBelow _ _) lmX6_89 (by decide) rfl rfl (Nat.le_of_ble_eq_true rfl) dX6_off_2 (tX6_isBelow e2) ?_
  refine fx_if_ne 5 10 dX6_off_5 (by decide) (fun c5 => ?_) (fun c5 => ?_)
  · replace h := fx_ne c5 h
    refine fx_iconst 10 (x := (0 : Int32)) dX6_off_10 (by decide) ?_
    refine fx_istore_n 11 (lv' := [(2, .int (0 : Int32)), (0, .ref 0), (1, .int x1)]) dX6_off_11 rfl (Nat.le_of_ble_eq_true rfl) rfl ?_
    refine fx_bipush 12 (x := (-5 : Int32)) dX6_off_12 (by decide) ?_
    refine fx_istore_n 14 (lv' := [(3, .int (-5 : Int32)), (2, .int (0 : Int32)), (0, .ref 0), (1, .int x1)]) dX6_off_14 rfl (Nat.le_of_ble_eq_true rfl) rfl ?_
    refine fx_iconst 15 (x := (0 : Int32)) dX6_off_15 (by decide) ?_
    refine fx_istore 16 (lv' := [(4, .int (0 : Int32)), (3, .int (-5 : Int32)), (2, .int (0 : Int32)), (0, .ref 0), (1, .int x1)]) dX6_off_16 (Nat.le_of_ble_eq_true rfl) rfl ?_
    refine fx_iconst 18 (x := (0 : Int32)) dX6_off_18 (by decide) ?_
    refine fx_istore 19 (lv' := [(5, .int (0 : Int32)), (4, .int (0 : Int32)), (3, .int (-5 : Int32)), (2, .int (0 : Int32)), (0, .ref 0), (1, .int x1)]) dX6_off_19 (Nat.le_of_ble_eq_true rfl) rfl ?_
    refine fx_sub [4, 5, 3, 2, 1, 0] rfl ?_
    refine vX6_off_L21 (fun y2_21 y3_21 y4_21 y5_21 M21 h => ?_) 1000 _ _ _ _ _ h
    refine fx_sub [0, 1, 2, 3, 4, 5] rfl ?_
    exact vX6_off_J98 h
  · replace h := fx_ip c5 h
    refine fx_iconst 8 (x := (-1 : Int32)) dX6_off_8 (by decide) ?_
    obtain rfl := Option.some.inj h
    exact fx_iret 9 dX6_off_9 rfl rfl ⟨rfl, rfl⟩
def mX4_arrivalAsKind : fxM := (yX4_arrivalAsKind, cX4_arrivalAsKind, 4, (some .int), 6, 240)
theorem okvX4_arrivalAsKind (f l : Nat) : fx_okV (yX4_arrivalAsKind, cX4_arrivalAsKind, 4, (some .int), f, l) 3 := ⟨⟨rin35 _ (List.mem_of_getElem? (i := 9) rfl), rin2 _ (List.mem_of_getElem? (i := 13) rfl), by show yX4_arrivalAsKind.cls ≠ _; decide +kernel, by show yX4_arrivalAsKind.cls ≠ _; decide +kernel, by show (parseMethodDescriptor yX4_arrivalAsKind.desc).map _ = _; decide +kernel⟩, rin35 _ (List.mem_of_getElem? (i := 7) rfl), rin35 _ (List.mem_of_getElem? (i := 8) rfl)⟩
def CX4_arrivalAsKind (x1 : Int32) (x2 : Int32) (x3 : Int32) (M : fxMem) : Option (Int32 × fxMem) := if fx_in x2 10 = true then Option.bind (CX4_sumFor (1 : Int32) x2 (fx_st M 59 x2.toNatClampNeg x3)) fun q15 => Option.bind (CX4_arrange (fx_st q15.2 60 x2.toNatClampNeg q15.1)) fun q20 => Option.bind (CX4_playAll q20) fun q24 => Option.bind (CX4_arrival x1 x2 q24) fun q30 => some (q30.1, q30.2) else none
set_option maxRecDepth 100000 in
set_option maxHeartbeats 4000000 in
theorem tX4_arrivalAsKind {x1 : Int32} {x2 : Int32} {x3 : Int32} {M : fxMem} {R : Int32 × fxMem} (h : CX4_arrivalAsKind x1 x2 x3 M = some R) : fx_T gC mX4_arrivalAsKind [.ref 58, .int x1, .int x2, .int x3] M (fx_ri R) := by
  rw [CX4_arrivalAsKind] at h
  refine fx_enter [(0, .ref 58), (1, .int x1), (2, .int x2), (3, .int x3)] (by show plainName RX4 = true; decide) (fun _ => rfl) (fun _ => Nat.le_of_ble_eq_true rfl) ?_
  refine fx_aload_n 0 dX4_arrivalAsKind_0 rfl 0 rfl ?_
  refine fx_get 1 (j := 4) (v := .ref 59) okc58 dX4_arrivalAsKind_1 lfX4_18 (by decide) (fun _ => rfl) ?_
  refine fx_iload_n 4 dX4_arrivalAsKind_4 rfl 2 rfl ?_
  refine fx_iload_n 5 dX4_arrivalAsKind_5 rfl 3 rfl ?_
  obtain ⟨g6, h⟩ := fx_gt h
  refine fx_iast 6 oka59 dX4_arrivalAsKind_6 g6 ?_
  refine fx_aload_n 7 dX4_arrivalAsKind_7 rfl 0 rfl ?_
  refine fx_get 8 (j := 5) (v := .ref 60) okc58 dX4_arrivalAsKind_8 lfX4_22 (by decide) (fun _ => rfl) ?_
  refine fx_iload_n 11 dX4_arrivalAsKind_11 rfl 2 rfl ?_
  refine fx_aload_n 12 dX4_arrivalAsKind_12 rfl 0 rfl ?_
  refine fx_iconst 13 (x := (1 : Int32)) dX4_arrivalAsKind_13 (by decide) ?_
  refine fx_iload_n 14 dX4_arrivalAsKind_14 rfl 2 rfl ?_
  obtain ⟨q15, e15, h⟩ := fx_bd h
  refine fx_callVi 15 (mt' := mX4_sumFor) (As := [.int (1 : Int32), .int x2]) okc58 (okvX4_sumFor _ _) lmX4_72 (by decide) rfl rfl (Nat.le_of_ble_eq_true rfl) dX4_arrivalAsKind_15 (tX4_sumFor e15) ?_
  refine fx_iast 18 oka60 dX4_arrivalAsKind_18 g6 ?_
  refine fx_aload_n 19 dX4_arrivalAsKind_19 rfl 0 rfl ?_
  obtain ⟨q20, e20, h⟩ := fx_bd h
  refine fx_callVv 20 (mt' := mX4_arrange) (As := []) okc58 (okvX4_arrange _ _) lmX4_63 (by decide) rfl rfl (Nat.le_of_ble_eq_true rfl) dX4_arrivalAsKind_20 (tX4_arrange e20) ?_
  refine fx_aload_n 23 dX4_arrivalAsKind_23 rfl 0 rfl ?_
  obtain ⟨q24, e24, h⟩ := fx_bd h
  refine fx_callVv 24 (mt' := mX4_playAll) (As := []) okc58 (okvX4_playAll _ _) lmX4_66 (by decide) rfl rfl (Nat.le_of_ble_eq_true rfl) dX4_arrivalAsKind_24 (tX4_playAll e24) ?_
  refine fx_aload_n 27 dX4_arrivalAsKind_27 rfl 0 rfl ?_
  refine fx_iload_n 28 dX4_arrivalAsKind_28 rfl 1 rfl ?_
  refine fx_iload_n 29 dX4_arrivalAsKind_29 rfl 2 rfl ?_
  obtain ⟨q30, e30, h⟩ := fx_bd h
  refine fx_callVi 30 (mt' := mX4_arrival) (As := [.int x1, .int x2]) okc58 (okvX4_arrival _ _) lmX4_123 (by decide) rfl rfl (Nat.le_of_ble_eq_true rfl) dX4_arrivalAsKind_30 (tX4_arrival e30) ?_
  obtain rfl := Option.some.inj h
  exact fx_iret 33 dX4_arrivalAsKind_33 rfl rfl ⟨rfl, rfl⟩
def mX6_whom : fxM := (yX6_whom, cX6_whom, 6, (some .int), 9, 360)
theorem okvX6_whom (f l : Nat) : fx_okV (yX6_whom, cX6_whom, 6, (some .int), f, l) 3 := ⟨⟨rin35 _ (List.mem_of_getElem? (i := 5) rfl), rin1 _ (List.mem_of_getElem? (i := 2) rfl), by show yX6_whom.cls ≠ _; decide +kernel, by show yX6_whom.cls ≠ _; decide +kernel, by show (parseMethodDescriptor yX6_whom.desc).map _ = _; decide +kernel⟩, rin35 _ (List.mem_of_getElem? (i := 3) rfl), rin35 _ (List.mem_of_getElem? (i := 4) rfl)⟩
def CX6_whom_L43 (x1 : Int32) (x2 : Int32) (x3 : Int32) : Nat → Int32 → Int32 → fxMem → (Int32 → Int32 → fxMem → Option (Int32 × fxMem)) → Option (Int32 × fxMem)
  | 0, _, _, _, _ => none
  | n + 1, x4, x5, M, k => if (7 : Int32) ≤ x5 then k x4 x5 M else Option.bind (CX4_arrivalAsKind x2 x1 x5 M) fun q58 => CX6_whom_L43 x1 x2 x3 n (if q58.1 = x3 then x4 ||| ((1 : Int32) <<< (x5 &&& 31)) else x4) (x5 + (1 : Int32)) q58.2 k
set_option maxRecDepth 100000 in
set_option maxHeartbeats 4000000 in
theorem vX6_whom_L43 {x1 : Int32} {x2 : Int32} {x3 : Int32} {R : Int32 × fxMem} {k : Int32 → Int32 → fxMem → Option (Int32 × fxMem)} (hk : ∀ (x4 : Int32) (x5 : Int32) (M : fxMem), k x4 x5 M = some R → fx_V gC mX6_whom (fx_ri R) 80 [(0, .ref 0), (1, .int x1), (2, .int x2), (3, .int x3), (4, .int x4), (5, .int x5)] [] M) : ∀ (n : Nat) (x4 : Int32) (x5 : Int32) (M : fxMem), CX6_whom_L43 x1 x2 x3 n x4 x5 M k = some R → fx_V gC mX6_whom (fx_ri R) 43 [(0, .ref 0), (1, .int x1), (2, .int x2), (3, .int x3), (4, .int x4), (5, .int x5)] [] M := by
  intro n
  induction n with
  | zero => intro x4 x5 M h; rw [CX6_whom_L43] at h; cases h
  | succ n ih =>
    intro x4 x5 M h
    rw [CX6_whom_L43] at h
    refine fx_iload 43 dX6_whom_43 5 rfl ?_
    refine fx_bipush 45 (x := (7 : Int32)) dX6_whom_45 (by decide) ?_
    refine fx_icmp_ge 47 80 dX6_whom_47 (by decide) (fun c47 => ?_) (fun c47 => ?_)
    · replace h := fx_ip c47 h
      refine fx_sub [0, 1, 2, 3, 4, 5] rfl ?_
      exact hk _ _ _ h
    · replace h := fx_ne c47 h
      refine fx_aload_n 50 dX6_whom_50 rfl 0 rfl ?_
      refine fx_get 51 (j := 5) (v := .ref 58) okc0 dX6_whom_51 lfX6_58 (by decide) (fun _ => rfl) ?_
      refine fx_iload_n 54 dX6_whom_54 rfl 2 rfl ?_
      refine fx_iload_n 55 dX6_whom_55 rfl 1 rfl ?_
      refine fx_iload 56 dX6_whom_56 5 rfl ?_
      obtain ⟨q58, e58, h⟩ := fx_bd h
      refine fx_callVi 58 (mt' := mX4_arrivalAsKind) (As := [.int x2, .int x1, .int x5]) okc58 (okvX4_arrivalAsKind _ _) lmX6_192 (by decide) rfl rfl (Nat.le_of_ble_eq_true rfl) dX6_whom_58 (tX4_arrivalAsKind e58) ?_
      refine fx_iload_n 61 dX6_whom_61 rfl 3 rfl ?_
      have J : fx_V gC mX6_whom (fx_ri R) 74 [(0, .ref 0), (1, .int x1), (2, .int x2), (3, .int x3), (4, .int (if q58.1 = x3 then x4 ||| ((1 : Int32) <<< (x5 &&& 31)) else x4)), (5, .int x5)] [] q58.2 := by
        refine fx_iinc 74 (lv' := [(5, .int (x5 + (1 : Int32))), (0, .ref 0), (1, .int x1), (2, .int x2), (3, .int x3), (4, .int (if q58.1 = x3 then x4 ||| ((1 : Int32) <<< (x5 &&& 31)) else x4))]) (y := x5 + (1 : Int32)) dX6_whom_74 5 rfl (by rfl) (Nat.le_of_ble_eq_true rfl) rfl ?_
        refine fx_goto 77 43 dX6_whom_77 (by decide) ?_
        refine fx_sub [1, 2, 3, 4, 5, 0] rfl ?_
        exact ih _ _ _ h
      refine fx_icmp_ne 62 74 dX6_whom_62 (by decide) (fun c62 => ?_) (fun c62 => ?_)
      · refine fx_sub (lv' := [(0, .ref 0), (1, .int x1), (2, .int x2), (3, .int x3), (4, .int x4), (5, .int x5)]) [0, 1, 2, 3, 4, 5] rfl ?_
        show fx_V gC mX6_whom (fx_ri R) 74 [(0, .ref 0), (1, .int x1), (2, .int x2), (3, .int x3), (4, .int x4), (5, .int x5)] [] q58.2
        simpa only [if_neg c62] using J
      · refine fx_iload 65 dX6_whom_65 4 rfl ?_
        refine fx_iconst 67 (x := (1 : Int32)) dX6_whom_67 (by decide) ?_
        refine fx_iload 68 dX6_whom_68 5 rfl ?_
        refine fx_ishl 70 dX6_whom_70 ?_
        refine fx_ior 71 dX6_whom_71 ?_
        refine fx_istore 72 (lv' := [(4, .int (x4 ||| ((1 : Int32) <<< (x5 &&& 31)))), (0, .ref 0), (1, .int x1), (2, .int x2), (3, .int x3), (5, .int x5)]) dX6_whom_72 (Nat.le_of_ble_eq_true rfl) rfl ?_
        refine fx_sub (lv' := [(0, .ref 0), (1, .int x1), (2, .int x2), (3, .int x3), (4, .int (x4 ||| ((1 : Int32) <<< (x5 &&& 31)))), (5, .int x5)]) [1, 2, 3, 4, 0, 5] rfl ?_
        show fx_V gC mX6_whom (fx_ri R) 74 [(0, .ref 0), (1, .int x1), (2, .int x2), (3, .int x3), (4, .int (x4 ||| ((1 : Int32) <<< (x5 &&& 31)))), (5, .int x5)] [] q58.2
        simpa only [if_pos c62] using J
def CX6_whom (x1 : Int32) (x2 : Int32) (x3 : Int32) (M : fxMem) : Option (Int32 × fxMem) := Option.bind (CX6_isPlayer x1 M) fun q2 => if q2.1 = (0 : Int32) then some ((-1 : Int32), q2.2) else Option.bind (CX6_isBelow x2 (8 : Int32) q2.2) fun q11 => if q11.1 = (0 : Int32) then some ((-1 : Int32), q11.2) else Option.bind (CX6_isBelow x3 (1000 : Int32) q11.2) fun q23 => if q23.1 = (0 : Int32) then some ((-2 : Int32), q23.2) else Option.bind (CX6_listen q23.2) fun q33 => CX6_whom_L43 x1 x2 x3 1000 (0 : Int32) (0 : Int32) q33 (fun y4_43 y5_43 M43 => some (y4_43, M43))
set_option maxRecDepth 100000 in
set_option maxHeartbeats 4000000 in
theorem tX6_whom {x1 : Int32} {x2 : Int32} {x3 : Int32} {M : fxMem} {R : Int32 × fxMem} (h : CX6_whom x1 x2 x3 M = some R) : fx_T gC mX6_whom [.ref 0, .int x1, .int x2, .int x3] M (fx_ri R) := by
  rw [CX6_whom] at h
  refine fx_enter [(0, .ref 0), (1, .int x1), (2, .int x2), (3, .int x3)] (by show plainName RX6 = true; decide) (fun _ => rfl) (fun _ => Nat.le_of_ble_eq_true rfl) ?_
  refine fx_aload_n 0 dX6_whom_0 rfl 0 rfl ?_
  refine fx_iload_n 1 dX6_whom_1 rfl 1 rfl ?_
  obtain ⟨q2, e2, h⟩ := fx_bd h
  refine fx_callVi 2 (mt' := mX6_isPlayer) (As := [.int x1]) okc0 (okvX6_isPlayer _ _) lmX6_110 (by decide) rfl rfl (Nat.le_of_ble_eq_true rfl) dX6_whom_2 (tX6_isPlayer e2) ?_
  refine fx_if_eq 5 17 dX6_whom_5 (by decide) (fun c5 => ?_) (fun c5 => ?_)
  · replace h := fx_ip c5 h
    refine fx_iconst 17 (x := (-1 : Int32)) dX6_whom_17 (by decide) ?_
    obtain rfl := Option.some.inj h
    exact fx_iret 18 dX6_whom_18 rfl rfl ⟨rfl, rfl⟩
  · replace h := fx_ne c5 h
    refine fx_iload_n 8 dX6_whom_8 rfl 2 rfl ?_
    refine fx_bipush 9 (x := (8 : Int32)) dX6_whom_9 (by decide) ?_
    obtain ⟨q11, e11, h⟩ := fx_bd h
    refine fx_callSi 11 (mt' := mX6_isBelow) (As := [.int x2, .int (8 : Int32)]) (oksX6_isBelow _ _) lmX6_89 (by decide) rfl rfl (Nat.le_of_ble_eq_true rfl) dX6_whom_11 (tX6_isBelow e11) ?_
    refine fx_if_ne 14 19 dX6_whom_14 (by decide) (fun c14 => ?_) (fun c14 => ?_)
    · replace h := fx_ne c14 h
      refine fx_iload_n 19 dX6_whom_19 rfl 3 rfl ?_
      refine fx_sipush 20 (x := (1000 : Int32)) dX6_whom_20 (by decide) ?_
      obtain ⟨q23, e23, h⟩ := fx_bd h
      refine fx_callSi 23 (mt' := mX6_isBelow) (As := [.int x3, .int (1000 : Int32)]) (oksX6_isBelow _ _) lmX6_89 (by decide) rfl rfl (Nat.le_of_ble_eq_true rfl) dX6_whom_23 (tX6_isBelow e23) ?_
      refine fx_if_ne 26 32 dX6_whom_26 (by decide) (fun c26 => ?_) (fun c26 => ?_)
      · replace h := fx_ne c26 h
        refine fx_aload_n 32 dX6_whom_32 rfl 0 rfl ?_
        obtain ⟨q33, e33, h⟩ := fx_bd h
        refine fx_callVk 33 (mt' := mX6_listen) (As := []) okc0 (okvX6_listen _ _) lmX6_114 (by decide) rfl rfl (Nat.le_of_ble_eq_true rfl) dX6_whom_33 (tX6_listen e33) ?_
        refine fx_pop 36 dX6_whom_36 rfl ?_
        refine fx_iconst 37 (x := (0 : Int32)) dX6_whom_37 (by decide) ?_
        refine fx_istore 38 (lv' := [(4, .int (0 : Int32)), (0, .ref 0), (1, .int x1), (2, .int x2), (3, .int x3)]) dX6_whom_38 (Nat.le_of_ble_eq_true rfl) rfl ?_
        refine fx_iconst 40 (x := (0 : Int32)) dX6_whom_40 (by decide) ?_
        refine fx_istore 41 (lv' := [(5, .int (0 : Int32)), (4, .int (0 : Int32)), (0, .ref 0), (1, .int x1), (2, .int x2), (3, .int x3)]) dX6_whom_41 (Nat.le_of_ble_eq_true rfl) rfl ?_
        refine fx_sub [2, 3, 4, 5, 1, 0] rfl ?_
        refine vX6_whom_L43 (fun y4_43 y5_43 M43 h => ?_) 1000 _ _ _ h
        refine fx_iload 80 dX6_whom_80 4 rfl ?_
        obtain rfl := Option.some.inj h
        exact fx_iret 82 dX6_whom_82 rfl rfl ⟨rfl, rfl⟩
      · replace h := fx_ip c26 h
        refine fx_bipush 29 (x := (-2 : Int32)) dX6_whom_29 (by decide) ?_
        obtain rfl := Option.some.inj h
        exact fx_iret 31 dX6_whom_31 rfl rfl ⟨rfl, rfl⟩
    · replace h := fx_ip c14 h
      refine fx_iconst 17 (x := (-1 : Int32)) dX6_whom_17 (by decide) ?_
      obtain rfl := Option.some.inj h
      exact fx_iret 18 dX6_whom_18 rfl rfl ⟨rfl, rfl⟩
def mX4_sumWithout : fxM := (yX4_sumWithout, cX4_sumWithout, 2, (some .int), 7, 280)
theorem okvX4_sumWithout (f l : Nat) : fx_okV (yX4_sumWithout, cX4_sumWithout, 2, (some .int), f, l) 1 := ⟨⟨rin35 _ (List.mem_of_getElem? (i := 21) rfl), rin2 _ (List.mem_of_getElem? (i := 13) rfl), by show yX4_sumWithout.cls ≠ _; decide +kernel, by show yX4_sumWithout.cls ≠ _; decide +kernel, by show (parseMethodDescriptor yX4_sumWithout.desc).map _ = _; decide +kernel⟩, rin35 _ (List.mem_of_getElem? (i := 19) rfl), rin35 _ (List.mem_of_getElem? (i := 20) rfl)⟩
def CX4_sumWithout (x1 : Int32) (M : fxMem) : Option (Int32 × fxMem) := Option.bind (CX4_arrange (fx_st M 58 3 x1)) fun q6 => Option.bind (CX4_playAll q6) fun q10 => Option.bind (CX4_sumOfSpreads q10) fun q14 => some (q14.1, q14.2)
set_option maxRecDepth 100000 in
set_option maxHeartbeats 4000000 in
theorem tX4_sumWithout {x1 : Int32} {M : fxMem} {R : Int32 × fxMem} (h : CX4_sumWithout x1 M = some R) : fx_T gC mX4_sumWithout [.ref 58, .int x1] M (fx_ri R) := by
  rw [CX4_sumWithout] at h
  refine fx_enter [(0, .ref 58), (1, .int x1)] (by show plainName RX4 = true; decide) (fun _ => rfl) (fun _ => Nat.le_of_ble_eq_true rfl) ?_
  refine fx_aload_n 0 dX4_sumWithout_0 rfl 0 rfl ?_
  refine fx_iload_n 1 dX4_sumWithout_1 rfl 1 rfl ?_
  refine fx_putI 2 (j := 3) okc58 dX4_sumWithout_2 lfX4_15 (by decide) rfl (by decide +kernel) (fun _ _ => Nat.le_of_ble_eq_true rfl) (fun _ _ _ => rfl) ?_
  refine fx_aload_n 5 dX4_sumWithout_5 rfl 0 rfl ?_
  obtain ⟨q6, e6, h⟩ := fx_bd h
  refine fx_callVv 6 (mt' := mX4_arrange) (As := []) okc58 (okvX4_arrange _ _) lmX4_63 (by decide) rfl rfl (Nat.le_of_ble_eq_true rfl) dX4_sumWithout_6 (tX4_arrange e6) ?_
  refine fx_aload_n 9 dX4_sumWithout_9 rfl 0 rfl ?_
  obtain ⟨q10, e10, h⟩ := fx_bd h
  refine fx_callVv 10 (mt' := mX4_playAll) (As := []) okc58 (okvX4_playAll _ _) lmX4_66 (by decide) rfl rfl (Nat.le_of_ble_eq_true rfl) dX4_sumWithout_10 (tX4_playAll e10) ?_
  refine fx_aload_n 13 dX4_sumWithout_13 rfl 0 rfl ?_
  obtain ⟨q14, e14, h⟩ := fx_bd h
  refine fx_callVi 14 (mt' := mX4_sumOfSpreads) (As := []) okc58 (okvX4_sumOfSpreads _ _) lmX4_138 (by decide) rfl rfl (Nat.le_of_ble_eq_true rfl) dX4_sumWithout_14 (tX4_sumOfSpreads e14) ?_
  obtain rfl := Option.some.inj h
  exact fx_iret 17 dX4_sumWithout_17 rfl rfl ⟨rfl, rfl⟩
def mX6_out : fxM := (yX6_out, cX6_out, 5, (some .int), 9, 360)
theorem okvX6_out (f l : Nat) : fx_okV (yX6_out, cX6_out, 5, (some .int), f, l) 0 := ⟨⟨rin35 _ (List.mem_of_getElem? (i := 17) rfl), rin1 _ (List.mem_of_getElem? (i := 2) rfl), by show yX6_out.cls ≠ _; decide +kernel, by show yX6_out.cls ≠ _; decide +kernel, by show (parseMethodDescriptor yX6_out.desc).map _ = _; decide +kernel⟩, rin35 _ (List.mem_of_getElem? (i := 15) rfl), rin35 _ (List.mem_of_getElem? (i := 16) rfl)⟩
def CX6_out_L25 : Nat → Int32 → Int32 → Int32 → fxMem → (Int32 → Int32 → Int32 → fxMem → Option (Int32 × fxMem)) → Option (Int32 × fxMem)
  | 0, _, _, _, _, _ => none
  | n + 1, x1, x2, x3, M, k => if M 1 0 ≤ x3 then k x1 x2 x3 M else Option.bind (CX4_sumWithout x3 M) fun q41 => CX6_out_L25  n (if x1 = (-1 : Int32) then x3 else (if x2 ≤ q41.1 then x1 else x3)) (if x1 = (-1 : Int32) then q41.1 else (if x2 ≤ q41.1 then x2 else q41.1)) (x3 + (1 : Int32)) q41.2 k
set_option maxRecDepth 100000 in
set_option maxHeartbeats 4000000 in
theorem vX6_out_L25 {R : Int32 × fxMem} {k : Int32 → Int32 → Int32 → fxMem → Option (Int32 × fxMem)} (hk : ∀ (x1 : Int32) (x2 : Int32) (x3 : Int32) (M : fxMem), k x1 x2 x3 M = some R → fx_V gC mX6_out (fx_ri R) 68 [(0, .ref 0), (1, .int x1), (2, .int x2), (3, .int x3)] [] M) : ∀ (n : Nat) (x1 : Int32) (x2 : Int32) (x3 : Int32) (M : fxMem), CX6_out_L25  n x1 x2 x3 M k = some R → fx_V gC mX6_out (fx_ri R) 25 [(0, .ref 0), (1, .int x1), (2, .int x2), (3, .int x3)] [] M := by
  intro n
  induction n with
  | zero => intro x1 x2 x3 M h; rw [CX6_out_L25] at h; cases h
  | succ n ih =>
    intro x1 x2 x3 M h
    rw [CX6_out_L25] at h
    refine fx_iload_n 25 dX6_out_25 rfl 3 rfl ?_
    refine fx_aload_n 26 dX6_out_26 rfl 0 rfl ?_
    refine fx_get 27 (j := 0) (v := .ref 1) okc0 dX6_out_27 lfX6_12 (by decide) (fun _ => rfl) ?_
    refine fx_get 30 (j := 0) (v := .int (M 1 0)) okc1 dX6_out_30 lfX6_97 (by decide) (fun _ => rfl) ?_
    refine fx_icmp_ge 33 68 dX6_out_33 (by decide) (fun c33 => ?_) (fun c33 => ?_)
    · replace h := fx_ip c33 h
      refine fx_sub [0, 1, 2, 3] rfl ?_
      exact hk _ _ _ _ h
    · replace h := fx_ne c33 h
      refine fx_aload_n 36 dX6_out_36 rfl 0 rfl ?_
      refine fx_get 37 (j := 5) (v := .ref 58) okc0 dX6_out_37 lfX6_58 (by decide) (fun _ => rfl) ?_
      refine fx_iload_n 40 dX6_out_40 rfl 3 rfl ?_
      obtain ⟨q41, e41, h⟩ := fx_bd h
      refine fx_callVi 41 (mt' := mX4_sumWithout) (As := [.int x3]) okc58 (okvX4_sumWithout _ _) lmX6_196 (by decide) rfl rfl (Nat.le_of_ble_eq_true rfl) dX6_out_41 (tX4_sumWithout e41) ?_
      refine fx_istore 44 (lv' := [(4, .int q41.1), (0, .ref 0), (1, .int x1), (2, .int x2), (3, .int x3)]) dX6_out_44 (Nat.le_of_ble_eq_true rfl) rfl ?_
      refine fx_iload_n 46 dX6_out_46 rfl 2 rfl ?_
      refine fx_iconst 47 (x := (-1 : Int32)) dX6_out_47 (by decide) ?_
      have J : fx_V gC mX6_out (fx_ri R) 62 [(0, .ref 0), (1, .int (if x1 = (-1 : Int32) then x3 else (if x2 ≤ q41.1 then x1 else x3))), (2, .int (if x1 = (-1 : Int32) then q41.1 else (if x2 ≤ q41.1 then x2 else q41.1))), (3, .int x3), (4, .int q41.1)] [] q41.2 := by
        refine fx_iinc 62 (lv' := [(3, .int (x3 + (1 : Int32))), (0, .ref 0), (1, .int (if x1 = (-1 : Int32) then x3 else (if x2 ≤ q41.1 then x1 else x3))), (2, .int (if x1 = (-1 : Int32) then q41.1 else (if x2 ≤ q41.1 then x2 else q41.1))), (4, .int q41.1)]) (y := x3 + (1 : Int32)) dX6_out_62 3 rfl (by rfl) (Nat.le_of_ble_eq_true rfl) rfl ?_
        refine fx_goto 65 25 dX6_out_65 (by decide) ?_
        refine fx_sub [1, 2, 3, 0] rfl ?_
        exact ih _ _ _ _ h
      refine fx_icmp_eq 48 57 dX6_out_48 (by decide) (fun c48 => ?_) (fun c48 => ?_)
      · refine fx_iload_n 57 dX6_out_57 rfl 4 rfl ?_
        refine fx_istore_n 58 (lv' := [(1, .int x3), (4, .int q41.1), (0, .ref 0), (2, .int x2), (3, .int x3)]) dX6_out_58 rfl (Nat.le_of_ble_eq_true rfl) rfl ?_
        refine fx_iload 59 dX6_out_59 1 rfl ?_
        refine fx_istore_n 61 (lv' := [(2, .int q41.1), (1, .int x3), (4, .int q41.1), (0, .ref 0), (3, .int x3)]) dX6_out_61 rfl (Nat.le_of_ble_eq_true rfl) rfl ?_
        refine fx_sub (lv' := [(0, .ref 0), (1, .int x3), (2, .int q41.1), (3, .int x3), (4, .int q41.1)]) [3, 1, 0, 4, 2] rfl ?_
        show fx_V gC mX6_out (fx_ri R) 62 [(0, .ref 0), (1, .int x3), (2, .int q41.1), (3, .int x3), (4, .int q41.1)] [] q41.2
        simpa only [if_pos c48] using J
      · refine fx_iload 51 dX6_out_51 0 rfl ?_
        refine fx_iload_n 53 dX6_out_53 rfl 3 rfl ?_
        refine fx_icmp_ge 54 62 dX6_out_54 (by decide) (fun c54 => ?_) (fun c54 => ?_)
        · refine fx_sub (lv' := [(0, .ref 0), (1, .int x1), (2, .int x2), (3, .int x3), (4, .int q41.1)]) [1, 2, 3, 4, 0] rfl ?_
          show fx_V gC mX6_out (fx_ri R) 62 [(0, .ref 0), (1, .int x1), (2, .int x2), (3, .int x3), (4, .int q41.1)] [] q41.2
          simpa only [if_neg c48, if_pos c54] using J
        · refine fx_iload_n 57 dX6_out_57 rfl 4 rfl ?_
          refine fx_istore_n 58 (lv' := [(1, .int x3), (4, .int q41.1), (0, .ref 0), (2, .int x2), (3, .int x3)]) dX6_out_58 rfl (Nat.le_of_ble_eq_true rfl) rfl ?_
          refine fx_iload 59 dX6_out_59 1 rfl ?_
          refine fx_istore_n 61 (lv' := [(2, .int q41.1), (1, .int x3), (4, .int q41.1), (0, .ref 0), (3, .int x3)]) dX6_out_61 rfl (Nat.le_of_ble_eq_true rfl) rfl ?_
          refine fx_sub (lv' := [(0, .ref 0), (1, .int x3), (2, .int q41.1), (3, .int x3), (4, .int q41.1)]) [3, 1, 0, 4, 2] rfl ?_
          show fx_V gC mX6_out (fx_ri R) 62 [(0, .ref 0), (1, .int x3), (2, .int q41.1), (3, .int x3), (4, .int q41.1)] [] q41.2
          simpa only [if_neg c48, if_neg c54] using J
def CX6_out  (M : fxMem) : Option (Int32 × fxMem) := if (2 : Int32) ≤ M 1 0 then Option.bind (CX6_listen M) fun q15 => CX6_out_L25  1000 (-1 : Int32) (0 : Int32) (0 : Int32) q15 (fun y1_25 y2_25 y3_25 M25 => some (y1_25, M25)) else some ((-5 : Int32), M)
set_option maxRecDepth 100000 in
set_option maxHeartbeats 4000000 in
theorem tX6_out  {M : fxMem} {R : Int32 × fxMem} (h : CX6_out  M = some R) : fx_T gC mX6_out [.ref 0] M (fx_ri R) := by
  rw [CX6_out] at h
  refine fx_enter [(0, .ref 0)] (by show plainName RX6 = true; decide) (fun _ => rfl) (fun _ => Nat.le_of_ble_eq_true rfl) ?_
  refine fx_aload_n 0 dX6_out_0 rfl 0 rfl ?_
  refine fx_get 1 (j := 0) (v := .ref 1) okc0 dX6_out_1 lfX6_12 (by decide) (fun _ => rfl) ?_
  refine fx_get 4 (j := 0) (v := .int (M 1 0)) okc1 dX6_out_4 lfX6_97 (by decide) (fun _ => rfl) ?_
  refine fx_iconst 7 (x := (2 : Int32)) dX6_out_7 (by decide) ?_
  refine fx_icmp_ge 8 14 dX6_out_8 (by decide) (fun c8 => ?_) (fun c8 => ?_)
  · replace h := fx_ip c8 h
    refine fx_aload_n 14 dX6_out_14 rfl 0 rfl ?_
    obtain ⟨q15, e15, h⟩ := fx_bd h
    refine fx_callVk 15 (mt' := mX6_listen) (As := []) okc0 (okvX6_listen _ _) lmX6_114 (by decide) rfl rfl (Nat.le_of_ble_eq_true rfl) dX6_out_15 (tX6_listen e15) ?_
    refine fx_pop 18 dX6_out_18 rfl ?_
    refine fx_iconst 19 (x := (-1 : Int32)) dX6_out_19 (by decide) ?_
    refine fx_istore_n 20 (lv' := [(1, .int (-1 : Int32)), (0, .ref 0)]) dX6_out_20 rfl (Nat.le_of_ble_eq_true rfl) rfl ?_
    refine fx_iconst 21 (x := (0 : Int32)) dX6_out_21 (by decide) ?_
    refine fx_istore_n 22 (lv' := [(2, .int (0 : Int32)), (1, .int (-1 : Int32)), (0, .ref 0)]) dX6_out_22 rfl (Nat.le_of_ble_eq_true rfl) rfl ?_
    refine fx_iconst 23 (x := (0 : Int32)) dX6_out_23 (by decide) ?_
    refine fx_istore_n 24 (lv' := [(3, .int (0 : Int32)), (2, .int (0 : Int32)), (1, .int (-1 : Int32)), (0, .ref 0)]) dX6_out_24 rfl (Nat.le_of_ble_eq_true rfl) rfl ?_
    refine fx_sub [3, 2, 1, 0] rfl ?_
    refine vX6_out_L25 (fun y1_25 y2_25 y3_25 M25 h => ?_) 1000 _ _ _ _ h
    refine fx_iload_n 68 dX6_out_68 rfl 1 rfl ?_
    obtain rfl := Option.some.inj h
    exact fx_iret 69 dX6_out_69 rfl rfl ⟨rfl, rfl⟩
  · replace h := fx_ne c8 h
    refine fx_bipush 11 (x := (-5 : Int32)) dX6_out_11 (by decide) ?_
    obtain rfl := Option.some.inj h
    exact fx_iret 13 dX6_out_13 rfl rfl ⟨rfl, rfl⟩
def mX0_bodyOf : fxM := (yX0_bodyOf, cX0_bodyOf, 2, (some .int), 2, 80)
theorem oksX0_bodyOf (f l : Nat) : fx_okS (yX0_bodyOf, cX0_bodyOf, 2, (some .int), f, l) 2 := ⟨⟨rin36 _ (List.mem_of_getElem? (i := 15) rfl), rin2 _ (List.mem_of_getElem? (i := 3) rfl), by show yX0_bodyOf.cls ≠ _; decide +kernel, by show yX0_bodyOf.cls ≠ _; decide +kernel, by show (parseMethodDescriptor yX0_bodyOf.desc).map _ = _; decide +kernel⟩, rin36 _ (List.mem_of_getElem? (i := 14) rfl)⟩
def CX0_bodyOf (x0 : Int32) (x1 : Int32) (M : fxMem) : Option (Int32 × fxMem) := if x1 = (0 : Int32) then if fx_in x0 7 = true then some ((kx_a 1).2.2.getD x0.toNatClampNeg 0, M) else none else if x1 = (1 : Int32) then if fx_in x0 7 = true then some ((kx_a 2).2.2.getD x0.toNatClampNeg 0, M) else none else if fx_in x0 7 = true then some ((kx_a 3).2.2.getD x0.toNatClampNeg 0, M) else none
set_option maxRecDepth 100000 in
set_option maxHeartbeats 4000000 in
theorem tX0_bodyOf {x0 : Int32} {x1 : Int32} {M : fxMem} {R : Int32 × fxMem} (h : CX0_bodyOf x0 x1 M = some R) : fx_T gC mX0_bodyOf [.int x0, .int x1] M (fx_ri R) := by
  rw [CX0_bodyOf] at h
  refine fx_enter [(0, .int x0), (1, .int x1)] (by show plainName RX0 = true; decide) (fun _ => rfl) (fun _ => Nat.le_of_ble_eq_true rfl) ?_
  refine fx_iload_n 0 dX0_bodyOf_0 rfl 1 rfl ?_
  by_cases s1_0 : x1 = (0 : Int32)
  · replace h := fx_ip s1_0 h
    refine fx_lsI 1 28 dX0_bodyOf_1 (by decide) (by rw [s1_0]; try rfl) (by decide) ?_
    refine fx_gets 28 1 (by decide) dX0_bodyOf_28 lfX0_43 ?_
    refine fx_iload_n 31 dX0_bodyOf_31 rfl 0 rfl ?_
    obtain ⟨g32, h⟩ := fx_gt h
    refine fx_sald 32 1 (by decide) dX0_bodyOf_32 g32 ?_
    obtain rfl := Option.some.inj h
    exact fx_iret 33 dX0_bodyOf_33 rfl rfl ⟨rfl, rfl⟩
  · replace h := fx_ne s1_0 h
    by_cases s1_1 : x1 = (1 : Int32)
    · replace h := fx_ip s1_1 h
      refine fx_lsI 1 34 dX0_bodyOf_1 (by decide) (by rw [s1_1]; try rfl) (by decide) ?_
      refine fx_gets 34 2 (by decide) dX0_bodyOf_34 lfX0_46 ?_
      refine fx_iload_n 37 dX0_bodyOf_37 rfl 0 rfl ?_
      obtain ⟨g38, h⟩ := fx_gt h
      refine fx_sald 38 2 (by decide) dX0_bodyOf_38 g38 ?_
      obtain rfl := Option.some.inj h
      exact fx_iret 39 dX0_bodyOf_39 rfl rfl ⟨rfl, rfl⟩
    · replace h := fx_ne s1_1 h
      refine fx_lsD 1 40 [(0 : Int32), (1 : Int32)] dX0_bodyOf_1 (by decide) (by decide) (by intro q hq; simp only [List.mem_cons, List.not_mem_nil, or_false] at hq; rcases hq with rfl | rfl <;> assumption) (by decide) ?_
      refine fx_gets 40 3 (by decide) dX0_bodyOf_40 lfX0_49 ?_
      refine fx_iload_n 43 dX0_bodyOf_43 rfl 0 rfl ?_
      obtain ⟨g44, h⟩ := fx_gt h
      refine fx_sald 44 3 (by decide) dX0_bodyOf_44 g44 ?_
      obtain rfl := Option.some.inj h
      exact fx_iret 45 dX0_bodyOf_45 rfl rfl ⟨rfl, rfl⟩
def mX0_begin : fxM := (yX0_begin, cX0_begin, 2, none, 2, 80)
theorem okvX0_begin (f l : Nat) : fx_okV (yX0_begin, cX0_begin, 2, none, f, l) 1 := ⟨⟨rin36 _ (List.mem_of_getElem? (i := 22) rfl), rin2 _ (List.mem_of_getElem? (i := 3) rfl), by show yX0_begin.cls ≠ _; decide +kernel, by show yX0_begin.cls ≠ _; decide +kernel, by show (parseMethodDescriptor yX0_begin.desc).map _ = _; decide +kernel⟩, rin36 _ (List.mem_of_getElem? (i := 20) rfl), rin36 _ (List.mem_of_getElem? (i := 21) rfl)⟩
def CX0_begin_J19  (x1 : Int32) (M : fxMem) : Option (fxMem) := some (fx_st M 17 3 ((M 17 3) + (1 : Int32)))
set_option maxRecDepth 100000 in
set_option maxHeartbeats 4000000 in
theorem vX0_begin_J19  {x1 : Int32} {R : fxMem} {M : fxMem} (h : CX0_begin_J19 x1 M = some R) : fx_V gC mX0_begin (fx_rv R) 19 [(0, .ref 17), (1, .int x1)] [] M := by
  rw [CX0_begin_J19] at h
  refine fx_aload_n 19 dX0_begin_19 rfl 0 rfl ?_
  refine fx_dup 20 dX0_begin_20 rfl ?_
  refine fx_get 21 (j := 3) (v := .int (M 17 3)) okc17 dX0_begin_21 lfX0_21 (by decide) (fun _ => rfl) ?_
  refine fx_iconst 24 (x := (1 : Int32)) dX0_begin_24 (by decide) ?_
  refine fx_iadd 25 dX0_begin_25 ?_
  refine fx_putI 26 (j := 3) okc17 dX0_begin_26 lfX0_21 (by decide) rfl (by decide +kernel) (fun _ _ => Nat.le_of_ble_eq_true rfl) (fun _ _ _ => rfl) ?_
  obtain rfl := Option.some.inj h
  exact fx_vret 29 dX0_begin_29 rfl ⟨rfl, rfl⟩
def CX0_begin (x1 : Int32) (M : fxMem) : Option (fxMem) := if (20 : Int32) ≤ M 17 3 then CX0_begin_J19 x1 M else if fx_in (M 17 3) 20 = true then CX0_begin_J19 x1 (fx_st M 18 (M 17 3).toNatClampNeg x1) else none
set_option maxRecDepth 100000 in
set_option maxHeartbeats 4000000 in
theorem tX0_begin {x1 : Int32} {M : fxMem} {R : fxMem} (h : CX0_begin x1 M = some R) : fx_T gC mX0_begin [.ref 17, .int x1] M (fx_rv R) := by
  rw [CX0_begin] at h
  refine fx_enter [(0, .ref 17), (1, .int x1)] (by show plainName RX0 = true; decide) (fun _ => rfl) (fun _ => Nat.le_of_ble_eq_true rfl) ?_
  refine fx_aload_n 0 dX0_begin_0 rfl 0 rfl ?_
  refine fx_get 1 (j := 3) (v := .int (M 17 3)) okc17 dX0_begin_1 lfX0_21 (by decide) (fun _ => rfl) ?_
  refine fx_bipush 4 (x := (20 : Int32)) dX0_begin_4 (by decide) ?_
  refine fx_icmp_ge 6 19 dX0_begin_6 (by decide) (fun c6 => ?_) (fun c6 => ?_)
  · replace h := fx_ip c6 h
    refine fx_sub [0, 1] rfl ?_
    exact vX0_begin_J19 h
  · replace h := fx_ne c6 h
    refine fx_aload_n 9 dX0_begin_9 rfl 0 rfl ?_
    refine fx_get 10 (j := 4) (v := .ref 18) okc17 dX0_begin_10 lfX0_24 (by decide) (fun _ => rfl) ?_
    refine fx_aload_n 13 dX0_begin_13 rfl 0 rfl ?_
    refine fx_get 14 (j := 3) (v := .int (M 17 3)) okc17 dX0_begin_14 lfX0_21 (by decide) (fun _ => rfl) ?_
    refine fx_iload_n 17 dX0_begin_17 rfl 1 rfl ?_
    obtain ⟨g18, h⟩ := fx_gt h
    refine fx_iast 18 oka18 dX0_begin_18 g18 ?_
    refine fx_sub [0, 1] rfl ?_
    exact vX0_begin_J19 h
def mX0_runFrom (d : Nat) : fxM := (yX0_runFrom, cX0_runFrom, 7, (some .int), 3 + d, 40 * (3 + d))
theorem okvX0_runFrom (f l : Nat) : fx_okV (yX0_runFrom, cX0_runFrom, 7, (some .int), f, l) 4 := ⟨⟨rin36 _ (List.mem_of_getElem? (i := 12) rfl), rin2 _ (List.mem_of_getElem? (i := 3) rfl), by show yX0_runFrom.cls ≠ _; decide +kernel, by show yX0_runFrom.cls ≠ _; decide +kernel, by show (parseMethodDescriptor yX0_runFrom.desc).map _ = _; decide +kernel⟩, rin36 _ (List.mem_of_getElem? (i := 10) rfl), rin36 _ (List.mem_of_getElem? (i := 11) rfl)⟩
def mX0_runBody (d : Nat) : fxM := (yX0_runBody, cX0_runBody, 5, (some .int), 3 + d, 40 * (3 + d))
theorem okvX0_runBody (f l : Nat) : fx_okV (yX0_runBody, cX0_runBody, 5, (some .int), f, l) 4 := ⟨⟨rin37 _ (List.mem_of_getElem? (i := 2) rfl), rin2 _ (List.mem_of_getElem? (i := 3) rfl), by show yX0_runBody.cls ≠ _; decide +kernel, by show yX0_runBody.cls ≠ _; decide +kernel, by show (parseMethodDescriptor yX0_runBody.desc).map _ = _; decide +kernel⟩, rin37 _ (List.mem_of_getElem? (i := 0) rfl), rin37 _ (List.mem_of_getElem? (i := 1) rfl)⟩
def CX0_runFrom_L6 (rec : Nat → Int32 → Int32 → Int32 → Int32 → fxMem → Option (Int32 × fxMem)) (x1 : Int32) (x2 : Int32) (x3 : Int32) (x4 : Int32) : Nat → Int32 → Int32 → fxMem → (Int32 → Int32 → fxMem → Option (Int32 × fxMem)) → Option (Int32 × fxMem)
  | 0, _, _, _, _ => none
  | n + 1, x5, x6, M, k => if (7 : Int32) ≤ x6 then k x5 x6 M else if x5 = (-1 : Int32) then k x5 x6 M else Option.bind (CX0_bodyOf x5 x2 M) fun q22 => if q22.1 = (-1 : Int32) then if fx_in x5 7 = true then CX0_runFrom_L6 rec x1 x2 x3 x4 n ((kx_a 0).2.2.getD x5.toNatClampNeg 0) (x6 + (1 : Int32)) q22.2 k else none else k x5 x6 q22.2
set_option maxRecDepth 100000 in
set_option maxHeartbeats 4000000 in
theorem vX0_runFrom_L6 {d : Nat} {rec : Nat → Int32 → Int32 → Int32 → Int32 → fxMem → Option (Int32 × fxMem)} (H0 : ∀ {a1 a2 a3 a4 : Int32} {M : fxMem} {R : Int32 × fxMem}, rec 0 a1 a2 a3 a4 M = some R → fx_T gC (mX0_runFrom d) [.ref 17, .int a1, .int a2, .int a3, .int a4] M (fx_ri R)) (H1 : ∀ {a1 a2 a3 a4 : Int32} {M : fxMem} {R : Int32 × fxMem}, rec 1 a1 a2 a3 a4 M = some R → fx_T gC (mX0_runBody d) [.ref 17, .int a1, .int a2, .int a3, .int a4] M (fx_ri R)) {x1 : Int32} {x2 : Int32} {x3 : Int32} {x4 : Int32} {R : Int32 × fxMem} {k : Int32 → Int32 → fxMem → Option (Int32 × fxMem)} (hk : ∀ (x5 : Int32) (x6 : Int32) (M : fxMem), k x5 x6 M = some R → fx_V gC (mX0_runFrom (d + 1)) (fx_ri R) 43 [(0, .ref 17), (1, .int x1), (2, .int x2), (3, .int x3), (4, .int x4), (5, .int x5), (6, .int x6)] [] M) : ∀ (n : Nat) (x5 : Int32) (x6 : Int32) (M : fxMem), CX0_runFrom_L6 rec x1 x2 x3 x4 n x5 x6 M k = some R → fx_V gC (mX0_runFrom (d + 1)) (fx_ri R) 6 [(0, .ref 17), (1, .int x1), (2, .int x2), (3, .int x3), (4, .int x4), (5, .int x5), (6, .int x6)] [] M := by
  intro n
  induction n with
  | zero => intro x5 x6 M h; rw [CX0_runFrom_L6] at h; cases h
  | succ n ih =>
    intro x5 x6 M h
    rw [CX0_runFrom_L6] at h
    refine fx_iload 6 dX0_runFrom_6 6 rfl ?_
    refine fx_bipush 8 (x := (7 : Int32)) dX0_runFrom_8 (by decide) ?_
    refine fx_icmp_ge 10 43 dX0_runFrom_10 (by decide) (fun c10 => ?_) (fun c10 => ?_)
    · replace h := fx_ip c10 h
      refine fx_sub [0, 1, 2, 3, 4, 5, 6] rfl ?_
      exact hk _ _ _ h
    · replace h := fx_ne c10 h
      refine fx_iload 13 dX0_runFrom_13 5 rfl ?_
      refine fx_iconst 15 (x := (-1 : Int32)) dX0_runFrom_15 (by decide) ?_
      refine fx_icmp_eq 16 43 dX0_runFrom_16 (by decide) (fun c16 => ?_) (fun c16 => ?_)
      · replace h := fx_ip c16 h
        refine fx_sub [0, 1, 2, 3, 4, 5, 6] rfl ?_
        exact hk _ _ _ h
      · replace h := fx_ne c16 h
        refine fx_iload 19 dX0_runFrom_19 5 rfl ?_
        refine fx_iload_n 21 dX0_runFrom_21 rfl 2 rfl ?_
        obtain ⟨q22, e22, h⟩ := fx_bd h
        refine fx_callSi 22 (mt' := mX0_bodyOf) (As := [.int x5, .int x2]) (oksX0_bodyOf _ _) lmX0_28 (by simp only [mX0_runFrom, mX0_bodyOf]; omega) rfl rfl (Nat.le_of_ble_eq_true rfl) dX0_runFrom_22 (tX0_bodyOf e22) ?_
        refine fx_iconst 25 (x := (-1 : Int32)) dX0_runFrom_25 (by decide) ?_
        refine fx_icmp_ne 26 43 dX0_runFrom_26 (by decide) (fun c26 => ?_) (fun c26 => ?_)
        · replace h := fx_ne c26 h
          refine fx_sub [0, 1, 2, 3, 4, 5, 6] rfl ?_
          exact hk _ _ _ h
        · replace h := fx_ip c26 h
          refine fx_getsN 29 rfl dX0_runFrom_29 ?_
          refine fx_iload 32 dX0_runFrom_32 5 rfl ?_
          obtain ⟨g34, h⟩ := fx_gt h
          refine fx_sald 34 0 (by decide) dX0_runFrom_34 g34 ?_
          refine fx_istore 35 (lv' := [(5, .int ((kx_a 0).2.2.getD x5.toNatClampNeg 0)), (0, .ref 17), (1, .int x1), (2, .int x2), (3, .int x3), (4, .int x4), (6, .int x6)]) dX0_runFrom_35 (Nat.le_of_ble_eq_true rfl) rfl ?_
          refine fx_iinc 37 (lv' := [(6, .int (x6 + (1 : Int32))), (5, .int ((kx_a 0).2.2.getD x5.toNatClampNeg 0)), (0, .ref 17), (1, .int x1), (2, .int x2), (3, .int x3), (4, .int x4)]) (y := x6 + (1 : Int32)) dX0_runFrom_37 6 rfl (by rfl) (Nat.le_of_ble_eq_true rfl) rfl ?_
          refine fx_goto 40 6 dX0_runFrom_40 (by decide) ?_
          refine fx_sub [2, 3, 4, 5, 6, 1, 0] rfl ?_
          exact ih _ _ _ h
def CX0_runFrom_J43 (rec : Nat → Int32 → Int32 → Int32 → Int32 → fxMem → Option (Int32 × fxMem)) (x1 : Int32) (x2 : Int32) (x3 : Int32) (x4 : Int32) (x5 : Int32) (x6 : Int32) (M : fxMem) : Option (Int32 × fxMem) := if x5 = (-1 : Int32) then some ((0 : Int32), M) else if x4 < (20 : Int32) then Option.bind (CX0_bodyOf x5 x2 M) fun q61 => Option.bind (CX0_begin q61.1 q61.2) fun q69 => if fx_in x5 7 = true then Option.bind (rec 1 q61.1 ((kx_a 0).2.2.getD x5.toNatClampNeg 0) x3 (x4 + (1 : Int32)) q69) fun q86 => some (q86.1, q86.2) else none else some ((0 : Int32), M)
set_option maxRecDepth 100000 in
set_option maxHeartbeats 4000000 in
theorem vX0_runFrom_J43 {d : Nat} {rec : Nat → Int32 → Int32 → Int32 → Int32 → fxMem → Option (Int32 × fxMem)} (H0 : ∀ {a1 a2 a3 a4 : Int32} {M : fxMem} {R : Int32 × fxMem}, rec 0 a1 a2 a3 a4 M = some R → fx_T gC (mX0_runFrom d) [.ref 17, .int a1, .int a2, .int a3, .int a4] M (fx_ri R)) (H1 : ∀ {a1 a2 a3 a4 : Int32} {M : fxMem} {R : Int32 × fxMem}, rec 1 a1 a2 a3 a4 M = some R → fx_T gC (mX0_runBody d) [.ref 17, .int a1, .int a2, .int a3, .int a4] M (fx_ri R))  {x1 : Int32} {x2 : Int32} {x3 : Int32} {x4 : Int32} {x5 : Int32} {x6 : Int32} {R : Int32 × fxMem} {M : fxMem} (h : CX0_runFrom_J43 rec x1 x2 x3 x4 x5 x6 M = some R) : fx_V gC (mX0_runFrom (d + 1)) (fx_ri R) 43 [(0, .ref 17), (1, .int x1), (2, .int x2), (3, .int x3), (4, .int x4), (5, .int x5), (6, .int x6)] [] M := by
  rw [CX0_runFrom_J43] at h
  refine fx_iload 43 dX0_runFrom_43 5 rfl ?_
  refine fx_iconst 45 (x := (-1 : Int32)) dX0_runFrom_45 (by decide) ?_
  refine fx_icmp_eq 46 56 dX0_runFrom_46 (by decide) (fun c46 => ?_) (fun c46 => ?_)
  · replace h := fx_ip c46 h
    refine fx_iconst 56 (x := (0 : Int32)) dX0_runFrom_56 (by decide) ?_
    obtain rfl := Option.some.inj h
    exact fx_iret 57 dX0_runFrom_57 rfl rfl ⟨rfl, rfl⟩
  · replace h := fx_ne c46 h
    refine fx_iload 49 dX0_runFrom_49 4 rfl ?_
    refine fx_bipush 51 (x := (20 : Int32)) dX0_runFrom_51 (by decide) ?_
    refine fx_icmp_lt 53 58 dX0_runFrom_53 (by decide) (fun c53 => ?_) (fun c53 => ?_)
    · replace h := fx_ip c53 h
      refine fx_iload 58 dX0_runFrom_58 5 rfl ?_
      refine fx_iload_n 60 dX0_runFrom_60 rfl 2 rfl ?_
      obtain ⟨q61, e61, h⟩ := fx_bd h
      refine fx_callSi 61 (mt' := mX0_bodyOf) (As := [.int x5, .int x2]) (oksX0_bodyOf _ _) lmX0_28 (by simp only [mX0_runFrom, mX0_bodyOf]; omega) rfl rfl (Nat.le_of_ble_eq_true rfl) dX0_runFrom_61 (tX0_bodyOf e61) ?_
      refine fx_istore 64 (lv' := [(6, .int q61.1), (0, .ref 17), (1, .int x1), (2, .int x2), (3, .int x3), (4, .int x4), (5, .int x5)]) dX0_runFrom_64 (Nat.le_of_ble_eq_true rfl) rfl ?_
      refine fx_aload_n 66 dX0_runFrom_66 rfl 1 rfl ?_
      refine fx_iload 67 dX0_runFrom_67 0 rfl ?_
      obtain ⟨q69, e69, h⟩ := fx_bd h
      refine fx_callVv 69 (mt' := mX0_begin) (As := [.int q61.1]) okc17 (okvX0_begin _ _) lmX0_35 (by simp only [mX0_runFrom, mX0_begin]; omega) rfl rfl (Nat.le_of_ble_eq_true rfl) dX0_runFrom_69 (tX0_begin e69) ?_
      refine fx_aload_n 72 dX0_runFrom_72 rfl 1 rfl ?_
      refine fx_iload 73 dX0_runFrom_73 0 rfl ?_
      refine fx_getsN 75 rfl dX0_runFrom_75 ?_
      refine fx_iload 78 dX0_runFrom_78 6 rfl ?_
      obtain ⟨g80, h⟩ := fx_gt h
      refine fx_sald 80 0 (by decide) dX0_runFrom_80 g80 ?_
      refine fx_iload_n 81 dX0_runFrom_81 rfl 4 rfl ?_
      refine fx_iload 82 dX0_runFrom_82 5 rfl ?_
      refine fx_iconst 84 (x := (1 : Int32)) dX0_runFrom_84 (by decide) ?_
      refine fx_iadd 85 dX0_runFrom_85 ?_
      obtain ⟨q86, e86, h⟩ := fx_bd h
      refine fx_callVi 86 (mt' := (mX0_runBody d)) (As := [.int q61.1, .int ((kx_a 0).2.2.getD x5.toNatClampNeg 0), .int x3, .int (x4 + (1 : Int32))]) okc17 (okvX0_runBody _ _) lmX0_39 (by simp only [mX0_runFrom, mX0_runBody]; omega) rfl rfl (Nat.le_of_ble_eq_true rfl) dX0_runFrom_86 (H1 e86) ?_
      obtain rfl := Option.some.inj h
      exact fx_iret 89 dX0_runFrom_89 rfl rfl ⟨rfl, rfl⟩
    · replace h := fx_ne c53 h
      refine fx_iconst 56 (x := (0 : Int32)) dX0_runFrom_56 (by decide) ?_
      obtain rfl := Option.some.inj h
      exact fx_iret 57 dX0_runFrom_57 rfl rfl ⟨rfl, rfl⟩
def BX0_runFrom (rec : Nat → Int32 → Int32 → Int32 → Int32 → fxMem → Option (Int32 × fxMem)) (x1 : Int32) (x2 : Int32) (x3 : Int32) (x4 : Int32) (M : fxMem) : Option (Int32 × fxMem) := CX0_runFrom_L6 rec x1 x2 x3 x4 1000 x1 (0 : Int32) M (fun y5_6 y6_6 M6 => CX0_runFrom_J43 rec x1 x2 x3 x4 y5_6 y6_6 M6)
set_option maxRecDepth 100000 in
set_option maxHeartbeats 4000000 in
theorem bX0_runFrom {d : Nat} {rec : Nat → Int32 → Int32 → Int32 → Int32 → fxMem → Option (Int32 × fxMem)} (H0 : ∀ {a1 a2 a3 a4 : Int32} {M : fxMem} {R : Int32 × fxMem}, rec 0 a1 a2 a3 a4 M = some R → fx_T gC (mX0_runFrom d) [.ref 17, .int a1, .int a2, .int a3, .int a4] M (fx_ri R)) (H1 : ∀ {a1 a2 a3 a4 : Int32} {M : fxMem} {R : Int32 × fxMem}, rec 1 a1 a2 a3 a4 M = some R → fx_T gC (mX0_runBody d) [.ref 17, .int a1, .int a2, .int a3, .int a4] M (fx_ri R)) {x1 : Int32} {x2 : Int32} {x3 : Int32} {x4 : Int32} {M : fxMem} {R : Int32 × fxMem} (h : BX0_runFrom rec x1 x2 x3 x4 M = some R) : fx_T gC (mX0_runFrom (d + 1)) [.ref 17, .int x1, .int x2, .int x3, .int x4] M (fx_ri R) := by
  rw [BX0_runFrom] at h
  refine fx_enter [(0, .ref 17), (1, .int x1), (2, .int x2), (3, .int x3), (4, .int x4)] (by show plainName RX0 = true; decide) (fun _ => rfl) (fun _ => Nat.le_of_ble_eq_true rfl) ?_
  refine fx_iload_n 0 dX0_runFrom_0 rfl 1 rfl ?_
  refine fx_istore 1 (lv' := [(5, .int x1), (0, .ref 17), (1, .int x1), (2, .int x2), (3, .int x3), (4, .int x4)]) dX0_runFrom_1 (Nat.le_of_ble_eq_true rfl) rfl ?_
  refine fx_iconst 3 (x := (0 : Int32)) dX0_runFrom_3 (by decide) ?_
  refine fx_istore 4 (lv' := [(6, .int (0 : Int32)), (5, .int x1), (0, .ref 17), (1, .int x1), (2, .int x2), (3, .int x3), (4, .int x4)]) dX0_runFrom_4 (Nat.le_of_ble_eq_true rfl) rfl ?_
  refine fx_sub [2, 3, 4, 5, 6, 1, 0] rfl ?_
  refine vX0_runFrom_L6 H0 H1 (fun y5_6 y6_6 M6 h => ?_) 1000 _ _ _ h
  refine fx_sub [0, 1, 2, 3, 4, 5, 6] rfl ?_
  exact vX0_runFrom_J43 H0 H1 h
def BX0_runBody (rec : Nat → Int32 → Int32 → Int32 → Int32 → fxMem → Option (Int32 × fxMem)) (x1 : Int32) (x2 : Int32) (x3 : Int32) (x4 : Int32) (M : fxMem) : Option (Int32 × fxMem) := if x1 = (1 : Int32) then some (x3 + (M 17 1), M) else if x1 = (2 : Int32) then Option.bind (rec 0 (M 17 0) (0 : Int32) x3 x4 M) fun q100 => some (q100.1 - (q100.2 17 2), q100.2) else if x1 = (3 : Int32) then Option.bind (rec 0 (M 17 0) (1 : Int32) x3 x4 M) fun q118 => some (q118.1 * (2 : Int32), q118.2) else if x1 = (11 : Int32) then Option.bind (rec 0 x2 (0 : Int32) (x3 * (3 : Int32)) x4 M) fun q132 => some (q132.1, q132.2) else if x1 = (21 : Int32) then Option.bind (rec 0 x2 (1 : Int32) x3 x4 M) fun q142 => some (-q142.1, q142.2) else if x1 = (31 : Int32) then Option.bind (rec 0 x2 (2 : Int32) x3 x4 M) fun q153 => some (q153.1 ^^^ (7 : Int32), q153.2) else if x1 = (41 : Int32) then Option.bind (rec 0 x2 (2 : Int32) (x3 - (1 : Int32)) x4 M) fun q168 => Option.bind (rec 0 (q168.2 17 0) (0 : Int32) (2 : Int32) x4 q168.2) fun q180 => some (q168.1 + q180.1, q180.2) else if x1 = (51 : Int32) then Option.bind (rec 0 x2 (0 : Int32) x3 x4 M) fun q191 => some (q191.1 ^^^ (q191.2 17 1), q191.2) else if x1 = (61 : Int32) then Option.bind (rec 0 x2 (1 : Int32) x3 x4 M) fun q206 => some (q206.1 + (q206.2 17 2), q206.2) else some ((0 : Int32), M)
set_option maxRecDepth 100000 in
set_option maxHeartbeats 4000000 in
theorem bX0_runBody {d : Nat} {rec : Nat → Int32 → Int32 → Int32 → Int32 → fxMem → Option (Int32 × fxMem)} (H0 : ∀ {a1 a2 a3 a4 : Int32} {M : fxMem} {R : Int32 × fxMem}, rec 0 a1 a2 a3 a4 M = some R → fx_T gC (mX0_runFrom d) [.ref 17, .int a1, .int a2, .int a3, .int a4] M (fx_ri R)) (H1 : ∀ {a1 a2 a3 a4 : Int32} {M : fxMem} {R : Int32 × fxMem}, rec 1 a1 a2 a3 a4 M = some R → fx_T gC (mX0_runBody d) [.ref 17, .int a1, .int a2, .int a3, .int a4] M (fx_ri R)) {x1 : Int32} {x2 : Int32} {x3 : Int32} {x4 : Int32} {M : fxMem} {R : Int32 × fxMem} (h : BX0_runBody rec x1 x2 x3 x4 M = some R) : fx_T gC (mX0_runBody (d + 1)) [.ref 17, .int x1, .int x2, .int x3, .int x4] M (fx_ri R) := by
  rw [BX0_runBody] at h
  refine fx_enter [(0, .ref 17), (1, .int x1), (2, .int x2), (3, .int x3), (4, .int x4)] (by show plainName RX0 = true; decide) (fun _ => rfl) (fun _ => Nat.le_of_ble_eq_true rfl) ?_
  refine fx_iload_n 0 dX0_runBody_0 rfl 1 rfl ?_
  by_cases s1_0 : x1 = (1 : Int32)
  · replace h := fx_ip s1_0 h
    refine fx_lsI 1 84 dX0_runBody_1 (by decide) (by rw [s1_0]; try rfl) (by decide) ?_
    refine fx_iload_n 84 dX0_runBody_84 rfl 3 rfl ?_
    refine fx_aload_n 85 dX0_runBody_85 rfl 0 rfl ?_
    refine fx_get 86 (j := 1) (v := .int (M 17 1)) okc17 dX0_runBody_86 lfX0_15 (by decide) (fun _ => rfl) ?_
    refine fx_iadd 89 dX0_runBody_89 ?_
    obtain rfl := Option.some.inj h
    exact fx_iret 90 dX0_runBody_90 rfl rfl ⟨rfl, rfl⟩
  · replace h := fx_ne s1_0 h
    by_cases s1_1 : x1 = (2 : Int32)
    · replace h := fx_ip s1_1 h
      refine fx_lsI 1 91 dX0_runBody_1 (by decide) (by rw [s1_1]; try rfl) (by decide) ?_
      refine fx_aload_n 91 dX0_runBody_91 rfl 0 rfl ?_
      refine fx_aload_n 92 dX0_runBody_92 rfl 0 rfl ?_
      refine fx_get 93 (j := 0) (v := .int (M 17 0)) okc17 dX0_runBody_93 lfX0_9 (by decide) (fun _ => rfl) ?_
      refine fx_iconst 96 (x := (0 : Int32)) dX0_runBody_96 (by decide) ?_
      refine fx_iload_n 97 dX0_runBody_97 rfl 3 rfl ?_
      refine fx_iload 98 dX0_runBody_98 4 rfl ?_
      obtain ⟨q100, e100, h⟩ := fx_bd h
      refine fx_callVi 100 (mt' := (mX0_runFrom d)) (As := [.int (M 17 0), .int (0 : Int32), .int x3, .int x4]) okc17 (okvX0_runFrom _ _) lmX0_52 (by simp only [mX0_runBody, mX0_runFrom]; omega) rfl rfl (Nat.le_of_ble_eq_true rfl) dX0_runBody_100 (H0 e100) ?_
      refine fx_aload_n 103 dX0_runBody_103 rfl 0 rfl ?_
      refine fx_get 104 (j := 2) (v := .int (q100.2 17 2)) okc17 dX0_runBody_104 lfX0_18 (by decide) (fun _ => rfl) ?_
      refine fx_isub 107 dX0_runBody_107 ?_
      obtain rfl := Option.some.inj h
      exact fx_iret 108 dX0_runBody_108 rfl rfl ⟨rfl, rfl⟩
    · replace h := fx_ne s1_1 h
      by_cases s1_2 : x1 = (3 : Int32)
      · replace h := fx_ip s1_2 h
        refine fx_lsI 1 109 dX0_runBody_1 (by decide) (by rw [s1_2]; try rfl) (by decide) ?_
        refine fx_aload_n 109 dX0_runBody_109 rfl 0 rfl ?_
        refine fx_aload_n 110 dX0_runBody_110 rfl 0 rfl ?_
        refine fx_get 111 (j := 0) (v := .int (M 17 0)) okc17 dX0_runBody_111 lfX0_9 (by decide) (fun _ => rfl) ?_
        refine fx_iconst 114 (x := (1 : Int32)) dX0_runBody_114 (by decide) ?_
        refine fx_iload_n 115 dX0_runBody_115 rfl 3 rfl ?_
        refine fx_iload 116 dX0_runBody_116 4 rfl ?_
        obtain ⟨q118, e118, h⟩ := fx_bd h
        refine fx_callVi 118 (mt' := (mX0_runFrom d)) (As := [.int (M 17 0), .int (1 : Int32), .int x3, .int x4]) okc17 (okvX0_runFrom _ _) lmX0_52 (by simp only [mX0_runBody, mX0_runFrom]; omega) rfl rfl (Nat.le_of_ble_eq_true rfl) dX0_runBody_118 (H0 e118) ?_
        refine fx_iconst 121 (x := (2 : Int32)) dX0_runBody_121 (by decide) ?_
        refine fx_imul 122 dX0_runBody_122 ?_
        obtain rfl := Option.some.inj h
        exact fx_iret 123 dX0_runBody_123 rfl rfl ⟨rfl, rfl⟩
      · replace h := fx_ne s1_2 h
        by_cases s1_3 : x1 = (11 : Int32)
        · replace h := fx_ip s1_3 h
          refine fx_lsI 1 124 dX0_runBody_1 (by decide) (by rw [s1_3]; try rfl) (by decide) ?_
          refine fx_aload_n 124 dX0_runBody_124 rfl 0 rfl ?_
          refine fx_iload_n 125 dX0_runBody_125 rfl 2 rfl ?_
          refine fx_iconst 126 (x := (0 : Int32)) dX0_runBody_126 (by decide) ?_
          refine fx_iload_n 127 dX0_runBody_127 rfl 3 rfl ?_
          refine fx_iconst 128 (x := (3 : Int32)) dX0_runBody_128 (by decide) ?_
          refine fx_imul 129 dX0_runBody_129 ?_
          refine fx_iload 130 dX0_runBody_130 4 rfl ?_
          obtain ⟨q132, e132, h⟩ := fx_bd h
          refine fx_callVi 132 (mt' := (mX0_runFrom d)) (As := [.int x2, .int (0 : Int32), .int (x3 * (3 : Int32)), .int x4]) okc17 (okvX0_runFrom _ _) lmX0_52 (by simp only [mX0_runBody, mX0_runFrom]; omega) rfl rfl (Nat.le_of_ble_eq_true rfl) dX0_runBody_132 (H0 e132) ?_
          obtain rfl := Option.some.inj h
          exact fx_iret 135 dX0_runBody_135 rfl rfl ⟨rfl, rfl⟩
        · replace h := fx_ne s1_3 h
          by_cases s1_4 : x1 = (21 : Int32)
          · replace h := fx_ip s1_4 h
            refine fx_lsI 1 136 dX0_runBody_1 (by decide) (by rw [s1_4]; try rfl) (by decide) ?_
            refine fx_aload_n 136 dX0_runBody_136 rfl 0 rfl ?_
            refine fx_iload_n 137 dX0_runBody_137 rfl 2 rfl ?_
            refine fx_iconst 138 (x := (1 : Int32)) dX0_runBody_138 (by decide) ?_
            refine fx_iload_n 139 dX0_runBody_139 rfl 3 rfl ?_
            refine fx_iload 140 dX0_runBody_140 4 rfl ?_
            obtain ⟨q142, e142, h⟩ := fx_bd h
            refine fx_callVi 142 (mt' := (mX0_runFrom d)) (As := [.int x2, .int (1 : Int32), .int x3, .int x4]) okc17 (okvX0_runFrom _ _) lmX0_52 (by simp only [mX0_runBody, mX0_runFrom]; omega) rfl rfl (Nat.le_of_ble_eq_true rfl) dX0_runBody_142 (H0 e142) ?_
            refine fx_ineg 145 dX0_runBody_145 ?_
            obtain rfl := Option.some.inj h
            exact fx_iret 146 dX0_runBody_146 rfl rfl ⟨rfl, rfl⟩
          · replace h := fx_ne s1_4 h
            by_cases s1_5 : x1 = (31 : Int32)
            · replace h := fx_ip s1_5 h
              refine fx_lsI 1 147 dX0_runBody_1 (by decide) (by rw [s1_5]; try rfl) (by decide) ?_
              refine fx_aload_n 147 dX0_runBody_147 rfl 0 rfl ?_
              refine fx_iload_n 148 dX0_runBody_148 rfl 2 rfl ?_
              refine fx_iconst 149 (x := (2 : Int32)) dX0_runBody_149 (by decide) ?_
              refine fx_iload_n 150 dX0_runBody_150 rfl 3 rfl ?_
              refine fx_iload 151 dX0_runBody_151 4 rfl ?_
              obtain ⟨q153, e153, h⟩ := fx_bd h
              refine fx_callVi 153 (mt' := (mX0_runFrom d)) (As := [.int x2, .int (2 : Int32), .int x3, .int x4]) okc17 (okvX0_runFrom _ _) lmX0_52 (by simp only [mX0_runBody, mX0_runFrom]; omega) rfl rfl (Nat.le_of_ble_eq_true rfl) dX0_runBody_153 (H0 e153) ?_
              refine fx_bipush 156 (x := (7 : Int32)) dX0_runBody_156 (by decide) ?_
              refine fx_ixor 158 dX0_runBody_158 ?_
              obtain rfl := Option.some.inj h
              exact fx_iret 159 dX0_runBody_159 rfl rfl ⟨rfl, rfl⟩
            · replace h := fx_ne s1_5 h
              by_cases s1_6 : x1 = (41 : Int32)
              · replace h := fx_ip s1_6 h
                refine fx_lsI 1 160 dX0_runBody_1 (by decide) (by rw [s1_6]; try rfl) (by decide) ?_
                refine fx_aload_n 160 dX0_runBody_160 rfl 0 rfl ?_
                refine fx_iload_n 161 dX0_runBody_161 rfl 2 rfl ?_
                refine fx_iconst 162 (x := (2 : Int32)) dX0_runBody_162 (by decide) ?_
                refine fx_iload_n 163 dX0_runBody_163 rfl 3 rfl ?_
                refine fx_iconst 164 (x := (1 : Int32)) dX0_runBody_164 (by decide) ?_
                refine fx_isub 165 dX0_runBody_165 ?_
                refine fx_iload 166 dX0_runBody_166 4 rfl ?_
                obtain ⟨q168, e168, h⟩ := fx_bd h
                refine fx_callVi 168 (mt' := (mX0_runFrom d)) (As := [.int x2, .int (2 : Int32), .int (x3 - (1 : Int32)), .int x4]) okc17 (okvX0_runFrom _ _) lmX0_52 (by simp only [mX0_runBody, mX0_runFrom]; omega) rfl rfl (Nat.le_of_ble_eq_true rfl) dX0_runBody_168 (H0 e168) ?_
                refine fx_aload_n 171 dX0_runBody_171 rfl 0 rfl ?_
                refine fx_aload_n 172 dX0_runBody_172 rfl 0 rfl ?_
                refine fx_get 173 (j := 0) (v := .int (q168.2 17 0)) okc17 dX0_runBody_173 lfX0_9 (by decide) (fun _ => rfl) ?_
                refine fx_iconst 176 (x := (0 : Int32)) dX0_runBody_176 (by decide) ?_
                refine fx_iconst 177 (x := (2 : Int32)) dX0_runBody_177 (by decide) ?_
                refine fx_iload 178 dX0_runBody_178 4 rfl ?_
                obtain ⟨q180, e180, h⟩ := fx_bd h
                refine fx_callVi 180 (mt' := (mX0_runFrom d)) (As := [.int (q168.2 17 0), .int (0 : Int32), .int (2 : Int32), .int x4]) okc17 (okvX0_runFrom _ _) lmX0_52 (by simp only [mX0_runBody, mX0_runFrom]; omega) rfl rfl (Nat.le_of_ble_eq_true rfl) dX0_runBody_180 (H0 e180) ?_
                refine fx_iadd 183 dX0_runBody_183 ?_
                obtain rfl := Option.some.inj h
                exact fx_iret 184 dX0_runBody_184 rfl rfl ⟨rfl, rfl⟩
              · replace h := fx_ne s1_6 h
                by_cases s1_7 : x1 = (51 : Int32)
                · replace h := fx_ip s1_7 h
                  refine fx_lsI 1 185 dX0_runBody_1 (by decide) (by rw [s1_7]; try rfl) (by decide) ?_
                  refine fx_aload_n 185 dX0_runBody_185 rfl 0 rfl ?_
                  refine fx_iload_n 186 dX0_runBody_186 rfl 2 rfl ?_
                  refine fx_iconst 187 (x := (0 : Int32)) dX0_runBody_187 (by decide) ?_
                  refine fx_iload_n 188 dX0_runBody_188 rfl 3 rfl ?_
                  refine fx_iload 189 dX0_runBody_189 4 rfl ?_
                  obtain ⟨q191, e191, h⟩ := fx_bd h
                  refine fx_callVi 191 (mt' := (mX0_runFrom d)) (As := [.int x2, .int (0 : Int32), .int x3, .int x4]) okc17 (okvX0_runFrom _ _) lmX0_52 (by simp only [mX0_runBody, mX0_runFrom]; omega) rfl rfl (Nat.le_of_ble_eq_true rfl) dX0_runBody_191 (H0 e191) ?_
                  refine fx_aload_n 194 dX0_runBody_194 rfl 0 rfl ?_
                  refine fx_get 195 (j := 1) (v := .int (q191.2 17 1)) okc17 dX0_runBody_195 lfX0_15 (by decide) (fun _ => rfl) ?_
                  refine fx_ixor 198 dX0_runBody_198 ?_
                  obtain rfl := Option.some.inj h
                  exact fx_iret 199 dX0_runBody_199 rfl rfl ⟨rfl, rfl⟩
                · replace h := fx_ne s1_7 h
                  by_cases s1_8 : x1 = (61 : Int32)
                  · replace h := fx_ip s1_8 h
                    refine fx_lsI 1 200 dX0_runBody_1 (by decide) (by rw [s1_8]; try rfl) (by decide) ?_
                    refine fx_aload_n 200 dX0_runBody_200 rfl 0 rfl ?_
                    refine fx_iload_n 201 dX0_runBody_201 rfl 2 rfl ?_
                    refine fx_iconst 202 (x := (1 : Int32)) dX0_runBody_202 (by decide) ?_
                    refine fx_iload_n 203 dX0_runBody_203 rfl 3 rfl ?_
                    refine fx_iload 204 dX0_runBody_204 4 rfl ?_
                    obtain ⟨q206, e206, h⟩ := fx_bd h
                    refine fx_callVi 206 (mt' := (mX0_runFrom d)) (As := [.int x2, .int (1 : Int32), .int x3, .int x4]) okc17 (okvX0_runFrom _ _) lmX0_52 (by simp only [mX0_runBody, mX0_runFrom]; omega) rfl rfl (Nat.le_of_ble_eq_true rfl) dX0_runBody_206 (H0 e206) ?_
                    refine fx_aload_n 209 dX0_runBody_209 rfl 0 rfl ?_
                    refine fx_get 210 (j := 2) (v := .int (q206.2 17 2)) okc17 dX0_runBody_210 lfX0_18 (by decide) (fun _ => rfl) ?_
                    refine fx_iadd 213 dX0_runBody_213 ?_
                    obtain rfl := Option.some.inj h
                    exact fx_iret 214 dX0_runBody_214 rfl rfl ⟨rfl, rfl⟩
                  · replace h := fx_ne s1_8 h
                    refine fx_lsD 1 215 [(1 : Int32), (2 : Int32), (3 : Int32), (11 : Int32), (21 : Int32), (31 : Int32), (41 : Int32), (51 : Int32), (61 : Int32)] dX0_runBody_1 (by decide) (by decide) (by intro q hq; simp only [List.mem_cons, List.not_mem_nil, or_false] at hq; rcases hq with rfl | rfl | rfl | rfl | rfl | rfl | rfl | rfl | rfl <;> assumption) (by decide) ?_
                    refine fx_iconst 215 (x := (0 : Int32)) dX0_runBody_215 (by decide) ?_
                    obtain rfl := Option.some.inj h
                    exact fx_iret 216 dX0_runBody_216 rfl rfl ⟨rfl, rfl⟩
def gX0 : Nat → Nat → Int32 → Int32 → Int32 → Int32 → fxMem → Option (Int32 × fxMem)
  | 0, _, _, _, _, _, _ => none
  | d + 1, t, a0, a1, a2, a3, M => if t = 0 then BX0_runFrom (fun t a0 a1 a2 a3 M => gX0 d t a0 a1 a2 a3 M) a0 a1 a2 a3 M else BX0_runBody (fun t a0 a1 a2 a3 M => gX0 d t a0 a1 a2 a3 M) a0 a1 a2 a3 M
theorem tgX0 : ∀ d : Nat, (∀ {a1 a2 a3 a4 : Int32} {M : fxMem} {R : Int32 × fxMem}, gX0 d 0 a1 a2 a3 a4 M = some R → fx_T gC (mX0_runFrom d) [.ref 17, .int a1, .int a2, .int a3, .int a4] M (fx_ri R)) ∧ (∀ {a1 a2 a3 a4 : Int32} {M : fxMem} {R : Int32 × fxMem}, gX0 d 1 a1 a2 a3 a4 M = some R → fx_T gC (mX0_runBody d) [.ref 17, .int a1, .int a2, .int a3, .int a4] M (fx_ri R)) := by
  intro d
  induction d with
  | zero => exact ⟨(fun h => by rw [gX0] at h; cases h), (fun h => by rw [gX0] at h; cases h)⟩
  | succ d ih =>
    obtain ⟨i0, i1⟩ := ih
    exact ⟨(fun h => by rw [gX0] at h; exact bX0_runFrom i0 i1 (by simpa using h)), (fun h => by rw [gX0] at h; exact bX0_runBody i0 i1 (by simpa using h))⟩
def CX0_runFrom (x1 : Int32) (x2 : Int32) (x3 : Int32) (x4 : Int32) (M : fxMem) : Option (Int32 × fxMem) := gX0 40 0 x1 x2 x3 x4 M
theorem tX0_runFrom {x1 : Int32} {x2 : Int32} {x3 : Int32} {x4 : Int32} {M : fxMem} {R : Int32 × fxMem} (h : CX0_runFrom x1 x2 x3 x4 M = some R) : fx_T gC (mX0_runFrom 40) [.ref 17, .int x1, .int x2, .int x3, .int x4] M (fx_ri R) := (tgX0 40).1 h
def CX0_runBody (x1 : Int32) (x2 : Int32) (x3 : Int32) (x4 : Int32) (M : fxMem) : Option (Int32 × fxMem) := gX0 40 1 x1 x2 x3 x4 M
theorem tX0_runBody {x1 : Int32} {x2 : Int32} {x3 : Int32} {x4 : Int32} {M : fxMem} {R : Int32 × fxMem} (h : CX0_runBody x1 x2 x3 x4 M = some R) : fx_T gC (mX0_runBody 40) [.ref 17, .int x1, .int x2, .int x3, .int x4] M (fx_ri R) := (tgX0 40).2 h
def mX6_act : fxM := (yX6_act, cX6_act, 4, (some .int), 44, 1760)
theorem okvX6_act (f l : Nat) : fx_okV (yX6_act, cX6_act, 4, (some .int), f, l) 3 := ⟨⟨rin36 _ (List.mem_of_getElem? (i := 5) rfl), rin1 _ (List.mem_of_getElem? (i := 2) rfl), by show yX6_act.cls ≠ _; decide +kernel, by show yX6_act.cls ≠ _; decide +kernel, by show (parseMethodDescriptor yX6_act.desc).map _ = _; decide +kernel⟩, rin36 _ (List.mem_of_getElem? (i := 3) rfl), rin36 _ (List.mem_of_getElem? (i := 4) rfl)⟩
def CX6_act (x1 : Int32) (x2 : Int32) (x3 : Int32) (M : fxMem) : Option (Int32 × fxMem) := Option.bind (CX6_isPlayer x1 (fx_st M 17 3 (0 : Int32))) fun q10 => if q10.1 = (0 : Int32) then some ((0 : Int32), q10.2) else Option.bind (CX6_isBelow x2 (3 : Int32) q10.2) fun q18 => if q18.1 = (0 : Int32) then some ((0 : Int32), q18.2) else if fx_in x1 10 = true then fx_lt (fx_st (fx_st q18.2 17 0 (q18.2 2 x1.toNatClampNeg)) 17 1 x1) fun M62 => fx_lt (fx_st M62 17 2 (M62 3 x1.toNatClampNeg)) fun M74 => Option.bind (CX0_runFrom (M74 17 0) x2 x3 (0 : Int32) M74) fun q80 => some (q80.1, q80.2) else none
set_option maxRecDepth 100000 in
set_option maxHeartbeats 4000000 in
theorem tX6_act {x1 : Int32} {x2 : Int32} {x3 : Int32} {M : fxMem} {R : Int32 × fxMem} (h : CX6_act x1 x2 x3 M = some R) : fx_T gC mX6_act [.ref 0, .int x1, .int x2, .int x3] M (fx_ri R) := by
  rw [CX6_act] at h
  refine fx_enter [(0, .ref 0), (1, .int x1), (2, .int x2), (3, .int x3)] (by show plainName RX6 = true; decide) (fun _ => rfl) (fun _ => Nat.le_of_ble_eq_true rfl) ?_
  refine fx_aload_n 0 dX6_act_0 rfl 0 rfl ?_
  refine fx_get 1 (j := 7) (v := .ref 17) okc0 dX6_act_1 lfX6_41 (by decide) (fun _ => rfl) ?_
  refine fx_iconst 4 (x := (0 : Int32)) dX6_act_4 (by decide) ?_
  refine fx_putI 5 (j := 3) okc17 dX6_act_5 lfX6_199 (by decide) rfl (by decide +kernel) (fun _ _ => Nat.le_of_ble_eq_true rfl) (fun _ _ _ => rfl) ?_
  refine fx_aload_n 8 dX6_act_8 rfl 0 rfl ?_
  refine fx_iload_n 9 dX6_act_9 rfl 1 rfl ?_
  obtain ⟨q10, e10, h⟩ := fx_bd h
  refine fx_callVi 10 (mt' := mX6_isPlayer) (As := [.int x1]) okc0 (okvX6_isPlayer _ _) lmX6_110 (by decide) rfl rfl (Nat.le_of_ble_eq_true rfl) dX6_act_10 (tX6_isPlayer e10) ?_
  refine fx_if_eq 13 24 dX6_act_13 (by decide) (fun c13 => ?_) (fun c13 => ?_)
  · replace h := fx_ip c13 h
    refine fx_iconst 24 (x := (0 : Int32)) dX6_act_24 (by decide) ?_
    obtain rfl := Option.some.inj h
    exact fx_iret 25 dX6_act_25 rfl rfl ⟨rfl, rfl⟩
  · replace h := fx_ne c13 h
    refine fx_iload_n 16 dX6_act_16 rfl 2 rfl ?_
    refine fx_iconst 17 (x := (3 : Int32)) dX6_act_17 (by decide) ?_
    obtain ⟨q18, e18, h⟩ := fx_bd h
    refine fx_callSi 18 (mt' := mX6_isBelow) (As := [.int x2, .int (3 : Int32)]) (oksX6_isBelow _ _) lmX6_89 (by decide) rfl rfl (Nat.le_of_ble_eq_true rfl) dX6_act_18 (tX6_isBelow e18) ?_
    refine fx_if_ne 21 26 dX6_act_21 (by decide) (fun c21 => ?_) (fun c21 => ?_)
    · replace h := fx_ne c21 h
      refine fx_aload_n 26 dX6_act_26 rfl 0 rfl ?_
      refine fx_get 27 (j := 7) (v := .ref 17) okc0 dX6_act_27 lfX6_41 (by decide) (fun _ => rfl) ?_
      refine fx_aload_n 30 dX6_act_30 rfl 0 rfl ?_
      refine fx_get 31 (j := 0) (v := .ref 1) okc0 dX6_act_31 lfX6_12 (by decide) (fun _ => rfl) ?_
      refine fx_get 34 (j := 1) (v := .ref 2) okc1 dX6_act_34 lfX6_100 (by decide) (fun _ => rfl) ?_
      refine fx_iload_n 37 dX6_act_37 rfl 1 rfl ?_
      obtain ⟨g38, h⟩ := fx_gt h
      refine fx_iald 38 oka2 dX6_act_38 g38 ?_
      refine fx_putI 39 (j := 0) okc17 dX6_act_39 lfX6_202 (by decide) rfl (by decide +kernel) (fun _ _ => Nat.le_of_ble_eq_true rfl) (fun _ _ _ => rfl) ?_
      refine fx_aload_n 42 dX6_act_42 rfl 0 rfl ?_
      refine fx_get 43 (j := 7) (v := .ref 17) okc0 dX6_act_43 lfX6_41 (by decide) (fun _ => rfl) ?_
      refine fx_iload_n 46 dX6_act_46 rfl 1 rfl ?_
      refine fx_putI 47 (j := 1) okc17 dX6_act_47 lfX6_204 (by decide) rfl (by decide +kernel) (fun _ _ => Nat.le_of_ble_eq_true rfl) (fun _ _ _ => rfl) ?_
      refine fx_aload_n 50 dX6_act_50 rfl 0 rfl ?_
      refine fx_get 51 (j := 7) (v := .ref 17) okc0 dX6_act_51 lfX6_41 (by decide) (fun _ => rfl) ?_
      refine fx_aload_n 54 dX6_act_54 rfl 0 rfl ?_
      refine fx_get 55 (j := 0) (v := .ref 1) okc0 dX6_act_55 lfX6_12 (by decide) (fun _ => rfl) ?_
      refine fx_get 58 (j := 2) (v := .ref 3) okc1 dX6_act_58 lfX6_104 (by decide) (fun _ => rfl) ?_
      refine fx_iload_n 61 dX6_act_61 rfl 1 rfl ?_
      replace h := fx_ltd h
      generalize fx_st (fx_st q18.2 17 0 (q18.2 2 x1.toNatClampNeg)) 17 1 x1 = M62 at h ⊢
      refine fx_iald 62 oka3 dX6_act_62 g38 ?_
      refine fx_putI 63 (j := 2) okc17 dX6_act_63 lfX6_207 (by decide) rfl (by decide +kernel) (fun _ _ => Nat.le_of_ble_eq_true rfl) (fun _ _ _ => rfl) ?_
      refine fx_aload_n 66 dX6_act_66 rfl 0 rfl ?_
      refine fx_get 67 (j := 7) (v := .ref 17) okc0 dX6_act_67 lfX6_41 (by decide) (fun _ => rfl) ?_
      refine fx_aload_n 70 dX6_act_70 rfl 0 rfl ?_
      refine fx_get 71 (j := 7) (v := .ref 17) okc0 dX6_act_71 lfX6_41 (by decide) (fun _ => rfl) ?_
      replace h := fx_ltd h
      generalize fx_st M62 17 2 (M62 3 x1.toNatClampNeg) = M74 at h ⊢
      refine fx_get 74 (j := 0) (v := .int (M74 17 0)) okc17 dX6_act_74 lfX6_202 (by decide) (fun _ => rfl) ?_
      refine fx_iload_n 77 dX6_act_77 rfl 2 rfl ?_
      refine fx_iload_n 78 dX6_act_78 rfl 3 rfl ?_
      refine fx_iconst 79 (x := (0 : Int32)) dX6_act_79 (by decide) ?_
      obtain ⟨q80, e80, h⟩ := fx_bd h
      refine fx_callVNi 80 (mt' := (mX0_runFrom 40)) (host := "FieldBand") (As := [.int (M74 17 0), .int x2, .int x3, .int (0 : Int32)]) okc17 (okvX0_runFrom _ _) (List.mem_of_getElem? (i := 11) rfl) (by decide) rfl rfl (Nat.le_of_ble_eq_true rfl) dX6_act_80 (tX0_runFrom e80) ?_
      obtain rfl := Option.some.inj h
      exact fx_iret 83 dX6_act_83 rfl rfl ⟨rfl, rfl⟩
    · replace h := fx_ip c21 h
      refine fx_iconst 24 (x := (0 : Int32)) dX6_act_24 (by decide) ?_
      obtain rfl := Option.some.inj h
      exact fx_iret 25 dX6_act_25 rfl rfl ⟨rfl, rfl⟩
def mX6_trace : fxM := (yX6_trace, cX6_trace, 2, (some .int), 2, 80)
theorem okvX6_trace (f l : Nat) : fx_okV (yX6_trace, cX6_trace, 2, (some .int), f, l) 1 := ⟨⟨rin38 _ (List.mem_of_getElem? (i := 22) rfl), rin1 _ (List.mem_of_getElem? (i := 2) rfl), by show yX6_trace.cls ≠ _; decide +kernel, by show yX6_trace.cls ≠ _; decide +kernel, by show (parseMethodDescriptor yX6_trace.desc).map _ = _; decide +kernel⟩, rin38 _ (List.mem_of_getElem? (i := 20) rfl), rin38 _ (List.mem_of_getElem? (i := 21) rfl)⟩
def CX6_trace (x1 : Int32) (M : fxMem) : Option (Int32 × fxMem) := if x1 < (0 : Int32) then some ((-1 : Int32), M) else if M 17 3 ≤ x1 then some ((-1 : Int32), M) else if x1 < (20 : Int32) then if fx_in x1 20 = true then some (M 18 x1.toNatClampNeg, M) else none else some ((-1 : Int32), M)
set_option maxRecDepth 100000 in
set_option maxHeartbeats 4000000 in
theorem tX6_trace {x1 : Int32} {M : fxMem} {R : Int32 × fxMem} (h : CX6_trace x1 M = some R) : fx_T gC mX6_trace [.ref 0, .int x1] M (fx_ri R) := by
  rw [CX6_trace] at h
  refine fx_enter [(0, .ref 0), (1, .int x1)] (by show plainName RX6 = true; decide) (fun _ => rfl) (fun _ => Nat.le_of_ble_eq_true rfl) ?_
  refine fx_iload_n 0 dX6_trace_0 rfl 1 rfl ?_
  refine fx_if_lt 1 21 dX6_trace_1 (by decide) (fun c1 => ?_) (fun c1 => ?_)
  · replace h := fx_ip c1 h
    refine fx_iconst 21 (x := (-1 : Int32)) dX6_trace_21 (by decide) ?_
    obtain rfl := Option.some.inj h
    exact fx_iret 22 dX6_trace_22 rfl rfl ⟨rfl, rfl⟩
  · replace h := fx_ne c1 h
    refine fx_iload_n 4 dX6_trace_4 rfl 1 rfl ?_
    refine fx_aload_n 5 dX6_trace_5 rfl 0 rfl ?_
    refine fx_get 6 (j := 7) (v := .ref 17) okc0 dX6_trace_6 lfX6_41 (by decide) (fun _ => rfl) ?_
    refine fx_get 9 (j := 3) (v := .int (M 17 3)) okc17 dX6_trace_9 lfX6_199 (by decide) (fun _ => rfl) ?_
    refine fx_icmp_ge 12 21 dX6_trace_12 (by decide) (fun c12 => ?_) (fun c12 => ?_)
    · replace h := fx_ip c12 h
      refine fx_iconst 21 (x := (-1 : Int32)) dX6_trace_21 (by decide) ?_
      obtain rfl := Option.some.inj h
      exact fx_iret 22 dX6_trace_22 rfl rfl ⟨rfl, rfl⟩
    · replace h := fx_ne c12 h
      refine fx_iload_n 15 dX6_trace_15 rfl 1 rfl ?_
      refine fx_bipush 16 (x := (20 : Int32)) dX6_trace_16 (by decide) ?_
      refine fx_icmp_lt 18 23 dX6_trace_18 (by decide) (fun c18 => ?_) (fun c18 => ?_)
      · replace h := fx_ip c18 h
        refine fx_aload_n 23 dX6_trace_23 rfl 0 rfl ?_
        refine fx_get 24 (j := 7) (v := .ref 17) okc0 dX6_trace_24 lfX6_41 (by decide) (fun _ => rfl) ?_
        refine fx_get 27 (j := 4) (v := .ref 18) okc17 dX6_trace_27 lfX6_213 (by decide) (fun _ => rfl) ?_
        refine fx_iload_n 30 dX6_trace_30 rfl 1 rfl ?_
        obtain ⟨g31, h⟩ := fx_gt h
        refine fx_iald 31 oka18 dX6_trace_31 g31 ?_
        obtain rfl := Option.some.inj h
        exact fx_iret 32 dX6_trace_32 rfl rfl ⟨rfl, rfl⟩
      · replace h := fx_ne c18 h
        refine fx_iconst 21 (x := (-1 : Int32)) dX6_trace_21 (by decide) ?_
        obtain rfl := Option.some.inj h
        exact fx_iret 22 dX6_trace_22 rfl rfl ⟨rfl, rfl⟩
def mX6_as : fxM := (yX6_as, cX6_as, 3, (some .int), 4, 160)
theorem okvX6_as (f l : Nat) : fx_okV (yX6_as, cX6_as, 3, (some .int), f, l) 2 := ⟨⟨rin39 _ (List.mem_of_getElem? (i := 7) rfl), rin1 _ (List.mem_of_getElem? (i := 2) rfl), by show yX6_as.cls ≠ _; decide +kernel, by show yX6_as.cls ≠ _; decide +kernel, by show (parseMethodDescriptor yX6_as.desc).map _ = _; decide +kernel⟩, rin39 _ (List.mem_of_getElem? (i := 5) rfl), rin39 _ (List.mem_of_getElem? (i := 6) rfl)⟩
def CX6_as (x1 : Int32) (x2 : Int32) (M : fxMem) : Option (Int32 × fxMem) := Option.bind (CX6_isPlayer x1 M) fun q2 => if q2.1 = (0 : Int32) then some ((-1 : Int32), q2.2) else Option.bind (CX6_isBelow x2 (7 : Int32) q2.2) fun q11 => if q11.1 = (0 : Int32) then some ((-1 : Int32), q11.2) else if fx_in x1 10 = true then Option.bind (CX6_isUnder (q11.2 2 x1.toNatClampNeg) x2 q11.2) fun q29 => some ((if q29.1 = (0 : Int32) then (-6 : Int32) else q29.2 3 x1.toNatClampNeg), q29.2) else none
set_option maxRecDepth 100000 in
set_option maxHeartbeats 4000000 in
theorem tX6_as {x1 : Int32} {x2 : Int32} {M : fxMem} {R : Int32 × fxMem} (h : CX6_as x1 x2 M = some R) : fx_T gC mX6_as [.ref 0, .int x1, .int x2] M (fx_ri R) := by
  rw [CX6_as] at h
  refine fx_enter [(0, .ref 0), (1, .int x1), (2, .int x2)] (by show plainName RX6 = true; decide) (fun _ => rfl) (fun _ => Nat.le_of_ble_eq_true rfl) ?_
  refine fx_aload_n 0 dX6_as_0 rfl 0 rfl ?_
  refine fx_iload_n 1 dX6_as_1 rfl 1 rfl ?_
  obtain ⟨q2, e2, h⟩ := fx_bd h
  refine fx_callVi 2 (mt' := mX6_isPlayer) (As := [.int x1]) okc0 (okvX6_isPlayer _ _) lmX6_110 (by decide) rfl rfl (Nat.le_of_ble_eq_true rfl) dX6_as_2 (tX6_isPlayer e2) ?_
  refine fx_if_eq 5 17 dX6_as_5 (by decide) (fun c5 => ?_) (fun c5 => ?_)
  · replace h := fx_ip c5 h
    refine fx_iconst 17 (x := (-1 : Int32)) dX6_as_17 (by decide) ?_
    obtain rfl := Option.some.inj h
    exact fx_iret 18 dX6_as_18 rfl rfl ⟨rfl, rfl⟩
  · replace h := fx_ne c5 h
    refine fx_iload_n 8 dX6_as_8 rfl 2 rfl ?_
    refine fx_bipush 9 (x := (7 : Int32)) dX6_as_9 (by decide) ?_
    obtain ⟨q11, e11, h⟩ := fx_bd h
    refine fx_callSi 11 (mt' := mX6_isBelow) (As := [.int x2, .int (7 : Int32)]) (oksX6_isBelow _ _) lmX6_89 (by decide) rfl rfl (Nat.le_of_ble_eq_true rfl) dX6_as_11 (tX6_isBelow e11) ?_
    refine fx_if_ne 14 19 dX6_as_14 (by decide) (fun c14 => ?_) (fun c14 => ?_)
    · replace h := fx_ne c14 h
      refine fx_aload_n 19 dX6_as_19 rfl 0 rfl ?_
      refine fx_get 20 (j := 0) (v := .ref 1) okc0 dX6_as_20 lfX6_12 (by decide) (fun _ => rfl) ?_
      refine fx_get 23 (j := 1) (v := .ref 2) okc1 dX6_as_23 lfX6_100 (by decide) (fun _ => rfl) ?_
      refine fx_iload_n 26 dX6_as_26 rfl 1 rfl ?_
      obtain ⟨g27, h⟩ := fx_gt h
      refine fx_iald 27 oka2 dX6_as_27 g27 ?_
      refine fx_iload_n 28 dX6_as_28 rfl 2 rfl ?_
      obtain ⟨q29, e29, h⟩ := fx_bd h
      refine fx_callSi 29 (mt' := mX6_isUnder) (As := [.int (q11.2 2 x1.toNatClampNeg), .int x2]) (oksX6_isUnder _ _) lmX6_216 (by decide) rfl rfl (Nat.le_of_ble_eq_true rfl) dX6_as_29 (tX6_isUnder e29) ?_
      have J : fx_V gC mX6_as (fx_ri R) 49 [(0, .ref 0), (1, .int x1), (2, .int x2)] [.int (if q29.1 = (0 : Int32) then (-6 : Int32) else q29.2 3 x1.toNatClampNeg)] q29.2 := by
        obtain rfl := Option.some.inj h
        exact fx_iret 49 dX6_as_49 rfl rfl ⟨rfl, rfl⟩
      refine fx_if_eq 32 47 dX6_as_32 (by decide) (fun c32 => ?_) (fun c32 => ?_)
      · refine fx_bipush 47 (x := (-6 : Int32)) dX6_as_47 (by decide) ?_
        refine fx_sub (lv' := [(0, .ref 0), (1, .int x1), (2, .int x2)]) [0, 1, 2] rfl ?_
        show fx_V gC mX6_as (fx_ri R) 49 [(0, .ref 0), (1, .int x1), (2, .int x2)] [.int (-6 : Int32)] q29.2
        simpa only [if_pos c32] using J
      · refine fx_aload_n 35 dX6_as_35 rfl 0 rfl ?_
        refine fx_get 36 (j := 0) (v := .ref 1) okc0 dX6_as_36 lfX6_12 (by decide) (fun _ => rfl) ?_
        refine fx_get 39 (j := 2) (v := .ref 3) okc1 dX6_as_39 lfX6_104 (by decide) (fun _ => rfl) ?_
        refine fx_iload_n 42 dX6_as_42 rfl 1 rfl ?_
        refine fx_iald 43 oka3 dX6_as_43 g27 ?_
        refine fx_goto 44 49 dX6_as_44 (by decide) ?_
        refine fx_sub (lv' := [(0, .ref 0), (1, .int x1), (2, .int x2)]) [0, 1, 2] rfl ?_
        show fx_V gC mX6_as (fx_ri R) 49 [(0, .ref 0), (1, .int x1), (2, .int x2)] [.int (q29.2 3 x1.toNatClampNeg)] q29.2
        simpa only [if_neg c32] using J
    · replace h := fx_ip c14 h
      refine fx_iconst 17 (x := (-1 : Int32)) dX6_as_17 (by decide) ?_
      obtain rfl := Option.some.inj h
      exact fx_iret 18 dX6_as_18 rfl rfl ⟨rfl, rfl⟩
def mX1_takeOver : fxM := (yX1_takeOver, cX1_takeOver, 2, none, 3, 120)
theorem okvX1_takeOver (f l : Nat) : fx_okV (yX1_takeOver, cX1_takeOver, 2, none, f, l) 1 := ⟨⟨rin39 _ (List.mem_of_getElem? (i := 20) rfl), rin1 _ (List.mem_of_getElem? (i := 15) rfl), by show yX1_takeOver.cls ≠ _; decide +kernel, by show yX1_takeOver.cls ≠ _; decide +kernel, by show (parseMethodDescriptor yX1_takeOver.desc).map _ = _; decide +kernel⟩, rin39 _ (List.mem_of_getElem? (i := 18) rfl), rin39 _ (List.mem_of_getElem? (i := 19) rfl)⟩
def CX1_takeOver_k  (M : fxMem) : Option (fxMem) := fx_lt (fx_cp (fx_cp (fx_cp (fx_st M 8 0 (M 1 0)) 2 9 10) 3 10 10) 4 11 10) fun M55 => fx_lt (fx_st M55 8 4 (M55 1 4)) fun M63 => fx_lt (fx_cp (fx_st M63 8 5 (M63 1 5)) 5 12 10) fun M86 => fx_lt (fx_cp (fx_st M86 8 7 (M86 1 7)) 6 13 10) fun M109 => if fx_fit (fx_st M109 8 9 (M109 1 9)) 7 120 = true then fx_lt (fx_cp (fx_st M109 8 9 (M109 1 9)) 7 14 120) fun M132 => some (fx_st M132 8 11 (M132 1 11)) else none
set_option maxRecDepth 100000 in
set_option maxHeartbeats 4000000 in
theorem tX1_takeOver_k  {M : fxMem} {R : fxMem} (h : CX1_takeOver_k  M = some R) : fx_T gC mX1_takeOver [.ref 8, .ref 1] M (fx_rv R) := by
  rw [CX1_takeOver_k] at h
  refine fx_enter [(0, .ref 8), (1, .ref 1)] (by show plainName RX1 = true; decide) (fun _ => rfl) (fun _ => Nat.le_of_ble_eq_true rfl) ?_
  refine fx_aload_n 0 dX1_takeOver_0 rfl 0 rfl ?_
  refine fx_aload_n 1 dX1_takeOver_1 rfl 1 rfl ?_
  refine fx_get 2 (j := 0) (v := .int (M 1 0)) okc1 dX1_takeOver_2 lfX1_9 (by decide) (fun _ => rfl) ?_
  refine fx_putI 5 (j := 0) okc8 dX1_takeOver_5 lfX1_9 (by decide) rfl (by decide +kernel) (fun _ _ => Nat.le_of_ble_eq_true rfl) (fun _ _ _ => rfl) ?_
  refine fx_aload_n 8 dX1_takeOver_8 rfl 1 rfl ?_
  refine fx_get 9 (j := 1) (v := .ref 2) okc1 dX1_takeOver_9 lfX1_15 (by decide) (fun _ => rfl) ?_
  refine fx_iconst 12 (x := (0 : Int32)) dX1_takeOver_12 (by decide) ?_
  refine fx_aload_n 13 dX1_takeOver_13 rfl 0 rfl ?_
  refine fx_get 14 (j := 1) (v := .ref 9) okc8 dX1_takeOver_14 lfX1_15 (by decide) (fun _ => rfl) ?_
  refine fx_iconst 17 (x := (0 : Int32)) dX1_takeOver_17 (by decide) ?_
  refine fx_bipush 18 (x := (10 : Int32)) dX1_takeOver_18 (by decide) ?_
  refine fx_copyz 20 10 .int oka2 oka9 (fun _ => rfl) rfl (by decide) (by decide) (by decide) (fun _ _ => rfl) dX1_takeOver_20 lmX1_50 (by decide) (Nat.le_of_ble_eq_true rfl) ?_
  refine fx_aload_n 23 dX1_takeOver_23 rfl 1 rfl ?_
  refine fx_get 24 (j := 2) (v := .ref 3) okc1 dX1_takeOver_24 lfX1_19 (by decide) (fun _ => rfl) ?_
  refine fx_iconst 27 (x := (0 : Int32)) dX1_takeOver_27 (by decide) ?_
  refine fx_aload_n 28 dX1_takeOver_28 rfl 0 rfl ?_
  refine fx_get 29 (j := 2) (v := .ref 10) okc8 dX1_takeOver_29 lfX1_19 (by decide) (fun _ => rfl) ?_
  refine fx_iconst 32 (x := (0 : Int32)) dX1_takeOver_32 (by decide) ?_
  refine fx_bipush 33 (x := (10 : Int32)) dX1_takeOver_33 (by decide) ?_
  refine fx_copyz 35 10 .int oka3 oka10 (fun _ => rfl) rfl (by decide) (by decide) (by decide) (fun _ _ => rfl) dX1_takeOver_35 lmX1_50 (by decide) (Nat.le_of_ble_eq_true rfl) ?_
  refine fx_aload_n 38 dX1_takeOver_38 rfl 1 rfl ?_
  refine fx_get 39 (j := 3) (v := .ref 4) okc1 dX1_takeOver_39 lfX1_22 (by decide) (fun _ => rfl) ?_
  refine fx_iconst 42 (x := (0 : Int32)) dX1_takeOver_42 (by decide) ?_
  refine fx_aload_n 43 dX1_takeOver_43 rfl 0 rfl ?_
  refine fx_get 44 (j := 3) (v := .ref 11) okc8 dX1_takeOver_44 lfX1_22 (by decide) (fun _ => rfl) ?_
  refine fx_iconst 47 (x := (0 : Int32)) dX1_takeOver_47 (by decide) ?_
  refine fx_bipush 48 (x := (10 : Int32)) dX1_takeOver_48 (by decide) ?_
  refine fx_copyz 50 10 .int oka4 oka11 (fun _ => rfl) rfl (by decide) (by decide) (by decide) (fun _ _ => rfl) dX1_takeOver_50 lmX1_50 (by decide) (Nat.le_of_ble_eq_true rfl) ?_
  refine fx_aload_n 53 dX1_takeOver_53 rfl 0 rfl ?_
  refine fx_aload_n 54 dX1_takeOver_54 rfl 1 rfl ?_
  replace h := fx_ltd h
  generalize fx_cp (fx_cp (fx_cp (fx_st M 8 0 (M 1 0)) 2 9 10) 3 10 10) 4 11 10 = M55 at h ⊢
  refine fx_get 55 (j := 4) (v := .int (M55 1 4)) okc1 dX1_takeOver_55 lfX1_25 (by decide) (fun _ => rfl) ?_
  refine fx_putI 58 (j := 4) okc8 dX1_takeOver_58 lfX1_25 (by decide) rfl (by decide +kernel) (fun _ _ => Nat.le_of_ble_eq_true rfl) (fun _ _ _ => rfl) ?_
  refine fx_aload_n 61 dX1_takeOver_61 rfl 0 rfl ?_
  refine fx_aload_n 62 dX1_takeOver_62 rfl 1 rfl ?_
  replace h := fx_ltd h
  generalize fx_st M55 8 4 (M55 1 4) = M63 at h ⊢
  refine fx_get 63 (j := 5) (v := .int (M63 1 5)) okc1 dX1_takeOver_63 lfX1_28 (by decide) (fun _ => rfl) ?_
  refine fx_putI 66 (j := 5) okc8 dX1_takeOver_66 lfX1_28 (by decide) rfl (by decide +kernel) (fun _ _ => Nat.le_of_ble_eq_true rfl) (fun _ _ _ => rfl) ?_
  refine fx_aload_n 69 dX1_takeOver_69 rfl 1 rfl ?_
  refine fx_get 70 (j := 6) (v := .ref 5) okc1 dX1_takeOver_70 lfX1_31 (by decide) (fun _ => rfl) ?_
  refine fx_iconst 73 (x := (0 : Int32)) dX1_takeOver_73 (by decide) ?_
  refine fx_aload_n 74 dX1_takeOver_74 rfl 0 rfl ?_
  refine fx_get 75 (j := 6) (v := .ref 12) okc8 dX1_takeOver_75 lfX1_31 (by decide) (fun _ => rfl) ?_
  refine fx_iconst 78 (x := (0 : Int32)) dX1_takeOver_78 (by decide) ?_
  refine fx_bipush 79 (x := (10 : Int32)) dX1_takeOver_79 (by decide) ?_
  refine fx_copyz 81 10 .int oka5 oka12 (fun _ => rfl) rfl (by decide) (by decide) (by decide) (fun _ _ => rfl) dX1_takeOver_81 lmX1_50 (by decide) (Nat.le_of_ble_eq_true rfl) ?_
  refine fx_aload_n 84 dX1_takeOver_84 rfl 0 rfl ?_
  refine fx_aload_n 85 dX1_takeOver_85 rfl 1 rfl ?_
  replace h := fx_ltd h
  generalize fx_cp (fx_st M63 8 5 (M63 1 5)) 5 12 10 = M86 at h ⊢
  refine fx_get 86 (j := 7) (v := .int (M86 1 7)) okc1 dX1_takeOver_86 lfX1_34 (by decide) (fun _ => rfl) ?_
  refine fx_putI 89 (j := 7) okc8 dX1_takeOver_89 lfX1_34 (by decide) rfl (by decide +kernel) (fun _ _ => Nat.le_of_ble_eq_true rfl) (fun _ _ _ => rfl) ?_
  refine fx_aload_n 92 dX1_takeOver_92 rfl 1 rfl ?_
  refine fx_get 93 (j := 8) (v := .ref 6) okc1 dX1_takeOver_93 lfX1_37 (by decide) (fun _ => rfl) ?_
  refine fx_iconst 96 (x := (0 : Int32)) dX1_takeOver_96 (by decide) ?_
  refine fx_aload_n 97 dX1_takeOver_97 rfl 0 rfl ?_
  refine fx_get 98 (j := 8) (v := .ref 13) okc8 dX1_takeOver_98 lfX1_37 (by decide) (fun _ => rfl) ?_
  refine fx_iconst 101 (x := (0 : Int32)) dX1_takeOver_101 (by decide) ?_
  refine fx_bipush 102 (x := (10 : Int32)) dX1_takeOver_102 (by decide) ?_
  refine fx_copyz 104 10 .int oka6 oka13 (fun _ => rfl) rfl (by decide) (by decide) (by decide) (fun _ _ => rfl) dX1_takeOver_104 lmX1_50 (by decide) (Nat.le_of_ble_eq_true rfl) ?_
  refine fx_aload_n 107 dX1_takeOver_107 rfl 0 rfl ?_
  refine fx_aload_n 108 dX1_takeOver_108 rfl 1 rfl ?_
  replace h := fx_ltd h
  generalize fx_cp (fx_st M86 8 7 (M86 1 7)) 6 13 10 = M109 at h ⊢
  refine fx_get 109 (j := 9) (v := .int (M109 1 9)) okc1 dX1_takeOver_109 lfX1_40 (by decide) (fun _ => rfl) ?_
  refine fx_putI 112 (j := 9) okc8 dX1_takeOver_112 lfX1_40 (by decide) rfl (by decide +kernel) (fun _ _ => Nat.le_of_ble_eq_true rfl) (fun _ _ _ => rfl) ?_
  refine fx_aload_n 115 dX1_takeOver_115 rfl 1 rfl ?_
  refine fx_get 116 (j := 10) (v := .ref 7) okc1 dX1_takeOver_116 lfX1_43 (by decide) (fun _ => rfl) ?_
  refine fx_iconst 119 (x := (0 : Int32)) dX1_takeOver_119 (by decide) ?_
  refine fx_aload_n 120 dX1_takeOver_120 rfl 0 rfl ?_
  refine fx_get 121 (j := 10) (v := .ref 14) okc8 dX1_takeOver_121 lfX1_43 (by decide) (fun _ => rfl) ?_
  refine fx_iconst 124 (x := (0 : Int32)) dX1_takeOver_124 (by decide) ?_
  refine fx_bipush 125 (x := (120 : Int32)) dX1_takeOver_125 (by decide) ?_
  obtain ⟨g127, h⟩ := fx_gt h
  refine fx_copyz 127 120 .byte oka7 oka14 (fun _ => rfl) rfl (by decide) (by decide) (by decide) (fx_fit_ok g127) dX1_takeOver_127 lmX1_50 (by decide) (Nat.le_of_ble_eq_true rfl) ?_
  refine fx_aload_n 130 dX1_takeOver_130 rfl 0 rfl ?_
  refine fx_aload_n 131 dX1_takeOver_131 rfl 1 rfl ?_
  replace h := fx_ltd h
  generalize fx_cp (fx_st M109 8 9 (M109 1 9)) 7 14 120 = M132 at h ⊢
  refine fx_get 132 (j := 11) (v := .int (M132 1 11)) okc1 dX1_takeOver_132 lfX1_47 (by decide) (fun _ => rfl) ?_
  refine fx_putI 135 (j := 11) okc8 dX1_takeOver_135 lfX1_47 (by decide) rfl (by decide +kernel) (fun _ _ => Nat.le_of_ble_eq_true rfl) (fun _ _ _ => rfl) ?_
  obtain rfl := Option.some.inj h
  exact fx_vret 138 dX1_takeOver_138 rfl ⟨rfl, rfl⟩
def CX1_takeOver_n  (M : fxMem) : Option (fxMem) := fx_lt (fx_cp (fx_cp (fx_cp (fx_st M 1 0 (M 8 0)) 9 2 10) 10 3 10) 11 4 10) fun M55 => fx_lt (fx_st M55 1 4 (M55 8 4)) fun M63 => fx_lt (fx_cp (fx_st M63 1 5 (M63 8 5)) 12 5 10) fun M86 => fx_lt (fx_cp (fx_st M86 1 7 (M86 8 7)) 13 6 10) fun M109 => if fx_fit (fx_st M109 1 9 (M109 8 9)) 14 120 = true then fx_lt (fx_cp (fx_st M109 1 9 (M109 8 9)) 14 7 120) fun M132 => some (fx_st M132 1 11 (M132 8 11)) else none
set_option maxRecDepth 100000 in
set_option maxHeartbeats 4000000 in
theorem tX1_takeOver_n  {M : fxMem} {R : fxMem} (h : CX1_takeOver_n  M = some R) : fx_T gC mX1_takeOver [.ref 1, .ref 8] M (fx_rv R) := by
  rw [CX1_takeOver_n] at h
  refine fx_enter [(0, .ref 1), (1, .ref 8)] (by show plainName RX1 = true; decide) (fun _ => rfl) (fun _ => Nat.le_of_ble_eq_true rfl) ?_
  refine fx_aload_n 0 dX1_takeOver_0 rfl 0 rfl ?_
  refine fx_aload_n 1 dX1_takeOver_1 rfl 1 rfl ?_
  refine fx_get 2 (j := 0) (v := .int (M 8 0)) okc8 dX1_takeOver_2 lfX1_9 (by decide) (fun _ => rfl) ?_
  refine fx_putI 5 (j := 0) okc1 dX1_takeOver_5 lfX1_9 (by decide) rfl (by decide +kernel) (fun _ _ => Nat.le_of_ble_eq_true rfl) (fun _ _ _ => rfl) ?_
  refine fx_aload_n 8 dX1_takeOver_8 rfl 1 rfl ?_
  refine fx_get 9 (j := 1) (v := .ref 9) okc8 dX1_takeOver_9 lfX1_15 (by decide) (fun _ => rfl) ?_
  refine fx_iconst 12 (x := (0 : Int32)) dX1_takeOver_12 (by decide) ?_
  refine fx_aload_n 13 dX1_takeOver_13 rfl 0 rfl ?_
  refine fx_get 14 (j := 1) (v := .ref 2) okc1 dX1_takeOver_14 lfX1_15 (by decide) (fun _ => rfl) ?_
  refine fx_iconst 17 (x := (0 : Int32)) dX1_takeOver_17 (by decide) ?_
  refine fx_bipush 18 (x := (10 : Int32)) dX1_takeOver_18 (by decide) ?_
  refine fx_copyz 20 10 .int oka9 oka2 (fun _ => rfl) rfl (by decide) (by decide) (by decide) (fun _ _ => rfl) dX1_takeOver_20 lmX1_50 (by decide) (Nat.le_of_ble_eq_true rfl) ?_
  refine fx_aload_n 23 dX1_takeOver_23 rfl 1 rfl ?_
  refine fx_get 24 (j := 2) (v := .ref 10) okc8 dX1_takeOver_24 lfX1_19 (by decide) (fun _ => rfl) ?_
  refine fx_iconst 27 (x := (0 : Int32)) dX1_takeOver_27 (by decide) ?_
  refine fx_aload_n 28 dX1_takeOver_28 rfl 0 rfl ?_
  refine fx_get 29 (j := 2) (v := .ref 3) okc1 dX1_takeOver_29 lfX1_19 (by decide) (fun _ => rfl) ?_
  refine fx_iconst 32 (x := (0 : Int32)) dX1_takeOver_32 (by decide) ?_
  refine fx_bipush 33 (x := (10 : Int32)) dX1_takeOver_33 (by decide) ?_
  refine fx_copyz 35 10 .int oka10 oka3 (fun _ => rfl) rfl (by decide) (by decide) (by decide) (fun _ _ => rfl) dX1_takeOver_35 lmX1_50 (by decide) (Nat.le_of_ble_eq_true rfl) ?_
  refine fx_aload_n 38 dX1_takeOver_38 rfl 1 rfl ?_
  refine fx_get 39 (j := 3) (v := .ref 11) okc8 dX1_takeOver_39 lfX1_22 (by decide) (fun _ => rfl) ?_
  refine fx_iconst 42 (x := (0 : Int32)) dX1_takeOver_42 (by decide) ?_
  refine fx_aload_n 43 dX1_takeOver_43 rfl 0 rfl ?_
  refine fx_get 44 (j := 3) (v := .ref 4) okc1 dX1_takeOver_44 lfX1_22 (by decide) (fun _ => rfl) ?_
  refine fx_iconst 47 (x := (0 : Int32)) dX1_takeOver_47 (by decide) ?_
  refine fx_bipush 48 (x := (10 : Int32)) dX1_takeOver_48 (by decide) ?_
  refine fx_copyz 50 10 .int oka11 oka4 (fun _ => rfl) rfl (by decide) (by decide) (by decide) (fun _ _ => rfl) dX1_takeOver_50 lmX1_50 (by decide) (Nat.le_of_ble_eq_true rfl) ?_
  refine fx_aload_n 53 dX1_takeOver_53 rfl 0 rfl ?_
  refine fx_aload_n 54 dX1_takeOver_54 rfl 1 rfl ?_
  replace h := fx_ltd h
  generalize fx_cp (fx_cp (fx_cp (fx_st M 1 0 (M 8 0)) 9 2 10) 10 3 10) 11 4 10 = M55 at h ⊢
  refine fx_get 55 (j := 4) (v := .int (M55 8 4)) okc8 dX1_takeOver_55 lfX1_25 (by decide) (fun _ => rfl) ?_
  refine fx_putI 58 (j := 4) okc1 dX1_takeOver_58 lfX1_25 (by decide) rfl (by decide +kernel) (fun _ _ => Nat.le_of_ble_eq_true rfl) (fun _ _ _ => rfl) ?_
  refine fx_aload_n 61 dX1_takeOver_61 rfl 0 rfl ?_
  refine fx_aload_n 62 dX1_takeOver_62 rfl 1 rfl ?_
  replace h := fx_ltd h
  generalize fx_st M55 1 4 (M55 8 4) = M63 at h ⊢
  refine fx_get 63 (j := 5) (v := .int (M63 8 5)) okc8 dX1_takeOver_63 lfX1_28 (by decide) (fun _ => rfl) ?_
  refine fx_putI 66 (j := 5) okc1 dX1_takeOver_66 lfX1_28 (by decide) rfl (by decide +kernel) (fun _ _ => Nat.le_of_ble_eq_true rfl) (fun _ _ _ => rfl) ?_
  refine fx_aload_n 69 dX1_takeOver_69 rfl 1 rfl ?_
  refine fx_get 70 (j := 6) (v := .ref 12) okc8 dX1_takeOver_70 lfX1_31 (by decide) (fun _ => rfl) ?_
  refine fx_iconst 73 (x := (0 : Int32)) dX1_takeOver_73 (by decide) ?_
  refine fx_aload_n 74 dX1_takeOver_74 rfl 0 rfl ?_
  refine fx_get 75 (j := 6) (v := .ref 5) okc1 dX1_takeOver_75 lfX1_31 (by decide) (fun _ => rfl) ?_
  refine fx_iconst 78 (x := (0 : Int32)) dX1_takeOver_78 (by decide) ?_
  refine fx_bipush 79 (x := (10 : Int32)) dX1_takeOver_79 (by decide) ?_
  refine fx_copyz 81 10 .int oka12 oka5 (fun _ => rfl) rfl (by decide) (by decide) (by decide) (fun _ _ => rfl) dX1_takeOver_81 lmX1_50 (by decide) (Nat.le_of_ble_eq_true rfl) ?_
  refine fx_aload_n 84 dX1_takeOver_84 rfl 0 rfl ?_
  refine fx_aload_n 85 dX1_takeOver_85 rfl 1 rfl ?_
  replace h := fx_ltd h
  generalize fx_cp (fx_st M63 1 5 (M63 8 5)) 12 5 10 = M86 at h ⊢
  refine fx_get 86 (j := 7) (v := .int (M86 8 7)) okc8 dX1_takeOver_86 lfX1_34 (by decide) (fun _ => rfl) ?_
  refine fx_putI 89 (j := 7) okc1 dX1_takeOver_89 lfX1_34 (by decide) rfl (by decide +kernel) (fun _ _ => Nat.le_of_ble_eq_true rfl) (fun _ _ _ => rfl) ?_
  refine fx_aload_n 92 dX1_takeOver_92 rfl 1 rfl ?_
  refine fx_get 93 (j := 8) (v := .ref 13) okc8 dX1_takeOver_93 lfX1_37 (by decide) (fun _ => rfl) ?_
  refine fx_iconst 96 (x := (0 : Int32)) dX1_takeOver_96 (by decide) ?_
  refine fx_aload_n 97 dX1_takeOver_97 rfl 0 rfl ?_
  refine fx_get 98 (j := 8) (v := .ref 6) okc1 dX1_takeOver_98 lfX1_37 (by decide) (fun _ => rfl) ?_
  refine fx_iconst 101 (x := (0 : Int32)) dX1_takeOver_101 (by decide) ?_
  refine fx_bipush 102 (x := (10 : Int32)) dX1_takeOver_102 (by decide) ?_
  refine fx_copyz 104 10 .int oka13 oka6 (fun _ => rfl) rfl (by decide) (by decide) (by decide) (fun _ _ => rfl) dX1_takeOver_104 lmX1_50 (by decide) (Nat.le_of_ble_eq_true rfl) ?_
  refine fx_aload_n 107 dX1_takeOver_107 rfl 0 rfl ?_
  refine fx_aload_n 108 dX1_takeOver_108 rfl 1 rfl ?_
  replace h := fx_ltd h
  generalize fx_cp (fx_st M86 1 7 (M86 8 7)) 13 6 10 = M109 at h ⊢
  refine fx_get 109 (j := 9) (v := .int (M109 8 9)) okc8 dX1_takeOver_109 lfX1_40 (by decide) (fun _ => rfl) ?_
  refine fx_putI 112 (j := 9) okc1 dX1_takeOver_112 lfX1_40 (by decide) rfl (by decide +kernel) (fun _ _ => Nat.le_of_ble_eq_true rfl) (fun _ _ _ => rfl) ?_
  refine fx_aload_n 115 dX1_takeOver_115 rfl 1 rfl ?_
  refine fx_get 116 (j := 10) (v := .ref 14) okc8 dX1_takeOver_116 lfX1_43 (by decide) (fun _ => rfl) ?_
  refine fx_iconst 119 (x := (0 : Int32)) dX1_takeOver_119 (by decide) ?_
  refine fx_aload_n 120 dX1_takeOver_120 rfl 0 rfl ?_
  refine fx_get 121 (j := 10) (v := .ref 7) okc1 dX1_takeOver_121 lfX1_43 (by decide) (fun _ => rfl) ?_
  refine fx_iconst 124 (x := (0 : Int32)) dX1_takeOver_124 (by decide) ?_
  refine fx_bipush 125 (x := (120 : Int32)) dX1_takeOver_125 (by decide) ?_
  obtain ⟨g127, h⟩ := fx_gt h
  refine fx_copyz 127 120 .byte oka14 oka7 (fun _ => rfl) rfl (by decide) (by decide) (by decide) (fx_fit_ok g127) dX1_takeOver_127 lmX1_50 (by decide) (Nat.le_of_ble_eq_true rfl) ?_
  refine fx_aload_n 130 dX1_takeOver_130 rfl 0 rfl ?_
  refine fx_aload_n 131 dX1_takeOver_131 rfl 1 rfl ?_
  replace h := fx_ltd h
  generalize fx_cp (fx_st M109 1 9 (M109 8 9)) 14 7 120 = M132 at h ⊢
  refine fx_get 132 (j := 11) (v := .int (M132 8 11)) okc8 dX1_takeOver_132 lfX1_47 (by decide) (fun _ => rfl) ?_
  refine fx_putI 135 (j := 11) okc1 dX1_takeOver_135 lfX1_47 (by decide) rfl (by decide +kernel) (fun _ _ => Nat.le_of_ble_eq_true rfl) (fun _ _ _ => rfl) ?_
  obtain rfl := Option.some.inj h
  exact fx_vret 138 dX1_takeOver_138 rfl ⟨rfl, rfl⟩
def mX6_image : fxM := (yX6_image, cX6_image, 1, (some .int), 4, 160)
theorem okvX6_image (f l : Nat) : fx_okV (yX6_image, cX6_image, 1, (some .int), f, l) 0 := ⟨⟨rin39 _ (List.mem_of_getElem? (i := 16) rfl), rin1 _ (List.mem_of_getElem? (i := 2) rfl), by show yX6_image.cls ≠ _; decide +kernel, by show yX6_image.cls ≠ _; decide +kernel, by show (parseMethodDescriptor yX6_image.desc).map _ = _; decide +kernel⟩, rin39 _ (List.mem_of_getElem? (i := 14) rfl), rin39 _ (List.mem_of_getElem? (i := 15) rfl)⟩
def CX6_image  (M : fxMem) : Option (Int32 × fxMem) := Option.bind (CX1_takeOver_k M) fun q8 => fx_lt (fx_st q8 0 2 (1 : Int32)) fun M20 => some (M20 1 0, M20)
set_option maxRecDepth 100000 in
set_option maxHeartbeats 4000000 in
theorem tX6_image  {M : fxMem} {R : Int32 × fxMem} (h : CX6_image  M = some R) : fx_T gC mX6_image [.ref 0] M (fx_ri R) := by
  rw [CX6_image] at h
  refine fx_enter [(0, .ref 0)] (by show plainName RX6 = true; decide) (fun _ => rfl) (fun _ => Nat.le_of_ble_eq_true rfl) ?_
  refine fx_aload_n 0 dX6_image_0 rfl 0 rfl ?_
  refine fx_get 1 (j := 1) (v := .ref 8) okc0 dX6_image_1 lfX6_16 (by decide) (fun _ => rfl) ?_
  refine fx_aload_n 4 dX6_image_4 rfl 0 rfl ?_
  refine fx_get 5 (j := 0) (v := .ref 1) okc0 dX6_image_5 lfX6_12 (by decide) (fun _ => rfl) ?_
  obtain ⟨q8, e8, h⟩ := fx_bd h
  refine fx_callVv 8 (mt' := mX1_takeOver) (As := [.ref 1]) okc8 (okvX1_takeOver _ _) lmX6_219 (by decide) rfl rfl (Nat.le_of_ble_eq_true rfl) dX6_image_8 (tX1_takeOver_k e8) ?_
  refine fx_aload_n 11 dX6_image_11 rfl 0 rfl ?_
  refine fx_iconst 12 (x := (1 : Int32)) dX6_image_12 (by decide) ?_
  refine fx_putZ 13 (j := 2) okc0 (by decide) dX6_image_13 lfX6_19 (by decide) rfl (by decide +kernel) (fun _ _ => Nat.le_of_ble_eq_true rfl) (fun _ _ _ => rfl) ?_
  refine fx_aload_n 16 dX6_image_16 rfl 0 rfl ?_
  refine fx_get 17 (j := 0) (v := .ref 1) okc0 dX6_image_17 lfX6_12 (by decide) (fun _ => rfl) ?_
  replace h := fx_ltd h
  generalize fx_st q8 0 2 (1 : Int32) = M20 at h ⊢
  refine fx_get 20 (j := 0) (v := .int (M20 1 0)) okc1 dX6_image_20 lfX6_97 (by decide) (fun _ => rfl) ?_
  obtain rfl := Option.some.inj h
  exact fx_iret 23 dX6_image_23 rfl rfl ⟨rfl, rfl⟩
def mX6_undo : fxM := (yX6_undo, cX6_undo, 1, (some .int), 4, 160)
theorem okvX6_undo (f l : Nat) : fx_okV (yX6_undo, cX6_undo, 1, (some .int), f, l) 0 := ⟨⟨rin40 _ (List.mem_of_getElem? (i := 6) rfl), rin1 _ (List.mem_of_getElem? (i := 2) rfl), by show yX6_undo.cls ≠ _; decide +kernel, by show yX6_undo.cls ≠ _; decide +kernel, by show (parseMethodDescriptor yX6_undo.desc).map _ = _; decide +kernel⟩, rin40 _ (List.mem_of_getElem? (i := 4) rfl), rin40 _ (List.mem_of_getElem? (i := 5) rfl)⟩
def CX6_undo  (M : fxMem) : Option (Int32 × fxMem) := if M 0 2 = (0 : Int32) then some ((-3 : Int32), M) else Option.bind (CX1_takeOver_n M) fun q18 => some (q18 1 0, q18)
set_option maxRecDepth 100000 in
set_option maxHeartbeats 4000000 in
theorem tX6_undo  {M : fxMem} {R : Int32 × fxMem} (h : CX6_undo  M = some R) : fx_T gC mX6_undo [.ref 0] M (fx_ri R) := by
  rw [CX6_undo] at h
  refine fx_enter [(0, .ref 0)] (by show plainName RX6 = true; decide) (fun _ => rfl) (fun _ => Nat.le_of_ble_eq_true rfl) ?_
  refine fx_aload_n 0 dX6_undo_0 rfl 0 rfl ?_
  refine fx_get 1 (j := 2) (v := .int (M 0 2)) okc0 dX6_undo_1 lfX6_19 (by decide) (fun _ => rfl) ?_
  refine fx_if_ne 4 10 dX6_undo_4 (by decide) (fun c4 => ?_) (fun c4 => ?_)
  · replace h := fx_ne c4 h
    refine fx_aload_n 10 dX6_undo_10 rfl 0 rfl ?_
    refine fx_get 11 (j := 0) (v := .ref 1) okc0 dX6_undo_11 lfX6_12 (by decide) (fun _ => rfl) ?_
    refine fx_aload_n 14 dX6_undo_14 rfl 0 rfl ?_
    refine fx_get 15 (j := 1) (v := .ref 8) okc0 dX6_undo_15 lfX6_16 (by decide) (fun _ => rfl) ?_
    obtain ⟨q18, e18, h⟩ := fx_bd h
    refine fx_callVv 18 (mt' := mX1_takeOver) (As := [.ref 8]) okc1 (okvX1_takeOver _ _) lmX6_219 (by decide) rfl rfl (Nat.le_of_ble_eq_true rfl) dX6_undo_18 (tX1_takeOver_n e18) ?_
    refine fx_aload_n 21 dX6_undo_21 rfl 0 rfl ?_
    refine fx_get 22 (j := 0) (v := .ref 1) okc0 dX6_undo_22 lfX6_12 (by decide) (fun _ => rfl) ?_
    refine fx_get 25 (j := 0) (v := .int (q18 1 0)) okc1 dX6_undo_25 lfX6_97 (by decide) (fun _ => rfl) ?_
    obtain rfl := Option.some.inj h
    exact fx_iret 28 dX6_undo_28 rfl rfl ⟨rfl, rfl⟩
  · replace h := fx_ip c4 h
    refine fx_bipush 7 (x := (-3 : Int32)) dX6_undo_7 (by decide) ?_
    obtain rfl := Option.some.inj h
    exact fx_iret 9 dX6_undo_9 rfl rfl ⟨rfl, rfl⟩
def mX6_count : fxM := (yX6_count, cX6_count, 2, (some .int), 2, 80)
theorem okvX6_count (f l : Nat) : fx_okV (yX6_count, cX6_count, 2, (some .int), f, l) 1 := ⟨⟨rin40 _ (List.mem_of_getElem? (i := 14) rfl), rin1 _ (List.mem_of_getElem? (i := 2) rfl), by show yX6_count.cls ≠ _; decide +kernel, by show yX6_count.cls ≠ _; decide +kernel, by show (parseMethodDescriptor yX6_count.desc).map _ = _; decide +kernel⟩, rin40 _ (List.mem_of_getElem? (i := 12) rfl), rin40 _ (List.mem_of_getElem? (i := 13) rfl)⟩
def CX6_count (x1 : Int32) (M : fxMem) : Option (Int32 × fxMem) := if x1 = (0 : Int32) then some (M 1 0, M) else if x1 = (1 : Int32) then some (M 1 11, M) else if x1 = (2 : Int32) then some (M 1 5, M) else if x1 = (3 : Int32) then some (M 1 7, M) else if x1 = (4 : Int32) then some (M 1 9, M) else if x1 = (5 : Int32) then some (M 17 3, M) else if x1 = (6 : Int32) then some (M 1 4, M) else some ((-1 : Int32), M)
set_option maxRecDepth 100000 in
set_option maxHeartbeats 4000000 in
theorem tX6_count {x1 : Int32} {M : fxMem} {R : Int32 × fxMem} (h : CX6_count x1 M = some R) : fx_T gC mX6_count [.ref 0, .int x1] M (fx_ri R) := by
  rw [CX6_count] at h
  refine fx_enter [(0, .ref 0), (1, .int x1)] (by show plainName RX6 = true; decide) (fun _ => rfl) (fun _ => Nat.le_of_ble_eq_true rfl) ?_
  refine fx_iload_n 0 dX6_count_0 rfl 1 rfl ?_
  by_cases s1_0 : x1 = (0 : Int32)
  · replace h := fx_ip s1_0 h
    refine fx_tsI 1 44 dX6_count_1 (by rw [s1_0]; decide) (by rw [s1_0]; decide) (by rw [s1_0]; try rfl) (by decide) ?_
    refine fx_aload_n 44 dX6_count_44 rfl 0 rfl ?_
    refine fx_get 45 (j := 0) (v := .ref 1) okc0 dX6_count_45 lfX6_12 (by decide) (fun _ => rfl) ?_
    refine fx_get 48 (j := 0) (v := .int (M 1 0)) okc1 dX6_count_48 lfX6_97 (by decide) (fun _ => rfl) ?_
    obtain rfl := Option.some.inj h
    exact fx_iret 51 dX6_count_51 rfl rfl ⟨rfl, rfl⟩
  · replace h := fx_ne s1_0 h
    by_cases s1_1 : x1 = (1 : Int32)
    · replace h := fx_ip s1_1 h
      refine fx_tsI 1 52 dX6_count_1 (by rw [s1_1]; decide) (by rw [s1_1]; decide) (by rw [s1_1]; try rfl) (by decide) ?_
      refine fx_aload_n 52 dX6_count_52 rfl 0 rfl ?_
      refine fx_get 53 (j := 0) (v := .ref 1) okc0 dX6_count_53 lfX6_12 (by decide) (fun _ => rfl) ?_
      refine fx_get 56 (j := 11) (v := .int (M 1 11)) okc1 dX6_count_56 lfX6_70 (by decide) (fun _ => rfl) ?_
      obtain rfl := Option.some.inj h
      exact fx_iret 59 dX6_count_59 rfl rfl ⟨rfl, rfl⟩
    · replace h := fx_ne s1_1 h
      by_cases s1_2 : x1 = (2 : Int32)
      · replace h := fx_ip s1_2 h
        refine fx_tsI 1 60 dX6_count_1 (by rw [s1_2]; decide) (by rw [s1_2]; decide) (by rw [s1_2]; try rfl) (by decide) ?_
        refine fx_aload_n 60 dX6_count_60 rfl 0 rfl ?_
        refine fx_get 61 (j := 0) (v := .ref 1) okc0 dX6_count_61 lfX6_12 (by decide) (fun _ => rfl) ?_
        refine fx_get 64 (j := 5) (v := .int (M 1 5)) okc1 dX6_count_64 lfX6_154 (by decide) (fun _ => rfl) ?_
        obtain rfl := Option.some.inj h
        exact fx_iret 67 dX6_count_67 rfl rfl ⟨rfl, rfl⟩
      · replace h := fx_ne s1_2 h
        by_cases s1_3 : x1 = (3 : Int32)
        · replace h := fx_ip s1_3 h
          refine fx_tsI 1 68 dX6_count_1 (by rw [s1_3]; decide) (by rw [s1_3]; decide) (by rw [s1_3]; try rfl) (by decide) ?_
          refine fx_aload_n 68 dX6_count_68 rfl 0 rfl ?_
          refine fx_get 69 (j := 0) (v := .ref 1) okc0 dX6_count_69 lfX6_12 (by decide) (fun _ => rfl) ?_
          refine fx_get 72 (j := 7) (v := .int (M 1 7)) okc1 dX6_count_72 lfX6_186 (by decide) (fun _ => rfl) ?_
          obtain rfl := Option.some.inj h
          exact fx_iret 75 dX6_count_75 rfl rfl ⟨rfl, rfl⟩
        · replace h := fx_ne s1_3 h
          by_cases s1_4 : x1 = (4 : Int32)
          · replace h := fx_ip s1_4 h
            refine fx_tsI 1 76 dX6_count_1 (by rw [s1_4]; decide) (by rw [s1_4]; decide) (by rw [s1_4]; try rfl) (by decide) ?_
            refine fx_aload_n 76 dX6_count_76 rfl 0 rfl ?_
            refine fx_get 77 (j := 0) (v := .ref 1) okc0 dX6_count_77 lfX6_12 (by decide) (fun _ => rfl) ?_
            refine fx_get 80 (j := 9) (v := .int (M 1 9)) okc1 dX6_count_80 lfX6_62 (by decide) (fun _ => rfl) ?_
            obtain rfl := Option.some.inj h
            exact fx_iret 83 dX6_count_83 rfl rfl ⟨rfl, rfl⟩
          · replace h := fx_ne s1_4 h
            by_cases s1_5 : x1 = (5 : Int32)
            · replace h := fx_ip s1_5 h
              refine fx_tsI 1 84 dX6_count_1 (by rw [s1_5]; decide) (by rw [s1_5]; decide) (by rw [s1_5]; try rfl) (by decide) ?_
              refine fx_aload_n 84 dX6_count_84 rfl 0 rfl ?_
              refine fx_get 85 (j := 7) (v := .ref 17) okc0 dX6_count_85 lfX6_41 (by decide) (fun _ => rfl) ?_
              refine fx_get 88 (j := 3) (v := .int (M 17 3)) okc17 dX6_count_88 lfX6_199 (by decide) (fun _ => rfl) ?_
              obtain rfl := Option.some.inj h
              exact fx_iret 91 dX6_count_91 rfl rfl ⟨rfl, rfl⟩
            · replace h := fx_ne s1_5 h
              by_cases s1_6 : x1 = (6 : Int32)
              · replace h := fx_ip s1_6 h
                refine fx_tsI 1 92 dX6_count_1 (by rw [s1_6]; decide) (by rw [s1_6]; decide) (by rw [s1_6]; try rfl) (by decide) ?_
                refine fx_aload_n 92 dX6_count_92 rfl 0 rfl ?_
                refine fx_get 93 (j := 0) (v := .ref 1) okc0 dX6_count_93 lfX6_12 (by decide) (fun _ => rfl) ?_
                refine fx_get 96 (j := 4) (v := .int (M 1 4)) okc1 dX6_count_96 lfX6_127 (by decide) (fun _ => rfl) ?_
                obtain rfl := Option.some.inj h
                exact fx_iret 99 dX6_count_99 rfl rfl ⟨rfl, rfl⟩
              · replace h := fx_ne s1_6 h
                refine fx_tsD 1 100 [(0 : Int32), (1 : Int32), (2 : Int32), (3 : Int32), (4 : Int32), (5 : Int32), (6 : Int32)] dX6_count_1 (by decide) (by decide) (by intro q hq; simp only [List.mem_cons, List.not_mem_nil, or_false] at hq; rcases hq with rfl | rfl | rfl | rfl | rfl | rfl | rfl <;> assumption) (by decide) ?_
                refine fx_iconst 100 (x := (-1 : Int32)) dX6_count_100 (by decide) ?_
                obtain rfl := Option.some.inj h
                exact fx_iret 101 dX6_count_101 rfl rfl ⟨rfl, rfl⟩
