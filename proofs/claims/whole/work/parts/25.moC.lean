def mX7_of : fxM := (yX7_of, cX7_of, 3, (some .int), 47, 1880)
theorem okvX7_of (f l : Nat) : fx_okV (yX7_of, cX7_of, 3, (some .int), f, l) 2 := ⟨⟨rin22 _ (List.mem_of_getElem? (i := 17) rfl), rin1 _ (List.mem_of_getElem? (i := 5) rfl), by show yX7_of.cls ≠ _; decide +kernel, by show yX7_of.cls ≠ _; decide +kernel, by show (parseMethodDescriptor yX7_of.desc).map _ = _; decide +kernel⟩, rin22 _ (List.mem_of_getElem? (i := 15) rfl), rin22 _ (List.mem_of_getElem? (i := 16) rfl)⟩
def CX7_of (x1 : Int32) (x2 : Int32) (M : fxMem) : Option (Int32 × fxMem) := Option.bind (CX7_isPlayer x1 M) fun q2 => if q2.1 = (0 : Int32) then some ((-1001 : Int32), q2.2) else Option.bind (CX7_in x2 (0 : Int32) (5 : Int32) q2.2) fun q11 => if q11.1 = (0 : Int32) then some ((-1001 : Int32), q11.2) else if (3 : Int32) ≤ x2 then if fx_in ((130 : Int32) + x1) 900 = true then Option.bind (CX7_looks x1 (q11.2 1 ((130 : Int32) + x1).toNatClampNeg) q11.2) fun q54 => if x2 = (3 : Int32) then some (q54 0 11, q54) else if x2 = (4 : Int32) then some (q54 0 12, q54) else Option.bind (CX7_playsOf x1 q54) fun q83 => some (q83.1, q83.2) else none else if fx_in (((130 : Int32) + ((10 : Int32) * x2)) + x1) 900 = true then some (q11.2 1 (((130 : Int32) + ((10 : Int32) * x2)) + x1).toNatClampNeg, q11.2) else none
set_option maxRecDepth 100000 in
set_option maxHeartbeats 4000000 in
theorem tX7_of {x1 : Int32} {x2 : Int32} {M : fxMem} {R : Int32 × fxMem} (h : CX7_of x1 x2 M = some R) : fx_T gM mX7_of [.ref 0, .int x1, .int x2] M (fx_ri R) := by
  rw [CX7_of] at h
  refine fx_enter [(0, .ref 0), (1, .int x1), (2, .int x2)] (by show plainName RX7 = true; decide) (fun _ => rfl) (fun _ => Nat.le_of_ble_eq_true rfl) ?_
  refine fx_aload_n 0 dX7_of_0 rfl 0 rfl ?_
  refine fx_iload_n 1 dX7_of_1 rfl 1 rfl ?_
  obtain ⟨q2, e2, h⟩ := fx_bd h
  refine fx_callVi 2 (mt' := mX7_isPlayer) (As := [.int x1]) okm0 (okvX7_isPlayer _ _) lmX7_152 (by decide) rfl rfl (Nat.le_of_ble_eq_true rfl) dX7_of_2 (tX7_isPlayer e2) ?_
  refine fx_if_eq 5 17 dX7_of_5 (by decide) (fun c5 => ?_) (fun c5 => ?_)
  · replace h := fx_ip c5 h
    refine fx_sipush 17 (x := (-1001 : Int32)) dX7_of_17 (by decide) ?_
    obtain rfl := Option.some.inj h
    exact fx_iret 20 dX7_of_20 rfl rfl ⟨rfl, rfl⟩
  · replace h := fx_ne c5 h
    refine fx_iload_n 8 dX7_of_8 rfl 2 rfl ?_
    refine fx_iconst 9 (x := (0 : Int32)) dX7_of_9 (by decide) ?_
    refine fx_iconst 10 (x := (5 : Int32)) dX7_of_10 (by decide) ?_
    obtain ⟨q11, e11, h⟩ := fx_bd h
    refine fx_callSi 11 (mt' := mX7_in) (As := [.int x2, .int (0 : Int32), .int (5 : Int32)]) (oksX7_in _ _) lmX7_39 (by decide) rfl rfl (Nat.le_of_ble_eq_true rfl) dX7_of_11 (tX7_in e11) ?_
    refine fx_if_ne 14 21 dX7_of_14 (by decide) (fun c14 => ?_) (fun c14 => ?_)
    · replace h := fx_ne c14 h
      refine fx_iload_n 21 dX7_of_21 rfl 2 rfl ?_
      refine fx_iconst 22 (x := (3 : Int32)) dX7_of_22 (by decide) ?_
      refine fx_icmp_ge 23 42 dX7_of_23 (by decide) (fun c23 => ?_) (fun c23 => ?_)
      · replace h := fx_ip c23 h
        refine fx_aload_n 42 dX7_of_42 rfl 0 rfl ?_
        refine fx_iload_n 43 dX7_of_43 rfl 1 rfl ?_
        refine fx_aload_n 44 dX7_of_44 rfl 0 rfl ?_
        refine fx_get 45 (j := 1) (v := .ref 1) okm0 dX7_of_45 lfX7_7 (by decide) (fun _ => rfl) ?_
        refine fx_sipush 48 (x := (130 : Int32)) dX7_of_48 (by decide) ?_
        refine fx_iload_n 51 dX7_of_51 rfl 1 rfl ?_
        refine fx_iadd 52 dX7_of_52 ?_
        obtain ⟨g53, h⟩ := fx_gt h
        refine fx_iald 53 okb1 dX7_of_53 g53 ?_
        obtain ⟨q54, e54, h⟩ := fx_bd h
        refine fx_callVv 54 (mt' := mX7_looks) (As := [.int x1, .int (q11.2 1 ((130 : Int32) + x1).toNatClampNeg)]) okm0 (okvX7_looks _ _) lmX7_177 (by decide) rfl rfl (Nat.le_of_ble_eq_true rfl) dX7_of_54 (tX7_looks e54) ?_
        refine fx_iload_n 57 dX7_of_57 rfl 2 rfl ?_
        refine fx_iconst 58 (x := (3 : Int32)) dX7_of_58 (by decide) ?_
        refine fx_icmp_ne 59 69 dX7_of_59 (by decide) (fun c59 => ?_) (fun c59 => ?_)
        · replace h := fx_ne c59 h
          refine fx_iload_n 69 dX7_of_69 rfl 2 rfl ?_
          refine fx_iconst 70 (x := (4 : Int32)) dX7_of_70 (by decide) ?_
          refine fx_icmp_ne 71 81 dX7_of_71 (by decide) (fun c71 => ?_) (fun c71 => ?_)
          · replace h := fx_ne c71 h
            refine fx_aload_n 81 dX7_of_81 rfl 0 rfl ?_
            refine fx_iload_n 82 dX7_of_82 rfl 1 rfl ?_
            obtain ⟨q83, e83, h⟩ := fx_bd h
            refine fx_callVi 83 (mt' := mX7_playsOf) (As := [.int x1]) okm0 (okvX7_playsOf _ _) lmX7_181 (by decide) rfl rfl (Nat.le_of_ble_eq_true rfl) dX7_of_83 (tX7_playsOf e83) ?_
            obtain rfl := Option.some.inj h
            exact fx_iret 86 dX7_of_86 rfl rfl ⟨rfl, rfl⟩
          · replace h := fx_ip c71 h
            refine fx_aload_n 74 dX7_of_74 rfl 0 rfl ?_
            refine fx_get 75 (j := 12) (v := .int (q54 0 12)) okm0 dX7_of_75 lfX7_142 (by decide) (fun _ => rfl) ?_
            refine fx_goto 78 86 dX7_of_78 (by decide) ?_
            obtain rfl := Option.some.inj h
            exact fx_iret 86 dX7_of_86 rfl rfl ⟨rfl, rfl⟩
        · replace h := fx_ip c59 h
          refine fx_aload_n 62 dX7_of_62 rfl 0 rfl ?_
          refine fx_get 63 (j := 11) (v := .int (q54 0 11)) okm0 dX7_of_63 lfX7_139 (by decide) (fun _ => rfl) ?_
          refine fx_goto 66 86 dX7_of_66 (by decide) ?_
          obtain rfl := Option.some.inj h
          exact fx_iret 86 dX7_of_86 rfl rfl ⟨rfl, rfl⟩
      · replace h := fx_ne c23 h
        refine fx_aload_n 26 dX7_of_26 rfl 0 rfl ?_
        refine fx_get 27 (j := 1) (v := .ref 1) okm0 dX7_of_27 lfX7_7 (by decide) (fun _ => rfl) ?_
        refine fx_sipush 30 (x := (130 : Int32)) dX7_of_30 (by decide) ?_
        refine fx_bipush 33 (x := (10 : Int32)) dX7_of_33 (by decide) ?_
        refine fx_iload_n 35 dX7_of_35 rfl 2 rfl ?_
        refine fx_imul 36 dX7_of_36 ?_
        refine fx_iadd 37 dX7_of_37 ?_
        refine fx_iload_n 38 dX7_of_38 rfl 1 rfl ?_
        refine fx_iadd 39 dX7_of_39 ?_
        obtain ⟨g40, h⟩ := fx_gt h
        refine fx_iald 40 okb1 dX7_of_40 g40 ?_
        obtain rfl := Option.some.inj h
        exact fx_iret 41 dX7_of_41 rfl rfl ⟨rfl, rfl⟩
    · replace h := fx_ip c14 h
      refine fx_sipush 17 (x := (-1001 : Int32)) dX7_of_17 (by decide) ?_
      obtain rfl := Option.some.inj h
      exact fx_iret 20 dX7_of_20 rfl rfl ⟨rfl, rfl⟩
def mX7_heardAt : fxM := (yX7_heardAt, cX7_heardAt, 3, (some .int), 47, 1880)
theorem okvX7_heardAt (f l : Nat) : fx_okV (yX7_heardAt, cX7_heardAt, 3, (some .int), f, l) 2 := ⟨⟨rin26 _ (List.mem_of_getElem? (i := 3) rfl), rin1 _ (List.mem_of_getElem? (i := 5) rfl), by show yX7_heardAt.cls ≠ _; decide +kernel, by show yX7_heardAt.cls ≠ _; decide +kernel, by show (parseMethodDescriptor yX7_heardAt.desc).map _ = _; decide +kernel⟩, rin26 _ (List.mem_of_getElem? (i := 1) rfl), rin26 _ (List.mem_of_getElem? (i := 2) rfl)⟩
def CX7_heardAt (x1 : Int32) (x2 : Int32) (M : fxMem) : Option (Int32 × fxMem) := Option.bind (CX7_playsOf x2 M) fun q2 => Option.bind (CX7_speed q2.2) fun q6 => if fx_in ((150 : Int32) + x2) 900 = true then Option.bind (CX7_far (x1 - (8 : Int32)) (q6.2 1 ((150 : Int32) + x2).toNatClampNeg) q6.2) fun q23 => some (q2.1 + (q6.1 * q23.1), q23.2) else none
set_option maxRecDepth 100000 in
set_option maxHeartbeats 4000000 in
theorem tX7_heardAt {x1 : Int32} {x2 : Int32} {M : fxMem} {R : Int32 × fxMem} (h : CX7_heardAt x1 x2 M = some R) : fx_T gM mX7_heardAt [.ref 0, .int x1, .int x2] M (fx_ri R) := by
  rw [CX7_heardAt] at h
  refine fx_enter [(0, .ref 0), (1, .int x1), (2, .int x2)] (by show plainName RX7 = true; decide) (fun _ => rfl) (fun _ => Nat.le_of_ble_eq_true rfl) ?_
  refine fx_aload_n 0 dX7_heardAt_0 rfl 0 rfl ?_
  refine fx_iload_n 1 dX7_heardAt_1 rfl 2 rfl ?_
  obtain ⟨q2, e2, h⟩ := fx_bd h
  refine fx_callVi 2 (mt' := mX7_playsOf) (As := [.int x2]) okm0 (okvX7_playsOf _ _) lmX7_181 (by decide) rfl rfl (Nat.le_of_ble_eq_true rfl) dX7_heardAt_2 (tX7_playsOf e2) ?_
  refine fx_aload_n 5 dX7_heardAt_5 rfl 0 rfl ?_
  obtain ⟨q6, e6, h⟩ := fx_bd h
  refine fx_callVi 6 (mt' := mX7_speed) (As := []) okm0 (okvX7_speed _ _) lmX7_133 (by decide) rfl rfl (Nat.le_of_ble_eq_true rfl) dX7_heardAt_6 (tX7_speed e6) ?_
  refine fx_iload_n 9 dX7_heardAt_9 rfl 1 rfl ?_
  refine fx_bipush 10 (x := (8 : Int32)) dX7_heardAt_10 (by decide) ?_
  refine fx_isub 12 dX7_heardAt_12 ?_
  refine fx_aload_n 13 dX7_heardAt_13 rfl 0 rfl ?_
  refine fx_get 14 (j := 1) (v := .ref 1) okm0 dX7_heardAt_14 lfX7_7 (by decide) (fun _ => rfl) ?_
  refine fx_sipush 17 (x := (150 : Int32)) dX7_heardAt_17 (by decide) ?_
  refine fx_iload_n 20 dX7_heardAt_20 rfl 2 rfl ?_
  refine fx_iadd 21 dX7_heardAt_21 ?_
  obtain ⟨g22, h⟩ := fx_gt h
  refine fx_iald 22 okb1 dX7_heardAt_22 g22 ?_
  obtain ⟨q23, e23, h⟩ := fx_bd h
  refine fx_callSi 23 (mt' := mX7_far) (As := [.int (x1 - (8 : Int32)), .int (q6.2 1 ((150 : Int32) + x2).toNatClampNeg)]) (oksX7_far _ _) lmX7_155 (by decide) rfl rfl (Nat.le_of_ble_eq_true rfl) dX7_heardAt_23 (tX7_far e23) ?_
  refine fx_imul 26 dX7_heardAt_26 ?_
  refine fx_iadd 27 dX7_heardAt_27 ?_
  obtain rfl := Option.some.inj h
  exact fx_iret 28 dX7_heardAt_28 rfl rfl ⟨rfl, rfl⟩
def mX7_heard : fxM := (yX7_heard, cX7_heard, 3, (some .int), 48, 1920)
theorem okvX7_heard (f l : Nat) : fx_okV (yX7_heard, cX7_heard, 3, (some .int), f, l) 2 := ⟨⟨rin25 _ (List.mem_of_getElem? (i := 20) rfl), rin1 _ (List.mem_of_getElem? (i := 5) rfl), by show yX7_heard.cls ≠ _; decide +kernel, by show yX7_heard.cls ≠ _; decide +kernel, by show (parseMethodDescriptor yX7_heard.desc).map _ = _; decide +kernel⟩, rin25 _ (List.mem_of_getElem? (i := 18) rfl), rin25 _ (List.mem_of_getElem? (i := 19) rfl)⟩
def CX7_heard (x1 : Int32) (x2 : Int32) (M : fxMem) : Option (Int32 × fxMem) := Option.bind (CX7_isSeat x1 M) fun q1 => if q1.1 = (0 : Int32) then some ((-1001 : Int32), q1.2) else Option.bind (CX7_isPlayer x2 q1.2) fun q9 => if q9.1 = (0 : Int32) then some ((-1001 : Int32), q9.2) else Option.bind (CX7_heardAt x1 x2 q9.2) fun q18 => some (q18.1, q18.2)
set_option maxRecDepth 100000 in
set_option maxHeartbeats 4000000 in
theorem tX7_heard {x1 : Int32} {x2 : Int32} {M : fxMem} {R : Int32 × fxMem} (h : CX7_heard x1 x2 M = some R) : fx_T gM mX7_heard [.ref 0, .int x1, .int x2] M (fx_ri R) := by
  rw [CX7_heard] at h
  refine fx_enter [(0, .ref 0), (1, .int x1), (2, .int x2)] (by show plainName RX7 = true; decide) (fun _ => rfl) (fun _ => Nat.le_of_ble_eq_true rfl) ?_
  refine fx_iload_n 0 dX7_heard_0 rfl 1 rfl ?_
  obtain ⟨q1, e1, h⟩ := fx_bd h
  refine fx_callSi 1 (mt' := mX7_isSeat) (As := [.int x1]) (oksX7_isSeat _ _) lmX7_184 (by decide) rfl rfl (Nat.le_of_ble_eq_true rfl) dX7_heard_1 (tX7_isSeat e1) ?_
  refine fx_if_eq 4 24 dX7_heard_4 (by decide) (fun c4 => ?_) (fun c4 => ?_)
  · replace h := fx_ip c4 h
    refine fx_sipush 24 (x := (-1001 : Int32)) dX7_heard_24 (by decide) ?_
    obtain rfl := Option.some.inj h
    exact fx_iret 27 dX7_heard_27 rfl rfl ⟨rfl, rfl⟩
  · replace h := fx_ne c4 h
    refine fx_aload_n 7 dX7_heard_7 rfl 0 rfl ?_
    refine fx_iload_n 8 dX7_heard_8 rfl 2 rfl ?_
    obtain ⟨q9, e9, h⟩ := fx_bd h
    refine fx_callVi 9 (mt' := mX7_isPlayer) (As := [.int x2]) okm0 (okvX7_isPlayer _ _) lmX7_152 (by decide) rfl rfl (Nat.le_of_ble_eq_true rfl) dX7_heard_9 (tX7_isPlayer e9) ?_
    refine fx_if_eq 12 24 dX7_heard_12 (by decide) (fun c12 => ?_) (fun c12 => ?_)
    · replace h := fx_ip c12 h
      refine fx_sipush 24 (x := (-1001 : Int32)) dX7_heard_24 (by decide) ?_
      obtain rfl := Option.some.inj h
      exact fx_iret 27 dX7_heard_27 rfl rfl ⟨rfl, rfl⟩
    · replace h := fx_ne c12 h
      refine fx_aload_n 15 dX7_heard_15 rfl 0 rfl ?_
      refine fx_iload_n 16 dX7_heard_16 rfl 1 rfl ?_
      refine fx_iload_n 17 dX7_heard_17 rfl 2 rfl ?_
      obtain ⟨q18, e18, h⟩ := fx_bd h
      refine fx_callVi 18 (mt' := mX7_heardAt) (As := [.int x1, .int x2]) okm0 (okvX7_heardAt _ _) lmX7_187 (by decide) rfl rfl (Nat.le_of_ble_eq_true rfl) dX7_heard_18 (tX7_heardAt e18) ?_
      refine fx_goto 21 27 dX7_heard_21 (by decide) ?_
      obtain rfl := Option.some.inj h
      exact fx_iret 27 dX7_heard_27 rfl rfl ⟨rfl, rfl⟩
def mX7_spreadAt : fxM := (yX7_spreadAt, cX7_spreadAt, 6, (some .int), 48, 1920)
theorem okvX7_spreadAt (f l : Nat) : fx_okV (yX7_spreadAt, cX7_spreadAt, 6, (some .int), f, l) 1 := ⟨⟨rin27 _ (List.mem_of_getElem? (i := 6) rfl), rin1 _ (List.mem_of_getElem? (i := 5) rfl), by show yX7_spreadAt.cls ≠ _; decide +kernel, by show yX7_spreadAt.cls ≠ _; decide +kernel, by show (parseMethodDescriptor yX7_spreadAt.desc).map _ = _; decide +kernel⟩, rin27 _ (List.mem_of_getElem? (i := 4) rfl), rin27 _ (List.mem_of_getElem? (i := 5) rfl)⟩
def CX7_spreadAt_L12 (x1 : Int32) : Nat → Int32 → Int32 → Int32 → fxMem → (Int32 → Int32 → Int32 → fxMem → Option (Int32 × fxMem)) → Option (Int32 × fxMem)
  | 0, _, _, _, _, _ => none
  | n + 1, x2, x3, x4, M, k => if fx_in (0 : Int32) 900 = true then if M 1 (0 : Int32).toNatClampNeg ≤ x4 then k x2 x3 x4 M else if x4 = M 0 13 then CX7_spreadAt_L12 x1 n x2 x3 (x4 + (1 : Int32)) M k else Option.bind (CX7_heardAt x1 x4 M) fun q36 => CX7_spreadAt_L12 x1 n (1 : Int32) (if x2 = (0 : Int32) then q36.1 else (if q36.1 ≤ x3 then x3 else q36.1)) (x4 + (1 : Int32)) (fx_st q36.2 0 14 (if x2 = (0 : Int32) then q36.1 else (if q36.2 0 14 ≤ q36.1 then q36.2 0 14 else q36.1))) k else none
set_option maxRecDepth 100000 in
set_option maxHeartbeats 4000000 in
theorem vX7_spreadAt_L12 {x1 : Int32} {R : Int32 × fxMem} {k : Int32 → Int32 → Int32 → fxMem → Option (Int32 × fxMem)} (hk : ∀ (x2 : Int32) (x3 : Int32) (x4 : Int32) (M : fxMem), k x2 x3 x4 M = some R → fx_V gM mX7_spreadAt (fx_ri R) 92 [(0, .ref 0), (1, .int x1), (2, .int x2), (3, .int x3), (4, .int x4)] [] M) : ∀ (n : Nat) (x2 : Int32) (x3 : Int32) (x4 : Int32) (M : fxMem), CX7_spreadAt_L12 x1 n x2 x3 x4 M k = some R → fx_V gM mX7_spreadAt (fx_ri R) 12 [(0, .ref 0), (1, .int x1), (2, .int x2), (3, .int x3), (4, .int x4)] [] M := by
  intro n
  induction n with
  | zero => intro x2 x3 x4 M h; rw [CX7_spreadAt_L12] at h; cases h
  | succ n ih =>
    intro x2 x3 x4 M h
    rw [CX7_spreadAt_L12] at h
    refine fx_iload 12 dX7_spreadAt_12 4 rfl ?_
    refine fx_aload_n 14 dX7_spreadAt_14 rfl 0 rfl ?_
    refine fx_get 15 (j := 1) (v := .ref 1) okm0 dX7_spreadAt_15 lfX7_7 (by decide) (fun _ => rfl) ?_
    refine fx_iconst 18 (x := (0 : Int32)) dX7_spreadAt_18 (by decide) ?_
    obtain ⟨g19, h⟩ := fx_gt h
    refine fx_iald 19 okb1 dX7_spreadAt_19 g19 ?_
    refine fx_icmp_ge 20 92 dX7_spreadAt_20 (by decide) (fun c20 => ?_) (fun c20 => ?_)
    · replace h := fx_ip c20 h
      refine fx_sub [0, 1, 2, 3, 4] rfl ?_
      exact hk _ _ _ _ h
    · replace h := fx_ne c20 h
      refine fx_iload 23 dX7_spreadAt_23 4 rfl ?_
      refine fx_aload_n 25 dX7_spreadAt_25 rfl 0 rfl ?_
      refine fx_get 26 (j := 13) (v := .int (M 0 13)) okm0 dX7_spreadAt_26 lfX7_23 (by decide) (fun _ => rfl) ?_
      refine fx_icmp_eq 29 86 dX7_spreadAt_29 (by decide) (fun c29 => ?_) (fun c29 => ?_)
      · replace h := fx_ip c29 h
        refine fx_iinc 86 (lv' := [(4, .int (x4 + (1 : Int32))), (0, .ref 0), (1, .int x1), (2, .int x2), (3, .int x3)]) (y := x4 + (1 : Int32)) dX7_spreadAt_86 4 rfl (by rfl) (Nat.le_of_ble_eq_true rfl) rfl ?_
        refine fx_goto 89 12 dX7_spreadAt_89 (by decide) ?_
        refine fx_sub [1, 2, 3, 4, 0] rfl ?_
        exact ih _ _ _ _ h
      · replace h := fx_ne c29 h
        refine fx_aload_n 32 dX7_spreadAt_32 rfl 0 rfl ?_
        refine fx_iload_n 33 dX7_spreadAt_33 rfl 1 rfl ?_
        refine fx_iload 34 dX7_spreadAt_34 4 rfl ?_
        obtain ⟨q36, e36, h⟩ := fx_bd h
        refine fx_callVi 36 (mt' := mX7_heardAt) (As := [.int x1, .int x4]) okm0 (okvX7_heardAt _ _) lmX7_187 (by decide) rfl rfl (Nat.le_of_ble_eq_true rfl) dX7_spreadAt_36 (tX7_heardAt e36) ?_
        refine fx_istore 39 (lv' := [(5, .int q36.1), (0, .ref 0), (1, .int x1), (2, .int x2), (3, .int x3), (4, .int x4)]) dX7_spreadAt_39 (Nat.le_of_ble_eq_true rfl) rfl ?_
        refine fx_iload_n 41 dX7_spreadAt_41 rfl 3 rfl ?_
        have J : fx_V gM mX7_spreadAt (fx_ri R) 57 [(0, .ref 0), (1, .int x1), (2, .int x2), (3, .int x3), (4, .int x4), (5, .int q36.1)] [.int (if x2 = (0 : Int32) then q36.1 else (if q36.1 ≤ x3 then x3 else q36.1))] q36.2 := by
          refine fx_istore_n 57 (lv' := [(3, .int (if x2 = (0 : Int32) then q36.1 else (if q36.1 ≤ x3 then x3 else q36.1))), (0, .ref 0), (1, .int x1), (2, .int x2), (4, .int x4), (5, .int q36.1)]) dX7_spreadAt_57 rfl (Nat.le_of_ble_eq_true rfl) rfl ?_
          refine fx_aload_n 58 dX7_spreadAt_58 rfl 1 rfl ?_
          refine fx_iload_n 59 dX7_spreadAt_59 rfl 3 rfl ?_
          have J : fx_V gM mX7_spreadAt (fx_ri R) 81 [(0, .ref 0), (1, .int x1), (2, .int x2), (3, .int (if x2 = (0 : Int32) then q36.1 else (if q36.1 ≤ x3 then x3 else q36.1))), (4, .int x4), (5, .int q36.1)] [.int (if x2 = (0 : Int32) then q36.1 else (if q36.2 0 14 ≤ q36.1 then q36.2 0 14 else q36.1)), .ref 0] q36.2 := by
            refine fx_putI 81 (j := 14) okm0 dX7_spreadAt_81 lfX7_190 (by decide) rfl (by decide +kernel) (fun _ _ => Nat.le_of_ble_eq_true rfl) (fun _ _ _ => rfl) ?_
            refine fx_iconst 84 (x := (1 : Int32)) dX7_spreadAt_84 (by decide) ?_
            refine fx_istore_n 85 (lv' := [(2, .int (1 : Int32)), (0, .ref 0), (1, .int x1), (3, .int (if x2 = (0 : Int32) then q36.1 else (if q36.1 ≤ x3 then x3 else q36.1))), (4, .int x4), (5, .int q36.1)]) dX7_spreadAt_85 rfl (Nat.le_of_ble_eq_true rfl) rfl ?_
            refine fx_iinc 86 (lv' := [(4, .int (x4 + (1 : Int32))), (2, .int (1 : Int32)), (0, .ref 0), (1, .int x1), (3, .int (if x2 = (0 : Int32) then q36.1 else (if q36.1 ≤ x3 then x3 else q36.1))), (5, .int q36.1)]) (y := x4 + (1 : Int32)) dX7_spreadAt_86 4 rfl (by rfl) (Nat.le_of_ble_eq_true rfl) rfl ?_
            refine fx_goto 89 12 dX7_spreadAt_89 (by decide) ?_
            refine fx_sub [2, 3, 1, 4, 0] rfl ?_
            exact ih _ _ _ _ h
          refine fx_if_eq 60 72 dX7_spreadAt_60 (by decide) (fun c60 => ?_) (fun c60 => ?_)
          · refine fx_iload 72 dX7_spreadAt_72 5 rfl ?_
            refine fx_goto 74 81 dX7_spreadAt_74 (by decide) ?_
            refine fx_sub (lv' := [(0, .ref 0), (1, .int x1), (2, .int x2), (3, .int (if x2 = (0 : Int32) then q36.1 else (if q36.1 ≤ x3 then x3 else q36.1))), (4, .int x4), (5, .int q36.1)]) [1, 2, 3, 0, 4, 5] rfl ?_
            show fx_V gM mX7_spreadAt (fx_ri R) 81 [(0, .ref 0), (1, .int x1), (2, .int x2), (3, .int (if x2 = (0 : Int32) then q36.1 else (if q36.1 ≤ x3 then x3 else q36.1))), (4, .int x4), (5, .int q36.1)] [.int q36.1, .ref 0] q36.2
            simpa only [if_pos c60] using J
          · refine fx_iload 63 dX7_spreadAt_63 5 rfl ?_
            refine fx_aload_n 65 dX7_spreadAt_65 rfl 1 rfl ?_
            refine fx_get 66 (j := 14) (v := .int (q36.2 0 14)) okm0 dX7_spreadAt_66 lfX7_190 (by decide) (fun _ => rfl) ?_
            refine fx_icmp_ge 69 77 dX7_spreadAt_69 (by decide) (fun c69 => ?_) (fun c69 => ?_)
            · refine fx_aload_n 77 dX7_spreadAt_77 rfl 1 rfl ?_
              refine fx_get 78 (j := 14) (v := .int (q36.2 0 14)) okm0 dX7_spreadAt_78 lfX7_190 (by decide) (fun _ => rfl) ?_
              refine fx_sub (lv' := [(0, .ref 0), (1, .int x1), (2, .int x2), (3, .int (if x2 = (0 : Int32) then q36.1 else (if q36.1 ≤ x3 then x3 else q36.1))), (4, .int x4), (5, .int q36.1)]) [1, 2, 3, 0, 4, 5] rfl ?_
              show fx_V gM mX7_spreadAt (fx_ri R) 81 [(0, .ref 0), (1, .int x1), (2, .int x2), (3, .int (if x2 = (0 : Int32) then q36.1 else (if q36.1 ≤ x3 then x3 else q36.1))), (4, .int x4), (5, .int q36.1)] [.int (q36.2 0 14), .ref 0] q36.2
              simpa only [if_neg c60, if_pos c69] using J
            · refine fx_iload 72 dX7_spreadAt_72 5 rfl ?_
              refine fx_goto 74 81 dX7_spreadAt_74 (by decide) ?_
              refine fx_sub (lv' := [(0, .ref 0), (1, .int x1), (2, .int x2), (3, .int (if x2 = (0 : Int32) then q36.1 else (if q36.1 ≤ x3 then x3 else q36.1))), (4, .int x4), (5, .int q36.1)]) [1, 2, 3, 0, 4, 5] rfl ?_
              show fx_V gM mX7_spreadAt (fx_ri R) 81 [(0, .ref 0), (1, .int x1), (2, .int x2), (3, .int (if x2 = (0 : Int32) then q36.1 else (if q36.1 ≤ x3 then x3 else q36.1))), (4, .int x4), (5, .int q36.1)] [.int q36.1, .ref 0] q36.2
              simpa only [if_neg c60, if_neg c69] using J
        refine fx_if_eq 42 51 dX7_spreadAt_42 (by decide) (fun c42 => ?_) (fun c42 => ?_)
        · refine fx_iload 51 dX7_spreadAt_51 0 rfl ?_
          refine fx_goto 53 57 dX7_spreadAt_53 (by decide) ?_
          refine fx_sub (lv' := [(0, .ref 0), (1, .int x1), (2, .int x2), (3, .int x3), (4, .int x4), (5, .int q36.1)]) [1, 2, 3, 4, 5, 0] rfl ?_
          show fx_V gM mX7_spreadAt (fx_ri R) 57 [(0, .ref 0), (1, .int x1), (2, .int x2), (3, .int x3), (4, .int x4), (5, .int q36.1)] [.int q36.1] q36.2
          simpa only [if_pos c42] using J
        · refine fx_iload 45 dX7_spreadAt_45 0 rfl ?_
          refine fx_iload_n 47 dX7_spreadAt_47 rfl 4 rfl ?_
          refine fx_icmp_le 48 56 dX7_spreadAt_48 (by decide) (fun c48 => ?_) (fun c48 => ?_)
          · refine fx_iload_n 56 dX7_spreadAt_56 rfl 4 rfl ?_
            refine fx_sub (lv' := [(0, .ref 0), (1, .int x1), (2, .int x2), (3, .int x3), (4, .int x4), (5, .int q36.1)]) [1, 2, 3, 4, 5, 0] rfl ?_
            show fx_V gM mX7_spreadAt (fx_ri R) 57 [(0, .ref 0), (1, .int x1), (2, .int x2), (3, .int x3), (4, .int x4), (5, .int q36.1)] [.int x3] q36.2
            simpa only [if_neg c42, if_pos c48] using J
          · refine fx_iload 51 dX7_spreadAt_51 0 rfl ?_
            refine fx_goto 53 57 dX7_spreadAt_53 (by decide) ?_
            refine fx_sub (lv' := [(0, .ref 0), (1, .int x1), (2, .int x2), (3, .int x3), (4, .int x4), (5, .int q36.1)]) [1, 2, 3, 4, 5, 0] rfl ?_
            show fx_V gM mX7_spreadAt (fx_ri R) 57 [(0, .ref 0), (1, .int x1), (2, .int x2), (3, .int x3), (4, .int x4), (5, .int q36.1)] [.int q36.1] q36.2
            simpa only [if_neg c42, if_neg c48] using J
def CX7_spreadAt (x1 : Int32) (M : fxMem) : Option (Int32 × fxMem) := CX7_spreadAt_L12 x1 1000 (0 : Int32) (0 : Int32) (0 : Int32) (fx_st M 0 14 (0 : Int32)) (fun y2_12 y3_12 y4_12 M12 => some (y3_12 - (M12 0 14), M12))
set_option maxRecDepth 100000 in
set_option maxHeartbeats 4000000 in
theorem tX7_spreadAt {x1 : Int32} {M : fxMem} {R : Int32 × fxMem} (h : CX7_spreadAt x1 M = some R) : fx_T gM mX7_spreadAt [.ref 0, .int x1] M (fx_ri R) := by
  rw [CX7_spreadAt] at h
  refine fx_enter [(0, .ref 0), (1, .int x1)] (by show plainName RX7 = true; decide) (fun _ => rfl) (fun _ => Nat.le_of_ble_eq_true rfl) ?_
  refine fx_iconst 0 (x := (0 : Int32)) dX7_spreadAt_0 (by decide) ?_
  refine fx_istore_n 1 (lv' := [(2, .int (0 : Int32)), (0, .ref 0), (1, .int x1)]) dX7_spreadAt_1 rfl (Nat.le_of_ble_eq_true rfl) rfl ?_
  refine fx_iconst 2 (x := (0 : Int32)) dX7_spreadAt_2 (by decide) ?_
  refine fx_istore_n 3 (lv' := [(3, .int (0 : Int32)), (2, .int (0 : Int32)), (0, .ref 0), (1, .int x1)]) dX7_spreadAt_3 rfl (Nat.le_of_ble_eq_true rfl) rfl ?_
  refine fx_aload_n 4 dX7_spreadAt_4 rfl 2 rfl ?_
  refine fx_iconst 5 (x := (0 : Int32)) dX7_spreadAt_5 (by decide) ?_
  refine fx_putI 6 (j := 14) okm0 dX7_spreadAt_6 lfX7_190 (by decide) rfl (by decide +kernel) (fun _ _ => Nat.le_of_ble_eq_true rfl) (fun _ _ _ => rfl) ?_
  refine fx_iconst 9 (x := (0 : Int32)) dX7_spreadAt_9 (by decide) ?_
  refine fx_istore 10 (lv' := [(4, .int (0 : Int32)), (3, .int (0 : Int32)), (2, .int (0 : Int32)), (0, .ref 0), (1, .int x1)]) dX7_spreadAt_10 (Nat.le_of_ble_eq_true rfl) rfl ?_
  refine fx_sub [3, 4, 2, 1, 0] rfl ?_
  refine vX7_spreadAt_L12 (fun y2_12 y3_12 y4_12 M12 h => ?_) 1000 _ _ _ _ h
  refine fx_iload_n 92 dX7_spreadAt_92 rfl 3 rfl ?_
  refine fx_aload_n 93 dX7_spreadAt_93 rfl 0 rfl ?_
  refine fx_get 94 (j := 14) (v := .int (M12 0 14)) okm0 dX7_spreadAt_94 lfX7_190 (by decide) (fun _ => rfl) ?_
  refine fx_isub 97 dX7_spreadAt_97 ?_
  obtain rfl := Option.some.inj h
  exact fx_iret 98 dX7_spreadAt_98 rfl rfl ⟨rfl, rfl⟩
def mX7_allSpreads : fxM := (yX7_allSpreads, cX7_allSpreads, 3, (some .int), 49, 1960)
theorem okvX7_allSpreads (f l : Nat) : fx_okV (yX7_allSpreads, cX7_allSpreads, 3, (some .int), f, l) 0 := ⟨⟨rin29 _ (List.mem_of_getElem? (i := 0) rfl), rin1 _ (List.mem_of_getElem? (i := 5) rfl), by show yX7_allSpreads.cls ≠ _; decide +kernel, by show yX7_allSpreads.cls ≠ _; decide +kernel, by show (parseMethodDescriptor yX7_allSpreads.desc).map _ = _; decide +kernel⟩, rin28 _ (List.mem_of_getElem? (i := 22) rfl), rin28 _ (List.mem_of_getElem? (i := 23) rfl)⟩
def CX7_allSpreads_L4 : Nat → Int32 → Int32 → fxMem → (Int32 → Int32 → fxMem → Option (Int32 × fxMem)) → Option (Int32 × fxMem)
  | 0, _, _, _, _ => none
  | n + 1, x1, x2, M, k => if (8 : Int32) ≤ x2 then k x1 x2 M else Option.bind (CX7_spreadAt x2 M) fun q13 => CX7_allSpreads_L4  n (x1 + q13.1) (x2 + (1 : Int32)) q13.2 k
set_option maxRecDepth 100000 in
set_option maxHeartbeats 4000000 in
theorem vX7_allSpreads_L4 {R : Int32 × fxMem} {k : Int32 → Int32 → fxMem → Option (Int32 × fxMem)} (hk : ∀ (x1 : Int32) (x2 : Int32) (M : fxMem), k x1 x2 M = some R → fx_V gM mX7_allSpreads (fx_ri R) 24 [(0, .ref 0), (1, .int x1), (2, .int x2)] [] M) : ∀ (n : Nat) (x1 : Int32) (x2 : Int32) (M : fxMem), CX7_allSpreads_L4  n x1 x2 M k = some R → fx_V gM mX7_allSpreads (fx_ri R) 4 [(0, .ref 0), (1, .int x1), (2, .int x2)] [] M := by
  intro n
  induction n with
  | zero => intro x1 x2 M h; rw [CX7_allSpreads_L4] at h; cases h
  | succ n ih =>
    intro x1 x2 M h
    rw [CX7_allSpreads_L4] at h
    refine fx_iload_n 4 dX7_allSpreads_4 rfl 2 rfl ?_
    refine fx_bipush 5 (x := (8 : Int32)) dX7_allSpreads_5 (by decide) ?_
    refine fx_icmp_ge 7 24 dX7_allSpreads_7 (by decide) (fun c7 => ?_) (fun c7 => ?_)
    · replace h := fx_ip c7 h
      refine fx_sub [0, 1, 2] rfl ?_
      exact hk _ _ _ h
    · replace h := fx_ne c7 h
      refine fx_iload_n 10 dX7_allSpreads_10 rfl 1 rfl ?_
      refine fx_aload_n 11 dX7_allSpreads_11 rfl 0 rfl ?_
      refine fx_iload_n 12 dX7_allSpreads_12 rfl 2 rfl ?_
      obtain ⟨q13, e13, h⟩ := fx_bd h
      refine fx_callVi 13 (mt' := mX7_spreadAt) (As := [.int x2]) okm0 (okvX7_spreadAt _ _) lmX7_193 (by decide) rfl rfl (Nat.le_of_ble_eq_true rfl) dX7_allSpreads_13 (tX7_spreadAt e13) ?_
      refine fx_iadd 16 dX7_allSpreads_16 ?_
      refine fx_istore_n 17 (lv' := [(1, .int (x1 + q13.1)), (0, .ref 0), (2, .int x2)]) dX7_allSpreads_17 rfl (Nat.le_of_ble_eq_true rfl) rfl ?_
      refine fx_iinc 18 (lv' := [(2, .int (x2 + (1 : Int32))), (1, .int (x1 + q13.1)), (0, .ref 0)]) (y := x2 + (1 : Int32)) dX7_allSpreads_18 2 rfl (by rfl) (Nat.le_of_ble_eq_true rfl) rfl ?_
      refine fx_goto 21 4 dX7_allSpreads_21 (by decide) ?_
      refine fx_sub [2, 1, 0] rfl ?_
      exact ih _ _ _ h
def CX7_allSpreads  (M : fxMem) : Option (Int32 × fxMem) := CX7_allSpreads_L4  1000 (0 : Int32) (0 : Int32) M (fun y1_4 y2_4 M4 => some (y1_4, M4))
set_option maxRecDepth 100000 in
set_option maxHeartbeats 4000000 in
theorem tX7_allSpreads  {M : fxMem} {R : Int32 × fxMem} (h : CX7_allSpreads  M = some R) : fx_T gM mX7_allSpreads [.ref 0] M (fx_ri R) := by
  rw [CX7_allSpreads] at h
  refine fx_enter [(0, .ref 0)] (by show plainName RX7 = true; decide) (fun _ => rfl) (fun _ => Nat.le_of_ble_eq_true rfl) ?_
  refine fx_iconst 0 (x := (0 : Int32)) dX7_allSpreads_0 (by decide) ?_
  refine fx_istore_n 1 (lv' := [(1, .int (0 : Int32)), (0, .ref 0)]) dX7_allSpreads_1 rfl (Nat.le_of_ble_eq_true rfl) rfl ?_
  refine fx_iconst 2 (x := (0 : Int32)) dX7_allSpreads_2 (by decide) ?_
  refine fx_istore_n 3 (lv' := [(2, .int (0 : Int32)), (1, .int (0 : Int32)), (0, .ref 0)]) dX7_allSpreads_3 rfl (Nat.le_of_ble_eq_true rfl) rfl ?_
  refine fx_sub [2, 1, 0] rfl ?_
  refine vX7_allSpreads_L4 (fun y1_4 y2_4 M4 h => ?_) 1000 _ _ _ h
  refine fx_iload_n 24 dX7_allSpreads_24 rfl 1 rfl ?_
  obtain rfl := Option.some.inj h
  exact fx_iret 25 dX7_allSpreads_25 rfl rfl ⟨rfl, rfl⟩
def mX7_together : fxM := (yX7_together, cX7_together, 6, (some .int), 48, 1920)
theorem okvX7_together (f l : Nat) : fx_okV (yX7_together, cX7_together, 6, (some .int), f, l) 2 := ⟨⟨rin27 _ (List.mem_of_getElem? (i := 11) rfl), rin1 _ (List.mem_of_getElem? (i := 5) rfl), by show yX7_together.cls ≠ _; decide +kernel, by show yX7_together.cls ≠ _; decide +kernel, by show (parseMethodDescriptor yX7_together.desc).map _ = _; decide +kernel⟩, rin27 _ (List.mem_of_getElem? (i := 9) rfl), rin27 _ (List.mem_of_getElem? (i := 10) rfl)⟩
def CX7_together_L5 (x1 : Int32) (x2 : Int32) : Nat → Int32 → Int32 → fxMem → (Int32 → Int32 → fxMem → Option (Int32 × fxMem)) → Option (Int32 × fxMem)
  | 0, _, _, _, _ => none
  | n + 1, x3, x4, M, k => if fx_in (0 : Int32) 900 = true then if M 1 (0 : Int32).toNatClampNeg ≤ x4 then k x3 x4 M else if x3 = (-1 : Int32) then CX7_together_L5 x1 x2 n x4 (x4 + (1 : Int32)) M k else Option.bind (CX7_loudOf x4 M) fun q24 => Option.bind (CX7_loudOf x3 q24.2) fun q29 => CX7_together_L5 x1 x2 n (if q24.1 ≤ q29.1 then x3 else x4) (x4 + (1 : Int32)) q29.2 k else none
set_option maxRecDepth 100000 in
set_option maxHeartbeats 4000000 in
theorem vX7_together_L5 {x1 : Int32} {x2 : Int32} {R : Int32 × fxMem} {k : Int32 → Int32 → fxMem → Option (Int32 × fxMem)} (hk : ∀ (x3 : Int32) (x4 : Int32) (M : fxMem), k x3 x4 M = some R → fx_V gM mX7_together (fx_ri R) 48 [(0, .ref 0), (1, .int x1), (2, .int x2), (3, .int x3), (4, .int x4)] [] M) : ∀ (n : Nat) (x3 : Int32) (x4 : Int32) (M : fxMem), CX7_together_L5 x1 x2 n x3 x4 M k = some R → fx_V gM mX7_together (fx_ri R) 5 [(0, .ref 0), (1, .int x1), (2, .int x2), (3, .int x3), (4, .int x4)] [] M := by
  intro n
  induction n with
  | zero => intro x3 x4 M h; rw [CX7_together_L5] at h; cases h
  | succ n ih =>
    intro x3 x4 M h
    rw [CX7_together_L5] at h
    refine fx_iload 5 dX7_together_5 4 rfl ?_
    refine fx_aload_n 7 dX7_together_7 rfl 0 rfl ?_
    refine fx_get 8 (j := 1) (v := .ref 1) okm0 dX7_together_8 lfX7_7 (by decide) (fun _ => rfl) ?_
    refine fx_iconst 11 (x := (0 : Int32)) dX7_together_11 (by decide) ?_
    obtain ⟨g12, h⟩ := fx_gt h
    refine fx_iald 12 okb1 dX7_together_12 g12 ?_
    refine fx_icmp_ge 13 48 dX7_together_13 (by decide) (fun c13 => ?_) (fun c13 => ?_)
    · replace h := fx_ip c13 h
      refine fx_sub [0, 1, 2, 3, 4] rfl ?_
      exact hk _ _ _ h
    · replace h := fx_ne c13 h
      refine fx_iload_n 16 dX7_together_16 rfl 3 rfl ?_
      refine fx_iconst 17 (x := (-1 : Int32)) dX7_together_17 (by decide) ?_
      refine fx_icmp_eq 18 35 dX7_together_18 (by decide) (fun c18 => ?_) (fun c18 => ?_)
      · replace h := fx_ip c18 h
        refine fx_iload 35 dX7_together_35 4 rfl ?_
        refine fx_goto 37 41 dX7_together_37 (by decide) ?_
        refine fx_istore_n 41 (lv' := [(3, .int x4), (0, .ref 0), (1, .int x1), (2, .int x2), (4, .int x4)]) dX7_together_41 rfl (Nat.le_of_ble_eq_true rfl) rfl ?_
        refine fx_iinc 42 (lv' := [(4, .int (x4 + (1 : Int32))), (3, .int x4), (0, .ref 0), (1, .int x1), (2, .int x2)]) (y := x4 + (1 : Int32)) dX7_together_42 4 rfl (by rfl) (Nat.le_of_ble_eq_true rfl) rfl ?_
        refine fx_goto 45 5 dX7_together_45 (by decide) ?_
        refine fx_sub [2, 3, 4, 1, 0] rfl ?_
        exact ih _ _ _ h
      · replace h := fx_ne c18 h
        refine fx_aload_n 21 dX7_together_21 rfl 0 rfl ?_
        refine fx_iload 22 dX7_together_22 4 rfl ?_
        obtain ⟨q24, e24, h⟩ := fx_bd h
        refine fx_callVi 24 (mt' := mX7_loudOf) (As := [.int x4]) okm0 (okvX7_loudOf _ _) lmX7_196 (by decide) rfl rfl (Nat.le_of_ble_eq_true rfl) dX7_together_24 (tX7_loudOf e24) ?_
        refine fx_aload_n 27 dX7_together_27 rfl 0 rfl ?_
        refine fx_iload_n 28 dX7_together_28 rfl 3 rfl ?_
        obtain ⟨q29, e29, h⟩ := fx_bd h
        refine fx_callVi 29 (mt' := mX7_loudOf) (As := [.int x3]) okm0 (okvX7_loudOf _ _) lmX7_196 (by decide) rfl rfl (Nat.le_of_ble_eq_true rfl) dX7_together_29 (tX7_loudOf e29) ?_
        have J : fx_V gM mX7_together (fx_ri R) 41 [(0, .ref 0), (1, .int x1), (2, .int x2), (3, .int x3), (4, .int x4)] [.int (if q24.1 ≤ q29.1 then x3 else x4)] q29.2 := by
          refine fx_istore_n 41 (lv' := [(3, .int (if q24.1 ≤ q29.1 then x3 else x4)), (0, .ref 0), (1, .int x1), (2, .int x2), (4, .int x4)]) dX7_together_41 rfl (Nat.le_of_ble_eq_true rfl) rfl ?_
          refine fx_iinc 42 (lv' := [(4, .int (x4 + (1 : Int32))), (3, .int (if q24.1 ≤ q29.1 then x3 else x4)), (0, .ref 0), (1, .int x1), (2, .int x2)]) (y := x4 + (1 : Int32)) dX7_together_42 4 rfl (by rfl) (Nat.le_of_ble_eq_true rfl) rfl ?_
          refine fx_goto 45 5 dX7_together_45 (by decide) ?_
          refine fx_sub [2, 3, 4, 1, 0] rfl ?_
          exact ih _ _ _ h
        refine fx_icmp_le 32 40 dX7_together_32 (by decide) (fun c32 => ?_) (fun c32 => ?_)
        · refine fx_iload_n 40 dX7_together_40 rfl 3 rfl ?_
          refine fx_sub (lv' := [(0, .ref 0), (1, .int x1), (2, .int x2), (3, .int x3), (4, .int x4)]) [0, 1, 2, 3, 4] rfl ?_
          show fx_V gM mX7_together (fx_ri R) 41 [(0, .ref 0), (1, .int x1), (2, .int x2), (3, .int x3), (4, .int x4)] [.int x3] q29.2
          simpa only [if_pos c32] using J
        · refine fx_iload 35 dX7_together_35 4 rfl ?_
          refine fx_goto 37 41 dX7_together_37 (by decide) ?_
          refine fx_sub (lv' := [(0, .ref 0), (1, .int x1), (2, .int x2), (3, .int x3), (4, .int x4)]) [0, 1, 2, 3, 4] rfl ?_
          show fx_V gM mX7_together (fx_ri R) 41 [(0, .ref 0), (1, .int x1), (2, .int x2), (3, .int x3), (4, .int x4)] [.int x4] q29.2
          simpa only [if_neg c32] using J
def CX7_together_L54 (x1 : Int32) (x2 : Int32) (x3 : Int32) : Nat → Int32 → Int32 → fxMem → (Int32 → Int32 → fxMem → Option (Int32 × fxMem)) → Option (Int32 × fxMem)
  | 0, _, _, _, _ => none
  | n + 1, x4, x5, M, k => if fx_in (0 : Int32) 900 = true then if M 1 (0 : Int32).toNatClampNeg ≤ x5 then k x4 x5 M else Option.bind (CX7_heardAt x1 x5 M) fun q71 => Option.bind (CX7_heardAt x1 x3 q71.2) fun q77 => Option.bind (CX7_size (q71.1 - q77.1) q77.2) fun q81 => if x2 < q81.1 then CX7_together_L54 x1 x2 x3 n (x4 + (0 : Int32)) (x5 + (1 : Int32)) q81.2 k else Option.bind (CX7_loudOf x5 q81.2) fun q91 => CX7_together_L54 x1 x2 x3 n (x4 + q91.1) (x5 + (1 : Int32)) q91.2 k else none
set_option maxRecDepth 100000 in
set_option maxHeartbeats 4000000 in
theorem vX7_together_L54 {x1 : Int32} {x2 : Int32} {x3 : Int32} {R : Int32 × fxMem} {k : Int32 → Int32 → fxMem → Option (Int32 × fxMem)} (hk : ∀ (x4 : Int32) (x5 : Int32) (M : fxMem), k x4 x5 M = some R → fx_V gM mX7_together (fx_ri R) 107 [(0, .ref 0), (1, .int x1), (2, .int x2), (3, .int x3), (4, .int x4), (5, .int x5)] [] M) : ∀ (n : Nat) (x4 : Int32) (x5 : Int32) (M : fxMem), CX7_together_L54 x1 x2 x3 n x4 x5 M k = some R → fx_V gM mX7_together (fx_ri R) 54 [(0, .ref 0), (1, .int x1), (2, .int x2), (3, .int x3), (4, .int x4), (5, .int x5)] [] M := by
  intro n
  induction n with
  | zero => intro x4 x5 M h; rw [CX7_together_L54] at h; cases h
  | succ n ih =>
    intro x4 x5 M h
    rw [CX7_together_L54] at h
    refine fx_iload 54 dX7_together_54 5 rfl ?_
    refine fx_aload_n 56 dX7_together_56 rfl 0 rfl ?_
    refine fx_get 57 (j := 1) (v := .ref 1) okm0 dX7_together_57 lfX7_7 (by decide) (fun _ => rfl) ?_
    refine fx_iconst 60 (x := (0 : Int32)) dX7_together_60 (by decide) ?_
    obtain ⟨g61, h⟩ := fx_gt h
    refine fx_iald 61 okb1 dX7_together_61 g61 ?_
    refine fx_icmp_ge 62 107 dX7_together_62 (by decide) (fun c62 => ?_) (fun c62 => ?_)
    · replace h := fx_ip c62 h
      refine fx_sub [0, 1, 2, 3, 4, 5] rfl ?_
      exact hk _ _ _ h
    · replace h := fx_ne c62 h
      refine fx_iload 65 dX7_together_65 4 rfl ?_
      refine fx_aload_n 67 dX7_together_67 rfl 0 rfl ?_
      refine fx_iload_n 68 dX7_together_68 rfl 1 rfl ?_
      refine fx_iload 69 dX7_together_69 5 rfl ?_
      obtain ⟨q71, e71, h⟩ := fx_bd h
      refine fx_callVi 71 (mt' := mX7_heardAt) (As := [.int x1, .int x5]) okm0 (okvX7_heardAt _ _) lmX7_187 (by decide) rfl rfl (Nat.le_of_ble_eq_true rfl) dX7_together_71 (tX7_heardAt e71) ?_
      refine fx_aload_n 74 dX7_together_74 rfl 0 rfl ?_
      refine fx_iload_n 75 dX7_together_75 rfl 1 rfl ?_
      refine fx_iload_n 76 dX7_together_76 rfl 3 rfl ?_
      obtain ⟨q77, e77, h⟩ := fx_bd h
      refine fx_callVi 77 (mt' := mX7_heardAt) (As := [.int x1, .int x3]) okm0 (okvX7_heardAt _ _) lmX7_187 (by decide) rfl rfl (Nat.le_of_ble_eq_true rfl) dX7_together_77 (tX7_heardAt e77) ?_
      refine fx_isub 80 dX7_together_80 ?_
      obtain ⟨q81, e81, h⟩ := fx_bd h
      refine fx_callSi 81 (mt' := mX7_size) (As := [.int (q71.1 - q77.1)]) (oksX7_size _ _) lmX7_43 (by decide) rfl rfl (Nat.le_of_ble_eq_true rfl) dX7_together_81 (tX7_size e81) ?_
      refine fx_iload_n 84 dX7_together_84 rfl 2 rfl ?_
      refine fx_icmp_gt 85 97 dX7_together_85 (by decide) (fun c85 => ?_) (fun c85 => ?_)
      · replace h := fx_ip c85 h
        refine fx_iconst 97 (x := (0 : Int32)) dX7_together_97 (by decide) ?_
        refine fx_iadd 98 dX7_together_98 ?_
        refine fx_istore 99 (lv' := [(4, .int (x4 + (0 : Int32))), (0, .ref 0), (1, .int x1), (2, .int x2), (3, .int x3), (5, .int x5)]) dX7_together_99 (Nat.le_of_ble_eq_true rfl) rfl ?_
        refine fx_iinc 101 (lv' := [(5, .int (x5 + (1 : Int32))), (4, .int (x4 + (0 : Int32))), (0, .ref 0), (1, .int x1), (2, .int x2), (3, .int x3)]) (y := x5 + (1 : Int32)) dX7_together_101 5 rfl (by rfl) (Nat.le_of_ble_eq_true rfl) rfl ?_
        refine fx_goto 104 54 dX7_together_104 (by decide) ?_
        refine fx_sub [2, 3, 4, 5, 1, 0] rfl ?_
        exact ih _ _ _ h
      · replace h := fx_ne c85 h
        refine fx_aload_n 88 dX7_together_88 rfl 0 rfl ?_
        refine fx_iload 89 dX7_together_89 5 rfl ?_
        obtain ⟨q91, e91, h⟩ := fx_bd h
        refine fx_callVi 91 (mt' := mX7_loudOf) (As := [.int x5]) okm0 (okvX7_loudOf _ _) lmX7_196 (by decide) rfl rfl (Nat.le_of_ble_eq_true rfl) dX7_together_91 (tX7_loudOf e91) ?_
        refine fx_goto 94 98 dX7_together_94 (by decide) ?_
        refine fx_iadd 98 dX7_together_98 ?_
        refine fx_istore 99 (lv' := [(4, .int (x4 + q91.1)), (0, .ref 0), (1, .int x1), (2, .int x2), (3, .int x3), (5, .int x5)]) dX7_together_99 (Nat.le_of_ble_eq_true rfl) rfl ?_
        refine fx_iinc 101 (lv' := [(5, .int (x5 + (1 : Int32))), (4, .int (x4 + q91.1)), (0, .ref 0), (1, .int x1), (2, .int x2), (3, .int x3)]) (y := x5 + (1 : Int32)) dX7_together_101 5 rfl (by rfl) (Nat.le_of_ble_eq_true rfl) rfl ?_
        refine fx_goto 104 54 dX7_together_104 (by decide) ?_
        refine fx_sub [2, 3, 4, 5, 1, 0] rfl ?_
        exact ih _ _ _ h
def CX7_together (x1 : Int32) (x2 : Int32) (M : fxMem) : Option (Int32 × fxMem) := CX7_together_L5 x1 x2 1000 (-1 : Int32) (0 : Int32) M (fun y3_5 y4_5 M5 => CX7_together_L54 x1 x2 y3_5 1000 (0 : Int32) (0 : Int32) M5 (fun y4_54 y5_54 M54 => some (y4_54, M54)))
set_option maxRecDepth 100000 in
set_option maxHeartbeats 4000000 in
theorem tX7_together {x1 : Int32} {x2 : Int32} {M : fxMem} {R : Int32 × fxMem} (h : CX7_together x1 x2 M = some R) : fx_T gM mX7_together [.ref 0, .int x1, .int x2] M (fx_ri R) := by
  rw [CX7_together] at h
  refine fx_enter [(0, .ref 0), (1, .int x1), (2, .int x2)] (by show plainName RX7 = true; decide) (fun _ => rfl) (fun _ => Nat.le_of_ble_eq_true rfl) ?_
  refine fx_iconst 0 (x := (-1 : Int32)) dX7_together_0 (by decide) ?_
  refine fx_istore_n 1 (lv' := [(3, .int (-1 : Int32)), (0, .ref 0), (1, .int x1), (2, .int x2)]) dX7_together_1 rfl (Nat.le_of_ble_eq_true rfl) rfl ?_
  refine fx_iconst 2 (x := (0 : Int32)) dX7_together_2 (by decide) ?_
  refine fx_istore 3 (lv' := [(4, .int (0 : Int32)), (3, .int (-1 : Int32)), (0, .ref 0), (1, .int x1), (2, .int x2)]) dX7_together_3 (Nat.le_of_ble_eq_true rfl) rfl ?_
  refine fx_sub [2, 3, 4, 1, 0] rfl ?_
  refine vX7_together_L5 (fun y3_5 y4_5 M5 h => ?_) 1000 _ _ _ h
  refine fx_iconst 48 (x := (0 : Int32)) dX7_together_48 (by decide) ?_
  refine fx_istore 49 (lv' := [(4, .int (0 : Int32)), (0, .ref 0), (1, .int x1), (2, .int x2), (3, .int y3_5)]) dX7_together_49 (Nat.le_of_ble_eq_true rfl) rfl ?_
  refine fx_iconst 51 (x := (0 : Int32)) dX7_together_51 (by decide) ?_
  refine fx_istore 52 (lv' := [(5, .int (0 : Int32)), (4, .int (0 : Int32)), (0, .ref 0), (1, .int x1), (2, .int x2), (3, .int y3_5)]) dX7_together_52 (Nat.le_of_ble_eq_true rfl) rfl ?_
  refine fx_sub [2, 3, 4, 5, 1, 0] rfl ?_
  refine vX7_together_L54 (fun y4_54 y5_54 M54 h => ?_) 1000 _ _ _ h
  refine fx_iload 107 dX7_together_107 4 rfl ?_
  obtain rfl := Option.some.inj h
  exact fx_iret 109 dX7_together_109 rfl rfl ⟨rfl, rfl⟩
def mX7_spread : fxM := (yX7_spread, cX7_spread, 3, (some .int), 49, 1960)
theorem okvX7_spread (f l : Nat) : fx_okV (yX7_spread, cX7_spread, 3, (some .int), f, l) 2 := ⟨⟨rin27 _ (List.mem_of_getElem? (i := 2) rfl), rin1 _ (List.mem_of_getElem? (i := 5) rfl), by show yX7_spread.cls ≠ _; decide +kernel, by show yX7_spread.cls ≠ _; decide +kernel, by show (parseMethodDescriptor yX7_spread.desc).map _ = _; decide +kernel⟩, rin27 _ (List.mem_of_getElem? (i := 0) rfl), rin27 _ (List.mem_of_getElem? (i := 1) rfl)⟩
def CX7_spread (x1 : Int32) (x2 : Int32) (M : fxMem) : Option (Int32 × fxMem) := Option.bind (CX7_isSeat x1 M) fun q1 => if q1.1 = (0 : Int32) then some ((-1 : Int32), q1.2) else Option.bind (CX7_in x2 (0 : Int32) (50 : Int32) q1.2) fun q11 => if q11.1 = (0 : Int32) then some ((-1 : Int32), q11.2) else if x2 = (0 : Int32) then Option.bind (CX7_spreadAt x1 q11.2) fun q25 => some (q25.1, q25.2) else Option.bind (CX7_together x1 (x2 - (1 : Int32)) q11.2) fun q36 => some (q36.1, q36.2)
set_option maxRecDepth 100000 in
set_option maxHeartbeats 4000000 in
theorem tX7_spread {x1 : Int32} {x2 : Int32} {M : fxMem} {R : Int32 × fxMem} (h : CX7_spread x1 x2 M = some R) : fx_T gM mX7_spread [.ref 0, .int x1, .int x2] M (fx_ri R) := by
  rw [CX7_spread] at h
  refine fx_enter [(0, .ref 0), (1, .int x1), (2, .int x2)] (by show plainName RX7 = true; decide) (fun _ => rfl) (fun _ => Nat.le_of_ble_eq_true rfl) ?_
  refine fx_iload_n 0 dX7_spread_0 rfl 1 rfl ?_
  obtain ⟨q1, e1, h⟩ := fx_bd h
  refine fx_callSi 1 (mt' := mX7_isSeat) (As := [.int x1]) (oksX7_isSeat _ _) lmX7_184 (by decide) rfl rfl (Nat.le_of_ble_eq_true rfl) dX7_spread_1 (tX7_isSeat e1) ?_
  refine fx_if_eq 4 17 dX7_spread_4 (by decide) (fun c4 => ?_) (fun c4 => ?_)
  · replace h := fx_ip c4 h
    refine fx_iconst 17 (x := (-1 : Int32)) dX7_spread_17 (by decide) ?_
    obtain rfl := Option.some.inj h
    exact fx_iret 18 dX7_spread_18 rfl rfl ⟨rfl, rfl⟩
  · replace h := fx_ne c4 h
    refine fx_iload_n 7 dX7_spread_7 rfl 2 rfl ?_
    refine fx_iconst 8 (x := (0 : Int32)) dX7_spread_8 (by decide) ?_
    refine fx_bipush 9 (x := (50 : Int32)) dX7_spread_9 (by decide) ?_
    obtain ⟨q11, e11, h⟩ := fx_bd h
    refine fx_callSi 11 (mt' := mX7_in) (As := [.int x2, .int (0 : Int32), .int (50 : Int32)]) (oksX7_in _ _) lmX7_39 (by decide) rfl rfl (Nat.le_of_ble_eq_true rfl) dX7_spread_11 (tX7_in e11) ?_
    refine fx_if_ne 14 19 dX7_spread_14 (by decide) (fun c14 => ?_) (fun c14 => ?_)
    · replace h := fx_ne c14 h
      refine fx_iload_n 19 dX7_spread_19 rfl 2 rfl ?_
      refine fx_if_ne 20 31 dX7_spread_20 (by decide) (fun c20 => ?_) (fun c20 => ?_)
      · replace h := fx_ne c20 h
        refine fx_aload_n 31 dX7_spread_31 rfl 0 rfl ?_
        refine fx_iload_n 32 dX7_spread_32 rfl 1 rfl ?_
        refine fx_iload_n 33 dX7_spread_33 rfl 2 rfl ?_
        refine fx_iconst 34 (x := (1 : Int32)) dX7_spread_34 (by decide) ?_
        refine fx_isub 35 dX7_spread_35 ?_
        obtain ⟨q36, e36, h⟩ := fx_bd h
        refine fx_callVi 36 (mt' := mX7_together) (As := [.int x1, .int (x2 - (1 : Int32))]) okm0 (okvX7_together _ _) lmX7_199 (by decide) rfl rfl (Nat.le_of_ble_eq_true rfl) dX7_spread_36 (tX7_together e36) ?_
        obtain rfl := Option.some.inj h
        exact fx_iret 39 dX7_spread_39 rfl rfl ⟨rfl, rfl⟩
      · replace h := fx_ip c20 h
        refine fx_aload_n 23 dX7_spread_23 rfl 0 rfl ?_
        refine fx_iload_n 24 dX7_spread_24 rfl 1 rfl ?_
        obtain ⟨q25, e25, h⟩ := fx_bd h
        refine fx_callVi 25 (mt' := mX7_spreadAt) (As := [.int x1]) okm0 (okvX7_spreadAt _ _) lmX7_193 (by decide) rfl rfl (Nat.le_of_ble_eq_true rfl) dX7_spread_25 (tX7_spreadAt e25) ?_
        refine fx_goto 28 39 dX7_spread_28 (by decide) ?_
        obtain rfl := Option.some.inj h
        exact fx_iret 39 dX7_spread_39 rfl rfl ⟨rfl, rfl⟩
    · replace h := fx_ip c14 h
      refine fx_iconst 17 (x := (-1 : Int32)) dX7_spread_17 (by decide) ?_
      obtain rfl := Option.some.inj h
      exact fx_iret 18 dX7_spread_18 rfl rfl ⟨rfl, rfl⟩
def mX7_back : fxM := (yX7_back, cX7_back, 7, (some .int), 46, 1840)
theorem okvX7_back (f l : Nat) : fx_okV (yX7_back, cX7_back, 7, (some .int), f, l) 2 := ⟨⟨rin28 _ (List.mem_of_getElem? (i := 3) rfl), rin1 _ (List.mem_of_getElem? (i := 5) rfl), by show yX7_back.cls ≠ _; decide +kernel, by show yX7_back.cls ≠ _; decide +kernel, by show (parseMethodDescriptor yX7_back.desc).map _ = _; decide +kernel⟩, rin28 _ (List.mem_of_getElem? (i := 1) rfl), rin28 _ (List.mem_of_getElem? (i := 2) rfl)⟩
def CX7_back_L47 (x1 : Int32) (x2 : Int32) (x4 : Int32) : Nat → Int32 → Int32 → fxMem → (Int32 → Int32 → fxMem → Option (Int32 × fxMem)) → Option (Int32 × fxMem)
  | 0, _, _, _, _ => none
  | n + 1, x3, x5, M, k => if fx_in (0 : Int32) 900 = true then if M 1 (0 : Int32).toNatClampNeg ≤ x5 then k x3 x5 M else Option.bind (CX7_playsAs x5 (0 : Int32) M) fun q62 => Option.bind (CX7_speed q62.2) fun q66 => if fx_in ((150 : Int32) + x5) 900 = true then Option.bind (CX7_far (x1 - (8 : Int32)) (q66.2 1 ((150 : Int32) + x5).toNatClampNeg) q66.2) fun q84 => Option.bind (CX7_size ((q62.1 + (q66.1 * q84.1)) - x4) q84.2) fun q97 => CX7_back_L47 x1 x2 x4 n (x3 ||| (if x2 < q97.1 then (0 : Int32) else (1 : Int32) <<< (x5 &&& 31))) (x5 + (1 : Int32)) q97.2 k else none else none
set_option maxRecDepth 100000 in
set_option maxHeartbeats 4000000 in
theorem vX7_back_L47 {x1 : Int32} {x2 : Int32} {x4 : Int32} {R : Int32 × fxMem} {k : Int32 → Int32 → fxMem → Option (Int32 × fxMem)} (hk : ∀ (x3 : Int32) (x5 : Int32) (M : fxMem), k x3 x5 M = some R → fx_V gM mX7_back (fx_ri R) 120 [(0, .ref 0), (1, .int x1), (2, .int x2), (3, .int x3), (4, .int x4), (5, .int x5)] [] M) : ∀ (n : Nat) (x3 : Int32) (x5 : Int32) (M : fxMem), CX7_back_L47 x1 x2 x4 n x3 x5 M k = some R → fx_V gM mX7_back (fx_ri R) 47 [(0, .ref 0), (1, .int x1), (2, .int x2), (3, .int x3), (4, .int x4), (5, .int x5)] [] M := by
  intro n
  induction n with
  | zero => intro x3 x5 M h; rw [CX7_back_L47] at h; cases h
  | succ n ih =>
    intro x3 x5 M h
    rw [CX7_back_L47] at h
    refine fx_iload 47 dX7_back_47 5 rfl ?_
    refine fx_aload_n 49 dX7_back_49 rfl 0 rfl ?_
    refine fx_get 50 (j := 1) (v := .ref 1) okm0 dX7_back_50 lfX7_7 (by decide) (fun _ => rfl) ?_
    refine fx_iconst 53 (x := (0 : Int32)) dX7_back_53 (by decide) ?_
    obtain ⟨g54, h⟩ := fx_gt h
    refine fx_iald 54 okb1 dX7_back_54 g54 ?_
    refine fx_icmp_ge 55 120 dX7_back_55 (by decide) (fun c55 => ?_) (fun c55 => ?_)
    · replace h := fx_ip c55 h
      refine fx_sub [0, 1, 2, 3, 4, 5] rfl ?_
      exact hk _ _ _ h
    · replace h := fx_ne c55 h
      refine fx_aload_n 58 dX7_back_58 rfl 0 rfl ?_
      refine fx_iload 59 dX7_back_59 5 rfl ?_
      refine fx_iconst 61 (x := (0 : Int32)) dX7_back_61 (by decide) ?_
      obtain ⟨q62, e62, h⟩ := fx_bd h
      refine fx_callVi 62 (mt' := (mX7_playsAs 40)) (As := [.int x5, .int (0 : Int32)]) okm0 (okvX7_playsAs _ _) lmX7_158 (by decide) rfl rfl (Nat.le_of_ble_eq_true rfl) dX7_back_62 (tX7_playsAs e62) ?_
      refine fx_aload_n 65 dX7_back_65 rfl 0 rfl ?_
      obtain ⟨q66, e66, h⟩ := fx_bd h
      refine fx_callVi 66 (mt' := mX7_speed) (As := []) okm0 (okvX7_speed _ _) lmX7_133 (by decide) rfl rfl (Nat.le_of_ble_eq_true rfl) dX7_back_66 (tX7_speed e66) ?_
      refine fx_iload_n 69 dX7_back_69 rfl 1 rfl ?_
      refine fx_bipush 70 (x := (8 : Int32)) dX7_back_70 (by decide) ?_
      refine fx_isub 72 dX7_back_72 ?_
      refine fx_aload_n 73 dX7_back_73 rfl 0 rfl ?_
      refine fx_get 74 (j := 1) (v := .ref 1) okm0 dX7_back_74 lfX7_7 (by decide) (fun _ => rfl) ?_
      refine fx_sipush 77 (x := (150 : Int32)) dX7_back_77 (by decide) ?_
      refine fx_iload 80 dX7_back_80 5 rfl ?_
      refine fx_iadd 82 dX7_back_82 ?_
      obtain ⟨g83, h⟩ := fx_gt h
      refine fx_iald 83 okb1 dX7_back_83 g83 ?_
      obtain ⟨q84, e84, h⟩ := fx_bd h
      refine fx_callSi 84 (mt' := mX7_far) (As := [.int (x1 - (8 : Int32)), .int (q66.2 1 ((150 : Int32) + x5).toNatClampNeg)]) (oksX7_far _ _) lmX7_155 (by decide) rfl rfl (Nat.le_of_ble_eq_true rfl) dX7_back_84 (tX7_far e84) ?_
      refine fx_imul 87 dX7_back_87 ?_
      refine fx_iadd 88 dX7_back_88 ?_
      refine fx_istore 89 (lv' := [(6, .int (q62.1 + (q66.1 * q84.1))), (0, .ref 0), (1, .int x1), (2, .int x2), (3, .int x3), (4, .int x4), (5, .int x5)]) dX7_back_89 (Nat.le_of_ble_eq_true rfl) rfl ?_
      refine fx_iload_n 91 dX7_back_91 rfl 4 rfl ?_
      refine fx_iload 92 dX7_back_92 0 rfl ?_
      refine fx_iload 94 dX7_back_94 5 rfl ?_
      refine fx_isub 96 dX7_back_96 ?_
      obtain ⟨q97, e97, h⟩ := fx_bd h
      refine fx_callSi 97 (mt' := mX7_size) (As := [.int ((q62.1 + (q66.1 * q84.1)) - x4)]) (oksX7_size _ _) lmX7_43 (by decide) rfl rfl (Nat.le_of_ble_eq_true rfl) dX7_back_97 (tX7_size e97) ?_
      refine fx_iload_n 100 dX7_back_100 rfl 3 rfl ?_
      have J : fx_V gM mX7_back (fx_ri R) 112 [(0, .ref 0), (1, .int x1), (2, .int x2), (3, .int x3), (4, .int x4), (5, .int x5), (6, .int (q62.1 + (q66.1 * q84.1)))] [.int (if x2 < q97.1 then (0 : Int32) else (1 : Int32) <<< (x5 &&& 31)), .int x3] q97.2 := by
        refine fx_ior 112 dX7_back_112 ?_
        refine fx_istore_n 113 (lv' := [(3, .int (x3 ||| (if x2 < q97.1 then (0 : Int32) else (1 : Int32) <<< (x5 &&& 31)))), (0, .ref 0), (1, .int x1), (2, .int x2), (4, .int x4), (5, .int x5), (6, .int (q62.1 + (q66.1 * q84.1)))]) dX7_back_113 rfl (Nat.le_of_ble_eq_true rfl) rfl ?_
        refine fx_iinc 114 (lv' := [(5, .int (x5 + (1 : Int32))), (3, .int (x3 ||| (if x2 < q97.1 then (0 : Int32) else (1 : Int32) <<< (x5 &&& 31)))), (0, .ref 0), (1, .int x1), (2, .int x2), (4, .int x4), (6, .int (q62.1 + (q66.1 * q84.1)))]) (y := x5 + (1 : Int32)) dX7_back_114 5 rfl (by rfl) (Nat.le_of_ble_eq_true rfl) rfl ?_
        refine fx_goto 117 47 dX7_back_117 (by decide) ?_
        refine fx_sub [2, 3, 4, 1, 5, 0] rfl ?_
        exact ih _ _ _ h
      refine fx_icmp_gt 101 111 dX7_back_101 (by decide) (fun c101 => ?_) (fun c101 => ?_)
      · refine fx_iconst 111 (x := (0 : Int32)) dX7_back_111 (by decide) ?_
        refine fx_sub (lv' := [(0, .ref 0), (1, .int x1), (2, .int x2), (3, .int x3), (4, .int x4), (5, .int x5), (6, .int (q62.1 + (q66.1 * q84.1)))]) [1, 2, 3, 4, 5, 6, 0] rfl ?_
        show fx_V gM mX7_back (fx_ri R) 112 [(0, .ref 0), (1, .int x1), (2, .int x2), (3, .int x3), (4, .int x4), (5, .int x5), (6, .int (q62.1 + (q66.1 * q84.1)))] [.int (0 : Int32), .int x3] q97.2
        simpa only [if_pos c101] using J
      · refine fx_iconst 104 (x := (1 : Int32)) dX7_back_104 (by decide) ?_
        refine fx_iload 105 dX7_back_105 6 rfl ?_
        refine fx_ishl 107 dX7_back_107 ?_
        refine fx_goto 108 112 dX7_back_108 (by decide) ?_
        refine fx_sub (lv' := [(0, .ref 0), (1, .int x1), (2, .int x2), (3, .int x3), (4, .int x4), (5, .int x5), (6, .int (q62.1 + (q66.1 * q84.1)))]) [1, 2, 3, 4, 5, 6, 0] rfl ?_
        show fx_V gM mX7_back (fx_ri R) 112 [(0, .ref 0), (1, .int x1), (2, .int x2), (3, .int x3), (4, .int x4), (5, .int x5), (6, .int (q62.1 + (q66.1 * q84.1)))] [.int ((1 : Int32) <<< (x5 &&& 31)), .int x3] q97.2
        simpa only [if_neg c101] using J
def CX7_back (x1 : Int32) (x2 : Int32) (M : fxMem) : Option (Int32 × fxMem) := Option.bind (CX7_isSeat x1 M) fun q1 => if q1.1 = (0 : Int32) then some ((-1 : Int32), q1.2) else Option.bind (CX7_in x2 (0 : Int32) (99 : Int32) q1.2) fun q13 => if q13.1 = (0 : Int32) then some ((-2 : Int32), q13.2) else Option.bind (CX7_speed q13.2) fun q25 => if fx_in (5 : Int32) 900 = true then Option.bind (CX7_far (x1 - (8 : Int32)) (q25.2 1 (5 : Int32).toNatClampNeg) q25.2) fun q38 => CX7_back_L47 x1 x2 (q25.1 * q38.1) 1000 (0 : Int32) (0 : Int32) q38.2 (fun y3_47 y5_47 M47 => some (y3_47, M47)) else none
set_option maxRecDepth 100000 in
set_option maxHeartbeats 4000000 in
theorem tX7_back {x1 : Int32} {x2 : Int32} {M : fxMem} {R : Int32 × fxMem} (h : CX7_back x1 x2 M = some R) : fx_T gM mX7_back [.ref 0, .int x1, .int x2] M (fx_ri R) := by
  rw [CX7_back] at h
  refine fx_enter [(0, .ref 0), (1, .int x1), (2, .int x2)] (by show plainName RX7 = true; decide) (fun _ => rfl) (fun _ => Nat.le_of_ble_eq_true rfl) ?_
  refine fx_iload_n 0 dX7_back_0 rfl 1 rfl ?_
  obtain ⟨q1, e1, h⟩ := fx_bd h
  refine fx_callSi 1 (mt' := mX7_isSeat) (As := [.int x1]) (oksX7_isSeat _ _) lmX7_184 (by decide) rfl rfl (Nat.le_of_ble_eq_true rfl) dX7_back_1 (tX7_isSeat e1) ?_
  refine fx_if_ne 4 9 dX7_back_4 (by decide) (fun c4 => ?_) (fun c4 => ?_)
  · replace h := fx_ne c4 h
    refine fx_iload_n 9 dX7_back_9 rfl 2 rfl ?_
    refine fx_iconst 10 (x := (0 : Int32)) dX7_back_10 (by decide) ?_
    refine fx_bipush 11 (x := (99 : Int32)) dX7_back_11 (by decide) ?_
    obtain ⟨q13, e13, h⟩ := fx_bd h
    refine fx_callSi 13 (mt' := mX7_in) (As := [.int x2, .int (0 : Int32), .int (99 : Int32)]) (oksX7_in _ _) lmX7_39 (by decide) rfl rfl (Nat.le_of_ble_eq_true rfl) dX7_back_13 (tX7_in e13) ?_
    refine fx_if_ne 16 22 dX7_back_16 (by decide) (fun c16 => ?_) (fun c16 => ?_)
    · replace h := fx_ne c16 h
      refine fx_iconst 22 (x := (0 : Int32)) dX7_back_22 (by decide) ?_
      refine fx_istore_n 23 (lv' := [(3, .int (0 : Int32)), (0, .ref 0), (1, .int x1), (2, .int x2)]) dX7_back_23 rfl (Nat.le_of_ble_eq_true rfl) rfl ?_
      refine fx_aload_n 24 dX7_back_24 rfl 1 rfl ?_
      obtain ⟨q25, e25, h⟩ := fx_bd h
      refine fx_callVi 25 (mt' := mX7_speed) (As := []) okm0 (okvX7_speed _ _) lmX7_133 (by decide) rfl rfl (Nat.le_of_ble_eq_true rfl) dX7_back_25 (tX7_speed e25) ?_
      refine fx_iload_n 28 dX7_back_28 rfl 2 rfl ?_
      refine fx_bipush 29 (x := (8 : Int32)) dX7_back_29 (by decide) ?_
      refine fx_isub 31 dX7_back_31 ?_
      refine fx_aload_n 32 dX7_back_32 rfl 1 rfl ?_
      refine fx_get 33 (j := 1) (v := .ref 1) okm0 dX7_back_33 lfX7_7 (by decide) (fun _ => rfl) ?_
      refine fx_iconst 36 (x := (5 : Int32)) dX7_back_36 (by decide) ?_
      obtain ⟨g37, h⟩ := fx_gt h
      refine fx_iald 37 okb1 dX7_back_37 g37 ?_
      obtain ⟨q38, e38, h⟩ := fx_bd h
      refine fx_callSi 38 (mt' := mX7_far) (As := [.int (x1 - (8 : Int32)), .int (q25.2 1 (5 : Int32).toNatClampNeg)]) (oksX7_far _ _) lmX7_155 (by decide) rfl rfl (Nat.le_of_ble_eq_true rfl) dX7_back_38 (tX7_far e38) ?_
      refine fx_imul 41 dX7_back_41 ?_
      refine fx_istore 42 (lv' := [(4, .int (q25.1 * q38.1)), (3, .int (0 : Int32)), (0, .ref 0), (1, .int x1), (2, .int x2)]) dX7_back_42 (Nat.le_of_ble_eq_true rfl) rfl ?_
      refine fx_iconst 44 (x := (0 : Int32)) dX7_back_44 (by decide) ?_
      refine fx_istore 45 (lv' := [(5, .int (0 : Int32)), (4, .int (q25.1 * q38.1)), (3, .int (0 : Int32)), (0, .ref 0), (1, .int x1), (2, .int x2)]) dX7_back_45 (Nat.le_of_ble_eq_true rfl) rfl ?_
      refine fx_sub [3, 4, 5, 2, 1, 0] rfl ?_
      refine vX7_back_L47 (fun y3_47 y5_47 M47 h => ?_) 1000 _ _ _ h
      refine fx_iload_n 120 dX7_back_120 rfl 3 rfl ?_
      obtain rfl := Option.some.inj h
      exact fx_iret 121 dX7_back_121 rfl rfl ⟨rfl, rfl⟩
    · replace h := fx_ip c16 h
      refine fx_bipush 19 (x := (-2 : Int32)) dX7_back_19 (by decide) ?_
      obtain rfl := Option.some.inj h
      exact fx_iret 21 dX7_back_21 rfl rfl ⟨rfl, rfl⟩
  · replace h := fx_ip c4 h
    refine fx_iconst 7 (x := (-1 : Int32)) dX7_back_7 (by decide) ?_
    obtain rfl := Option.some.inj h
    exact fx_iret 8 dX7_back_8 rfl rfl ⟨rfl, rfl⟩
def mX7_best : fxM := (yX7_best, cX7_best, 8, (some .int), 50, 2000)
theorem okvX7_best (f l : Nat) : fx_okV (yX7_best, cX7_best, 8, (some .int), f, l) 1 := ⟨⟨rin28 _ (List.mem_of_getElem? (i := 20) rfl), rin1 _ (List.mem_of_getElem? (i := 5) rfl), by show yX7_best.cls ≠ _; decide +kernel, by show yX7_best.cls ≠ _; decide +kernel, by show (parseMethodDescriptor yX7_best.desc).map _ = _; decide +kernel⟩, rin28 _ (List.mem_of_getElem? (i := 18) rfl), rin28 _ (List.mem_of_getElem? (i := 19) rfl)⟩
def CX7_best_L26 (x1 : Int32) (x2 : Int32) : Nat → Int32 → Int32 → Int32 → fxMem → (Int32 → Int32 → Int32 → fxMem → Option (Int32 × fxMem)) → Option (Int32 × fxMem)
  | 0, _, _, _, _, _ => none
  | n + 1, x3, x4, x5, M, k => if (64 : Int32) ≤ x5 then k x3 x4 x5 M else Option.bind (CX7_playerOn x5 M) fun q36 => if q36.1 = (-1 : Int32) then if fx_in (5 : Int32) 900 = true then Option.bind (CX7_allSpreads (fx_st q36.2 1 (5 : Int32).toNatClampNeg x5)) fun q52 => CX7_best_L26 x1 x2 n (if (if x3 = (-1 : Int32) then (1 : Int32) else (if x4 ≤ q52.1 then (0 : Int32) else (1 : Int32))) = (0 : Int32) then x3 else x5) (if (if x3 = (-1 : Int32) then (1 : Int32) else (if x4 ≤ q52.1 then (0 : Int32) else (1 : Int32))) = (0 : Int32) then x4 else q52.1) (x5 + (1 : Int32)) q52.2 k else none else CX7_best_L26 x1 x2 n x3 x4 (x5 + (1 : Int32)) q36.2 k
set_option maxRecDepth 100000 in
set_option maxHeartbeats 4000000 in
theorem vX7_best_L26 {x1 : Int32} {x2 : Int32} {R : Int32 × fxMem} {k : Int32 → Int32 → Int32 → fxMem → Option (Int32 × fxMem)} (hk : ∀ (x3 : Int32) (x4 : Int32) (x5 : Int32) (M : fxMem), k x3 x4 x5 M = some R → fx_V gM mX7_best (fx_ri R) 108 [(0, .ref 0), (1, .int x1), (2, .int x2), (3, .int x3), (4, .int x4), (5, .int x5)] [] M) : ∀ (n : Nat) (x3 : Int32) (x4 : Int32) (x5 : Int32) (M : fxMem), CX7_best_L26 x1 x2 n x3 x4 x5 M k = some R → fx_V gM mX7_best (fx_ri R) 26 [(0, .ref 0), (1, .int x1), (2, .int x2), (3, .int x3), (4, .int x4), (5, .int x5)] [] M := by
  intro n
  induction n with
  | zero => intro x3 x4 x5 M h; rw [CX7_best_L26] at h; cases h
  | succ n ih =>
    intro x3 x4 x5 M h
    rw [CX7_best_L26] at h
    refine fx_iload 26 dX7_best_26 5 rfl ?_
    refine fx_bipush 28 (x := (64 : Int32)) dX7_best_28 (by decide) ?_
    refine fx_icmp_ge 30 108 dX7_best_30 (by decide) (fun c30 => ?_) (fun c30 => ?_)
    · replace h := fx_ip c30 h
      refine fx_sub [0, 1, 2, 3, 4, 5] rfl ?_
      exact hk _ _ _ _ h
    · replace h := fx_ne c30 h
      refine fx_aload_n 33 dX7_best_33 rfl 0 rfl ?_
      refine fx_iload 34 dX7_best_34 5 rfl ?_
      obtain ⟨q36, e36, h⟩ := fx_bd h
      refine fx_callVi 36 (mt' := mX7_playerOn) (As := [.int x5]) okm0 (okvX7_playerOn _ _) lmX7_149 (by decide) rfl rfl (Nat.le_of_ble_eq_true rfl) dX7_best_36 (tX7_playerOn e36) ?_
      refine fx_iconst 39 (x := (-1 : Int32)) dX7_best_39 (by decide) ?_
      refine fx_icmp_ne 40 102 dX7_best_40 (by decide) (fun c40 => ?_) (fun c40 => ?_)
      · replace h := fx_ne c40 h
        refine fx_iinc 102 (lv' := [(5, .int (x5 + (1 : Int32))), (0, .ref 0), (1, .int x1), (2, .int x2), (3, .int x3), (4, .int x4)]) (y := x5 + (1 : Int32)) dX7_best_102 5 rfl (by rfl) (Nat.le_of_ble_eq_true rfl) rfl ?_
        refine fx_goto 105 26 dX7_best_105 (by decide) ?_
        refine fx_sub [1, 2, 3, 4, 5, 0] rfl ?_
        exact ih _ _ _ _ h
      · replace h := fx_ip c40 h
        refine fx_aload_n 43 dX7_best_43 rfl 0 rfl ?_
        refine fx_get 44 (j := 1) (v := .ref 1) okm0 dX7_best_44 lfX7_7 (by decide) (fun _ => rfl) ?_
        refine fx_iconst 47 (x := (5 : Int32)) dX7_best_47 (by decide) ?_
        refine fx_iload 48 dX7_best_48 5 rfl ?_
        obtain ⟨g50, h⟩ := fx_gt h
        refine fx_iast 50 okb1 dX7_best_50 g50 ?_
        refine fx_aload_n 51 dX7_best_51 rfl 0 rfl ?_
        obtain ⟨q52, e52, h⟩ := fx_bd h
        refine fx_callVi 52 (mt' := mX7_allSpreads) (As := []) okm0 (okvX7_allSpreads _ _) lmX7_202 (by decide) rfl rfl (Nat.le_of_ble_eq_true rfl) dX7_best_52 (tX7_allSpreads e52) ?_
        refine fx_istore 55 (lv' := [(6, .int q52.1), (0, .ref 0), (1, .int x1), (2, .int x2), (3, .int x3), (4, .int x4), (5, .int x5)]) dX7_best_55 (Nat.le_of_ble_eq_true rfl) rfl ?_
        refine fx_iload_n 57 dX7_best_57 rfl 4 rfl ?_
        refine fx_iconst 58 (x := (-1 : Int32)) dX7_best_58 (by decide) ?_
        have J : fx_V gM mX7_best (fx_ri R) 74 [(0, .ref 0), (1, .int x1), (2, .int x2), (3, .int x3), (4, .int x4), (5, .int x5), (6, .int q52.1)] [.int (if x3 = (-1 : Int32) then (1 : Int32) else (if x4 ≤ q52.1 then (0 : Int32) else (1 : Int32)))] q52.2 := by
          refine fx_istore 74 (lv' := [(7, .int (if x3 = (-1 : Int32) then (1 : Int32) else (if x4 ≤ q52.1 then (0 : Int32) else (1 : Int32)))), (0, .ref 0), (1, .int x1), (2, .int x2), (3, .int x3), (4, .int x4), (5, .int x5), (6, .int q52.1)]) dX7_best_74 (Nat.le_of_ble_eq_true rfl) rfl ?_
          refine fx_iload 76 dX7_best_76 0 rfl ?_
          have J : fx_V gM mX7_best (fx_ri R) 87 [(0, .ref 0), (1, .int x1), (2, .int x2), (3, .int x3), (4, .int x4), (5, .int x5), (6, .int q52.1), (7, .int (if x3 = (-1 : Int32) then (1 : Int32) else (if x4 ≤ q52.1 then (0 : Int32) else (1 : Int32))))] [.int (if (if x3 = (-1 : Int32) then (1 : Int32) else (if x4 ≤ q52.1 then (0 : Int32) else (1 : Int32))) = (0 : Int32) then x3 else x5)] q52.2 := by
            refine fx_istore_n 87 (lv' := [(3, .int (if (if x3 = (-1 : Int32) then (1 : Int32) else (if x4 ≤ q52.1 then (0 : Int32) else (1 : Int32))) = (0 : Int32) then x3 else x5)), (0, .ref 0), (1, .int x1), (2, .int x2), (4, .int x4), (5, .int x5), (6, .int q52.1), (7, .int (if x3 = (-1 : Int32) then (1 : Int32) else (if x4 ≤ q52.1 then (0 : Int32) else (1 : Int32))))]) dX7_best_87 rfl (Nat.le_of_ble_eq_true rfl) rfl ?_
            refine fx_iload 88 dX7_best_88 7 rfl ?_
            have J : fx_V gM mX7_best (fx_ri R) 100 [(0, .ref 0), (1, .int x1), (2, .int x2), (3, .int (if (if x3 = (-1 : Int32) then (1 : Int32) else (if x4 ≤ q52.1 then (0 : Int32) else (1 : Int32))) = (0 : Int32) then x3 else x5)), (4, .int x4), (5, .int x5), (6, .int q52.1), (7, .int (if x3 = (-1 : Int32) then (1 : Int32) else (if x4 ≤ q52.1 then (0 : Int32) else (1 : Int32))))] [.int (if (if x3 = (-1 : Int32) then (1 : Int32) else (if x4 ≤ q52.1 then (0 : Int32) else (1 : Int32))) = (0 : Int32) then x4 else q52.1)] q52.2 := by
              refine fx_istore 100 (lv' := [(4, .int (if (if x3 = (-1 : Int32) then (1 : Int32) else (if x4 ≤ q52.1 then (0 : Int32) else (1 : Int32))) = (0 : Int32) then x4 else q52.1)), (0, .ref 0), (1, .int x1), (2, .int x2), (3, .int (if (if x3 = (-1 : Int32) then (1 : Int32) else (if x4 ≤ q52.1 then (0 : Int32) else (1 : Int32))) = (0 : Int32) then x3 else x5)), (5, .int x5), (6, .int q52.1), (7, .int (if x3 = (-1 : Int32) then (1 : Int32) else (if x4 ≤ q52.1 then (0 : Int32) else (1 : Int32))))]) dX7_best_100 (Nat.le_of_ble_eq_true rfl) rfl ?_
              refine fx_iinc 102 (lv' := [(5, .int (x5 + (1 : Int32))), (4, .int (if (if x3 = (-1 : Int32) then (1 : Int32) else (if x4 ≤ q52.1 then (0 : Int32) else (1 : Int32))) = (0 : Int32) then x4 else q52.1)), (0, .ref 0), (1, .int x1), (2, .int x2), (3, .int (if (if x3 = (-1 : Int32) then (1 : Int32) else (if x4 ≤ q52.1 then (0 : Int32) else (1 : Int32))) = (0 : Int32) then x3 else x5)), (6, .int q52.1), (7, .int (if x3 = (-1 : Int32) then (1 : Int32) else (if x4 ≤ q52.1 then (0 : Int32) else (1 : Int32))))]) (y := x5 + (1 : Int32)) dX7_best_102 5 rfl (by rfl) (Nat.le_of_ble_eq_true rfl) rfl ?_
              refine fx_goto 105 26 dX7_best_105 (by decide) ?_
              refine fx_sub [2, 3, 4, 5, 1, 0] rfl ?_
              exact ih _ _ _ _ h
            refine fx_if_eq 90 98 dX7_best_90 (by decide) (fun c90 => ?_) (fun c90 => ?_)
            · refine fx_iload 98 dX7_best_98 4 rfl ?_
              refine fx_sub (lv' := [(0, .ref 0), (1, .int x1), (2, .int x2), (3, .int (if (if x3 = (-1 : Int32) then (1 : Int32) else (if x4 ≤ q52.1 then (0 : Int32) else (1 : Int32))) = (0 : Int32) then x3 else x5)), (4, .int x4), (5, .int x5), (6, .int q52.1), (7, .int (if x3 = (-1 : Int32) then (1 : Int32) else (if x4 ≤ q52.1 then (0 : Int32) else (1 : Int32))))]) [1, 2, 3, 0, 4, 5, 6, 7] rfl ?_
              show fx_V gM mX7_best (fx_ri R) 100 [(0, .ref 0), (1, .int x1), (2, .int x2), (3, .int (if (if x3 = (-1 : Int32) then (1 : Int32) else (if x4 ≤ q52.1 then (0 : Int32) else (1 : Int32))) = (0 : Int32) then x3 else x5)), (4, .int x4), (5, .int x5), (6, .int q52.1), (7, .int (if x3 = (-1 : Int32) then (1 : Int32) else (if x4 ≤ q52.1 then (0 : Int32) else (1 : Int32))))] [.int x4] q52.2
              simpa only [if_pos c90] using J
            · refine fx_iload 93 dX7_best_93 6 rfl ?_
              refine fx_goto 95 100 dX7_best_95 (by decide) ?_
              refine fx_sub (lv' := [(0, .ref 0), (1, .int x1), (2, .int x2), (3, .int (if (if x3 = (-1 : Int32) then (1 : Int32) else (if x4 ≤ q52.1 then (0 : Int32) else (1 : Int32))) = (0 : Int32) then x3 else x5)), (4, .int x4), (5, .int x5), (6, .int q52.1), (7, .int (if x3 = (-1 : Int32) then (1 : Int32) else (if x4 ≤ q52.1 then (0 : Int32) else (1 : Int32))))]) [1, 2, 3, 0, 4, 5, 6, 7] rfl ?_
              show fx_V gM mX7_best (fx_ri R) 100 [(0, .ref 0), (1, .int x1), (2, .int x2), (3, .int (if (if x3 = (-1 : Int32) then (1 : Int32) else (if x4 ≤ q52.1 then (0 : Int32) else (1 : Int32))) = (0 : Int32) then x3 else x5)), (4, .int x4), (5, .int x5), (6, .int q52.1), (7, .int (if x3 = (-1 : Int32) then (1 : Int32) else (if x4 ≤ q52.1 then (0 : Int32) else (1 : Int32))))] [.int q52.1] q52.2
              simpa only [if_neg c90] using J
          refine fx_if_eq 78 86 dX7_best_78 (by decide) (fun c78 => ?_) (fun c78 => ?_)
          · refine fx_iload_n 86 dX7_best_86 rfl 4 rfl ?_
            refine fx_sub (lv' := [(0, .ref 0), (1, .int x1), (2, .int x2), (3, .int x3), (4, .int x4), (5, .int x5), (6, .int q52.1), (7, .int (if x3 = (-1 : Int32) then (1 : Int32) else (if x4 ≤ q52.1 then (0 : Int32) else (1 : Int32))))]) [1, 2, 3, 4, 5, 6, 7, 0] rfl ?_
            show fx_V gM mX7_best (fx_ri R) 87 [(0, .ref 0), (1, .int x1), (2, .int x2), (3, .int x3), (4, .int x4), (5, .int x5), (6, .int q52.1), (7, .int (if x3 = (-1 : Int32) then (1 : Int32) else (if x4 ≤ q52.1 then (0 : Int32) else (1 : Int32))))] [.int x3] q52.2
            simpa only [if_pos c78] using J
          · refine fx_iload 81 dX7_best_81 6 rfl ?_
            refine fx_goto 83 87 dX7_best_83 (by decide) ?_
            refine fx_sub (lv' := [(0, .ref 0), (1, .int x1), (2, .int x2), (3, .int x3), (4, .int x4), (5, .int x5), (6, .int q52.1), (7, .int (if x3 = (-1 : Int32) then (1 : Int32) else (if x4 ≤ q52.1 then (0 : Int32) else (1 : Int32))))]) [1, 2, 3, 4, 5, 6, 7, 0] rfl ?_
            show fx_V gM mX7_best (fx_ri R) 87 [(0, .ref 0), (1, .int x1), (2, .int x2), (3, .int x3), (4, .int x4), (5, .int x5), (6, .int q52.1), (7, .int (if x3 = (-1 : Int32) then (1 : Int32) else (if x4 ≤ q52.1 then (0 : Int32) else (1 : Int32))))] [.int x5] q52.2
            simpa only [if_neg c78] using J
        refine fx_icmp_eq 59 69 dX7_best_59 (by decide) (fun c59 => ?_) (fun c59 => ?_)
        · refine fx_iconst 69 (x := (1 : Int32)) dX7_best_69 (by decide) ?_
          refine fx_goto 70 74 dX7_best_70 (by decide) ?_
          refine fx_sub (lv' := [(0, .ref 0), (1, .int x1), (2, .int x2), (3, .int x3), (4, .int x4), (5, .int x5), (6, .int q52.1)]) [1, 2, 3, 4, 5, 6, 0] rfl ?_
          show fx_V gM mX7_best (fx_ri R) 74 [(0, .ref 0), (1, .int x1), (2, .int x2), (3, .int x3), (4, .int x4), (5, .int x5), (6, .int q52.1)] [.int (1 : Int32)] q52.2
          simpa only [if_pos c59] using J
        · refine fx_iload 62 dX7_best_62 0 rfl ?_
          refine fx_iload 64 dX7_best_64 5 rfl ?_
          refine fx_icmp_ge 66 73 dX7_best_66 (by decide) (fun c66 => ?_) (fun c66 => ?_)
          · refine fx_iconst 73 (x := (0 : Int32)) dX7_best_73 (by decide) ?_
            refine fx_sub (lv' := [(0, .ref 0), (1, .int x1), (2, .int x2), (3, .int x3), (4, .int x4), (5, .int x5), (6, .int q52.1)]) [1, 2, 3, 4, 5, 6, 0] rfl ?_
            show fx_V gM mX7_best (fx_ri R) 74 [(0, .ref 0), (1, .int x1), (2, .int x2), (3, .int x3), (4, .int x4), (5, .int x5), (6, .int q52.1)] [.int (0 : Int32)] q52.2
            simpa only [if_neg c59, if_pos c66] using J
          · refine fx_iconst 69 (x := (1 : Int32)) dX7_best_69 (by decide) ?_
            refine fx_goto 70 74 dX7_best_70 (by decide) ?_
            refine fx_sub (lv' := [(0, .ref 0), (1, .int x1), (2, .int x2), (3, .int x3), (4, .int x4), (5, .int x5), (6, .int q52.1)]) [1, 2, 3, 4, 5, 6, 0] rfl ?_
            show fx_V gM mX7_best (fx_ri R) 74 [(0, .ref 0), (1, .int x1), (2, .int x2), (3, .int x3), (4, .int x4), (5, .int x5), (6, .int q52.1)] [.int (1 : Int32)] q52.2
            simpa only [if_neg c59, if_neg c66] using J
def CX7_best (x1 : Int32) (M : fxMem) : Option (Int32 × fxMem) := Option.bind (CX7_in x1 (0 : Int32) (1 : Int32) M) fun q3 => if q3.1 = (0 : Int32) then some ((-1 : Int32), q3.2) else if fx_in (5 : Int32) 900 = true then CX7_best_L26 x1 (q3.2 1 (5 : Int32).toNatClampNeg) 1000 (-1 : Int32) (0 : Int32) (0 : Int32) q3.2 (fun y3_26 y4_26 y5_26 M26 => if fx_in (5 : Int32) 900 = true then some ((if x1 = (0 : Int32) then y3_26 else y4_26), fx_st M26 1 (5 : Int32).toNatClampNeg (q3.2 1 (5 : Int32).toNatClampNeg)) else none) else none
set_option maxRecDepth 100000 in
set_option maxHeartbeats 4000000 in
theorem tX7_best {x1 : Int32} {M : fxMem} {R : Int32 × fxMem} (h : CX7_best x1 M = some R) : fx_T gM mX7_best [.ref 0, .int x1] M (fx_ri R) := by
  rw [CX7_best] at h
  refine fx_enter [(0, .ref 0), (1, .int x1)] (by show plainName RX7 = true; decide) (fun _ => rfl) (fun _ => Nat.le_of_ble_eq_true rfl) ?_
  refine fx_iload_n 0 dX7_best_0 rfl 1 rfl ?_
  refine fx_iconst 1 (x := (0 : Int32)) dX7_best_1 (by decide) ?_
  refine fx_iconst 2 (x := (1 : Int32)) dX7_best_2 (by decide) ?_
  obtain ⟨q3, e3, h⟩ := fx_bd h
  refine fx_callSi 3 (mt' := mX7_in) (As := [.int x1, .int (0 : Int32), .int (1 : Int32)]) (oksX7_in _ _) lmX7_39 (by decide) rfl rfl (Nat.le_of_ble_eq_true rfl) dX7_best_3 (tX7_in e3) ?_
  refine fx_if_ne 6 11 dX7_best_6 (by decide) (fun c6 => ?_) (fun c6 => ?_)
  · replace h := fx_ne c6 h
    refine fx_aload_n 11 dX7_best_11 rfl 0 rfl ?_
    refine fx_get 12 (j := 1) (v := .ref 1) okm0 dX7_best_12 lfX7_7 (by decide) (fun _ => rfl) ?_
    refine fx_iconst 15 (x := (5 : Int32)) dX7_best_15 (by decide) ?_
    obtain ⟨g16, h⟩ := fx_gt h
    refine fx_iald 16 okb1 dX7_best_16 g16 ?_
    refine fx_istore_n 17 (lv' := [(2, .int (q3.2 1 (5 : Int32).toNatClampNeg)), (0, .ref 0), (1, .int x1)]) dX7_best_17 rfl (Nat.le_of_ble_eq_true rfl) rfl ?_
    refine fx_iconst 18 (x := (-1 : Int32)) dX7_best_18 (by decide) ?_
    refine fx_istore_n 19 (lv' := [(3, .int (-1 : Int32)), (2, .int (q3.2 1 (5 : Int32).toNatClampNeg)), (0, .ref 0), (1, .int x1)]) dX7_best_19 rfl (Nat.le_of_ble_eq_true rfl) rfl ?_
    refine fx_iconst 20 (x := (0 : Int32)) dX7_best_20 (by decide) ?_
    refine fx_istore 21 (lv' := [(4, .int (0 : Int32)), (3, .int (-1 : Int32)), (2, .int (q3.2 1 (5 : Int32).toNatClampNeg)), (0, .ref 0), (1, .int x1)]) dX7_best_21 (Nat.le_of_ble_eq_true rfl) rfl ?_
    refine fx_iconst 23 (x := (0 : Int32)) dX7_best_23 (by decide) ?_
    refine fx_istore 24 (lv' := [(5, .int (0 : Int32)), (4, .int (0 : Int32)), (3, .int (-1 : Int32)), (2, .int (q3.2 1 (5 : Int32).toNatClampNeg)), (0, .ref 0), (1, .int x1)]) dX7_best_24 (Nat.le_of_ble_eq_true rfl) rfl ?_
    refine fx_sub [4, 5, 3, 2, 1, 0] rfl ?_
    refine vX7_best_L26 (fun y3_26 y4_26 y5_26 M26 h => ?_) 1000 _ _ _ _ h
    refine fx_aload_n 108 dX7_best_108 rfl 0 rfl ?_
    refine fx_get 109 (j := 1) (v := .ref 1) okm0 dX7_best_109 lfX7_7 (by decide) (fun _ => rfl) ?_
    refine fx_iconst 112 (x := (5 : Int32)) dX7_best_112 (by decide) ?_
    refine fx_iload_n 113 dX7_best_113 rfl 2 rfl ?_
    obtain ⟨g114, h⟩ := fx_gt h
    refine fx_iast 114 okb1 dX7_best_114 g114 ?_
    refine fx_iload_n 115 dX7_best_115 rfl 1 rfl ?_
    have J : fx_V gM mX7_best (fx_ri R) 125 [(0, .ref 0), (1, .int x1), (2, .int (q3.2 1 (5 : Int32).toNatClampNeg)), (3, .int y3_26), (4, .int y4_26), (5, .int y5_26)] [.int (if x1 = (0 : Int32) then y3_26 else y4_26)] (fx_st M26 1 (5 : Int32).toNatClampNeg (q3.2 1 (5 : Int32).toNatClampNeg)) := by
      obtain rfl := Option.some.inj h
      exact fx_iret 125 dX7_best_125 rfl rfl ⟨rfl, rfl⟩
    refine fx_if_ne 116 123 dX7_best_116 (by decide) (fun c116 => ?_) (fun c116 => ?_)
    · refine fx_iload 123 dX7_best_123 4 rfl ?_
      refine fx_sub (lv' := [(0, .ref 0), (1, .int x1), (2, .int (q3.2 1 (5 : Int32).toNatClampNeg)), (3, .int y3_26), (4, .int y4_26), (5, .int y5_26)]) [0, 1, 2, 3, 4, 5] rfl ?_
      show fx_V gM mX7_best (fx_ri R) 125 [(0, .ref 0), (1, .int x1), (2, .int (q3.2 1 (5 : Int32).toNatClampNeg)), (3, .int y3_26), (4, .int y4_26), (5, .int y5_26)] [.int y4_26] (fx_st M26 1 (5 : Int32).toNatClampNeg (q3.2 1 (5 : Int32).toNatClampNeg))
      simpa only [if_neg c116] using J
    · refine fx_iload_n 119 dX7_best_119 rfl 3 rfl ?_
      refine fx_goto 120 125 dX7_best_120 (by decide) ?_
      refine fx_sub (lv' := [(0, .ref 0), (1, .int x1), (2, .int (q3.2 1 (5 : Int32).toNatClampNeg)), (3, .int y3_26), (4, .int y4_26), (5, .int y5_26)]) [0, 1, 2, 3, 4, 5] rfl ?_
      show fx_V gM mX7_best (fx_ri R) 125 [(0, .ref 0), (1, .int x1), (2, .int (q3.2 1 (5 : Int32).toNatClampNeg)), (3, .int y3_26), (4, .int y4_26), (5, .int y5_26)] [.int y3_26] (fx_st M26 1 (5 : Int32).toNatClampNeg (q3.2 1 (5 : Int32).toNatClampNeg))
      simpa only [if_pos c116] using J
  · replace h := fx_ip c6 h
    refine fx_iconst 9 (x := (-1 : Int32)) dX7_best_9 (by decide) ?_
    obtain rfl := Option.some.inj h
    exact fx_iret 10 dX7_best_10 rfl rfl ⟨rfl, rfl⟩
def mX7_early : fxM := (yX7_early, cX7_early, 4, (some .int), 49, 1960)
theorem okvX7_early (f l : Nat) : fx_okV (yX7_early, cX7_early, 4, (some .int), f, l) 2 := ⟨⟨rin29 _ (List.mem_of_getElem? (i := 12) rfl), rin1 _ (List.mem_of_getElem? (i := 5) rfl), by show yX7_early.cls ≠ _; decide +kernel, by show yX7_early.cls ≠ _; decide +kernel, by show (parseMethodDescriptor yX7_early.desc).map _ = _; decide +kernel⟩, rin29 _ (List.mem_of_getElem? (i := 10) rfl), rin29 _ (List.mem_of_getElem? (i := 11) rfl)⟩
def CX7_early (x1 : Int32) (x2 : Int32) (M : fxMem) : Option (Int32 × fxMem) := Option.bind (CX7_isPlayer x1 M) fun q2 => if q2.1 = (0 : Int32) then some ((-1 : Int32), q2.2) else Option.bind (CX7_isSeat x2 q2.2) fun q9 => if q9.1 = (0 : Int32) then some ((-1 : Int32), q9.2) else Option.bind (CX7_spreadAt x2 q9.2) fun q19 => Option.bind (CX7_heardAt x2 x1 q19.2) fun q26 => some (q26.1 - (q26.2 0 14), q26.2)
set_option maxRecDepth 100000 in
set_option maxHeartbeats 4000000 in
theorem tX7_early {x1 : Int32} {x2 : Int32} {M : fxMem} {R : Int32 × fxMem} (h : CX7_early x1 x2 M = some R) : fx_T gM mX7_early [.ref 0, .int x1, .int x2] M (fx_ri R) := by
  rw [CX7_early] at h
  refine fx_enter [(0, .ref 0), (1, .int x1), (2, .int x2)] (by show plainName RX7 = true; decide) (fun _ => rfl) (fun _ => Nat.le_of_ble_eq_true rfl) ?_
  refine fx_aload_n 0 dX7_early_0 rfl 0 rfl ?_
  refine fx_iload_n 1 dX7_early_1 rfl 1 rfl ?_
  obtain ⟨q2, e2, h⟩ := fx_bd h
  refine fx_callVi 2 (mt' := mX7_isPlayer) (As := [.int x1]) okm0 (okvX7_isPlayer _ _) lmX7_152 (by decide) rfl rfl (Nat.le_of_ble_eq_true rfl) dX7_early_2 (tX7_isPlayer e2) ?_
  refine fx_if_eq 5 15 dX7_early_5 (by decide) (fun c5 => ?_) (fun c5 => ?_)
  · replace h := fx_ip c5 h
    refine fx_iconst 15 (x := (-1 : Int32)) dX7_early_15 (by decide) ?_
    obtain rfl := Option.some.inj h
    exact fx_iret 16 dX7_early_16 rfl rfl ⟨rfl, rfl⟩
  · replace h := fx_ne c5 h
    refine fx_iload_n 8 dX7_early_8 rfl 2 rfl ?_
    obtain ⟨q9, e9, h⟩ := fx_bd h
    refine fx_callSi 9 (mt' := mX7_isSeat) (As := [.int x2]) (oksX7_isSeat _ _) lmX7_184 (by decide) rfl rfl (Nat.le_of_ble_eq_true rfl) dX7_early_9 (tX7_isSeat e9) ?_
    refine fx_if_ne 12 17 dX7_early_12 (by decide) (fun c12 => ?_) (fun c12 => ?_)
    · replace h := fx_ne c12 h
      refine fx_aload_n 17 dX7_early_17 rfl 0 rfl ?_
      refine fx_iload_n 18 dX7_early_18 rfl 2 rfl ?_
      obtain ⟨q19, e19, h⟩ := fx_bd h
      refine fx_callVi 19 (mt' := mX7_spreadAt) (As := [.int x2]) okm0 (okvX7_spreadAt _ _) lmX7_193 (by decide) rfl rfl (Nat.le_of_ble_eq_true rfl) dX7_early_19 (tX7_spreadAt e19) ?_
      refine fx_istore_n 22 (lv' := [(3, .int q19.1), (0, .ref 0), (1, .int x1), (2, .int x2)]) dX7_early_22 rfl (Nat.le_of_ble_eq_true rfl) rfl ?_
      refine fx_aload_n 23 dX7_early_23 rfl 1 rfl ?_
      refine fx_iload_n 24 dX7_early_24 rfl 3 rfl ?_
      refine fx_iload_n 25 dX7_early_25 rfl 2 rfl ?_
      obtain ⟨q26, e26, h⟩ := fx_bd h
      refine fx_callVi 26 (mt' := mX7_heardAt) (As := [.int x2, .int x1]) okm0 (okvX7_heardAt _ _) lmX7_187 (by decide) rfl rfl (Nat.le_of_ble_eq_true rfl) dX7_early_26 (tX7_heardAt e26) ?_
      refine fx_aload_n 29 dX7_early_29 rfl 1 rfl ?_
      refine fx_get 30 (j := 14) (v := .int (q26.2 0 14)) okm0 dX7_early_30 lfX7_190 (by decide) (fun _ => rfl) ?_
      refine fx_isub 33 dX7_early_33 ?_
      obtain rfl := Option.some.inj h
      exact fx_iret 34 dX7_early_34 rfl rfl ⟨rfl, rfl⟩
    · replace h := fx_ip c12 h
      refine fx_iconst 15 (x := (-1 : Int32)) dX7_early_15 (by decide) ?_
      obtain rfl := Option.some.inj h
      exact fx_iret 16 dX7_early_16 rfl rfl ⟨rfl, rfl⟩
def mX7_beats : fxM := (yX7_beats, cX7_beats, 2, (some .int), 49, 1960)
theorem okvX7_beats (f l : Nat) : fx_okV (yX7_beats, cX7_beats, 2, (some .int), f, l) 1 := ⟨⟨rin29 _ (List.mem_of_getElem? (i := 20) rfl), rin1 _ (List.mem_of_getElem? (i := 5) rfl), by show yX7_beats.cls ≠ _; decide +kernel, by show yX7_beats.cls ≠ _; decide +kernel, by show (parseMethodDescriptor yX7_beats.desc).map _ = _; decide +kernel⟩, rin29 _ (List.mem_of_getElem? (i := 18) rfl), rin29 _ (List.mem_of_getElem? (i := 19) rfl)⟩
def CX7_beats (x1 : Int32) (M : fxMem) : Option (Int32 × fxMem) := Option.bind (CX7_isSeat x1 M) fun q1 => if q1.1 = (0 : Int32) then some ((-1 : Int32), q1.2) else Option.bind (CX7_spreadAt x1 q1.2) fun q9 => Option.bind (CX7_told (1 : Int32) q9.2) fun q14 => if q14.1 = (0 : Int32) then none else some (q9.1 / q14.1, q14.2)
set_option maxRecDepth 100000 in
set_option maxHeartbeats 4000000 in
theorem tX7_beats {x1 : Int32} {M : fxMem} {R : Int32 × fxMem} (h : CX7_beats x1 M = some R) : fx_T gM mX7_beats [.ref 0, .int x1] M (fx_ri R) := by
  rw [CX7_beats] at h
  refine fx_enter [(0, .ref 0), (1, .int x1)] (by show plainName RX7 = true; decide) (fun _ => rfl) (fun _ => Nat.le_of_ble_eq_true rfl) ?_
  refine fx_iload_n 0 dX7_beats_0 rfl 1 rfl ?_
  obtain ⟨q1, e1, h⟩ := fx_bd h
  refine fx_callSi 1 (mt' := mX7_isSeat) (As := [.int x1]) (oksX7_isSeat _ _) lmX7_184 (by decide) rfl rfl (Nat.le_of_ble_eq_true rfl) dX7_beats_1 (tX7_isSeat e1) ?_
  refine fx_if_eq 4 21 dX7_beats_4 (by decide) (fun c4 => ?_) (fun c4 => ?_)
  · replace h := fx_ip c4 h
    refine fx_iconst 21 (x := (-1 : Int32)) dX7_beats_21 (by decide) ?_
    obtain rfl := Option.some.inj h
    exact fx_iret 22 dX7_beats_22 rfl rfl ⟨rfl, rfl⟩
  · replace h := fx_ne c4 h
    refine fx_aload_n 7 dX7_beats_7 rfl 0 rfl ?_
    refine fx_iload_n 8 dX7_beats_8 rfl 1 rfl ?_
    obtain ⟨q9, e9, h⟩ := fx_bd h
    refine fx_callVi 9 (mt' := mX7_spreadAt) (As := [.int x1]) okm0 (okvX7_spreadAt _ _) lmX7_193 (by decide) rfl rfl (Nat.le_of_ble_eq_true rfl) dX7_beats_9 (tX7_spreadAt e9) ?_
    refine fx_aload_n 12 dX7_beats_12 rfl 0 rfl ?_
    refine fx_iconst 13 (x := (1 : Int32)) dX7_beats_13 (by decide) ?_
    obtain ⟨q14, e14, h⟩ := fx_bd h
    refine fx_callVi 14 (mt' := mX7_told) (As := [.int (1 : Int32)]) okm0 (okvX7_told _ _) lmX7_205 (by decide) rfl rfl (Nat.le_of_ble_eq_true rfl) dX7_beats_14 (tX7_told e14) ?_
    obtain ⟨z17, h⟩ := fx_gn h
    refine fx_idiv 17 dX7_beats_17 z17 ?_
    refine fx_goto 18 22 dX7_beats_18 (by decide) ?_
    obtain rfl := Option.some.inj h
    exact fx_iret 22 dX7_beats_22 rfl rfl ⟨rfl, rfl⟩
def mX7_form : fxM := (yX7_form, cX7_form, 3, (some .int), 4, 160)
theorem okvX7_form (f l : Nat) : fx_okV (yX7_form, cX7_form, 3, (some .int), f, l) 1 := ⟨⟨rin30 _ (List.mem_of_getElem? (i := 11) rfl), rin1 _ (List.mem_of_getElem? (i := 5) rfl), by show yX7_form.cls ≠ _; decide +kernel, by show yX7_form.cls ≠ _; decide +kernel, by show (parseMethodDescriptor yX7_form.desc).map _ = _; decide +kernel⟩, rin30 _ (List.mem_of_getElem? (i := 9) rfl), rin30 _ (List.mem_of_getElem? (i := 10) rfl)⟩
def CX7_form_L25 (x1 : Int32) : Nat → Int32 → fxMem → (Int32 → fxMem → Option (Int32 × fxMem)) → Option (Int32 × fxMem)
  | 0, _, _, _ => none
  | n + 1, x2, M, k => if fx_in (2 : Int32) 900 = true then if M 1 (2 : Int32).toNatClampNeg ≤ x2 then k x2 M else if fx_in ((160 : Int32) + x2) 900 = true then if M 1 ((160 : Int32) + x2).toNatClampNeg = x1 then some ((-3 : Int32), M) else CX7_form_L25 x1 n (x2 + (1 : Int32)) M k else none else none
set_option maxRecDepth 100000 in
set_option maxHeartbeats 4000000 in
theorem vX7_form_L25 {x1 : Int32} {R : Int32 × fxMem} {k : Int32 → fxMem → Option (Int32 × fxMem)} (hk : ∀ (x2 : Int32) (M : fxMem), k x2 M = some R → fx_V gM mX7_form (fx_ri R) 58 [(0, .ref 0), (1, .int x1), (2, .int x2)] [] M) : ∀ (n : Nat) (x2 : Int32) (M : fxMem), CX7_form_L25 x1 n x2 M k = some R → fx_V gM mX7_form (fx_ri R) 25 [(0, .ref 0), (1, .int x1), (2, .int x2)] [] M := by
  intro n
  induction n with
  | zero => intro x2 M h; rw [CX7_form_L25] at h; cases h
  | succ n ih =>
    intro x2 M h
    rw [CX7_form_L25] at h
    refine fx_iload_n 25 dX7_form_25 rfl 2 rfl ?_
    refine fx_aload_n 26 dX7_form_26 rfl 0 rfl ?_
    refine fx_get 27 (j := 1) (v := .ref 1) okm0 dX7_form_27 lfX7_7 (by decide) (fun _ => rfl) ?_
    refine fx_iconst 30 (x := (2 : Int32)) dX7_form_30 (by decide) ?_
    obtain ⟨g31, h⟩ := fx_gt h
    refine fx_iald 31 okb1 dX7_form_31 g31 ?_
    refine fx_icmp_ge 32 58 dX7_form_32 (by decide) (fun c32 => ?_) (fun c32 => ?_)
    · replace h := fx_ip c32 h
      refine fx_sub [0, 1, 2] rfl ?_
      exact hk _ _ h
    · replace h := fx_ne c32 h
      refine fx_aload_n 35 dX7_form_35 rfl 0 rfl ?_
      refine fx_get 36 (j := 1) (v := .ref 1) okm0 dX7_form_36 lfX7_7 (by decide) (fun _ => rfl) ?_
      refine fx_sipush 39 (x := (160 : Int32)) dX7_form_39 (by decide) ?_
      refine fx_iload_n 42 dX7_form_42 rfl 2 rfl ?_
      refine fx_iadd 43 dX7_form_43 ?_
      obtain ⟨g44, h⟩ := fx_gt h
      refine fx_iald 44 okb1 dX7_form_44 g44 ?_
      refine fx_iload_n 45 dX7_form_45 rfl 1 rfl ?_
      refine fx_icmp_ne 46 52 dX7_form_46 (by decide) (fun c46 => ?_) (fun c46 => ?_)
      · replace h := fx_ne c46 h
        refine fx_iinc 52 (lv' := [(2, .int (x2 + (1 : Int32))), (0, .ref 0), (1, .int x1)]) (y := x2 + (1 : Int32)) dX7_form_52 2 rfl (by rfl) (Nat.le_of_ble_eq_true rfl) rfl ?_
        refine fx_goto 55 25 dX7_form_55 (by decide) ?_
        refine fx_sub [1, 2, 0] rfl ?_
        exact ih _ _ h
      · replace h := fx_ip c46 h
        refine fx_bipush 49 (x := (-3 : Int32)) dX7_form_49 (by decide) ?_
        obtain rfl := Option.some.inj h
        exact fx_iret 51 dX7_form_51 rfl rfl ⟨rfl, rfl⟩
def CX7_form (x1 : Int32) (M : fxMem) : Option (Int32 × fxMem) := if x1 = (-1 : Int32) then if fx_in (2 : Int32) 900 = true then some ((0 : Int32), fx_st M 1 (2 : Int32).toNatClampNeg (0 : Int32)) else none else Option.bind (CX7_isDot x1 M) fun q15 => if q15.1 = (0 : Int32) then some ((-1 : Int32), q15.2) else CX7_form_L25 x1 1000 (0 : Int32) q15.2 (fun y2_25 M25 => if fx_in (2 : Int32) 900 = true then if M25 1 (2 : Int32).toNatClampNeg = (10 : Int32) then some ((-4 : Int32), M25) else if fx_in ((160 : Int32) + (M25 1 (2 : Int32).toNatClampNeg)) 900 = true then fx_lt (fx_st M25 1 ((160 : Int32) + (M25 1 (2 : Int32).toNatClampNeg)).toNatClampNeg x1) fun M94 => fx_lt (fx_st M94 1 (2 : Int32).toNatClampNeg ((M94 1 (2 : Int32).toNatClampNeg) + (1 : Int32))) fun M103 => some (M103 1 (2 : Int32).toNatClampNeg, M103) else none else none)
set_option maxRecDepth 100000 in
set_option maxHeartbeats 4000000 in
theorem tX7_form {x1 : Int32} {M : fxMem} {R : Int32 × fxMem} (h : CX7_form x1 M = some R) : fx_T gM mX7_form [.ref 0, .int x1] M (fx_ri R) := by
  rw [CX7_form] at h
  refine fx_enter [(0, .ref 0), (1, .int x1)] (by show plainName RX7 = true; decide) (fun _ => rfl) (fun _ => Nat.le_of_ble_eq_true rfl) ?_
  refine fx_iload_n 0 dX7_form_0 rfl 1 rfl ?_
  refine fx_iconst 1 (x := (-1 : Int32)) dX7_form_1 (by decide) ?_
  refine fx_icmp_ne 2 14 dX7_form_2 (by decide) (fun c2 => ?_) (fun c2 => ?_)
  · replace h := fx_ne c2 h
    refine fx_iload_n 14 dX7_form_14 rfl 1 rfl ?_
    obtain ⟨q15, e15, h⟩ := fx_bd h
    refine fx_callSi 15 (mt' := mX7_isDot) (As := [.int x1]) (oksX7_isDot _ _) lmX7_145 (by decide) rfl rfl (Nat.le_of_ble_eq_true rfl) dX7_form_15 (tX7_isDot e15) ?_
    refine fx_if_ne 18 23 dX7_form_18 (by decide) (fun c18 => ?_) (fun c18 => ?_)
    · replace h := fx_ne c18 h
      refine fx_iconst 23 (x := (0 : Int32)) dX7_form_23 (by decide) ?_
      refine fx_istore_n 24 (lv' := [(2, .int (0 : Int32)), (0, .ref 0), (1, .int x1)]) dX7_form_24 rfl (Nat.le_of_ble_eq_true rfl) rfl ?_
      refine fx_sub [1, 2, 0] rfl ?_
      refine vX7_form_L25 (fun y2_25 M25 h => ?_) 1000 _ _ h
      refine fx_aload_n 58 dX7_form_58 rfl 0 rfl ?_
      refine fx_get 59 (j := 1) (v := .ref 1) okm0 dX7_form_59 lfX7_7 (by decide) (fun _ => rfl) ?_
      refine fx_iconst 62 (x := (2 : Int32)) dX7_form_62 (by decide) ?_
      obtain ⟨g63, h⟩ := fx_gt h
      refine fx_iald 63 okb1 dX7_form_63 g63 ?_
      refine fx_bipush 64 (x := (10 : Int32)) dX7_form_64 (by decide) ?_
      refine fx_icmp_ne 66 72 dX7_form_66 (by decide) (fun c66 => ?_) (fun c66 => ?_)
      · replace h := fx_ne c66 h
        refine fx_aload_n 72 dX7_form_72 rfl 0 rfl ?_
        refine fx_get 73 (j := 1) (v := .ref 1) okm0 dX7_form_73 lfX7_7 (by decide) (fun _ => rfl) ?_
        refine fx_sipush 76 (x := (160 : Int32)) dX7_form_76 (by decide) ?_
        refine fx_aload_n 79 dX7_form_79 rfl 0 rfl ?_
        refine fx_get 80 (j := 1) (v := .ref 1) okm0 dX7_form_80 lfX7_7 (by decide) (fun _ => rfl) ?_
        refine fx_iconst 83 (x := (2 : Int32)) dX7_form_83 (by decide) ?_
        refine fx_iald 84 okb1 dX7_form_84 g63 ?_
        refine fx_iadd 85 dX7_form_85 ?_
        refine fx_iload_n 86 dX7_form_86 rfl 1 rfl ?_
        obtain ⟨g87, h⟩ := fx_gt h
        refine fx_iast 87 okb1 dX7_form_87 g87 ?_
        refine fx_aload_n 88 dX7_form_88 rfl 0 rfl ?_
        refine fx_get 89 (j := 1) (v := .ref 1) okm0 dX7_form_89 lfX7_7 (by decide) (fun _ => rfl) ?_
        refine fx_iconst 92 (x := (2 : Int32)) dX7_form_92 (by decide) ?_
        refine fx_dup2 93 dX7_form_93 rfl rfl ?_
        replace h := fx_ltd h
        generalize fx_st M25 1 ((160 : Int32) + (M25 1 (2 : Int32).toNatClampNeg)).toNatClampNeg x1 = M94 at h ⊢
        refine fx_iald 94 okb1 dX7_form_94 g63 ?_
        refine fx_iconst 95 (x := (1 : Int32)) dX7_form_95 (by decide) ?_
        refine fx_iadd 96 dX7_form_96 ?_
        refine fx_iast 97 okb1 dX7_form_97 g63 ?_
        refine fx_aload_n 98 dX7_form_98 rfl 0 rfl ?_
        refine fx_get 99 (j := 1) (v := .ref 1) okm0 dX7_form_99 lfX7_7 (by decide) (fun _ => rfl) ?_
        refine fx_iconst 102 (x := (2 : Int32)) dX7_form_102 (by decide) ?_
        replace h := fx_ltd h
        generalize fx_st M94 1 (2 : Int32).toNatClampNeg ((M94 1 (2 : Int32).toNatClampNeg) + (1 : Int32)) = M103 at h ⊢
        refine fx_iald 103 okb1 dX7_form_103 g63 ?_
        obtain rfl := Option.some.inj h
        exact fx_iret 104 dX7_form_104 rfl rfl ⟨rfl, rfl⟩
      · replace h := fx_ip c66 h
        refine fx_bipush 69 (x := (-4 : Int32)) dX7_form_69 (by decide) ?_
        obtain rfl := Option.some.inj h
        exact fx_iret 71 dX7_form_71 rfl rfl ⟨rfl, rfl⟩
    · replace h := fx_ip c18 h
      refine fx_iconst 21 (x := (-1 : Int32)) dX7_form_21 (by decide) ?_
      obtain rfl := Option.some.inj h
      exact fx_iret 22 dX7_form_22 rfl rfl ⟨rfl, rfl⟩
  · replace h := fx_ip c2 h
    refine fx_aload_n 5 dX7_form_5 rfl 0 rfl ?_
    refine fx_get 6 (j := 1) (v := .ref 1) okm0 dX7_form_6 lfX7_7 (by decide) (fun _ => rfl) ?_
    refine fx_iconst 9 (x := (2 : Int32)) dX7_form_9 (by decide) ?_
    refine fx_iconst 10 (x := (0 : Int32)) dX7_form_10 (by decide) ?_
    obtain ⟨g11, h⟩ := fx_gt h
    refine fx_iast 11 okb1 dX7_form_11 g11 ?_
    refine fx_iconst 12 (x := (0 : Int32)) dX7_form_12 (by decide) ?_
    obtain rfl := Option.some.inj h
    exact fx_iret 13 dX7_form_13 rfl rfl ⟨rfl, rfl⟩
def mX7_isTooFew : fxM := (yX7_isTooFew, cX7_isTooFew, 1, (some .boolean), 2, 80)
theorem okvX7_isTooFew (f l : Nat) : fx_okV (yX7_isTooFew, cX7_isTooFew, 1, (some .boolean), f, l) 0 := ⟨⟨rin32 _ (List.mem_of_getElem? (i := 10) rfl), rin1 _ (List.mem_of_getElem? (i := 5) rfl), by show yX7_isTooFew.cls ≠ _; decide +kernel, by show yX7_isTooFew.cls ≠ _; decide +kernel, by show (parseMethodDescriptor yX7_isTooFew.desc).map _ = _; decide +kernel⟩, rin32 _ (List.mem_of_getElem? (i := 8) rfl), rin32 _ (List.mem_of_getElem? (i := 9) rfl)⟩
def CX7_isTooFew  (M : fxMem) : Option (Int32 × fxMem) := if fx_in (2 : Int32) 900 = true then if fx_in (0 : Int32) 900 = true then some ((if M 1 (0 : Int32).toNatClampNeg ≤ M 1 (2 : Int32).toNatClampNeg then (0 : Int32) else (1 : Int32)), M) else none else none
set_option maxRecDepth 100000 in
set_option maxHeartbeats 4000000 in
theorem tX7_isTooFew  {M : fxMem} {R : Int32 × fxMem} (h : CX7_isTooFew  M = some R) : fx_T gM mX7_isTooFew [.ref 0] M (fx_ri R) := by
  rw [CX7_isTooFew] at h
  refine fx_enter [(0, .ref 0)] (by show plainName RX7 = true; decide) (fun _ => rfl) (fun _ => Nat.le_of_ble_eq_true rfl) ?_
  refine fx_aload_n 0 dX7_isTooFew_0 rfl 0 rfl ?_
  refine fx_get 1 (j := 1) (v := .ref 1) okm0 dX7_isTooFew_1 lfX7_7 (by decide) (fun _ => rfl) ?_
  refine fx_iconst 4 (x := (2 : Int32)) dX7_isTooFew_4 (by decide) ?_
  obtain ⟨g5, h⟩ := fx_gt h
  refine fx_iald 5 okb1 dX7_isTooFew_5 g5 ?_
  refine fx_aload_n 6 dX7_isTooFew_6 rfl 0 rfl ?_
  refine fx_get 7 (j := 1) (v := .ref 1) okm0 dX7_isTooFew_7 lfX7_7 (by decide) (fun _ => rfl) ?_
  refine fx_iconst 10 (x := (0 : Int32)) dX7_isTooFew_10 (by decide) ?_
  obtain ⟨g11, h⟩ := fx_gt h
  refine fx_iald 11 okb1 dX7_isTooFew_11 g11 ?_
  have J : fx_V gM mX7_isTooFew (fx_ri R) 20 [(0, .ref 0)] [.int (if M 1 (0 : Int32).toNatClampNeg ≤ M 1 (2 : Int32).toNatClampNeg then (0 : Int32) else (1 : Int32))] M := by
    obtain rfl := Option.some.inj h
    exact fx_iret 20 dX7_isTooFew_20 rfl (by (repeat' split) <;> rfl) ⟨rfl, rfl⟩
  refine fx_icmp_ge 12 19 dX7_isTooFew_12 (by decide) (fun c12 => ?_) (fun c12 => ?_)
  · refine fx_iconst 19 (x := (0 : Int32)) dX7_isTooFew_19 (by decide) ?_
    refine fx_sub (lv' := [(0, .ref 0)]) [0] rfl ?_
    show fx_V gM mX7_isTooFew (fx_ri R) 20 [(0, .ref 0)] [.int (0 : Int32)] M
    simpa only [if_pos c12] using J
  · refine fx_iconst 15 (x := (1 : Int32)) dX7_isTooFew_15 (by decide) ?_
    refine fx_goto 16 20 dX7_isTooFew_16 (by decide) ?_
    refine fx_sub (lv' := [(0, .ref 0)]) [0] rfl ?_
    show fx_V gM mX7_isTooFew (fx_ri R) 20 [(0, .ref 0)] [.int (1 : Int32)] M
    simpa only [if_neg c12] using J
def mX7_farTo : fxM := (yX7_farTo, cX7_farTo, 3, (some .int), 4, 160)
theorem okvX7_farTo (f l : Nat) : fx_okV (yX7_farTo, cX7_farTo, 3, (some .int), f, l) 2 := ⟨⟨rin32 _ (List.mem_of_getElem? (i := 18) rfl), rin1 _ (List.mem_of_getElem? (i := 5) rfl), by show yX7_farTo.cls ≠ _; decide +kernel, by show yX7_farTo.cls ≠ _; decide +kernel, by show (parseMethodDescriptor yX7_farTo.desc).map _ = _; decide +kernel⟩, rin32 _ (List.mem_of_getElem? (i := 16) rfl), rin32 _ (List.mem_of_getElem? (i := 17) rfl)⟩
def CX7_farTo (x1 : Int32) (x2 : Int32) (M : fxMem) : Option (Int32 × fxMem) := if fx_in ((150 : Int32) + x1) 900 = true then if fx_in ((160 : Int32) + x2) 900 = true then Option.bind (CX7_far (M 1 ((150 : Int32) + x1).toNatClampNeg) (M 1 ((160 : Int32) + x2).toNatClampNeg) M) fun q20 => some (q20.1, q20.2) else none else none
set_option maxRecDepth 100000 in
set_option maxHeartbeats 4000000 in
theorem tX7_farTo {x1 : Int32} {x2 : Int32} {M : fxMem} {R : Int32 × fxMem} (h : CX7_farTo x1 x2 M = some R) : fx_T gM mX7_farTo [.ref 0, .int x1, .int x2] M (fx_ri R) := by
  rw [CX7_farTo] at h
  refine fx_enter [(0, .ref 0), (1, .int x1), (2, .int x2)] (by show plainName RX7 = true; decide) (fun _ => rfl) (fun _ => Nat.le_of_ble_eq_true rfl) ?_
  refine fx_aload_n 0 dX7_farTo_0 rfl 0 rfl ?_
  refine fx_get 1 (j := 1) (v := .ref 1) okm0 dX7_farTo_1 lfX7_7 (by decide) (fun _ => rfl) ?_
  refine fx_sipush 4 (x := (150 : Int32)) dX7_farTo_4 (by decide) ?_
  refine fx_iload_n 7 dX7_farTo_7 rfl 1 rfl ?_
  refine fx_iadd 8 dX7_farTo_8 ?_
  obtain ⟨g9, h⟩ := fx_gt h
  refine fx_iald 9 okb1 dX7_farTo_9 g9 ?_
  refine fx_aload_n 10 dX7_farTo_10 rfl 0 rfl ?_
  refine fx_get 11 (j := 1) (v := .ref 1) okm0 dX7_farTo_11 lfX7_7 (by decide) (fun _ => rfl) ?_
  refine fx_sipush 14 (x := (160 : Int32)) dX7_farTo_14 (by decide) ?_
  refine fx_iload_n 17 dX7_farTo_17 rfl 2 rfl ?_
  refine fx_iadd 18 dX7_farTo_18 ?_
  obtain ⟨g19, h⟩ := fx_gt h
  refine fx_iald 19 okb1 dX7_farTo_19 g19 ?_
  obtain ⟨q20, e20, h⟩ := fx_bd h
  refine fx_callSi 20 (mt' := mX7_far) (As := [.int (M 1 ((150 : Int32) + x1).toNatClampNeg), .int (M 1 ((160 : Int32) + x2).toNatClampNeg)]) (oksX7_far _ _) lmX7_155 (by decide) rfl rfl (Nat.le_of_ble_eq_true rfl) dX7_farTo_20 (tX7_far e20) ?_
  obtain rfl := Option.some.inj h
  exact fx_iret 23 dX7_farTo_23 rfl rfl ⟨rfl, rfl⟩
def mX7_rowsFrom (d : Nat) : fxM := (yX7_rowsFrom, cX7_rowsFrom, 7, none, 5 + d, 40 * (5 + d))
theorem okvX7_rowsFrom (f l : Nat) : fx_okV (yX7_rowsFrom, cX7_rowsFrom, 7, none, f, l) 4 := ⟨⟨rin32 _ (List.mem_of_getElem? (i := 14) rfl), rin1 _ (List.mem_of_getElem? (i := 5) rfl), by show yX7_rowsFrom.cls ≠ _; decide +kernel, by show yX7_rowsFrom.cls ≠ _; decide +kernel, by show (parseMethodDescriptor yX7_rowsFrom.desc).map _ = _; decide +kernel⟩, rin32 _ (List.mem_of_getElem? (i := 12) rfl), rin32 _ (List.mem_of_getElem? (i := 13) rfl)⟩
def CX7_rowsFrom_L87 (rec : Int32 → Int32 → Int32 → Int32 → fxMem → Option (fxMem)) (x1 : Int32) (x2 : Int32) (x3 : Int32) (x4 : Int32) : Nat → Int32 → fxMem → (Int32 → fxMem → Option (fxMem)) → Option (fxMem)
  | 0, _, _, _ => none
  | n + 1, x5, M, k => if fx_in (0 : Int32) 900 = true then if M 1 (0 : Int32).toNatClampNeg ≤ x5 then k x5 M else if (x2 >>> (x5 &&& 31)) &&& (1 : Int32) = (0 : Int32) then if fx_in x1 10 = true then Option.bind (CX7_farTo x1 x5 (fx_st M 5 x1.toNatClampNeg x5)) fun q119 => Option.bind (rec (x1 + (1 : Int32)) (x2 ||| ((1 : Int32) <<< (x5 &&& 31))) (if q119.1 ≤ x3 then x3 else q119.1) (x4 + q119.1) q119.2) fun q151 => CX7_rowsFrom_L87 rec x1 x2 x3 x4 n (x5 + (1 : Int32)) q151 k else none else CX7_rowsFrom_L87 rec x1 x2 x3 x4 n (x5 + (1 : Int32)) M k else none
set_option maxRecDepth 100000 in
set_option maxHeartbeats 4000000 in
theorem vX7_rowsFrom_L87 {d : Nat} {rec : Int32 → Int32 → Int32 → Int32 → fxMem → Option (fxMem)} (H0 : ∀ {a1 a2 a3 a4 : Int32} {M : fxMem} {R : fxMem}, rec a1 a2 a3 a4 M = some R → fx_T gM (mX7_rowsFrom d) [.ref 0, .int a1, .int a2, .int a3, .int a4] M (fx_rv R)) {x1 : Int32} {x2 : Int32} {x3 : Int32} {x4 : Int32} {R : fxMem} {k : Int32 → fxMem → Option (fxMem)} (hk : ∀ (x5 : Int32) (M : fxMem), k x5 M = some R → fx_V gM (mX7_rowsFrom (d + 1)) (fx_rv R) 160 [(0, .ref 0), (1, .int x1), (2, .int x2), (3, .int x3), (4, .int x4), (5, .int x5)] [] M) : ∀ (n : Nat) (x5 : Int32) (M : fxMem), CX7_rowsFrom_L87 rec x1 x2 x3 x4 n x5 M k = some R → fx_V gM (mX7_rowsFrom (d + 1)) (fx_rv R) 87 [(0, .ref 0), (1, .int x1), (2, .int x2), (3, .int x3), (4, .int x4), (5, .int x5)] [] M := by
  intro n
  induction n with
  | zero => intro x5 M h; rw [CX7_rowsFrom_L87] at h; cases h
  | succ n ih =>
    intro x5 M h
    rw [CX7_rowsFrom_L87] at h
    refine fx_iload 87 dX7_rowsFrom_87 5 rfl ?_
    refine fx_aload_n 89 dX7_rowsFrom_89 rfl 0 rfl ?_
    refine fx_get 90 (j := 1) (v := .ref 1) okm0 dX7_rowsFrom_90 lfX7_7 (by decide) (fun _ => rfl) ?_
    refine fx_iconst 93 (x := (0 : Int32)) dX7_rowsFrom_93 (by decide) ?_
    obtain ⟨g94, h⟩ := fx_gt h
    refine fx_iald 94 okb1 dX7_rowsFrom_94 g94 ?_
    refine fx_icmp_ge 95 160 dX7_rowsFrom_95 (by decide) (fun c95 => ?_) (fun c95 => ?_)
    · replace h := fx_ip c95 h
      refine fx_sub [0, 1, 2, 3, 4, 5] rfl ?_
      exact hk _ _ h
    · replace h := fx_ne c95 h
      refine fx_iload_n 98 dX7_rowsFrom_98 rfl 2 rfl ?_
      refine fx_iload 99 dX7_rowsFrom_99 5 rfl ?_
      refine fx_ishr 101 dX7_rowsFrom_101 ?_
      refine fx_iconst 102 (x := (1 : Int32)) dX7_rowsFrom_102 (by decide) ?_
      refine fx_iand 103 dX7_rowsFrom_103 ?_
      refine fx_if_ne 104 154 dX7_rowsFrom_104 (by decide) (fun c104 => ?_) (fun c104 => ?_)
      · replace h := fx_ne c104 h
        refine fx_iinc 154 (lv' := [(5, .int (x5 + (1 : Int32))), (0, .ref 0), (1, .int x1), (2, .int x2), (3, .int x3), (4, .int x4)]) (y := x5 + (1 : Int32)) dX7_rowsFrom_154 5 rfl (by rfl) (Nat.le_of_ble_eq_true rfl) rfl ?_
        refine fx_goto 157 87 dX7_rowsFrom_157 (by decide) ?_
        refine fx_sub [1, 2, 3, 4, 5, 0] rfl ?_
        exact ih _ _ h
      · replace h := fx_ip c104 h
        refine fx_aload_n 107 dX7_rowsFrom_107 rfl 0 rfl ?_
        refine fx_get 108 (j := 15) (v := .ref 5) okm0 dX7_rowsFrom_108 lfX7_27 (by decide) (fun _ => rfl) ?_
        refine fx_iload_n 111 dX7_rowsFrom_111 rfl 1 rfl ?_
        refine fx_iload 112 dX7_rowsFrom_112 5 rfl ?_
        obtain ⟨g114, h⟩ := fx_gt h
        refine fx_iast 114 okb5 dX7_rowsFrom_114 g114 ?_
        refine fx_aload_n 115 dX7_rowsFrom_115 rfl 0 rfl ?_
        refine fx_iload_n 116 dX7_rowsFrom_116 rfl 1 rfl ?_
        refine fx_iload 117 dX7_rowsFrom_117 5 rfl ?_
        obtain ⟨q119, e119, h⟩ := fx_bd h
        refine fx_callVi 119 (mt' := mX7_farTo) (As := [.int x1, .int x5]) okm0 (okvX7_farTo _ _) lmX7_214 (by simp only [mX7_rowsFrom, mX7_farTo]; omega) rfl rfl (Nat.le_of_ble_eq_true rfl) dX7_rowsFrom_119 (tX7_farTo e119) ?_
        refine fx_istore 122 (lv' := [(6, .int q119.1), (0, .ref 0), (1, .int x1), (2, .int x2), (3, .int x3), (4, .int x4), (5, .int x5)]) dX7_rowsFrom_122 (Nat.le_of_ble_eq_true rfl) rfl ?_
        refine fx_aload_n 124 dX7_rowsFrom_124 rfl 1 rfl ?_
        refine fx_iload_n 125 dX7_rowsFrom_125 rfl 2 rfl ?_
        refine fx_iconst 126 (x := (1 : Int32)) dX7_rowsFrom_126 (by decide) ?_
        refine fx_iadd 127 dX7_rowsFrom_127 ?_
        refine fx_iload_n 128 dX7_rowsFrom_128 rfl 3 rfl ?_
        refine fx_iconst 129 (x := (1 : Int32)) dX7_rowsFrom_129 (by decide) ?_
        refine fx_iload 130 dX7_rowsFrom_130 6 rfl ?_
        refine fx_ishl 132 dX7_rowsFrom_132 ?_
        refine fx_ior 133 dX7_rowsFrom_133 ?_
        refine fx_iload 134 dX7_rowsFrom_134 0 rfl ?_
        refine fx_iload_n 136 dX7_rowsFrom_136 rfl 4 rfl ?_
        have J : fx_V gM (mX7_rowsFrom (d + 1)) (fx_rv R) 146 [(0, .ref 0), (1, .int x1), (2, .int x2), (3, .int x3), (4, .int x4), (5, .int x5), (6, .int q119.1)] [.int (if q119.1 ≤ x3 then x3 else q119.1), .int (x2 ||| ((1 : Int32) <<< (x5 &&& 31))), .int (x1 + (1 : Int32)), .ref 0] q119.2 := by
          refine fx_iload 146 dX7_rowsFrom_146 4 rfl ?_
          refine fx_iload 148 dX7_rowsFrom_148 6 rfl ?_
          refine fx_iadd 150 dX7_rowsFrom_150 ?_
          obtain ⟨q151, e151, h⟩ := fx_bd h
          refine fx_callVv 151 (mt' := (mX7_rowsFrom d)) (As := [.int (x1 + (1 : Int32)), .int (x2 ||| ((1 : Int32) <<< (x5 &&& 31))), .int (if q119.1 ≤ x3 then x3 else q119.1), .int (x4 + q119.1)]) okm0 (okvX7_rowsFrom _ _) lmX7_217 (by simp only [mX7_rowsFrom]; omega) rfl rfl (Nat.le_of_ble_eq_true rfl) dX7_rowsFrom_151 (H0 e151) ?_
          refine fx_iinc 154 (lv' := [(5, .int (x5 + (1 : Int32))), (0, .ref 0), (1, .int x1), (2, .int x2), (3, .int x3), (4, .int x4), (6, .int q119.1)]) (y := x5 + (1 : Int32)) dX7_rowsFrom_154 5 rfl (by rfl) (Nat.le_of_ble_eq_true rfl) rfl ?_
          refine fx_goto 157 87 dX7_rowsFrom_157 (by decide) ?_
          refine fx_sub [1, 2, 3, 4, 5, 0] rfl ?_
          exact ih _ _ h
        refine fx_icmp_le 137 145 dX7_rowsFrom_137 (by decide) (fun c137 => ?_) (fun c137 => ?_)
        · refine fx_iload_n 145 dX7_rowsFrom_145 rfl 4 rfl ?_
          refine fx_sub (lv' := [(0, .ref 0), (1, .int x1), (2, .int x2), (3, .int x3), (4, .int x4), (5, .int x5), (6, .int q119.1)]) [1, 2, 3, 4, 5, 6, 0] rfl ?_
          show fx_V gM (mX7_rowsFrom (d + 1)) (fx_rv R) 146 [(0, .ref 0), (1, .int x1), (2, .int x2), (3, .int x3), (4, .int x4), (5, .int x5), (6, .int q119.1)] [.int x3, .int (x2 ||| ((1 : Int32) <<< (x5 &&& 31))), .int (x1 + (1 : Int32)), .ref 0] q119.2
          simpa only [if_pos c137] using J
        · refine fx_iload 140 dX7_rowsFrom_140 0 rfl ?_
          refine fx_goto 142 146 dX7_rowsFrom_142 (by decide) ?_
          refine fx_sub (lv' := [(0, .ref 0), (1, .int x1), (2, .int x2), (3, .int x3), (4, .int x4), (5, .int x5), (6, .int q119.1)]) [1, 2, 3, 4, 5, 6, 0] rfl ?_
          show fx_V gM (mX7_rowsFrom (d + 1)) (fx_rv R) 146 [(0, .ref 0), (1, .int x1), (2, .int x2), (3, .int x3), (4, .int x4), (5, .int x5), (6, .int q119.1)] [.int q119.1, .int (x2 ||| ((1 : Int32) <<< (x5 &&& 31))), .int (x1 + (1 : Int32)), .ref 0] q119.2
          simpa only [if_neg c137] using J
def CX7_rowsFrom_L57 (rec : Int32 → Int32 → Int32 → Int32 → fxMem → Option (fxMem)) (x1 : Int32) (x2 : Int32) (x3 : Int32) (x4 : Int32) : Nat → Int32 → fxMem → (Int32 → fxMem → Option (fxMem)) → Option (fxMem)
  | 0, _, _, _ => none
  | n + 1, x5, M, k => if x1 ≤ x5 then k x5 M else if fx_in x5 10 = true then CX7_rowsFrom_L57 rec x1 x2 x3 x4 n (x5 + (1 : Int32)) (fx_st M 6 x5.toNatClampNeg (M 5 x5.toNatClampNeg)) k else none
set_option maxRecDepth 100000 in
set_option maxHeartbeats 4000000 in
theorem vX7_rowsFrom_L57 {d : Nat} {rec : Int32 → Int32 → Int32 → Int32 → fxMem → Option (fxMem)} (H0 : ∀ {a1 a2 a3 a4 : Int32} {M : fxMem} {R : fxMem}, rec a1 a2 a3 a4 M = some R → fx_T gM (mX7_rowsFrom d) [.ref 0, .int a1, .int a2, .int a3, .int a4] M (fx_rv R)) {x1 : Int32} {x2 : Int32} {x3 : Int32} {x4 : Int32} {R : fxMem} {k : Int32 → fxMem → Option (fxMem)} (hk : ∀ (x5 : Int32) (M : fxMem), k x5 M = some R → fx_V gM (mX7_rowsFrom (d + 1)) (fx_rv R) 83 [(0, .ref 0), (1, .int x1), (2, .int x2), (3, .int x3), (4, .int x4), (5, .int x5)] [] M) : ∀ (n : Nat) (x5 : Int32) (M : fxMem), CX7_rowsFrom_L57 rec x1 x2 x3 x4 n x5 M k = some R → fx_V gM (mX7_rowsFrom (d + 1)) (fx_rv R) 57 [(0, .ref 0), (1, .int x1), (2, .int x2), (3, .int x3), (4, .int x4), (5, .int x5)] [] M := by
  intro n
  induction n with
  | zero => intro x5 M h; rw [CX7_rowsFrom_L57] at h; cases h
  | succ n ih =>
    intro x5 M h
    rw [CX7_rowsFrom_L57] at h
    refine fx_iload 57 dX7_rowsFrom_57 5 rfl ?_
    refine fx_iload_n 59 dX7_rowsFrom_59 rfl 1 rfl ?_
    refine fx_icmp_ge 60 83 dX7_rowsFrom_60 (by decide) (fun c60 => ?_) (fun c60 => ?_)
    · replace h := fx_ip c60 h
      refine fx_sub [0, 1, 2, 3, 4, 5] rfl ?_
      exact hk _ _ h
    · replace h := fx_ne c60 h
      refine fx_aload_n 63 dX7_rowsFrom_63 rfl 0 rfl ?_
      refine fx_get 64 (j := 16) (v := .ref 6) okm0 dX7_rowsFrom_64 lfX7_30 (by decide) (fun _ => rfl) ?_
      refine fx_iload 67 dX7_rowsFrom_67 5 rfl ?_
      refine fx_aload_n 69 dX7_rowsFrom_69 rfl 0 rfl ?_
      refine fx_get 70 (j := 15) (v := .ref 5) okm0 dX7_rowsFrom_70 lfX7_27 (by decide) (fun _ => rfl) ?_
      refine fx_iload 73 dX7_rowsFrom_73 5 rfl ?_
      obtain ⟨g75, h⟩ := fx_gt h
      refine fx_iald 75 okb5 dX7_rowsFrom_75 g75 ?_
      refine fx_iast 76 okb6 dX7_rowsFrom_76 g75 ?_
      refine fx_iinc 77 (lv' := [(5, .int (x5 + (1 : Int32))), (0, .ref 0), (1, .int x1), (2, .int x2), (3, .int x3), (4, .int x4)]) (y := x5 + (1 : Int32)) dX7_rowsFrom_77 5 rfl (by rfl) (Nat.le_of_ble_eq_true rfl) rfl ?_
      refine fx_goto 80 57 dX7_rowsFrom_80 (by decide) ?_
      refine fx_sub [1, 2, 3, 4, 5, 0] rfl ?_
      exact ih _ _ h
def CX7_rowsFrom_J43 (rec : Int32 → Int32 → Int32 → Int32 → fxMem → Option (fxMem)) (x1 : Int32) (x2 : Int32) (x3 : Int32) (x4 : Int32) (M : fxMem) : Option (fxMem) := CX7_rowsFrom_L57 rec x1 x2 x3 x4 1000 (0 : Int32) (fx_st (fx_st M 0 17 x3) 0 18 x4) (fun y5_57 M57 => some M57)
set_option maxRecDepth 100000 in
set_option maxHeartbeats 4000000 in
theorem vX7_rowsFrom_J43 {d : Nat} {rec : Int32 → Int32 → Int32 → Int32 → fxMem → Option (fxMem)} (H0 : ∀ {a1 a2 a3 a4 : Int32} {M : fxMem} {R : fxMem}, rec a1 a2 a3 a4 M = some R → fx_T gM (mX7_rowsFrom d) [.ref 0, .int a1, .int a2, .int a3, .int a4] M (fx_rv R))  {x1 : Int32} {x2 : Int32} {x3 : Int32} {x4 : Int32} {R : fxMem} {M : fxMem} (h : CX7_rowsFrom_J43 rec x1 x2 x3 x4 M = some R) : fx_V gM (mX7_rowsFrom (d + 1)) (fx_rv R) 43 [(0, .ref 0), (1, .int x1), (2, .int x2), (3, .int x3), (4, .int x4)] [] M := by
  rw [CX7_rowsFrom_J43] at h
  refine fx_aload_n 43 dX7_rowsFrom_43 rfl 0 rfl ?_
  refine fx_iload_n 44 dX7_rowsFrom_44 rfl 3 rfl ?_
  refine fx_putI 45 (j := 17) okm0 dX7_rowsFrom_45 lfX7_208 (by decide) rfl (by decide +kernel) (fun _ _ => Nat.le_of_ble_eq_true rfl) (fun _ _ _ => rfl) ?_
  refine fx_aload_n 48 dX7_rowsFrom_48 rfl 0 rfl ?_
  refine fx_iload 49 dX7_rowsFrom_49 4 rfl ?_
  refine fx_putI 51 (j := 18) okm0 dX7_rowsFrom_51 lfX7_211 (by decide) rfl (by decide +kernel) (fun _ _ => Nat.le_of_ble_eq_true rfl) (fun _ _ _ => rfl) ?_
  refine fx_iconst 54 (x := (0 : Int32)) dX7_rowsFrom_54 (by decide) ?_
  refine fx_istore 55 (lv' := [(5, .int (0 : Int32)), (0, .ref 0), (1, .int x1), (2, .int x2), (3, .int x3), (4, .int x4)]) dX7_rowsFrom_55 (Nat.le_of_ble_eq_true rfl) rfl ?_
  refine fx_sub [1, 2, 3, 4, 5, 0] rfl ?_
  refine vX7_rowsFrom_L57 H0 (fun y5_57 M57 h => ?_) 1000 _ _ h
  obtain rfl := Option.some.inj h
  exact fx_vret 83 dX7_rowsFrom_83 rfl ⟨rfl, rfl⟩
def BX7_rowsFrom (rec : Int32 → Int32 → Int32 → Int32 → fxMem → Option (fxMem)) (x1 : Int32) (x2 : Int32) (x3 : Int32) (x4 : Int32) (M : fxMem) : Option (fxMem) := if fx_in (0 : Int32) 900 = true then if x1 = M 1 (0 : Int32).toNatClampNeg then if M 0 17 = (-1 : Int32) then CX7_rowsFrom_J43 rec x1 x2 x3 x4 M else if x3 < M 0 17 then CX7_rowsFrom_J43 rec x1 x2 x3 x4 M else if x3 = M 0 17 then if M 0 18 ≤ x4 then some M else CX7_rowsFrom_J43 rec x1 x2 x3 x4 M else some M else CX7_rowsFrom_L87 rec x1 x2 x3 x4 1000 (0 : Int32) M (fun y5_87 M87 => some M87) else none
set_option maxRecDepth 100000 in
set_option maxHeartbeats 4000000 in
theorem bX7_rowsFrom {d : Nat} {rec : Int32 → Int32 → Int32 → Int32 → fxMem → Option (fxMem)} (H0 : ∀ {a1 a2 a3 a4 : Int32} {M : fxMem} {R : fxMem}, rec a1 a2 a3 a4 M = some R → fx_T gM (mX7_rowsFrom d) [.ref 0, .int a1, .int a2, .int a3, .int a4] M (fx_rv R)) {x1 : Int32} {x2 : Int32} {x3 : Int32} {x4 : Int32} {M : fxMem} {R : fxMem} (h : BX7_rowsFrom rec x1 x2 x3 x4 M = some R) : fx_T gM (mX7_rowsFrom (d + 1)) [.ref 0, .int x1, .int x2, .int x3, .int x4] M (fx_rv R) := by
  rw [BX7_rowsFrom] at h
  refine fx_enter [(0, .ref 0), (1, .int x1), (2, .int x2), (3, .int x3), (4, .int x4)] (by show plainName RX7 = true; decide) (fun _ => rfl) (fun _ => Nat.le_of_ble_eq_true rfl) ?_
  refine fx_iload_n 0 dX7_rowsFrom_0 rfl 1 rfl ?_
  refine fx_aload_n 1 dX7_rowsFrom_1 rfl 0 rfl ?_
  refine fx_get 2 (j := 1) (v := .ref 1) okm0 dX7_rowsFrom_2 lfX7_7 (by decide) (fun _ => rfl) ?_
  refine fx_iconst 5 (x := (0 : Int32)) dX7_rowsFrom_5 (by decide) ?_
  obtain ⟨g6, h⟩ := fx_gt h
  refine fx_iald 6 okb1 dX7_rowsFrom_6 g6 ?_
  refine fx_icmp_ne 7 84 dX7_rowsFrom_7 (by decide) (fun c7 => ?_) (fun c7 => ?_)
  · replace h := fx_ne c7 h
    refine fx_iconst 84 (x := (0 : Int32)) dX7_rowsFrom_84 (by decide) ?_
    refine fx_istore 85 (lv' := [(5, .int (0 : Int32)), (0, .ref 0), (1, .int x1), (2, .int x2), (3, .int x3), (4, .int x4)]) dX7_rowsFrom_85 (Nat.le_of_ble_eq_true rfl) rfl ?_
    refine fx_sub [1, 2, 3, 4, 5, 0] rfl ?_
    refine vX7_rowsFrom_L87 H0 (fun y5_87 M87 h => ?_) 1000 _ _ h
    obtain rfl := Option.some.inj h
    exact fx_vret 160 dX7_rowsFrom_160 rfl ⟨rfl, rfl⟩
  · replace h := fx_ip c7 h
    refine fx_aload_n 10 dX7_rowsFrom_10 rfl 0 rfl ?_
    refine fx_get 11 (j := 17) (v := .int (M 0 17)) okm0 dX7_rowsFrom_11 lfX7_208 (by decide) (fun _ => rfl) ?_
    refine fx_iconst 14 (x := (-1 : Int32)) dX7_rowsFrom_14 (by decide) ?_
    refine fx_icmp_eq 15 43 dX7_rowsFrom_15 (by decide) (fun c15 => ?_) (fun c15 => ?_)
    · replace h := fx_ip c15 h
      refine fx_sub [0, 1, 2, 3, 4] rfl ?_
      exact vX7_rowsFrom_J43 H0 h
    · replace h := fx_ne c15 h
      refine fx_iload_n 18 dX7_rowsFrom_18 rfl 3 rfl ?_
      refine fx_aload_n 19 dX7_rowsFrom_19 rfl 0 rfl ?_
      refine fx_get 20 (j := 17) (v := .int (M 0 17)) okm0 dX7_rowsFrom_20 lfX7_208 (by decide) (fun _ => rfl) ?_
      refine fx_icmp_lt 23 43 dX7_rowsFrom_23 (by decide) (fun c23 => ?_) (fun c23 => ?_)
      · replace h := fx_ip c23 h
        refine fx_sub [0, 1, 2, 3, 4] rfl ?_
        exact vX7_rowsFrom_J43 H0 h
      · replace h := fx_ne c23 h
        refine fx_iload_n 26 dX7_rowsFrom_26 rfl 3 rfl ?_
        refine fx_aload_n 27 dX7_rowsFrom_27 rfl 0 rfl ?_
        refine fx_get 28 (j := 17) (v := .int (M 0 17)) okm0 dX7_rowsFrom_28 lfX7_208 (by decide) (fun _ => rfl) ?_
        refine fx_icmp_ne 31 83 dX7_rowsFrom_31 (by decide) (fun c31 => ?_) (fun c31 => ?_)
        · replace h := fx_ne c31 h
          obtain rfl := Option.some.inj h
          exact fx_vret 83 dX7_rowsFrom_83 rfl ⟨rfl, rfl⟩
        · replace h := fx_ip c31 h
          refine fx_iload 34 dX7_rowsFrom_34 4 rfl ?_
          refine fx_aload_n 36 dX7_rowsFrom_36 rfl 0 rfl ?_
          refine fx_get 37 (j := 18) (v := .int (M 0 18)) okm0 dX7_rowsFrom_37 lfX7_211 (by decide) (fun _ => rfl) ?_
          refine fx_icmp_ge 40 83 dX7_rowsFrom_40 (by decide) (fun c40 => ?_) (fun c40 => ?_)
          · replace h := fx_ip c40 h
            obtain rfl := Option.some.inj h
            exact fx_vret 83 dX7_rowsFrom_83 rfl ⟨rfl, rfl⟩
          · replace h := fx_ne c40 h
            refine fx_sub [0, 1, 2, 3, 4] rfl ?_
            exact vX7_rowsFrom_J43 H0 h
def gX7r : Nat → Int32 → Int32 → Int32 → Int32 → fxMem → Option (fxMem)
  | 0, _, _, _, _, _ => none
  | d + 1, a0, a1, a2, a3, M => BX7_rowsFrom (fun a0 a1 a2 a3 M => gX7r d a0 a1 a2 a3 M) a0 a1 a2 a3 M
theorem tgX7r : ∀ d : Nat, (∀ {a1 a2 a3 a4 : Int32} {M : fxMem} {R : fxMem}, gX7r d a1 a2 a3 a4 M = some R → fx_T gM (mX7_rowsFrom d) [.ref 0, .int a1, .int a2, .int a3, .int a4] M (fx_rv R)) := by
  intro d
  induction d with
  | zero => exact fun h => by rw [gX7r] at h; cases h
  | succ d ih =>
    exact fun h => by rw [gX7r] at h; exact bX7_rowsFrom ih h
def CX7_rowsFrom (x1 : Int32) (x2 : Int32) (x3 : Int32) (x4 : Int32) (M : fxMem) : Option (fxMem) := gX7r 40 x1 x2 x3 x4 M
theorem tX7_rowsFrom {x1 : Int32} {x2 : Int32} {x3 : Int32} {x4 : Int32} {M : fxMem} {R : fxMem} (h : CX7_rowsFrom x1 x2 x3 x4 M = some R) : fx_T gM (mX7_rowsFrom 40) [.ref 0, .int x1, .int x2, .int x3, .int x4] M (fx_rv R) := (tgX7r 40) h
def mX7_looksForWay : fxM := (yX7_looksForWay, cX7_looksForWay, 1, (some .int), 46, 1840)
theorem okvX7_looksForWay (f l : Nat) : fx_okV (yX7_looksForWay, cX7_looksForWay, 1, (some .int), f, l) 0 := ⟨⟨rin32 _ (List.mem_of_getElem? (i := 6) rfl), rin1 _ (List.mem_of_getElem? (i := 5) rfl), by show yX7_looksForWay.cls ≠ _; decide +kernel, by show yX7_looksForWay.cls ≠ _; decide +kernel, by show (parseMethodDescriptor yX7_looksForWay.desc).map _ = _; decide +kernel⟩, rin32 _ (List.mem_of_getElem? (i := 4) rfl), rin32 _ (List.mem_of_getElem? (i := 5) rfl)⟩
def CX7_looksForWay  (M : fxMem) : Option (Int32 × fxMem) := Option.bind (CX7_isTooFew M) fun q1 => if q1.1 = (0 : Int32) then if fx_in (0 : Int32) 900 = true then if q1.2 1 (0 : Int32).toNatClampNeg ≤ (6 : Int32) then Option.bind (CX7_rowsFrom (0 : Int32) (0 : Int32) (0 : Int32) (0 : Int32) (fx_st (fx_st q1.2 0 17 (-1 : Int32)) 0 18 (0 : Int32))) fun q39 => some ((0 : Int32), q39) else some ((-9 : Int32), q1.2) else none else some ((-5 : Int32), q1.2)
set_option maxRecDepth 100000 in
set_option maxHeartbeats 4000000 in
theorem tX7_looksForWay  {M : fxMem} {R : Int32 × fxMem} (h : CX7_looksForWay  M = some R) : fx_T gM mX7_looksForWay [.ref 0] M (fx_ri R) := by
  rw [CX7_looksForWay] at h
  refine fx_enter [(0, .ref 0)] (by show plainName RX7 = true; decide) (fun _ => rfl) (fun _ => Nat.le_of_ble_eq_true rfl) ?_
  refine fx_aload_n 0 dX7_looksForWay_0 rfl 0 rfl ?_
  obtain ⟨q1, e1, h⟩ := fx_bd h
  refine fx_callVi 1 (mt' := mX7_isTooFew) (As := []) okm0 (okvX7_isTooFew _ _) lmX7_221 (by decide) rfl rfl (Nat.le_of_ble_eq_true rfl) dX7_looksForWay_1 (tX7_isTooFew e1) ?_
  refine fx_if_eq 4 10 dX7_looksForWay_4 (by decide) (fun c4 => ?_) (fun c4 => ?_)
  · replace h := fx_ip c4 h
    refine fx_aload_n 10 dX7_looksForWay_10 rfl 0 rfl ?_
    refine fx_get 11 (j := 1) (v := .ref 1) okm0 dX7_looksForWay_11 lfX7_7 (by decide) (fun _ => rfl) ?_
    refine fx_iconst 14 (x := (0 : Int32)) dX7_looksForWay_14 (by decide) ?_
    obtain ⟨g15, h⟩ := fx_gt h
    refine fx_iald 15 okb1 dX7_looksForWay_15 g15 ?_
    refine fx_bipush 16 (x := (6 : Int32)) dX7_looksForWay_16 (by decide) ?_
    refine fx_icmp_le 18 24 dX7_looksForWay_18 (by decide) (fun c18 => ?_) (fun c18 => ?_)
    · replace h := fx_ip c18 h
      refine fx_aload_n 24 dX7_looksForWay_24 rfl 0 rfl ?_
      refine fx_iconst 25 (x := (-1 : Int32)) dX7_looksForWay_25 (by decide) ?_
      refine fx_putI 26 (j := 17) okm0 dX7_looksForWay_26 lfX7_208 (by decide) rfl (by decide +kernel) (fun _ _ => Nat.le_of_ble_eq_true rfl) (fun _ _ _ => rfl) ?_
      refine fx_aload_n 29 dX7_looksForWay_29 rfl 0 rfl ?_
      refine fx_iconst 30 (x := (0 : Int32)) dX7_looksForWay_30 (by decide) ?_
      refine fx_putI 31 (j := 18) okm0 dX7_looksForWay_31 lfX7_211 (by decide) rfl (by decide +kernel) (fun _ _ => Nat.le_of_ble_eq_true rfl) (fun _ _ _ => rfl) ?_
      refine fx_aload_n 34 dX7_looksForWay_34 rfl 0 rfl ?_
      refine fx_iconst 35 (x := (0 : Int32)) dX7_looksForWay_35 (by decide) ?_
      refine fx_iconst 36 (x := (0 : Int32)) dX7_looksForWay_36 (by decide) ?_
      refine fx_iconst 37 (x := (0 : Int32)) dX7_looksForWay_37 (by decide) ?_
      refine fx_iconst 38 (x := (0 : Int32)) dX7_looksForWay_38 (by decide) ?_
      obtain ⟨q39, e39, h⟩ := fx_bd h
      refine fx_callVv 39 (mt' := (mX7_rowsFrom 40)) (As := [.int (0 : Int32), .int (0 : Int32), .int (0 : Int32), .int (0 : Int32)]) okm0 (okvX7_rowsFrom _ _) lmX7_217 (by decide) rfl rfl (Nat.le_of_ble_eq_true rfl) dX7_looksForWay_39 (tX7_rowsFrom e39) ?_
      refine fx_iconst 42 (x := (0 : Int32)) dX7_looksForWay_42 (by decide) ?_
      obtain rfl := Option.some.inj h
      exact fx_iret 43 dX7_looksForWay_43 rfl rfl ⟨rfl, rfl⟩
    · replace h := fx_ne c18 h
      refine fx_bipush 21 (x := (-9 : Int32)) dX7_looksForWay_21 (by decide) ?_
      obtain rfl := Option.some.inj h
      exact fx_iret 23 dX7_looksForWay_23 rfl rfl ⟨rfl, rfl⟩
  · replace h := fx_ne c4 h
    refine fx_bipush 7 (x := (-5 : Int32)) dX7_looksForWay_7 (by decide) ?_
    obtain rfl := Option.some.inj h
    exact fx_iret 9 dX7_looksForWay_9 rfl rfl ⟨rfl, rfl⟩
def mX7_way : fxM := (yX7_way, cX7_way, 3, (some .int), 47, 1880)
theorem okvX7_way (f l : Nat) : fx_okV (yX7_way, cX7_way, 3, (some .int), f, l) 1 := ⟨⟨rin32 _ (List.mem_of_getElem? (i := 0) rfl), rin1 _ (List.mem_of_getElem? (i := 5) rfl), by show yX7_way.cls ≠ _; decide +kernel, by show yX7_way.cls ≠ _; decide +kernel, by show (parseMethodDescriptor yX7_way.desc).map _ = _; decide +kernel⟩, rin31 _ (List.mem_of_getElem? (i := 22) rfl), rin31 _ (List.mem_of_getElem? (i := 23) rfl)⟩
def CX7_way (x1 : Int32) (M : fxMem) : Option (Int32 × fxMem) := if fx_in (0 : Int32) 900 = true then Option.bind (CX7_in x1 (-2 : Int32) ((M 1 (0 : Int32).toNatClampNeg) - (1 : Int32)) M) fun q11 => if q11.1 = (0 : Int32) then some ((-1 : Int32), q11.2) else Option.bind (CX7_looksForWay q11.2) fun q20 => if (0 : Int32) ≤ q20.1 then if x1 = (-1 : Int32) then some (q20.2 0 17, q20.2) else if x1 = (-2 : Int32) then some (q20.2 0 18, q20.2) else if fx_in x1 10 = true then some (q20.2 6 x1.toNatClampNeg, q20.2) else none else some (q20.1, q20.2) else none
set_option maxRecDepth 100000 in
set_option maxHeartbeats 4000000 in
theorem tX7_way {x1 : Int32} {M : fxMem} {R : Int32 × fxMem} (h : CX7_way x1 M = some R) : fx_T gM mX7_way [.ref 0, .int x1] M (fx_ri R) := by
  rw [CX7_way] at h
  refine fx_enter [(0, .ref 0), (1, .int x1)] (by show plainName RX7 = true; decide) (fun _ => rfl) (fun _ => Nat.le_of_ble_eq_true rfl) ?_
  refine fx_iload_n 0 dX7_way_0 rfl 1 rfl ?_
  refine fx_bipush 1 (x := (-2 : Int32)) dX7_way_1 (by decide) ?_
  refine fx_aload_n 3 dX7_way_3 rfl 0 rfl ?_
  refine fx_get 4 (j := 1) (v := .ref 1) okm0 dX7_way_4 lfX7_7 (by decide) (fun _ => rfl) ?_
  refine fx_iconst 7 (x := (0 : Int32)) dX7_way_7 (by decide) ?_
  obtain ⟨g8, h⟩ := fx_gt h
  refine fx_iald 8 okb1 dX7_way_8 g8 ?_
  refine fx_iconst 9 (x := (1 : Int32)) dX7_way_9 (by decide) ?_
  refine fx_isub 10 dX7_way_10 ?_
  obtain ⟨q11, e11, h⟩ := fx_bd h
  refine fx_callSi 11 (mt' := mX7_in) (As := [.int x1, .int (-2 : Int32), .int ((M 1 (0 : Int32).toNatClampNeg) - (1 : Int32))]) (oksX7_in _ _) lmX7_39 (by decide) rfl rfl (Nat.le_of_ble_eq_true rfl) dX7_way_11 (tX7_in e11) ?_
  refine fx_if_ne 14 19 dX7_way_14 (by decide) (fun c14 => ?_) (fun c14 => ?_)
  · replace h := fx_ne c14 h
    refine fx_aload_n 19 dX7_way_19 rfl 0 rfl ?_
    obtain ⟨q20, e20, h⟩ := fx_bd h
    refine fx_callVi 20 (mt' := mX7_looksForWay) (As := []) okm0 (okvX7_looksForWay _ _) lmX7_225 (by decide) rfl rfl (Nat.le_of_ble_eq_true rfl) dX7_way_20 (tX7_looksForWay e20) ?_
    refine fx_istore_n 23 (lv' := [(2, .int q20.1), (0, .ref 0), (1, .int x1)]) dX7_way_23 rfl (Nat.le_of_ble_eq_true rfl) rfl ?_
    refine fx_iload_n 24 dX7_way_24 rfl 0 rfl ?_
    refine fx_if_ge 25 32 dX7_way_25 (by decide) (fun c25 => ?_) (fun c25 => ?_)
    · replace h := fx_ip c25 h
      refine fx_iload_n 32 dX7_way_32 rfl 2 rfl ?_
      refine fx_iconst 33 (x := (-1 : Int32)) dX7_way_33 (by decide) ?_
      refine fx_icmp_ne 34 44 dX7_way_34 (by decide) (fun c34 => ?_) (fun c34 => ?_)
      · replace h := fx_ne c34 h
        refine fx_iload_n 44 dX7_way_44 rfl 2 rfl ?_
        refine fx_bipush 45 (x := (-2 : Int32)) dX7_way_45 (by decide) ?_
        refine fx_icmp_ne 47 57 dX7_way_47 (by decide) (fun c47 => ?_) (fun c47 => ?_)
        · replace h := fx_ne c47 h
          refine fx_aload_n 57 dX7_way_57 rfl 1 rfl ?_
          refine fx_get 58 (j := 16) (v := .ref 6) okm0 dX7_way_58 lfX7_30 (by decide) (fun _ => rfl) ?_
          refine fx_iload_n 61 dX7_way_61 rfl 2 rfl ?_
          obtain ⟨g62, h⟩ := fx_gt h
          refine fx_iald 62 okb6 dX7_way_62 g62 ?_
          obtain rfl := Option.some.inj h
          exact fx_iret 63 dX7_way_63 rfl rfl ⟨rfl, rfl⟩
        · replace h := fx_ip c47 h
          refine fx_aload_n 50 dX7_way_50 rfl 1 rfl ?_
          refine fx_get 51 (j := 18) (v := .int (q20.2 0 18)) okm0 dX7_way_51 lfX7_211 (by decide) (fun _ => rfl) ?_
          refine fx_goto 54 63 dX7_way_54 (by decide) ?_
          obtain rfl := Option.some.inj h
          exact fx_iret 63 dX7_way_63 rfl rfl ⟨rfl, rfl⟩
      · replace h := fx_ip c34 h
        refine fx_aload_n 37 dX7_way_37 rfl 1 rfl ?_
        refine fx_get 38 (j := 17) (v := .int (q20.2 0 17)) okm0 dX7_way_38 lfX7_208 (by decide) (fun _ => rfl) ?_
        refine fx_goto 41 63 dX7_way_41 (by decide) ?_
        obtain rfl := Option.some.inj h
        exact fx_iret 63 dX7_way_63 rfl rfl ⟨rfl, rfl⟩
    · replace h := fx_ne c25 h
      refine fx_iload_n 28 dX7_way_28 rfl 0 rfl ?_
      refine fx_goto 29 63 dX7_way_29 (by decide) ?_
      obtain rfl := Option.some.inj h
      exact fx_iret 63 dX7_way_63 rfl rfl ⟨rfl, rfl⟩
  · replace h := fx_ip c14 h
    refine fx_iconst 17 (x := (-1 : Int32)) dX7_way_17 (by decide) ?_
    obtain rfl := Option.some.inj h
    exact fx_iret 18 dX7_way_18 rfl rfl ⟨rfl, rfl⟩
def mX7_counts : fxM := (yX7_counts, cX7_counts, 2, (some .int), 47, 1880)
theorem okvX7_counts (f l : Nat) : fx_okV (yX7_counts, cX7_counts, 2, (some .int), f, l) 0 := ⟨⟨rin33 _ (List.mem_of_getElem? (i := 2) rfl), rin1 _ (List.mem_of_getElem? (i := 5) rfl), by show yX7_counts.cls ≠ _; decide +kernel, by show yX7_counts.cls ≠ _; decide +kernel, by show (parseMethodDescriptor yX7_counts.desc).map _ = _; decide +kernel⟩, rin33 _ (List.mem_of_getElem? (i := 0) rfl), rin33 _ (List.mem_of_getElem? (i := 1) rfl)⟩
def CX7_counts  (M : fxMem) : Option (Int32 × fxMem) := Option.bind (CX7_looksForWay M) fun q1 => if (0 : Int32) ≤ q1.1 then Option.bind (CX7_told (2 : Int32) q1.2) fun q19 => Option.bind (CX7_told (2 : Int32) q19.2) fun q27 => if q27.1 = (0 : Int32) then none else some ((((q1.2 0 17) + q19.1) - (1 : Int32)) / q27.1, q27.2) else some (q1.1, q1.2)
set_option maxRecDepth 100000 in
set_option maxHeartbeats 4000000 in
theorem tX7_counts  {M : fxMem} {R : Int32 × fxMem} (h : CX7_counts  M = some R) : fx_T gM mX7_counts [.ref 0] M (fx_ri R) := by
  rw [CX7_counts] at h
  refine fx_enter [(0, .ref 0)] (by show plainName RX7 = true; decide) (fun _ => rfl) (fun _ => Nat.le_of_ble_eq_true rfl) ?_
  refine fx_aload_n 0 dX7_counts_0 rfl 0 rfl ?_
  obtain ⟨q1, e1, h⟩ := fx_bd h
  refine fx_callVi 1 (mt' := mX7_looksForWay) (As := []) okm0 (okvX7_looksForWay _ _) lmX7_225 (by decide) rfl rfl (Nat.le_of_ble_eq_true rfl) dX7_counts_1 (tX7_looksForWay e1) ?_
  refine fx_istore_n 4 (lv' := [(1, .int q1.1), (0, .ref 0)]) dX7_counts_4 rfl (Nat.le_of_ble_eq_true rfl) rfl ?_
  refine fx_iload_n 5 dX7_counts_5 rfl 0 rfl ?_
  refine fx_if_ge 6 13 dX7_counts_6 (by decide) (fun c6 => ?_) (fun c6 => ?_)
  · replace h := fx_ip c6 h
    refine fx_aload_n 13 dX7_counts_13 rfl 1 rfl ?_
    refine fx_get 14 (j := 17) (v := .int (q1.2 0 17)) okm0 dX7_counts_14 lfX7_208 (by decide) (fun _ => rfl) ?_
    refine fx_aload_n 17 dX7_counts_17 rfl 1 rfl ?_
    refine fx_iconst 18 (x := (2 : Int32)) dX7_counts_18 (by decide) ?_
    obtain ⟨q19, e19, h⟩ := fx_bd h
    refine fx_callVi 19 (mt' := mX7_told) (As := [.int (2 : Int32)]) okm0 (okvX7_told _ _) lmX7_205 (by decide) rfl rfl (Nat.le_of_ble_eq_true rfl) dX7_counts_19 (tX7_told e19) ?_
    refine fx_iadd 22 dX7_counts_22 ?_
    refine fx_iconst 23 (x := (1 : Int32)) dX7_counts_23 (by decide) ?_
    refine fx_isub 24 dX7_counts_24 ?_
    refine fx_aload_n 25 dX7_counts_25 rfl 1 rfl ?_
    refine fx_iconst 26 (x := (2 : Int32)) dX7_counts_26 (by decide) ?_
    obtain ⟨q27, e27, h⟩ := fx_bd h
    refine fx_callVi 27 (mt' := mX7_told) (As := [.int (2 : Int32)]) okm0 (okvX7_told _ _) lmX7_205 (by decide) rfl rfl (Nat.le_of_ble_eq_true rfl) dX7_counts_27 (tX7_told e27) ?_
    obtain ⟨z30, h⟩ := fx_gn h
    refine fx_idiv 30 dX7_counts_30 z30 ?_
    obtain rfl := Option.some.inj h
    exact fx_iret 31 dX7_counts_31 rfl rfl ⟨rfl, rfl⟩
  · replace h := fx_ne c6 h
    refine fx_iload_n 9 dX7_counts_9 rfl 0 rfl ?_
    refine fx_goto 10 31 dX7_counts_10 (by decide) ?_
    obtain rfl := Option.some.inj h
    exact fx_iret 31 dX7_counts_31 rfl rfl ⟨rfl, rfl⟩
def mX7_meet : fxM := (yX7_meet, cX7_meet, 6, (some .int), 3, 120)
theorem okvX7_meet (f l : Nat) : fx_okV (yX7_meet, cX7_meet, 6, (some .int), f, l) 0 := ⟨⟨rin33 _ (List.mem_of_getElem? (i := 14) rfl), rin1 _ (List.mem_of_getElem? (i := 5) rfl), by show yX7_meet.cls ≠ _; decide +kernel, by show yX7_meet.cls ≠ _; decide +kernel, by show (parseMethodDescriptor yX7_meet.desc).map _ = _; decide +kernel⟩, rin33 _ (List.mem_of_getElem? (i := 12) rfl), rin33 _ (List.mem_of_getElem? (i := 13) rfl)⟩
def CX7_meet_L26 (x2 : Int32) : Nat → Int32 → Int32 → fxMem → (Int32 → Int32 → fxMem → Option (Int32 × fxMem)) → Option (Int32 × fxMem)
  | 0, _, _, _, _ => none
  | n + 1, x1, x3, M, k => if x2 ≤ x3 then k x1 x3 M else if fx_in ((150 : Int32) + x2) 900 = true then if fx_in ((160 : Int32) + x2) 900 = true then if fx_in ((150 : Int32) + x3) 900 = true then if fx_in ((160 : Int32) + x3) 900 = true then CX7_meet_L26 x2 n (x1 + (if (if ((M 1 ((150 : Int32) + x2).toNatClampNeg) / (8 : Int32)) + ((M 1 ((160 : Int32) + x2).toNatClampNeg) / (8 : Int32)) = ((M 1 ((150 : Int32) + x3).toNatClampNeg) / (8 : Int32)) + ((M 1 ((160 : Int32) + x3).toNatClampNeg) / (8 : Int32)) then (1 : Int32) else (0 : Int32)) = (0 : Int32) then (0 : Int32) else (if (if ((M 1 ((150 : Int32) + x2).toNatClampNeg) - (M 1 ((150 : Int32) + x2).toNatClampNeg) / (8 : Int32) * (8 : Int32)) + ((M 1 ((160 : Int32) + x2).toNatClampNeg) - (M 1 ((160 : Int32) + x2).toNatClampNeg) / (8 : Int32) * (8 : Int32)) = ((M 1 ((150 : Int32) + x3).toNatClampNeg) - (M 1 ((150 : Int32) + x3).toNatClampNeg) / (8 : Int32) * (8 : Int32)) + ((M 1 ((160 : Int32) + x3).toNatClampNeg) - (M 1 ((160 : Int32) + x3).toNatClampNeg) / (8 : Int32) * (8 : Int32)) then (1 : Int32) else (0 : Int32)) = (0 : Int32) then (0 : Int32) else (1 : Int32)))) (x3 + (1 : Int32)) M k else none else none else none else none
set_option maxRecDepth 100000 in
set_option maxHeartbeats 4000000 in
theorem vX7_meet_L26 {x2 : Int32} {R : Int32 × fxMem} {k : Int32 → Int32 → fxMem → Option (Int32 × fxMem)} (hk : ∀ (x1 : Int32) (x3 : Int32) (M : fxMem), k x1 x3 M = some R → fx_V gM mX7_meet (fx_ri R) 183 [(0, .ref 0), (1, .int x1), (2, .int x2), (3, .int x3)] [] M) : ∀ (n : Nat) (x1 : Int32) (x3 : Int32) (M : fxMem), CX7_meet_L26 x2 n x1 x3 M k = some R → fx_V gM mX7_meet (fx_ri R) 26 [(0, .ref 0), (1, .int x1), (2, .int x2), (3, .int x3)] [] M := by
  intro n
  induction n with
  | zero => intro x1 x3 M h; rw [CX7_meet_L26] at h; cases h
  | succ n ih =>
    intro x1 x3 M h
    rw [CX7_meet_L26] at h
    refine fx_iload_n 26 dX7_meet_26 rfl 3 rfl ?_
    refine fx_iload_n 27 dX7_meet_27 rfl 2 rfl ?_
    refine fx_icmp_ge 28 183 dX7_meet_28 (by decide) (fun c28 => ?_) (fun c28 => ?_)
    · replace h := fx_ip c28 h
      refine fx_sub [0, 1, 2, 3] rfl ?_
      exact hk _ _ _ h
    · replace h := fx_ne c28 h
      refine fx_aload_n 31 dX7_meet_31 rfl 0 rfl ?_
      refine fx_get 32 (j := 1) (v := .ref 1) okm0 dX7_meet_32 lfX7_7 (by decide) (fun _ => rfl) ?_
      refine fx_sipush 35 (x := (150 : Int32)) dX7_meet_35 (by decide) ?_
      refine fx_iload_n 38 dX7_meet_38 rfl 2 rfl ?_
      refine fx_iadd 39 dX7_meet_39 ?_
      obtain ⟨g40, h⟩ := fx_gt h
      refine fx_iald 40 okb1 dX7_meet_40 g40 ?_
      refine fx_bipush 41 (x := (8 : Int32)) dX7_meet_41 (by decide) ?_
      refine fx_idiv 43 dX7_meet_43 (by decide) ?_
      refine fx_aload_n 44 dX7_meet_44 rfl 0 rfl ?_
      refine fx_get 45 (j := 1) (v := .ref 1) okm0 dX7_meet_45 lfX7_7 (by decide) (fun _ => rfl) ?_
      refine fx_sipush 48 (x := (160 : Int32)) dX7_meet_48 (by decide) ?_
      refine fx_iload_n 51 dX7_meet_51 rfl 2 rfl ?_
      refine fx_iadd 52 dX7_meet_52 ?_
      obtain ⟨g53, h⟩ := fx_gt h
      refine fx_iald 53 okb1 dX7_meet_53 g53 ?_
      refine fx_bipush 54 (x := (8 : Int32)) dX7_meet_54 (by decide) ?_
      refine fx_idiv 56 dX7_meet_56 (by decide) ?_
      refine fx_iadd 57 dX7_meet_57 ?_
      refine fx_aload_n 58 dX7_meet_58 rfl 0 rfl ?_
      refine fx_get 59 (j := 1) (v := .ref 1) okm0 dX7_meet_59 lfX7_7 (by decide) (fun _ => rfl) ?_
      refine fx_sipush 62 (x := (150 : Int32)) dX7_meet_62 (by decide) ?_
      refine fx_iload_n 65 dX7_meet_65 rfl 3 rfl ?_
      refine fx_iadd 66 dX7_meet_66 ?_
      obtain ⟨g67, h⟩ := fx_gt h
      refine fx_iald 67 okb1 dX7_meet_67 g67 ?_
      refine fx_bipush 68 (x := (8 : Int32)) dX7_meet_68 (by decide) ?_
      refine fx_idiv 70 dX7_meet_70 (by decide) ?_
      refine fx_aload_n 71 dX7_meet_71 rfl 0 rfl ?_
      refine fx_get 72 (j := 1) (v := .ref 1) okm0 dX7_meet_72 lfX7_7 (by decide) (fun _ => rfl) ?_
      refine fx_sipush 75 (x := (160 : Int32)) dX7_meet_75 (by decide) ?_
      refine fx_iload_n 78 dX7_meet_78 rfl 3 rfl ?_
      refine fx_iadd 79 dX7_meet_79 ?_
      obtain ⟨g80, h⟩ := fx_gt h
      refine fx_iald 80 okb1 dX7_meet_80 g80 ?_
      refine fx_bipush 81 (x := (8 : Int32)) dX7_meet_81 (by decide) ?_
      refine fx_idiv 83 dX7_meet_83 (by decide) ?_
      refine fx_iadd 84 dX7_meet_84 ?_
      have J : fx_V gM mX7_meet (fx_ri R) 93 [(0, .ref 0), (1, .int x1), (2, .int x2), (3, .int x3)] [.int (if ((M 1 ((150 : Int32) + x2).toNatClampNeg) / (8 : Int32)) + ((M 1 ((160 : Int32) + x2).toNatClampNeg) / (8 : Int32)) = ((M 1 ((150 : Int32) + x3).toNatClampNeg) / (8 : Int32)) + ((M 1 ((160 : Int32) + x3).toNatClampNeg) / (8 : Int32)) then (1 : Int32) else (0 : Int32))] M := by
        refine fx_istore 93 (lv' := [(4, .int (if ((M 1 ((150 : Int32) + x2).toNatClampNeg) / (8 : Int32)) + ((M 1 ((160 : Int32) + x2).toNatClampNeg) / (8 : Int32)) = ((M 1 ((150 : Int32) + x3).toNatClampNeg) / (8 : Int32)) + ((M 1 ((160 : Int32) + x3).toNatClampNeg) / (8 : Int32)) then (1 : Int32) else (0 : Int32))), (0, .ref 0), (1, .int x1), (2, .int x2), (3, .int x3)]) dX7_meet_93 (Nat.le_of_ble_eq_true rfl) rfl ?_
        refine fx_aload_n 95 dX7_meet_95 rfl 1 rfl ?_
        refine fx_get 96 (j := 1) (v := .ref 1) okm0 dX7_meet_96 lfX7_7 (by decide) (fun _ => rfl) ?_
        refine fx_sipush 99 (x := (150 : Int32)) dX7_meet_99 (by decide) ?_
        refine fx_iload_n 102 dX7_meet_102 rfl 3 rfl ?_
        refine fx_iadd 103 dX7_meet_103 ?_
        refine fx_iald 104 okb1 dX7_meet_104 g40 ?_
        refine fx_bipush 105 (x := (8 : Int32)) dX7_meet_105 (by decide) ?_
        refine fx_irem 107 dX7_meet_107 (by decide) ?_
        refine fx_aload_n 108 dX7_meet_108 rfl 1 rfl ?_
        refine fx_get 109 (j := 1) (v := .ref 1) okm0 dX7_meet_109 lfX7_7 (by decide) (fun _ => rfl) ?_
        refine fx_sipush 112 (x := (160 : Int32)) dX7_meet_112 (by decide) ?_
        refine fx_iload_n 115 dX7_meet_115 rfl 3 rfl ?_
        refine fx_iadd 116 dX7_meet_116 ?_
        refine fx_iald 117 okb1 dX7_meet_117 g53 ?_
        refine fx_bipush 118 (x := (8 : Int32)) dX7_meet_118 (by decide) ?_
        refine fx_irem 120 dX7_meet_120 (by decide) ?_
        refine fx_iadd 121 dX7_meet_121 ?_
        refine fx_aload_n 122 dX7_meet_122 rfl 1 rfl ?_
        refine fx_get 123 (j := 1) (v := .ref 1) okm0 dX7_meet_123 lfX7_7 (by decide) (fun _ => rfl) ?_
        refine fx_sipush 126 (x := (150 : Int32)) dX7_meet_126 (by decide) ?_
        refine fx_iload_n 129 dX7_meet_129 rfl 4 rfl ?_
        refine fx_iadd 130 dX7_meet_130 ?_
        refine fx_iald 131 okb1 dX7_meet_131 g67 ?_
        refine fx_bipush 132 (x := (8 : Int32)) dX7_meet_132 (by decide) ?_
        refine fx_irem 134 dX7_meet_134 (by decide) ?_
        refine fx_aload_n 135 dX7_meet_135 rfl 1 rfl ?_
        refine fx_get 136 (j := 1) (v := .ref 1) okm0 dX7_meet_136 lfX7_7 (by decide) (fun _ => rfl) ?_
        refine fx_sipush 139 (x := (160 : Int32)) dX7_meet_139 (by decide) ?_
        refine fx_iload_n 142 dX7_meet_142 rfl 4 rfl ?_
        refine fx_iadd 143 dX7_meet_143 ?_
        refine fx_iald 144 okb1 dX7_meet_144 g80 ?_
        refine fx_bipush 145 (x := (8 : Int32)) dX7_meet_145 (by decide) ?_
        refine fx_irem 147 dX7_meet_147 (by decide) ?_
        refine fx_iadd 148 dX7_meet_148 ?_
        have J : fx_V gM mX7_meet (fx_ri R) 157 [(0, .ref 0), (1, .int x1), (2, .int x2), (3, .int x3), (4, .int (if ((M 1 ((150 : Int32) + x2).toNatClampNeg) / (8 : Int32)) + ((M 1 ((160 : Int32) + x2).toNatClampNeg) / (8 : Int32)) = ((M 1 ((150 : Int32) + x3).toNatClampNeg) / (8 : Int32)) + ((M 1 ((160 : Int32) + x3).toNatClampNeg) / (8 : Int32)) then (1 : Int32) else (0 : Int32)))] [.int (if ((M 1 ((150 : Int32) + x2).toNatClampNeg) - (M 1 ((150 : Int32) + x2).toNatClampNeg) / (8 : Int32) * (8 : Int32)) + ((M 1 ((160 : Int32) + x2).toNatClampNeg) - (M 1 ((160 : Int32) + x2).toNatClampNeg) / (8 : Int32) * (8 : Int32)) = ((M 1 ((150 : Int32) + x3).toNatClampNeg) - (M 1 ((150 : Int32) + x3).toNatClampNeg) / (8 : Int32) * (8 : Int32)) + ((M 1 ((160 : Int32) + x3).toNatClampNeg) - (M 1 ((160 : Int32) + x3).toNatClampNeg) / (8 : Int32) * (8 : Int32)) then (1 : Int32) else (0 : Int32))] M := by
          refine fx_istore 157 (lv' := [(5, .int (if ((M 1 ((150 : Int32) + x2).toNatClampNeg) - (M 1 ((150 : Int32) + x2).toNatClampNeg) / (8 : Int32) * (8 : Int32)) + ((M 1 ((160 : Int32) + x2).toNatClampNeg) - (M 1 ((160 : Int32) + x2).toNatClampNeg) / (8 : Int32) * (8 : Int32)) = ((M 1 ((150 : Int32) + x3).toNatClampNeg) - (M 1 ((150 : Int32) + x3).toNatClampNeg) / (8 : Int32) * (8 : Int32)) + ((M 1 ((160 : Int32) + x3).toNatClampNeg) - (M 1 ((160 : Int32) + x3).toNatClampNeg) / (8 : Int32) * (8 : Int32)) then (1 : Int32) else (0 : Int32))), (0, .ref 0), (1, .int x1), (2, .int x2), (3, .int x3), (4, .int (if ((M 1 ((150 : Int32) + x2).toNatClampNeg) / (8 : Int32)) + ((M 1 ((160 : Int32) + x2).toNatClampNeg) / (8 : Int32)) = ((M 1 ((150 : Int32) + x3).toNatClampNeg) / (8 : Int32)) + ((M 1 ((160 : Int32) + x3).toNatClampNeg) / (8 : Int32)) then (1 : Int32) else (0 : Int32)))]) dX7_meet_157 (Nat.le_of_ble_eq_true rfl) rfl ?_
          refine fx_iload_n 159 dX7_meet_159 rfl 2 rfl ?_
          refine fx_iload 160 dX7_meet_160 5 rfl ?_
          have J : fx_V gM mX7_meet (fx_ri R) 175 [(0, .ref 0), (1, .int x1), (2, .int x2), (3, .int x3), (4, .int (if ((M 1 ((150 : Int32) + x2).toNatClampNeg) / (8 : Int32)) + ((M 1 ((160 : Int32) + x2).toNatClampNeg) / (8 : Int32)) = ((M 1 ((150 : Int32) + x3).toNatClampNeg) / (8 : Int32)) + ((M 1 ((160 : Int32) + x3).toNatClampNeg) / (8 : Int32)) then (1 : Int32) else (0 : Int32))), (5, .int (if ((M 1 ((150 : Int32) + x2).toNatClampNeg) - (M 1 ((150 : Int32) + x2).toNatClampNeg) / (8 : Int32) * (8 : Int32)) + ((M 1 ((160 : Int32) + x2).toNatClampNeg) - (M 1 ((160 : Int32) + x2).toNatClampNeg) / (8 : Int32) * (8 : Int32)) = ((M 1 ((150 : Int32) + x3).toNatClampNeg) - (M 1 ((150 : Int32) + x3).toNatClampNeg) / (8 : Int32) * (8 : Int32)) + ((M 1 ((160 : Int32) + x3).toNatClampNeg) - (M 1 ((160 : Int32) + x3).toNatClampNeg) / (8 : Int32) * (8 : Int32)) then (1 : Int32) else (0 : Int32)))] [.int (if (if ((M 1 ((150 : Int32) + x2).toNatClampNeg) / (8 : Int32)) + ((M 1 ((160 : Int32) + x2).toNatClampNeg) / (8 : Int32)) = ((M 1 ((150 : Int32) + x3).toNatClampNeg) / (8 : Int32)) + ((M 1 ((160 : Int32) + x3).toNatClampNeg) / (8 : Int32)) then (1 : Int32) else (0 : Int32)) = (0 : Int32) then (0 : Int32) else (if (if ((M 1 ((150 : Int32) + x2).toNatClampNeg) - (M 1 ((150 : Int32) + x2).toNatClampNeg) / (8 : Int32) * (8 : Int32)) + ((M 1 ((160 : Int32) + x2).toNatClampNeg) - (M 1 ((160 : Int32) + x2).toNatClampNeg) / (8 : Int32) * (8 : Int32)) = ((M 1 ((150 : Int32) + x3).toNatClampNeg) - (M 1 ((150 : Int32) + x3).toNatClampNeg) / (8 : Int32) * (8 : Int32)) + ((M 1 ((160 : Int32) + x3).toNatClampNeg) - (M 1 ((160 : Int32) + x3).toNatClampNeg) / (8 : Int32) * (8 : Int32)) then (1 : Int32) else (0 : Int32)) = (0 : Int32) then (0 : Int32) else (1 : Int32))), .int x1] M := by
            refine fx_iadd 175 dX7_meet_175 ?_
            refine fx_istore_n 176 (lv' := [(1, .int (x1 + (if (if ((M 1 ((150 : Int32) + x2).toNatClampNeg) / (8 : Int32)) + ((M 1 ((160 : Int32) + x2).toNatClampNeg) / (8 : Int32)) = ((M 1 ((150 : Int32) + x3).toNatClampNeg) / (8 : Int32)) + ((M 1 ((160 : Int32) + x3).toNatClampNeg) / (8 : Int32)) then (1 : Int32) else (0 : Int32)) = (0 : Int32) then (0 : Int32) else (if (if ((M 1 ((150 : Int32) + x2).toNatClampNeg) - (M 1 ((150 : Int32) + x2).toNatClampNeg) / (8 : Int32) * (8 : Int32)) + ((M 1 ((160 : Int32) + x2).toNatClampNeg) - (M 1 ((160 : Int32) + x2).toNatClampNeg) / (8 : Int32) * (8 : Int32)) = ((M 1 ((150 : Int32) + x3).toNatClampNeg) - (M 1 ((150 : Int32) + x3).toNatClampNeg) / (8 : Int32) * (8 : Int32)) + ((M 1 ((160 : Int32) + x3).toNatClampNeg) - (M 1 ((160 : Int32) + x3).toNatClampNeg) / (8 : Int32) * (8 : Int32)) then (1 : Int32) else (0 : Int32)) = (0 : Int32) then (0 : Int32) else (1 : Int32))))), (0, .ref 0), (2, .int x2), (3, .int x3), (4, .int (if ((M 1 ((150 : Int32) + x2).toNatClampNeg) / (8 : Int32)) + ((M 1 ((160 : Int32) + x2).toNatClampNeg) / (8 : Int32)) = ((M 1 ((150 : Int32) + x3).toNatClampNeg) / (8 : Int32)) + ((M 1 ((160 : Int32) + x3).toNatClampNeg) / (8 : Int32)) then (1 : Int32) else (0 : Int32))), (5, .int (if ((M 1 ((150 : Int32) + x2).toNatClampNeg) - (M 1 ((150 : Int32) + x2).toNatClampNeg) / (8 : Int32) * (8 : Int32)) + ((M 1 ((160 : Int32) + x2).toNatClampNeg) - (M 1 ((160 : Int32) + x2).toNatClampNeg) / (8 : Int32) * (8 : Int32)) = ((M 1 ((150 : Int32) + x3).toNatClampNeg) - (M 1 ((150 : Int32) + x3).toNatClampNeg) / (8 : Int32) * (8 : Int32)) + ((M 1 ((160 : Int32) + x3).toNatClampNeg) - (M 1 ((160 : Int32) + x3).toNatClampNeg) / (8 : Int32) * (8 : Int32)) then (1 : Int32) else (0 : Int32)))]) dX7_meet_176 rfl (Nat.le_of_ble_eq_true rfl) rfl ?_
            refine fx_iinc 177 (lv' := [(3, .int (x3 + (1 : Int32))), (1, .int (x1 + (if (if ((M 1 ((150 : Int32) + x2).toNatClampNeg) / (8 : Int32)) + ((M 1 ((160 : Int32) + x2).toNatClampNeg) / (8 : Int32)) = ((M 1 ((150 : Int32) + x3).toNatClampNeg) / (8 : Int32)) + ((M 1 ((160 : Int32) + x3).toNatClampNeg) / (8 : Int32)) then (1 : Int32) else (0 : Int32)) = (0 : Int32) then (0 : Int32) else (if (if ((M 1 ((150 : Int32) + x2).toNatClampNeg) - (M 1 ((150 : Int32) + x2).toNatClampNeg) / (8 : Int32) * (8 : Int32)) + ((M 1 ((160 : Int32) + x2).toNatClampNeg) - (M 1 ((160 : Int32) + x2).toNatClampNeg) / (8 : Int32) * (8 : Int32)) = ((M 1 ((150 : Int32) + x3).toNatClampNeg) - (M 1 ((150 : Int32) + x3).toNatClampNeg) / (8 : Int32) * (8 : Int32)) + ((M 1 ((160 : Int32) + x3).toNatClampNeg) - (M 1 ((160 : Int32) + x3).toNatClampNeg) / (8 : Int32) * (8 : Int32)) then (1 : Int32) else (0 : Int32)) = (0 : Int32) then (0 : Int32) else (1 : Int32))))), (0, .ref 0), (2, .int x2), (4, .int (if ((M 1 ((150 : Int32) + x2).toNatClampNeg) / (8 : Int32)) + ((M 1 ((160 : Int32) + x2).toNatClampNeg) / (8 : Int32)) = ((M 1 ((150 : Int32) + x3).toNatClampNeg) / (8 : Int32)) + ((M 1 ((160 : Int32) + x3).toNatClampNeg) / (8 : Int32)) then (1 : Int32) else (0 : Int32))), (5, .int (if ((M 1 ((150 : Int32) + x2).toNatClampNeg) - (M 1 ((150 : Int32) + x2).toNatClampNeg) / (8 : Int32) * (8 : Int32)) + ((M 1 ((160 : Int32) + x2).toNatClampNeg) - (M 1 ((160 : Int32) + x2).toNatClampNeg) / (8 : Int32) * (8 : Int32)) = ((M 1 ((150 : Int32) + x3).toNatClampNeg) - (M 1 ((150 : Int32) + x3).toNatClampNeg) / (8 : Int32) * (8 : Int32)) + ((M 1 ((160 : Int32) + x3).toNatClampNeg) - (M 1 ((160 : Int32) + x3).toNatClampNeg) / (8 : Int32) * (8 : Int32)) then (1 : Int32) else (0 : Int32)))]) (y := x3 + (1 : Int32)) dX7_meet_177 3 rfl (by rfl) (Nat.le_of_ble_eq_true rfl) rfl ?_
            refine fx_goto 180 26 dX7_meet_180 (by decide) ?_
            refine fx_sub [2, 1, 3, 0] rfl ?_
            exact ih _ _ _ h
          refine fx_if_eq 162 174 dX7_meet_162 (by decide) (fun c162 => ?_) (fun c162 => ?_)
          · refine fx_iconst 174 (x := (0 : Int32)) dX7_meet_174 (by decide) ?_
            refine fx_sub (lv' := [(0, .ref 0), (1, .int x1), (2, .int x2), (3, .int x3), (4, .int (if ((M 1 ((150 : Int32) + x2).toNatClampNeg) / (8 : Int32)) + ((M 1 ((160 : Int32) + x2).toNatClampNeg) / (8 : Int32)) = ((M 1 ((150 : Int32) + x3).toNatClampNeg) / (8 : Int32)) + ((M 1 ((160 : Int32) + x3).toNatClampNeg) / (8 : Int32)) then (1 : Int32) else (0 : Int32))), (5, .int (if ((M 1 ((150 : Int32) + x2).toNatClampNeg) - (M 1 ((150 : Int32) + x2).toNatClampNeg) / (8 : Int32) * (8 : Int32)) + ((M 1 ((160 : Int32) + x2).toNatClampNeg) - (M 1 ((160 : Int32) + x2).toNatClampNeg) / (8 : Int32) * (8 : Int32)) = ((M 1 ((150 : Int32) + x3).toNatClampNeg) - (M 1 ((150 : Int32) + x3).toNatClampNeg) / (8 : Int32) * (8 : Int32)) + ((M 1 ((160 : Int32) + x3).toNatClampNeg) - (M 1 ((160 : Int32) + x3).toNatClampNeg) / (8 : Int32) * (8 : Int32)) then (1 : Int32) else (0 : Int32)))]) [1, 2, 3, 4, 5, 0] rfl ?_
            show fx_V gM mX7_meet (fx_ri R) 175 [(0, .ref 0), (1, .int x1), (2, .int x2), (3, .int x3), (4, .int (if ((M 1 ((150 : Int32) + x2).toNatClampNeg) / (8 : Int32)) + ((M 1 ((160 : Int32) + x2).toNatClampNeg) / (8 : Int32)) = ((M 1 ((150 : Int32) + x3).toNatClampNeg) / (8 : Int32)) + ((M 1 ((160 : Int32) + x3).toNatClampNeg) / (8 : Int32)) then (1 : Int32) else (0 : Int32))), (5, .int (if ((M 1 ((150 : Int32) + x2).toNatClampNeg) - (M 1 ((150 : Int32) + x2).toNatClampNeg) / (8 : Int32) * (8 : Int32)) + ((M 1 ((160 : Int32) + x2).toNatClampNeg) - (M 1 ((160 : Int32) + x2).toNatClampNeg) / (8 : Int32) * (8 : Int32)) = ((M 1 ((150 : Int32) + x3).toNatClampNeg) - (M 1 ((150 : Int32) + x3).toNatClampNeg) / (8 : Int32) * (8 : Int32)) + ((M 1 ((160 : Int32) + x3).toNatClampNeg) - (M 1 ((160 : Int32) + x3).toNatClampNeg) / (8 : Int32) * (8 : Int32)) then (1 : Int32) else (0 : Int32)))] [.int (0 : Int32), .int x1] M
            simpa only [if_pos c162] using J
          · refine fx_iload 165 dX7_meet_165 0 rfl ?_
            refine fx_if_eq 167 174 dX7_meet_167 (by decide) (fun c167 => ?_) (fun c167 => ?_)
            · refine fx_iconst 174 (x := (0 : Int32)) dX7_meet_174 (by decide) ?_
              refine fx_sub (lv' := [(0, .ref 0), (1, .int x1), (2, .int x2), (3, .int x3), (4, .int (if ((M 1 ((150 : Int32) + x2).toNatClampNeg) / (8 : Int32)) + ((M 1 ((160 : Int32) + x2).toNatClampNeg) / (8 : Int32)) = ((M 1 ((150 : Int32) + x3).toNatClampNeg) / (8 : Int32)) + ((M 1 ((160 : Int32) + x3).toNatClampNeg) / (8 : Int32)) then (1 : Int32) else (0 : Int32))), (5, .int (if ((M 1 ((150 : Int32) + x2).toNatClampNeg) - (M 1 ((150 : Int32) + x2).toNatClampNeg) / (8 : Int32) * (8 : Int32)) + ((M 1 ((160 : Int32) + x2).toNatClampNeg) - (M 1 ((160 : Int32) + x2).toNatClampNeg) / (8 : Int32) * (8 : Int32)) = ((M 1 ((150 : Int32) + x3).toNatClampNeg) - (M 1 ((150 : Int32) + x3).toNatClampNeg) / (8 : Int32) * (8 : Int32)) + ((M 1 ((160 : Int32) + x3).toNatClampNeg) - (M 1 ((160 : Int32) + x3).toNatClampNeg) / (8 : Int32) * (8 : Int32)) then (1 : Int32) else (0 : Int32)))]) [1, 2, 3, 4, 5, 0] rfl ?_
              show fx_V gM mX7_meet (fx_ri R) 175 [(0, .ref 0), (1, .int x1), (2, .int x2), (3, .int x3), (4, .int (if ((M 1 ((150 : Int32) + x2).toNatClampNeg) / (8 : Int32)) + ((M 1 ((160 : Int32) + x2).toNatClampNeg) / (8 : Int32)) = ((M 1 ((150 : Int32) + x3).toNatClampNeg) / (8 : Int32)) + ((M 1 ((160 : Int32) + x3).toNatClampNeg) / (8 : Int32)) then (1 : Int32) else (0 : Int32))), (5, .int (if ((M 1 ((150 : Int32) + x2).toNatClampNeg) - (M 1 ((150 : Int32) + x2).toNatClampNeg) / (8 : Int32) * (8 : Int32)) + ((M 1 ((160 : Int32) + x2).toNatClampNeg) - (M 1 ((160 : Int32) + x2).toNatClampNeg) / (8 : Int32) * (8 : Int32)) = ((M 1 ((150 : Int32) + x3).toNatClampNeg) - (M 1 ((150 : Int32) + x3).toNatClampNeg) / (8 : Int32) * (8 : Int32)) + ((M 1 ((160 : Int32) + x3).toNatClampNeg) - (M 1 ((160 : Int32) + x3).toNatClampNeg) / (8 : Int32) * (8 : Int32)) then (1 : Int32) else (0 : Int32)))] [.int (0 : Int32), .int x1] M
              simpa only [if_neg c162, if_pos c167] using J
            · refine fx_iconst 170 (x := (1 : Int32)) dX7_meet_170 (by decide) ?_
              refine fx_goto 171 175 dX7_meet_171 (by decide) ?_
              refine fx_sub (lv' := [(0, .ref 0), (1, .int x1), (2, .int x2), (3, .int x3), (4, .int (if ((M 1 ((150 : Int32) + x2).toNatClampNeg) / (8 : Int32)) + ((M 1 ((160 : Int32) + x2).toNatClampNeg) / (8 : Int32)) = ((M 1 ((150 : Int32) + x3).toNatClampNeg) / (8 : Int32)) + ((M 1 ((160 : Int32) + x3).toNatClampNeg) / (8 : Int32)) then (1 : Int32) else (0 : Int32))), (5, .int (if ((M 1 ((150 : Int32) + x2).toNatClampNeg) - (M 1 ((150 : Int32) + x2).toNatClampNeg) / (8 : Int32) * (8 : Int32)) + ((M 1 ((160 : Int32) + x2).toNatClampNeg) - (M 1 ((160 : Int32) + x2).toNatClampNeg) / (8 : Int32) * (8 : Int32)) = ((M 1 ((150 : Int32) + x3).toNatClampNeg) - (M 1 ((150 : Int32) + x3).toNatClampNeg) / (8 : Int32) * (8 : Int32)) + ((M 1 ((160 : Int32) + x3).toNatClampNeg) - (M 1 ((160 : Int32) + x3).toNatClampNeg) / (8 : Int32) * (8 : Int32)) then (1 : Int32) else (0 : Int32)))]) [1, 2, 3, 4, 5, 0] rfl ?_
              show fx_V gM mX7_meet (fx_ri R) 175 [(0, .ref 0), (1, .int x1), (2, .int x2), (3, .int x3), (4, .int (if ((M 1 ((150 : Int32) + x2).toNatClampNeg) / (8 : Int32)) + ((M 1 ((160 : Int32) + x2).toNatClampNeg) / (8 : Int32)) = ((M 1 ((150 : Int32) + x3).toNatClampNeg) / (8 : Int32)) + ((M 1 ((160 : Int32) + x3).toNatClampNeg) / (8 : Int32)) then (1 : Int32) else (0 : Int32))), (5, .int (if ((M 1 ((150 : Int32) + x2).toNatClampNeg) - (M 1 ((150 : Int32) + x2).toNatClampNeg) / (8 : Int32) * (8 : Int32)) + ((M 1 ((160 : Int32) + x2).toNatClampNeg) - (M 1 ((160 : Int32) + x2).toNatClampNeg) / (8 : Int32) * (8 : Int32)) = ((M 1 ((150 : Int32) + x3).toNatClampNeg) - (M 1 ((150 : Int32) + x3).toNatClampNeg) / (8 : Int32) * (8 : Int32)) + ((M 1 ((160 : Int32) + x3).toNatClampNeg) - (M 1 ((160 : Int32) + x3).toNatClampNeg) / (8 : Int32) * (8 : Int32)) then (1 : Int32) else (0 : Int32)))] [.int (1 : Int32), .int x1] M
              simpa only [if_neg c162, if_neg c167] using J
        refine fx_icmp_ne 149 156 dX7_meet_149 (by decide) (fun c149 => ?_) (fun c149 => ?_)
        · refine fx_iconst 156 (x := (0 : Int32)) dX7_meet_156 (by decide) ?_
          refine fx_sub (lv' := [(0, .ref 0), (1, .int x1), (2, .int x2), (3, .int x3), (4, .int (if ((M 1 ((150 : Int32) + x2).toNatClampNeg) / (8 : Int32)) + ((M 1 ((160 : Int32) + x2).toNatClampNeg) / (8 : Int32)) = ((M 1 ((150 : Int32) + x3).toNatClampNeg) / (8 : Int32)) + ((M 1 ((160 : Int32) + x3).toNatClampNeg) / (8 : Int32)) then (1 : Int32) else (0 : Int32)))]) [1, 2, 3, 4, 0] rfl ?_
          show fx_V gM mX7_meet (fx_ri R) 157 [(0, .ref 0), (1, .int x1), (2, .int x2), (3, .int x3), (4, .int (if ((M 1 ((150 : Int32) + x2).toNatClampNeg) / (8 : Int32)) + ((M 1 ((160 : Int32) + x2).toNatClampNeg) / (8 : Int32)) = ((M 1 ((150 : Int32) + x3).toNatClampNeg) / (8 : Int32)) + ((M 1 ((160 : Int32) + x3).toNatClampNeg) / (8 : Int32)) then (1 : Int32) else (0 : Int32)))] [.int (0 : Int32)] M
          simpa only [if_neg c149] using J
        · refine fx_iconst 152 (x := (1 : Int32)) dX7_meet_152 (by decide) ?_
          refine fx_goto 153 157 dX7_meet_153 (by decide) ?_
          refine fx_sub (lv' := [(0, .ref 0), (1, .int x1), (2, .int x2), (3, .int x3), (4, .int (if ((M 1 ((150 : Int32) + x2).toNatClampNeg) / (8 : Int32)) + ((M 1 ((160 : Int32) + x2).toNatClampNeg) / (8 : Int32)) = ((M 1 ((150 : Int32) + x3).toNatClampNeg) / (8 : Int32)) + ((M 1 ((160 : Int32) + x3).toNatClampNeg) / (8 : Int32)) then (1 : Int32) else (0 : Int32)))]) [1, 2, 3, 4, 0] rfl ?_
          show fx_V gM mX7_meet (fx_ri R) 157 [(0, .ref 0), (1, .int x1), (2, .int x2), (3, .int x3), (4, .int (if ((M 1 ((150 : Int32) + x2).toNatClampNeg) / (8 : Int32)) + ((M 1 ((160 : Int32) + x2).toNatClampNeg) / (8 : Int32)) = ((M 1 ((150 : Int32) + x3).toNatClampNeg) / (8 : Int32)) + ((M 1 ((160 : Int32) + x3).toNatClampNeg) / (8 : Int32)) then (1 : Int32) else (0 : Int32)))] [.int (1 : Int32)] M
          simpa only [if_pos c149] using J
      refine fx_icmp_ne 85 92 dX7_meet_85 (by decide) (fun c85 => ?_) (fun c85 => ?_)
      · refine fx_iconst 92 (x := (0 : Int32)) dX7_meet_92 (by decide) ?_
        refine fx_sub (lv' := [(0, .ref 0), (1, .int x1), (2, .int x2), (3, .int x3)]) [0, 1, 2, 3] rfl ?_
        show fx_V gM mX7_meet (fx_ri R) 93 [(0, .ref 0), (1, .int x1), (2, .int x2), (3, .int x3)] [.int (0 : Int32)] M
        simpa only [if_neg c85] using J
      · refine fx_iconst 88 (x := (1 : Int32)) dX7_meet_88 (by decide) ?_
        refine fx_goto 89 93 dX7_meet_89 (by decide) ?_
        refine fx_sub (lv' := [(0, .ref 0), (1, .int x1), (2, .int x2), (3, .int x3)]) [0, 1, 2, 3] rfl ?_
        show fx_V gM mX7_meet (fx_ri R) 93 [(0, .ref 0), (1, .int x1), (2, .int x2), (3, .int x3)] [.int (1 : Int32)] M
        simpa only [if_pos c85] using J
def CX7_meet_L14 : Nat → Int32 → Int32 → fxMem → (Int32 → Int32 → fxMem → Option (Int32 × fxMem)) → Option (Int32 × fxMem)
  | 0, _, _, _, _ => none
  | n + 1, x1, x2, M, k => if fx_in (0 : Int32) 900 = true then if M 1 (0 : Int32).toNatClampNeg ≤ x2 then k x1 x2 M else CX7_meet_L26 x2 1000 x1 (0 : Int32) M (fun y1_26 y3_26 M26 => CX7_meet_L14  n y1_26 (x2 + (1 : Int32)) M26 k) else none
set_option maxRecDepth 100000 in
set_option maxHeartbeats 4000000 in
theorem vX7_meet_L14 {R : Int32 × fxMem} {k : Int32 → Int32 → fxMem → Option (Int32 × fxMem)} (hk : ∀ (x1 : Int32) (x2 : Int32) (M : fxMem), k x1 x2 M = some R → fx_V gM mX7_meet (fx_ri R) 189 [(0, .ref 0), (1, .int x1), (2, .int x2)] [] M) : ∀ (n : Nat) (x1 : Int32) (x2 : Int32) (M : fxMem), CX7_meet_L14  n x1 x2 M k = some R → fx_V gM mX7_meet (fx_ri R) 14 [(0, .ref 0), (1, .int x1), (2, .int x2)] [] M := by
  intro n
  induction n with
  | zero => intro x1 x2 M h; rw [CX7_meet_L14] at h; cases h
  | succ n ih =>
    intro x1 x2 M h
    rw [CX7_meet_L14] at h
    refine fx_iload_n 14 dX7_meet_14 rfl 2 rfl ?_
    refine fx_aload_n 15 dX7_meet_15 rfl 0 rfl ?_
    refine fx_get 16 (j := 1) (v := .ref 1) okm0 dX7_meet_16 lfX7_7 (by decide) (fun _ => rfl) ?_
    refine fx_iconst 19 (x := (0 : Int32)) dX7_meet_19 (by decide) ?_
    obtain ⟨g20, h⟩ := fx_gt h
    refine fx_iald 20 okb1 dX7_meet_20 g20 ?_
    refine fx_icmp_ge 21 189 dX7_meet_21 (by decide) (fun c21 => ?_) (fun c21 => ?_)
    · replace h := fx_ip c21 h
      refine fx_sub [0, 1, 2] rfl ?_
      exact hk _ _ _ h
    · replace h := fx_ne c21 h
      refine fx_iconst 24 (x := (0 : Int32)) dX7_meet_24 (by decide) ?_
      refine fx_istore_n 25 (lv' := [(3, .int (0 : Int32)), (0, .ref 0), (1, .int x1), (2, .int x2)]) dX7_meet_25 rfl (Nat.le_of_ble_eq_true rfl) rfl ?_
      refine fx_sub [1, 2, 3, 0] rfl ?_
      refine vX7_meet_L26 (fun y1_26 y3_26 M26 h => ?_) 1000 _ _ _ h
      refine fx_iinc 183 (lv' := [(2, .int (x2 + (1 : Int32))), (0, .ref 0), (1, .int y1_26), (3, .int y3_26)]) (y := x2 + (1 : Int32)) dX7_meet_183 2 rfl (by rfl) (Nat.le_of_ble_eq_true rfl) rfl ?_
      refine fx_goto 186 14 dX7_meet_186 (by decide) ?_
      refine fx_sub [1, 2, 0] rfl ?_
      exact ih _ _ _ h
def CX7_meet  (M : fxMem) : Option (Int32 × fxMem) := Option.bind (CX7_isTooFew M) fun q1 => if q1.1 = (0 : Int32) then CX7_meet_L14  1000 (0 : Int32) (0 : Int32) q1.2 (fun y1_14 y2_14 M14 => some (y1_14, M14)) else some ((-5 : Int32), q1.2)
set_option maxRecDepth 100000 in
set_option maxHeartbeats 4000000 in
theorem tX7_meet  {M : fxMem} {R : Int32 × fxMem} (h : CX7_meet  M = some R) : fx_T gM mX7_meet [.ref 0] M (fx_ri R) := by
  rw [CX7_meet] at h
  refine fx_enter [(0, .ref 0)] (by show plainName RX7 = true; decide) (fun _ => rfl) (fun _ => Nat.le_of_ble_eq_true rfl) ?_
  refine fx_aload_n 0 dX7_meet_0 rfl 0 rfl ?_
  obtain ⟨q1, e1, h⟩ := fx_bd h
  refine fx_callVi 1 (mt' := mX7_isTooFew) (As := []) okm0 (okvX7_isTooFew _ _) lmX7_221 (by decide) rfl rfl (Nat.le_of_ble_eq_true rfl) dX7_meet_1 (tX7_isTooFew e1) ?_
  refine fx_if_eq 4 10 dX7_meet_4 (by decide) (fun c4 => ?_) (fun c4 => ?_)
  · replace h := fx_ip c4 h
    refine fx_iconst 10 (x := (0 : Int32)) dX7_meet_10 (by decide) ?_
    refine fx_istore_n 11 (lv' := [(1, .int (0 : Int32)), (0, .ref 0)]) dX7_meet_11 rfl (Nat.le_of_ble_eq_true rfl) rfl ?_
    refine fx_iconst 12 (x := (0 : Int32)) dX7_meet_12 (by decide) ?_
    refine fx_istore_n 13 (lv' := [(2, .int (0 : Int32)), (1, .int (0 : Int32)), (0, .ref 0)]) dX7_meet_13 rfl (Nat.le_of_ble_eq_true rfl) rfl ?_
    refine fx_sub [2, 1, 0] rfl ?_
    refine vX7_meet_L14 (fun y1_14 y2_14 M14 h => ?_) 1000 _ _ _ h
    refine fx_iload_n 189 dX7_meet_189 rfl 1 rfl ?_
    obtain rfl := Option.some.inj h
    exact fx_iret 190 dX7_meet_190 rfl rfl ⟨rfl, rfl⟩
  · replace h := fx_ne c4 h
    refine fx_bipush 7 (x := (-5 : Int32)) dX7_meet_7 (by decide) ?_
    obtain rfl := Option.some.inj h
    exact fx_iret 9 dX7_meet_9 rfl rfl ⟨rfl, rfl⟩
def mX7_hard : fxM := (yX7_hard, cX7_hard, 5, (some .int), 5, 200)
theorem okvX7_hard (f l : Nat) : fx_okV (yX7_hard, cX7_hard, 5, (some .int), f, l) 1 := ⟨⟨rin33 _ (List.mem_of_getElem? (i := 23) rfl), rin1 _ (List.mem_of_getElem? (i := 5) rfl), by show yX7_hard.cls ≠ _; decide +kernel, by show yX7_hard.cls ≠ _; decide +kernel, by show (parseMethodDescriptor yX7_hard.desc).map _ = _; decide +kernel⟩, rin33 _ (List.mem_of_getElem? (i := 21) rfl), rin33 _ (List.mem_of_getElem? (i := 22) rfl)⟩
def CX7_hard_L25 (x1 : Int32) : Nat → Int32 → Int32 → fxMem → (Int32 → Int32 → fxMem → Option (Int32 × fxMem)) → Option (Int32 × fxMem)
  | 0, _, _, _, _ => none
  | n + 1, x2, x3, M, k => if fx_in (0 : Int32) 900 = true then if M 1 (0 : Int32).toNatClampNeg ≤ x3 then k x2 x3 M else Option.bind (CX7_farTo x3 x3 M) fun q38 => if q38.1 ≤ x2 then CX7_hard_L25 x1 n x2 (x3 + (1 : Int32)) q38.2 k else Option.bind (CX7_farTo x3 x3 q38.2) fun q48 => CX7_hard_L25 x1 n q48.1 (x3 + (1 : Int32)) q48.2 k else none
set_option maxRecDepth 100000 in
set_option maxHeartbeats 4000000 in
theorem vX7_hard_L25 {x1 : Int32} {R : Int32 × fxMem} {k : Int32 → Int32 → fxMem → Option (Int32 × fxMem)} (hk : ∀ (x2 : Int32) (x3 : Int32) (M : fxMem), k x2 x3 M = some R → fx_V gM mX7_hard (fx_ri R) 62 [(0, .ref 0), (1, .int x1), (2, .int x2), (3, .int x3)] [] M) : ∀ (n : Nat) (x2 : Int32) (x3 : Int32) (M : fxMem), CX7_hard_L25 x1 n x2 x3 M k = some R → fx_V gM mX7_hard (fx_ri R) 25 [(0, .ref 0), (1, .int x1), (2, .int x2), (3, .int x3)] [] M := by
  intro n
  induction n with
  | zero => intro x2 x3 M h; rw [CX7_hard_L25] at h; cases h
  | succ n ih =>
    intro x2 x3 M h
    rw [CX7_hard_L25] at h
    refine fx_iload_n 25 dX7_hard_25 rfl 3 rfl ?_
    refine fx_aload_n 26 dX7_hard_26 rfl 0 rfl ?_
    refine fx_get 27 (j := 1) (v := .ref 1) okm0 dX7_hard_27 lfX7_7 (by decide) (fun _ => rfl) ?_
    refine fx_iconst 30 (x := (0 : Int32)) dX7_hard_30 (by decide) ?_
    obtain ⟨g31, h⟩ := fx_gt h
    refine fx_iald 31 okb1 dX7_hard_31 g31 ?_
    refine fx_icmp_ge 32 62 dX7_hard_32 (by decide) (fun c32 => ?_) (fun c32 => ?_)
    · replace h := fx_ip c32 h
      refine fx_sub [0, 1, 2, 3] rfl ?_
      exact hk _ _ _ h
    · replace h := fx_ne c32 h
      refine fx_aload_n 35 dX7_hard_35 rfl 0 rfl ?_
      refine fx_iload_n 36 dX7_hard_36 rfl 3 rfl ?_
      refine fx_iload_n 37 dX7_hard_37 rfl 3 rfl ?_
      obtain ⟨q38, e38, h⟩ := fx_bd h
      refine fx_callVi 38 (mt' := mX7_farTo) (As := [.int x3, .int x3]) okm0 (okvX7_farTo _ _) lmX7_214 (by decide) rfl rfl (Nat.le_of_ble_eq_true rfl) dX7_hard_38 (tX7_farTo e38) ?_
      refine fx_iload_n 41 dX7_hard_41 rfl 2 rfl ?_
      refine fx_icmp_le 42 54 dX7_hard_42 (by decide) (fun c42 => ?_) (fun c42 => ?_)
      · replace h := fx_ip c42 h
        refine fx_iload_n 54 dX7_hard_54 rfl 2 rfl ?_
        refine fx_istore_n 55 (lv' := [(2, .int x2), (0, .ref 0), (1, .int x1), (3, .int x3)]) dX7_hard_55 rfl (Nat.le_of_ble_eq_true rfl) rfl ?_
        refine fx_iinc 56 (lv' := [(3, .int (x3 + (1 : Int32))), (2, .int x2), (0, .ref 0), (1, .int x1)]) (y := x3 + (1 : Int32)) dX7_hard_56 3 rfl (by rfl) (Nat.le_of_ble_eq_true rfl) rfl ?_
        refine fx_goto 59 25 dX7_hard_59 (by decide) ?_
        refine fx_sub [2, 3, 1, 0] rfl ?_
        exact ih _ _ _ h
      · replace h := fx_ne c42 h
        refine fx_aload_n 45 dX7_hard_45 rfl 0 rfl ?_
        refine fx_iload_n 46 dX7_hard_46 rfl 3 rfl ?_
        refine fx_iload_n 47 dX7_hard_47 rfl 3 rfl ?_
        obtain ⟨q48, e48, h⟩ := fx_bd h
        refine fx_callVi 48 (mt' := mX7_farTo) (As := [.int x3, .int x3]) okm0 (okvX7_farTo _ _) lmX7_214 (by decide) rfl rfl (Nat.le_of_ble_eq_true rfl) dX7_hard_48 (tX7_farTo e48) ?_
        refine fx_goto 51 55 dX7_hard_51 (by decide) ?_
        refine fx_istore_n 55 (lv' := [(2, .int q48.1), (0, .ref 0), (1, .int x1), (3, .int x3)]) dX7_hard_55 rfl (Nat.le_of_ble_eq_true rfl) rfl ?_
        refine fx_iinc 56 (lv' := [(3, .int (x3 + (1 : Int32))), (2, .int q48.1), (0, .ref 0), (1, .int x1)]) (y := x3 + (1 : Int32)) dX7_hard_56 3 rfl (by rfl) (Nat.le_of_ble_eq_true rfl) rfl ?_
        refine fx_goto 59 25 dX7_hard_59 (by decide) ?_
        refine fx_sub [2, 3, 1, 0] rfl ?_
        exact ih _ _ _ h
def CX7_hard_L67 (x1 : Int32) (x2 : Int32) : Nat → Int32 → Int32 → fxMem → (Int32 → Int32 → fxMem → Option (Int32 × fxMem)) → Option (Int32 × fxMem)
  | 0, _, _, _, _ => none
  | n + 1, x3, x4, M, k => if fx_in (0 : Int32) 900 = true then if M 1 (0 : Int32).toNatClampNeg ≤ x4 then k x3 x4 M else Option.bind (CX7_farTo x4 x4 M) fun q84 => CX7_hard_L67 x1 x2 n (x3 ||| (if q84.1 = x2 then (1 : Int32) <<< (x4 &&& 31) else (0 : Int32))) (x4 + (1 : Int32)) q84.2 k else none
set_option maxRecDepth 100000 in
set_option maxHeartbeats 4000000 in
theorem vX7_hard_L67 {x1 : Int32} {x2 : Int32} {R : Int32 × fxMem} {k : Int32 → Int32 → fxMem → Option (Int32 × fxMem)} (hk : ∀ (x3 : Int32) (x4 : Int32) (M : fxMem), k x3 x4 M = some R → fx_V gM mX7_hard (fx_ri R) 107 [(0, .ref 0), (1, .int x1), (2, .int x2), (3, .int x3), (4, .int x4)] [] M) : ∀ (n : Nat) (x3 : Int32) (x4 : Int32) (M : fxMem), CX7_hard_L67 x1 x2 n x3 x4 M k = some R → fx_V gM mX7_hard (fx_ri R) 67 [(0, .ref 0), (1, .int x1), (2, .int x2), (3, .int x3), (4, .int x4)] [] M := by
  intro n
  induction n with
  | zero => intro x3 x4 M h; rw [CX7_hard_L67] at h; cases h
  | succ n ih =>
    intro x3 x4 M h
    rw [CX7_hard_L67] at h
    refine fx_iload 67 dX7_hard_67 4 rfl ?_
    refine fx_aload_n 69 dX7_hard_69 rfl 0 rfl ?_
    refine fx_get 70 (j := 1) (v := .ref 1) okm0 dX7_hard_70 lfX7_7 (by decide) (fun _ => rfl) ?_
    refine fx_iconst 73 (x := (0 : Int32)) dX7_hard_73 (by decide) ?_
    obtain ⟨g74, h⟩ := fx_gt h
    refine fx_iald 74 okb1 dX7_hard_74 g74 ?_
    refine fx_icmp_ge 75 107 dX7_hard_75 (by decide) (fun c75 => ?_) (fun c75 => ?_)
    · replace h := fx_ip c75 h
      refine fx_sub [0, 1, 2, 3, 4] rfl ?_
      exact hk _ _ _ h
    · replace h := fx_ne c75 h
      refine fx_iload_n 78 dX7_hard_78 rfl 3 rfl ?_
      refine fx_aload_n 79 dX7_hard_79 rfl 0 rfl ?_
      refine fx_iload 80 dX7_hard_80 4 rfl ?_
      refine fx_iload 82 dX7_hard_82 4 rfl ?_
      obtain ⟨q84, e84, h⟩ := fx_bd h
      refine fx_callVi 84 (mt' := mX7_farTo) (As := [.int x4, .int x4]) okm0 (okvX7_farTo _ _) lmX7_214 (by decide) rfl rfl (Nat.le_of_ble_eq_true rfl) dX7_hard_84 (tX7_farTo e84) ?_
      refine fx_iload_n 87 dX7_hard_87 rfl 2 rfl ?_
      have J : fx_V gM mX7_hard (fx_ri R) 99 [(0, .ref 0), (1, .int x1), (2, .int x2), (3, .int x3), (4, .int x4)] [.int (if q84.1 = x2 then (1 : Int32) <<< (x4 &&& 31) else (0 : Int32)), .int x3] q84.2 := by
        refine fx_ior 99 dX7_hard_99 ?_
        refine fx_istore_n 100 (lv' := [(3, .int (x3 ||| (if q84.1 = x2 then (1 : Int32) <<< (x4 &&& 31) else (0 : Int32)))), (0, .ref 0), (1, .int x1), (2, .int x2), (4, .int x4)]) dX7_hard_100 rfl (Nat.le_of_ble_eq_true rfl) rfl ?_
        refine fx_iinc 101 (lv' := [(4, .int (x4 + (1 : Int32))), (3, .int (x3 ||| (if q84.1 = x2 then (1 : Int32) <<< (x4 &&& 31) else (0 : Int32)))), (0, .ref 0), (1, .int x1), (2, .int x2)]) (y := x4 + (1 : Int32)) dX7_hard_101 4 rfl (by rfl) (Nat.le_of_ble_eq_true rfl) rfl ?_
        refine fx_goto 104 67 dX7_hard_104 (by decide) ?_
        refine fx_sub [2, 3, 4, 1, 0] rfl ?_
        exact ih _ _ _ h
      refine fx_icmp_ne 88 98 dX7_hard_88 (by decide) (fun c88 => ?_) (fun c88 => ?_)
      · refine fx_iconst 98 (x := (0 : Int32)) dX7_hard_98 (by decide) ?_
        refine fx_sub (lv' := [(0, .ref 0), (1, .int x1), (2, .int x2), (3, .int x3), (4, .int x4)]) [0, 1, 2, 3, 4] rfl ?_
        show fx_V gM mX7_hard (fx_ri R) 99 [(0, .ref 0), (1, .int x1), (2, .int x2), (3, .int x3), (4, .int x4)] [.int (0 : Int32), .int x3] q84.2
        simpa only [if_neg c88] using J
      · refine fx_iconst 91 (x := (1 : Int32)) dX7_hard_91 (by decide) ?_
        refine fx_iload 92 dX7_hard_92 4 rfl ?_
        refine fx_ishl 94 dX7_hard_94 ?_
        refine fx_goto 95 99 dX7_hard_95 (by decide) ?_
        refine fx_sub (lv' := [(0, .ref 0), (1, .int x1), (2, .int x2), (3, .int x3), (4, .int x4)]) [0, 1, 2, 3, 4] rfl ?_
        show fx_V gM mX7_hard (fx_ri R) 99 [(0, .ref 0), (1, .int x1), (2, .int x2), (3, .int x3), (4, .int x4)] [.int ((1 : Int32) <<< (x4 &&& 31)), .int x3] q84.2
        simpa only [if_pos c88] using J
def CX7_hard (x1 : Int32) (M : fxMem) : Option (Int32 × fxMem) := Option.bind (CX7_in x1 (0 : Int32) (1 : Int32) M) fun q3 => if q3.1 = (0 : Int32) then some ((-1 : Int32), q3.2) else Option.bind (CX7_isTooFew q3.2) fun q12 => if q12.1 = (0 : Int32) then CX7_hard_L25 x1 1000 (0 : Int32) (0 : Int32) q12.2 (fun y2_25 y3_25 M25 => CX7_hard_L67 x1 y2_25 1000 (0 : Int32) (0 : Int32) M25 (fun y3_67 y4_67 M67 => some ((if x1 = (0 : Int32) then y3_67 else y2_25), M67))) else some ((-5 : Int32), q12.2)
set_option maxRecDepth 100000 in
set_option maxHeartbeats 4000000 in
theorem tX7_hard {x1 : Int32} {M : fxMem} {R : Int32 × fxMem} (h : CX7_hard x1 M = some R) : fx_T gM mX7_hard [.ref 0, .int x1] M (fx_ri R) := by
  rw [CX7_hard] at h
  refine fx_enter [(0, .ref 0), (1, .int x1)] (by show plainName RX7 = true; decide) (fun _ => rfl) (fun _ => Nat.le_of_ble_eq_true rfl) ?_
  refine fx_iload_n 0 dX7_hard_0 rfl 1 rfl ?_
  refine fx_iconst 1 (x := (0 : Int32)) dX7_hard_1 (by decide) ?_
  refine fx_iconst 2 (x := (1 : Int32)) dX7_hard_2 (by decide) ?_
  obtain ⟨q3, e3, h⟩ := fx_bd h
  refine fx_callSi 3 (mt' := mX7_in) (As := [.int x1, .int (0 : Int32), .int (1 : Int32)]) (oksX7_in _ _) lmX7_39 (by decide) rfl rfl (Nat.le_of_ble_eq_true rfl) dX7_hard_3 (tX7_in e3) ?_
  refine fx_if_ne 6 11 dX7_hard_6 (by decide) (fun c6 => ?_) (fun c6 => ?_)
  · replace h := fx_ne c6 h
    refine fx_aload_n 11 dX7_hard_11 rfl 0 rfl ?_
    obtain ⟨q12, e12, h⟩ := fx_bd h
    refine fx_callVi 12 (mt' := mX7_isTooFew) (As := []) okm0 (okvX7_isTooFew _ _) lmX7_221 (by decide) rfl rfl (Nat.le_of_ble_eq_true rfl) dX7_hard_12 (tX7_isTooFew e12) ?_
    refine fx_if_eq 15 21 dX7_hard_15 (by decide) (fun c15 => ?_) (fun c15 => ?_)
    · replace h := fx_ip c15 h
      refine fx_iconst 21 (x := (0 : Int32)) dX7_hard_21 (by decide) ?_
      refine fx_istore_n 22 (lv' := [(2, .int (0 : Int32)), (0, .ref 0), (1, .int x1)]) dX7_hard_22 rfl (Nat.le_of_ble_eq_true rfl) rfl ?_
      refine fx_iconst 23 (x := (0 : Int32)) dX7_hard_23 (by decide) ?_
      refine fx_istore_n 24 (lv' := [(3, .int (0 : Int32)), (2, .int (0 : Int32)), (0, .ref 0), (1, .int x1)]) dX7_hard_24 rfl (Nat.le_of_ble_eq_true rfl) rfl ?_
      refine fx_sub [2, 3, 1, 0] rfl ?_
      refine vX7_hard_L25 (fun y2_25 y3_25 M25 h => ?_) 1000 _ _ _ h
      refine fx_iconst 62 (x := (0 : Int32)) dX7_hard_62 (by decide) ?_
      refine fx_istore_n 63 (lv' := [(3, .int (0 : Int32)), (0, .ref 0), (1, .int x1), (2, .int y2_25)]) dX7_hard_63 rfl (Nat.le_of_ble_eq_true rfl) rfl ?_
      refine fx_iconst 64 (x := (0 : Int32)) dX7_hard_64 (by decide) ?_
      refine fx_istore 65 (lv' := [(4, .int (0 : Int32)), (3, .int (0 : Int32)), (0, .ref 0), (1, .int x1), (2, .int y2_25)]) dX7_hard_65 (Nat.le_of_ble_eq_true rfl) rfl ?_
      refine fx_sub [2, 3, 4, 1, 0] rfl ?_
      refine vX7_hard_L67 (fun y3_67 y4_67 M67 h => ?_) 1000 _ _ _ h
      refine fx_iload_n 107 dX7_hard_107 rfl 1 rfl ?_
      have J : fx_V gM mX7_hard (fx_ri R) 116 [(0, .ref 0), (1, .int x1), (2, .int y2_25), (3, .int y3_67), (4, .int y4_67)] [.int (if x1 = (0 : Int32) then y3_67 else y2_25)] M67 := by
        obtain rfl := Option.some.inj h
        exact fx_iret 116 dX7_hard_116 rfl rfl ⟨rfl, rfl⟩
      refine fx_if_ne 108 115 dX7_hard_108 (by decide) (fun c108 => ?_) (fun c108 => ?_)
      · refine fx_iload_n 115 dX7_hard_115 rfl 2 rfl ?_
        refine fx_sub (lv' := [(0, .ref 0), (1, .int x1), (2, .int y2_25), (3, .int y3_67), (4, .int y4_67)]) [0, 1, 2, 3, 4] rfl ?_
        show fx_V gM mX7_hard (fx_ri R) 116 [(0, .ref 0), (1, .int x1), (2, .int y2_25), (3, .int y3_67), (4, .int y4_67)] [.int y2_25] M67
        simpa only [if_neg c108] using J
      · refine fx_iload_n 111 dX7_hard_111 rfl 3 rfl ?_
        refine fx_goto 112 116 dX7_hard_112 (by decide) ?_
        refine fx_sub (lv' := [(0, .ref 0), (1, .int x1), (2, .int y2_25), (3, .int y3_67), (4, .int y4_67)]) [0, 1, 2, 3, 4] rfl ?_
        show fx_V gM mX7_hard (fx_ri R) 116 [(0, .ref 0), (1, .int x1), (2, .int y2_25), (3, .int y3_67), (4, .int y4_67)] [.int y3_67] M67
        simpa only [if_pos c108] using J
    · replace h := fx_ne c15 h
      refine fx_bipush 18 (x := (-5 : Int32)) dX7_hard_18 (by decide) ?_
      obtain rfl := Option.some.inj h
      exact fx_iret 20 dX7_hard_20 rfl rfl ⟨rfl, rfl⟩
  · replace h := fx_ip c6 h
    refine fx_iconst 9 (x := (-1 : Int32)) dX7_hard_9 (by decide) ?_
    obtain rfl := Option.some.inj h
    exact fx_iret 10 dX7_hard_10 rfl rfl ⟨rfl, rfl⟩
def mX7_march : fxM := (yX7_march, cX7_march, 3, (some .int), 3, 120)
theorem okvX7_march (f l : Nat) : fx_okV (yX7_march, cX7_march, 3, (some .int), f, l) 0 := ⟨⟨rin34 _ (List.mem_of_getElem? (i := 7) rfl), rin1 _ (List.mem_of_getElem? (i := 5) rfl), by show yX7_march.cls ≠ _; decide +kernel, by show yX7_march.cls ≠ _; decide +kernel, by show (parseMethodDescriptor yX7_march.desc).map _ = _; decide +kernel⟩, rin34 _ (List.mem_of_getElem? (i := 5) rfl), rin34 _ (List.mem_of_getElem? (i := 6) rfl)⟩
def CX7_march_L14 : Nat → Int32 → Int32 → fxMem → (Int32 → Int32 → fxMem → Option (Int32 × fxMem)) → Option (Int32 × fxMem)
  | 0, _, _, _, _ => none
  | n + 1, x1, x2, M, k => if fx_in (0 : Int32) 900 = true then if M 1 (0 : Int32).toNatClampNeg ≤ x2 then k x1 x2 M else if fx_in ((150 : Int32) + x2) 900 = true then if fx_in ((160 : Int32) + x2) 900 = true then CX7_march_L14  n (x1 + (if M 1 ((150 : Int32) + x2).toNatClampNeg = M 1 ((160 : Int32) + x2).toNatClampNeg then (0 : Int32) else (1 : Int32))) (x2 + (1 : Int32)) (fx_st M 1 ((150 : Int32) + x2).toNatClampNeg (M 1 ((160 : Int32) + x2).toNatClampNeg)) k else none else none else none
set_option maxRecDepth 100000 in
set_option maxHeartbeats 4000000 in
theorem vX7_march_L14 {R : Int32 × fxMem} {k : Int32 → Int32 → fxMem → Option (Int32 × fxMem)} (hk : ∀ (x1 : Int32) (x2 : Int32) (M : fxMem), k x1 x2 M = some R → fx_V gM mX7_march (fx_ri R) 81 [(0, .ref 0), (1, .int x1), (2, .int x2)] [] M) : ∀ (n : Nat) (x1 : Int32) (x2 : Int32) (M : fxMem), CX7_march_L14  n x1 x2 M k = some R → fx_V gM mX7_march (fx_ri R) 14 [(0, .ref 0), (1, .int x1), (2, .int x2)] [] M := by
  intro n
  induction n with
  | zero => intro x1 x2 M h; rw [CX7_march_L14] at h; cases h
  | succ n ih =>
    intro x1 x2 M h
    rw [CX7_march_L14] at h
    refine fx_iload_n 14 dX7_march_14 rfl 2 rfl ?_
    refine fx_aload_n 15 dX7_march_15 rfl 0 rfl ?_
    refine fx_get 16 (j := 1) (v := .ref 1) okm0 dX7_march_16 lfX7_7 (by decide) (fun _ => rfl) ?_
    refine fx_iconst 19 (x := (0 : Int32)) dX7_march_19 (by decide) ?_
    obtain ⟨g20, h⟩ := fx_gt h
    refine fx_iald 20 okb1 dX7_march_20 g20 ?_
    refine fx_icmp_ge 21 81 dX7_march_21 (by decide) (fun c21 => ?_) (fun c21 => ?_)
    · replace h := fx_ip c21 h
      refine fx_sub [0, 1, 2] rfl ?_
      exact hk _ _ _ h
    · replace h := fx_ne c21 h
      refine fx_iload_n 24 dX7_march_24 rfl 1 rfl ?_
      refine fx_aload_n 25 dX7_march_25 rfl 0 rfl ?_
      refine fx_get 26 (j := 1) (v := .ref 1) okm0 dX7_march_26 lfX7_7 (by decide) (fun _ => rfl) ?_
      refine fx_sipush 29 (x := (150 : Int32)) dX7_march_29 (by decide) ?_
      refine fx_iload_n 32 dX7_march_32 rfl 2 rfl ?_
      refine fx_iadd 33 dX7_march_33 ?_
      obtain ⟨g34, h⟩ := fx_gt h
      refine fx_iald 34 okb1 dX7_march_34 g34 ?_
      refine fx_aload_n 35 dX7_march_35 rfl 0 rfl ?_
      refine fx_get 36 (j := 1) (v := .ref 1) okm0 dX7_march_36 lfX7_7 (by decide) (fun _ => rfl) ?_
      refine fx_sipush 39 (x := (160 : Int32)) dX7_march_39 (by decide) ?_
      refine fx_iload_n 42 dX7_march_42 rfl 2 rfl ?_
      refine fx_iadd 43 dX7_march_43 ?_
      obtain ⟨g44, h⟩ := fx_gt h
      refine fx_iald 44 okb1 dX7_march_44 g44 ?_
      have J : fx_V gM mX7_march (fx_ri R) 53 [(0, .ref 0), (1, .int x1), (2, .int x2)] [.int (if M 1 ((150 : Int32) + x2).toNatClampNeg = M 1 ((160 : Int32) + x2).toNatClampNeg then (0 : Int32) else (1 : Int32)), .int x1] M := by
        refine fx_iadd 53 dX7_march_53 ?_
        refine fx_istore_n 54 (lv' := [(1, .int (x1 + (if M 1 ((150 : Int32) + x2).toNatClampNeg = M 1 ((160 : Int32) + x2).toNatClampNeg then (0 : Int32) else (1 : Int32)))), (0, .ref 0), (2, .int x2)]) dX7_march_54 rfl (Nat.le_of_ble_eq_true rfl) rfl ?_
        refine fx_aload_n 55 dX7_march_55 rfl 1 rfl ?_
        refine fx_get 56 (j := 1) (v := .ref 1) okm0 dX7_march_56 lfX7_7 (by decide) (fun _ => rfl) ?_
        refine fx_sipush 59 (x := (150 : Int32)) dX7_march_59 (by decide) ?_
        refine fx_iload_n 62 dX7_march_62 rfl 2 rfl ?_
        refine fx_iadd 63 dX7_march_63 ?_
        refine fx_aload_n 64 dX7_march_64 rfl 1 rfl ?_
        refine fx_get 65 (j := 1) (v := .ref 1) okm0 dX7_march_65 lfX7_7 (by decide) (fun _ => rfl) ?_
        refine fx_sipush 68 (x := (160 : Int32)) dX7_march_68 (by decide) ?_
        refine fx_iload_n 71 dX7_march_71 rfl 2 rfl ?_
        refine fx_iadd 72 dX7_march_72 ?_
        refine fx_iald 73 okb1 dX7_march_73 g44 ?_
        refine fx_iast 74 okb1 dX7_march_74 g34 ?_
        refine fx_iinc 75 (lv' := [(2, .int (x2 + (1 : Int32))), (1, .int (x1 + (if M 1 ((150 : Int32) + x2).toNatClampNeg = M 1 ((160 : Int32) + x2).toNatClampNeg then (0 : Int32) else (1 : Int32)))), (0, .ref 0)]) (y := x2 + (1 : Int32)) dX7_march_75 2 rfl (by rfl) (Nat.le_of_ble_eq_true rfl) rfl ?_
        refine fx_goto 78 14 dX7_march_78 (by decide) ?_
        refine fx_sub [2, 1, 0] rfl ?_
        exact ih _ _ _ h
      refine fx_icmp_ne 45 52 dX7_march_45 (by decide) (fun c45 => ?_) (fun c45 => ?_)
      · refine fx_iconst 52 (x := (1 : Int32)) dX7_march_52 (by decide) ?_
        refine fx_sub (lv' := [(0, .ref 0), (1, .int x1), (2, .int x2)]) [0, 1, 2] rfl ?_
        show fx_V gM mX7_march (fx_ri R) 53 [(0, .ref 0), (1, .int x1), (2, .int x2)] [.int (1 : Int32), .int x1] M
        simpa only [if_neg c45] using J
      · refine fx_iconst 48 (x := (0 : Int32)) dX7_march_48 (by decide) ?_
        refine fx_goto 49 53 dX7_march_49 (by decide) ?_
        refine fx_sub (lv' := [(0, .ref 0), (1, .int x1), (2, .int x2)]) [0, 1, 2] rfl ?_
        show fx_V gM mX7_march (fx_ri R) 53 [(0, .ref 0), (1, .int x1), (2, .int x2)] [.int (0 : Int32), .int x1] M
        simpa only [if_pos c45] using J
def CX7_march  (M : fxMem) : Option (Int32 × fxMem) := Option.bind (CX7_isTooFew M) fun q1 => if q1.1 = (0 : Int32) then CX7_march_L14  1000 (0 : Int32) (0 : Int32) q1.2 (fun y1_14 y2_14 M14 => some (y1_14, M14)) else some ((-3 : Int32), q1.2)
set_option maxRecDepth 100000 in
set_option maxHeartbeats 4000000 in
theorem tX7_march  {M : fxMem} {R : Int32 × fxMem} (h : CX7_march  M = some R) : fx_T gM mX7_march [.ref 0] M (fx_ri R) := by
  rw [CX7_march] at h
  refine fx_enter [(0, .ref 0)] (by show plainName RX7 = true; decide) (fun _ => rfl) (fun _ => Nat.le_of_ble_eq_true rfl) ?_
  refine fx_aload_n 0 dX7_march_0 rfl 0 rfl ?_
  obtain ⟨q1, e1, h⟩ := fx_bd h
  refine fx_callVi 1 (mt' := mX7_isTooFew) (As := []) okm0 (okvX7_isTooFew _ _) lmX7_221 (by decide) rfl rfl (Nat.le_of_ble_eq_true rfl) dX7_march_1 (tX7_isTooFew e1) ?_
  refine fx_if_eq 4 10 dX7_march_4 (by decide) (fun c4 => ?_) (fun c4 => ?_)
  · replace h := fx_ip c4 h
    refine fx_iconst 10 (x := (0 : Int32)) dX7_march_10 (by decide) ?_
    refine fx_istore_n 11 (lv' := [(1, .int (0 : Int32)), (0, .ref 0)]) dX7_march_11 rfl (Nat.le_of_ble_eq_true rfl) rfl ?_
    refine fx_iconst 12 (x := (0 : Int32)) dX7_march_12 (by decide) ?_
    refine fx_istore_n 13 (lv' := [(2, .int (0 : Int32)), (1, .int (0 : Int32)), (0, .ref 0)]) dX7_march_13 rfl (Nat.le_of_ble_eq_true rfl) rfl ?_
    refine fx_sub [2, 1, 0] rfl ?_
    refine vX7_march_L14 (fun y1_14 y2_14 M14 h => ?_) 1000 _ _ _ h
    refine fx_iload_n 81 dX7_march_81 rfl 1 rfl ?_
    obtain rfl := Option.some.inj h
    exact fx_iret 82 dX7_march_82 rfl rfl ⟨rfl, rfl⟩
  · replace h := fx_ne c4 h
    refine fx_bipush 7 (x := (-3 : Int32)) dX7_march_7 (by decide) ?_
    obtain rfl := Option.some.inj h
    exact fx_iret 9 dX7_march_9 rfl rfl ⟨rfl, rfl⟩
def mX7_seen : fxM := (yX7_seen, cX7_seen, 2, (some .int), 4, 160)
theorem okvX7_seen (f l : Nat) : fx_okV (yX7_seen, cX7_seen, 2, (some .int), f, l) 1 := ⟨⟨rin34 _ (List.mem_of_getElem? (i := 17) rfl), rin1 _ (List.mem_of_getElem? (i := 5) rfl), by show yX7_seen.cls ≠ _; decide +kernel, by show yX7_seen.cls ≠ _; decide +kernel, by show (parseMethodDescriptor yX7_seen.desc).map _ = _; decide +kernel⟩, rin34 _ (List.mem_of_getElem? (i := 15) rfl), rin34 _ (List.mem_of_getElem? (i := 16) rfl)⟩
def CX7_seen (x1 : Int32) (M : fxMem) : Option (Int32 × fxMem) := if x1 = (-1 : Int32) then if fx_in (3 : Int32) 900 = true then some ((0 : Int32), fx_st M 1 (3 : Int32).toNatClampNeg (0 : Int32)) else none else Option.bind (CX7_isDot x1 M) fun q15 => if q15.1 = (0 : Int32) then some ((-1 : Int32), q15.2) else if fx_in (3 : Int32) 900 = true then if q15.2 1 (3 : Int32).toNatClampNeg = (10 : Int32) then some ((-4 : Int32), q15.2) else if fx_in ((170 : Int32) + (q15.2 1 (3 : Int32).toNatClampNeg)) 900 = true then fx_lt (fx_st q15.2 1 ((170 : Int32) + (q15.2 1 (3 : Int32).toNatClampNeg)).toNatClampNeg x1) fun M59 => fx_lt (fx_st M59 1 (3 : Int32).toNatClampNeg ((M59 1 (3 : Int32).toNatClampNeg) + (1 : Int32))) fun M68 => some (M68 1 (3 : Int32).toNatClampNeg, M68) else none else none
set_option maxRecDepth 100000 in
set_option maxHeartbeats 4000000 in
theorem tX7_seen {x1 : Int32} {M : fxMem} {R : Int32 × fxMem} (h : CX7_seen x1 M = some R) : fx_T gM mX7_seen [.ref 0, .int x1] M (fx_ri R) := by
  rw [CX7_seen] at h
  refine fx_enter [(0, .ref 0), (1, .int x1)] (by show plainName RX7 = true; decide) (fun _ => rfl) (fun _ => Nat.le_of_ble_eq_true rfl) ?_
  refine fx_iload_n 0 dX7_seen_0 rfl 1 rfl ?_
  refine fx_iconst 1 (x := (-1 : Int32)) dX7_seen_1 (by decide) ?_
  refine fx_icmp_ne 2 14 dX7_seen_2 (by decide) (fun c2 => ?_) (fun c2 => ?_)
  · replace h := fx_ne c2 h
    refine fx_iload_n 14 dX7_seen_14 rfl 1 rfl ?_
    obtain ⟨q15, e15, h⟩ := fx_bd h
    refine fx_callSi 15 (mt' := mX7_isDot) (As := [.int x1]) (oksX7_isDot _ _) lmX7_145 (by decide) rfl rfl (Nat.le_of_ble_eq_true rfl) dX7_seen_15 (tX7_isDot e15) ?_
    refine fx_if_ne 18 23 dX7_seen_18 (by decide) (fun c18 => ?_) (fun c18 => ?_)
    · replace h := fx_ne c18 h
      refine fx_aload_n 23 dX7_seen_23 rfl 0 rfl ?_
      refine fx_get 24 (j := 1) (v := .ref 1) okm0 dX7_seen_24 lfX7_7 (by decide) (fun _ => rfl) ?_
      refine fx_iconst 27 (x := (3 : Int32)) dX7_seen_27 (by decide) ?_
      obtain ⟨g28, h⟩ := fx_gt h
      refine fx_iald 28 okb1 dX7_seen_28 g28 ?_
      refine fx_bipush 29 (x := (10 : Int32)) dX7_seen_29 (by decide) ?_
      refine fx_icmp_ne 31 37 dX7_seen_31 (by decide) (fun c31 => ?_) (fun c31 => ?_)
      · replace h := fx_ne c31 h
        refine fx_aload_n 37 dX7_seen_37 rfl 0 rfl ?_
        refine fx_get 38 (j := 1) (v := .ref 1) okm0 dX7_seen_38 lfX7_7 (by decide) (fun _ => rfl) ?_
        refine fx_sipush 41 (x := (170 : Int32)) dX7_seen_41 (by decide) ?_
        refine fx_aload_n 44 dX7_seen_44 rfl 0 rfl ?_
        refine fx_get 45 (j := 1) (v := .ref 1) okm0 dX7_seen_45 lfX7_7 (by decide) (fun _ => rfl) ?_
        refine fx_iconst 48 (x := (3 : Int32)) dX7_seen_48 (by decide) ?_
        refine fx_iald 49 okb1 dX7_seen_49 g28 ?_
        refine fx_iadd 50 dX7_seen_50 ?_
        refine fx_iload_n 51 dX7_seen_51 rfl 1 rfl ?_
        obtain ⟨g52, h⟩ := fx_gt h
        refine fx_iast 52 okb1 dX7_seen_52 g52 ?_
        refine fx_aload_n 53 dX7_seen_53 rfl 0 rfl ?_
        refine fx_get 54 (j := 1) (v := .ref 1) okm0 dX7_seen_54 lfX7_7 (by decide) (fun _ => rfl) ?_
        refine fx_iconst 57 (x := (3 : Int32)) dX7_seen_57 (by decide) ?_
        refine fx_dup2 58 dX7_seen_58 rfl rfl ?_
        replace h := fx_ltd h
        generalize fx_st q15.2 1 ((170 : Int32) + (q15.2 1 (3 : Int32).toNatClampNeg)).toNatClampNeg x1 = M59 at h ⊢
        refine fx_iald 59 okb1 dX7_seen_59 g28 ?_
        refine fx_iconst 60 (x := (1 : Int32)) dX7_seen_60 (by decide) ?_
        refine fx_iadd 61 dX7_seen_61 ?_
        refine fx_iast 62 okb1 dX7_seen_62 g28 ?_
        refine fx_aload_n 63 dX7_seen_63 rfl 0 rfl ?_
        refine fx_get 64 (j := 1) (v := .ref 1) okm0 dX7_seen_64 lfX7_7 (by decide) (fun _ => rfl) ?_
        refine fx_iconst 67 (x := (3 : Int32)) dX7_seen_67 (by decide) ?_
        replace h := fx_ltd h
        generalize fx_st M59 1 (3 : Int32).toNatClampNeg ((M59 1 (3 : Int32).toNatClampNeg) + (1 : Int32)) = M68 at h ⊢
        refine fx_iald 68 okb1 dX7_seen_68 g28 ?_
        obtain rfl := Option.some.inj h
        exact fx_iret 69 dX7_seen_69 rfl rfl ⟨rfl, rfl⟩
      · replace h := fx_ip c31 h
        refine fx_bipush 34 (x := (-4 : Int32)) dX7_seen_34 (by decide) ?_
        obtain rfl := Option.some.inj h
        exact fx_iret 36 dX7_seen_36 rfl rfl ⟨rfl, rfl⟩
    · replace h := fx_ip c18 h
      refine fx_iconst 21 (x := (-1 : Int32)) dX7_seen_21 (by decide) ?_
      obtain rfl := Option.some.inj h
      exact fx_iret 22 dX7_seen_22 rfl rfl ⟨rfl, rfl⟩
  · replace h := fx_ip c2 h
    refine fx_aload_n 5 dX7_seen_5 rfl 0 rfl ?_
    refine fx_get 6 (j := 1) (v := .ref 1) okm0 dX7_seen_6 lfX7_7 (by decide) (fun _ => rfl) ?_
    refine fx_iconst 9 (x := (3 : Int32)) dX7_seen_9 (by decide) ?_
    refine fx_iconst 10 (x := (0 : Int32)) dX7_seen_10 (by decide) ?_
    obtain ⟨g11, h⟩ := fx_gt h
    refine fx_iast 11 okb1 dX7_seen_11 g11 ?_
    refine fx_iconst 12 (x := (0 : Int32)) dX7_seen_12 (by decide) ?_
    obtain rfl := Option.some.inj h
    exact fx_iret 13 dX7_seen_13 rfl rfl ⟨rfl, rfl⟩
def mX7_off : fxM := (yX7_off, cX7_off, 7, (some .int), 4, 160)
theorem okvX7_off (f l : Nat) : fx_okV (yX7_off, cX7_off, 7, (some .int), f, l) 1 := ⟨⟨rin35 _ (List.mem_of_getElem? (i := 1) rfl), rin1 _ (List.mem_of_getElem? (i := 5) rfl), by show yX7_off.cls ≠ _; decide +kernel, by show yX7_off.cls ≠ _; decide +kernel, by show (parseMethodDescriptor yX7_off.desc).map _ = _; decide +kernel⟩, rin34 _ (List.mem_of_getElem? (i := 23) rfl), rin35 _ (List.mem_of_getElem? (i := 0) rfl)⟩
def CX7_off_L22 (x1 : Int32) : Nat → Int32 → Int32 → Int32 → Int32 → fxMem → (Int32 → Int32 → Int32 → Int32 → fxMem → Option (Int32 × fxMem)) → Option (Int32 × fxMem)
  | 0, _, _, _, _, _, _ => none
  | n + 1, x2, x3, x4, x5, M, k => if fx_in (0 : Int32) 900 = true then if M 1 (0 : Int32).toNatClampNeg ≤ x5 then k x2 x3 x4 x5 M else if fx_in (3 : Int32) 900 = true then if M 1 (3 : Int32).toNatClampNeg ≤ x5 then k x2 x3 x4 x5 M else if fx_in ((150 : Int32) + x5) 900 = true then if fx_in ((170 : Int32) + x5) 900 = true then Option.bind (CX7_far (M 1 ((150 : Int32) + x5).toNatClampNeg) (M 1 ((170 : Int32) + x5).toNatClampNeg) M) fun q66 => CX7_off_L22 x1 n (x2 + (if q66.1 ≤ (0 : Int32) then (0 : Int32) else (1 : Int32))) (if q66.1 ≤ x4 then x3 else x5) (if q66.1 ≤ x4 then x4 else q66.1) (x5 + (1 : Int32)) q66.2 k else none else none else none else none
set_option maxRecDepth 100000 in
set_option maxHeartbeats 4000000 in
theorem vX7_off_L22 {x1 : Int32} {R : Int32 × fxMem} {k : Int32 → Int32 → Int32 → Int32 → fxMem → Option (Int32 × fxMem)} (hk : ∀ (x2 : Int32) (x3 : Int32) (x4 : Int32) (x5 : Int32) (M : fxMem), k x2 x3 x4 x5 M = some R → fx_V gM mX7_off (fx_ri R) 120 [(0, .ref 0), (1, .int x1), (2, .int x2), (3, .int x3), (4, .int x4), (5, .int x5)] [] M) : ∀ (n : Nat) (x2 : Int32) (x3 : Int32) (x4 : Int32) (x5 : Int32) (M : fxMem), CX7_off_L22 x1 n x2 x3 x4 x5 M k = some R → fx_V gM mX7_off (fx_ri R) 22 [(0, .ref 0), (1, .int x1), (2, .int x2), (3, .int x3), (4, .int x4), (5, .int x5)] [] M := by
  intro n
  induction n with
  | zero => intro x2 x3 x4 x5 M h; rw [CX7_off_L22] at h; cases h
  | succ n ih =>
    intro x2 x3 x4 x5 M h
    rw [CX7_off_L22] at h
    refine fx_iload 22 dX7_off_22 5 rfl ?_
    refine fx_aload_n 24 dX7_off_24 rfl 0 rfl ?_
    refine fx_get 25 (j := 1) (v := .ref 1) okm0 dX7_off_25 lfX7_7 (by decide) (fun _ => rfl) ?_
    refine fx_iconst 28 (x := (0 : Int32)) dX7_off_28 (by decide) ?_
    obtain ⟨g29, h⟩ := fx_gt h
    refine fx_iald 29 okb1 dX7_off_29 g29 ?_
    refine fx_icmp_ge 30 120 dX7_off_30 (by decide) (fun c30 => ?_) (fun c30 => ?_)
    · replace h := fx_ip c30 h
      refine fx_sub [0, 1, 2, 3, 4, 5] rfl ?_
      exact hk _ _ _ _ _ h
    · replace h := fx_ne c30 h
      refine fx_iload 33 dX7_off_33 5 rfl ?_
      refine fx_aload_n 35 dX7_off_35 rfl 0 rfl ?_
      refine fx_get 36 (j := 1) (v := .ref 1) okm0 dX7_off_36 lfX7_7 (by decide) (fun _ => rfl) ?_
      refine fx_iconst 39 (x := (3 : Int32)) dX7_off_39 (by decide) ?_
      obtain ⟨g40, h⟩ := fx_gt h
      refine fx_iald 40 okb1 dX7_off_40 g40 ?_
      refine fx_icmp_ge 41 120 dX7_off_41 (by decide) (fun c41 => ?_) (fun c41 => ?_)
      · replace h := fx_ip c41 h
        refine fx_sub [0, 1, 2, 3, 4, 5] rfl ?_
        exact hk _ _ _ _ _ h
      · replace h := fx_ne c41 h
        refine fx_aload_n 44 dX7_off_44 rfl 0 rfl ?_
        refine fx_get 45 (j := 1) (v := .ref 1) okm0 dX7_off_45 lfX7_7 (by decide) (fun _ => rfl) ?_
        refine fx_sipush 48 (x := (150 : Int32)) dX7_off_48 (by decide) ?_
        refine fx_iload 51 dX7_off_51 5 rfl ?_
        refine fx_iadd 53 dX7_off_53 ?_
        obtain ⟨g54, h⟩ := fx_gt h
        refine fx_iald 54 okb1 dX7_off_54 g54 ?_
        refine fx_aload_n 55 dX7_off_55 rfl 0 rfl ?_
        refine fx_get 56 (j := 1) (v := .ref 1) okm0 dX7_off_56 lfX7_7 (by decide) (fun _ => rfl) ?_
        refine fx_sipush 59 (x := (170 : Int32)) dX7_off_59 (by decide) ?_
        refine fx_iload 62 dX7_off_62 5 rfl ?_
        refine fx_iadd 64 dX7_off_64 ?_
        obtain ⟨g65, h⟩ := fx_gt h
        refine fx_iald 65 okb1 dX7_off_65 g65 ?_
        obtain ⟨q66, e66, h⟩ := fx_bd h
        refine fx_callSi 66 (mt' := mX7_far) (As := [.int (M 1 ((150 : Int32) + x5).toNatClampNeg), .int (M 1 ((170 : Int32) + x5).toNatClampNeg)]) (oksX7_far _ _) lmX7_155 (by decide) rfl rfl (Nat.le_of_ble_eq_true rfl) dX7_off_66 (tX7_far e66) ?_
        refine fx_istore 69 (lv' := [(6, .int q66.1), (0, .ref 0), (1, .int x1), (2, .int x2), (3, .int x3), (4, .int x4), (5, .int x5)]) dX7_off_69 (Nat.le_of_ble_eq_true rfl) rfl ?_
        refine fx_iload_n 71 dX7_off_71 rfl 3 rfl ?_
        refine fx_iload 72 dX7_off_72 0 rfl ?_
        have J : fx_V gM mX7_off (fx_ri R) 82 [(0, .ref 0), (1, .int x1), (2, .int x2), (3, .int x3), (4, .int x4), (5, .int x5), (6, .int q66.1)] [.int (if q66.1 ≤ (0 : Int32) then (0 : Int32) else (1 : Int32)), .int x2] q66.2 := by
          refine fx_iadd 82 dX7_off_82 ?_
          refine fx_istore_n 83 (lv' := [(2, .int (x2 + (if q66.1 ≤ (0 : Int32) then (0 : Int32) else (1 : Int32)))), (0, .ref 0), (1, .int x1), (3, .int x3), (4, .int x4), (5, .int x5), (6, .int q66.1)]) dX7_off_83 rfl (Nat.le_of_ble_eq_true rfl) rfl ?_
          refine fx_iload 84 dX7_off_84 6 rfl ?_
          refine fx_iload 86 dX7_off_86 4 rfl ?_
          have J : fx_V gM mX7_off (fx_ri R) 97 [(0, .ref 0), (1, .int x1), (2, .int (x2 + (if q66.1 ≤ (0 : Int32) then (0 : Int32) else (1 : Int32)))), (3, .int x3), (4, .int x4), (5, .int x5), (6, .int q66.1)] [.int (if q66.1 ≤ x4 then x3 else x5)] q66.2 := by
            refine fx_istore_n 97 (lv' := [(3, .int (if q66.1 ≤ x4 then x3 else x5)), (0, .ref 0), (1, .int x1), (2, .int (x2 + (if q66.1 ≤ (0 : Int32) then (0 : Int32) else (1 : Int32)))), (4, .int x4), (5, .int x5), (6, .int q66.1)]) dX7_off_97 rfl (Nat.le_of_ble_eq_true rfl) rfl ?_
            refine fx_iload 98 dX7_off_98 6 rfl ?_
            refine fx_iload 100 dX7_off_100 4 rfl ?_
            have J : fx_V gM mX7_off (fx_ri R) 112 [(0, .ref 0), (1, .int x1), (2, .int (x2 + (if q66.1 ≤ (0 : Int32) then (0 : Int32) else (1 : Int32)))), (3, .int (if q66.1 ≤ x4 then x3 else x5)), (4, .int x4), (5, .int x5), (6, .int q66.1)] [.int (if q66.1 ≤ x4 then x4 else q66.1)] q66.2 := by
              refine fx_istore 112 (lv' := [(4, .int (if q66.1 ≤ x4 then x4 else q66.1)), (0, .ref 0), (1, .int x1), (2, .int (x2 + (if q66.1 ≤ (0 : Int32) then (0 : Int32) else (1 : Int32)))), (3, .int (if q66.1 ≤ x4 then x3 else x5)), (5, .int x5), (6, .int q66.1)]) dX7_off_112 (Nat.le_of_ble_eq_true rfl) rfl ?_
              refine fx_iinc 114 (lv' := [(5, .int (x5 + (1 : Int32))), (4, .int (if q66.1 ≤ x4 then x4 else q66.1)), (0, .ref 0), (1, .int x1), (2, .int (x2 + (if q66.1 ≤ (0 : Int32) then (0 : Int32) else (1 : Int32)))), (3, .int (if q66.1 ≤ x4 then x3 else x5)), (6, .int q66.1)]) (y := x5 + (1 : Int32)) dX7_off_114 5 rfl (by rfl) (Nat.le_of_ble_eq_true rfl) rfl ?_
              refine fx_goto 117 22 dX7_off_117 (by decide) ?_
              refine fx_sub [2, 3, 4, 5, 1, 0] rfl ?_
              exact ih _ _ _ _ _ h
            refine fx_icmp_le 102 110 dX7_off_102 (by decide) (fun c102 => ?_) (fun c102 => ?_)
            · refine fx_iload 110 dX7_off_110 4 rfl ?_
              refine fx_sub (lv' := [(0, .ref 0), (1, .int x1), (2, .int (x2 + (if q66.1 ≤ (0 : Int32) then (0 : Int32) else (1 : Int32)))), (3, .int (if q66.1 ≤ x4 then x3 else x5)), (4, .int x4), (5, .int x5), (6, .int q66.1)]) [1, 2, 3, 0, 4, 5, 6] rfl ?_
              show fx_V gM mX7_off (fx_ri R) 112 [(0, .ref 0), (1, .int x1), (2, .int (x2 + (if q66.1 ≤ (0 : Int32) then (0 : Int32) else (1 : Int32)))), (3, .int (if q66.1 ≤ x4 then x3 else x5)), (4, .int x4), (5, .int x5), (6, .int q66.1)] [.int x4] q66.2
              simpa only [if_pos c102] using J
            · refine fx_iload 105 dX7_off_105 6 rfl ?_
              refine fx_goto 107 112 dX7_off_107 (by decide) ?_
              refine fx_sub (lv' := [(0, .ref 0), (1, .int x1), (2, .int (x2 + (if q66.1 ≤ (0 : Int32) then (0 : Int32) else (1 : Int32)))), (3, .int (if q66.1 ≤ x4 then x3 else x5)), (4, .int x4), (5, .int x5), (6, .int q66.1)]) [1, 2, 3, 0, 4, 5, 6] rfl ?_
              show fx_V gM mX7_off (fx_ri R) 112 [(0, .ref 0), (1, .int x1), (2, .int (x2 + (if q66.1 ≤ (0 : Int32) then (0 : Int32) else (1 : Int32)))), (3, .int (if q66.1 ≤ x4 then x3 else x5)), (4, .int x4), (5, .int x5), (6, .int q66.1)] [.int q66.1] q66.2
              simpa only [if_neg c102] using J
          refine fx_icmp_le 88 96 dX7_off_88 (by decide) (fun c88 => ?_) (fun c88 => ?_)
          · refine fx_iload_n 96 dX7_off_96 rfl 3 rfl ?_
            refine fx_sub (lv' := [(0, .ref 0), (1, .int x1), (2, .int (x2 + (if q66.1 ≤ (0 : Int32) then (0 : Int32) else (1 : Int32)))), (3, .int x3), (4, .int x4), (5, .int x5), (6, .int q66.1)]) [1, 2, 0, 3, 4, 5, 6] rfl ?_
            show fx_V gM mX7_off (fx_ri R) 97 [(0, .ref 0), (1, .int x1), (2, .int (x2 + (if q66.1 ≤ (0 : Int32) then (0 : Int32) else (1 : Int32)))), (3, .int x3), (4, .int x4), (5, .int x5), (6, .int q66.1)] [.int x3] q66.2
            simpa only [if_pos c88] using J
          · refine fx_iload 91 dX7_off_91 5 rfl ?_
            refine fx_goto 93 97 dX7_off_93 (by decide) ?_
            refine fx_sub (lv' := [(0, .ref 0), (1, .int x1), (2, .int (x2 + (if q66.1 ≤ (0 : Int32) then (0 : Int32) else (1 : Int32)))), (3, .int x3), (4, .int x4), (5, .int x5), (6, .int q66.1)]) [1, 2, 0, 3, 4, 5, 6] rfl ?_
            show fx_V gM mX7_off (fx_ri R) 97 [(0, .ref 0), (1, .int x1), (2, .int (x2 + (if q66.1 ≤ (0 : Int32) then (0 : Int32) else (1 : Int32)))), (3, .int x3), (4, .int x4), (5, .int x5), (6, .int q66.1)] [.int x5] q66.2
            simpa only [if_neg c88] using J
        refine fx_if_le 74 81 dX7_off_74 (by decide) (fun c74 => ?_) (fun c74 => ?_)
        · refine fx_iconst 81 (x := (0 : Int32)) dX7_off_81 (by decide) ?_
          refine fx_sub (lv' := [(0, .ref 0), (1, .int x1), (2, .int x2), (3, .int x3), (4, .int x4), (5, .int x5), (6, .int q66.1)]) [1, 2, 3, 4, 5, 6, 0] rfl ?_
          show fx_V gM mX7_off (fx_ri R) 82 [(0, .ref 0), (1, .int x1), (2, .int x2), (3, .int x3), (4, .int x4), (5, .int x5), (6, .int q66.1)] [.int (0 : Int32), .int x2] q66.2
          simpa only [if_pos c74] using J
        · refine fx_iconst 77 (x := (1 : Int32)) dX7_off_77 (by decide) ?_
          refine fx_goto 78 82 dX7_off_78 (by decide) ?_
          refine fx_sub (lv' := [(0, .ref 0), (1, .int x1), (2, .int x2), (3, .int x3), (4, .int x4), (5, .int x5), (6, .int q66.1)]) [1, 2, 3, 4, 5, 6, 0] rfl ?_
          show fx_V gM mX7_off (fx_ri R) 82 [(0, .ref 0), (1, .int x1), (2, .int x2), (3, .int x3), (4, .int x4), (5, .int x5), (6, .int q66.1)] [.int (1 : Int32), .int x2] q66.2
          simpa only [if_neg c74] using J
def CX7_off_J120  (x1 : Int32) (x2 : Int32) (x3 : Int32) (x4 : Int32) (x5 : Int32) (M : fxMem) : Option (Int32 × fxMem) := some ((if x1 = (0 : Int32) then x2 else x3), M)
set_option maxRecDepth 100000 in
set_option maxHeartbeats 4000000 in
theorem vX7_off_J120  {x1 : Int32} {x2 : Int32} {x3 : Int32} {x4 : Int32} {x5 : Int32} {R : Int32 × fxMem} {M : fxMem} (h : CX7_off_J120 x1 x2 x3 x4 x5 M = some R) : fx_V gM mX7_off (fx_ri R) 120 [(0, .ref 0), (1, .int x1), (2, .int x2), (3, .int x3), (4, .int x4), (5, .int x5)] [] M := by
  rw [CX7_off_J120] at h
  refine fx_iload_n 120 dX7_off_120 rfl 1 rfl ?_
  have J : fx_V gM mX7_off (fx_ri R) 129 [(0, .ref 0), (1, .int x1), (2, .int x2), (3, .int x3), (4, .int x4), (5, .int x5)] [.int (if x1 = (0 : Int32) then x2 else x3)] M := by
    obtain rfl := Option.some.inj h
    exact fx_iret 129 dX7_off_129 rfl rfl ⟨rfl, rfl⟩
  refine fx_if_ne 121 128 dX7_off_121 (by decide) (fun c121 => ?_) (fun c121 => ?_)
  · refine fx_iload_n 128 dX7_off_128 rfl 3 rfl ?_
    refine fx_sub (lv' := [(0, .ref 0), (1, .int x1), (2, .int x2), (3, .int x3), (4, .int x4), (5, .int x5)]) [0, 1, 2, 3, 4, 5] rfl ?_
    show fx_V gM mX7_off (fx_ri R) 129 [(0, .ref 0), (1, .int x1), (2, .int x2), (3, .int x3), (4, .int x4), (5, .int x5)] [.int x3] M
    simpa only [if_neg c121] using J
  · refine fx_iload_n 124 dX7_off_124 rfl 2 rfl ?_
    refine fx_goto 125 129 dX7_off_125 (by decide) ?_
    refine fx_sub (lv' := [(0, .ref 0), (1, .int x1), (2, .int x2), (3, .int x3), (4, .int x4), (5, .int x5)]) [0, 1, 2, 3, 4, 5] rfl ?_
    show fx_V gM mX7_off (fx_ri R) 129 [(0, .ref 0), (1, .int x1), (2, .int x2), (3, .int x3), (4, .int x4), (5, .int x5)] [.int x2] M
    simpa only [if_pos c121] using J
def CX7_off (x1 : Int32) (M : fxMem) : Option (Int32 × fxMem) := Option.bind (CX7_in x1 (0 : Int32) (1 : Int32) M) fun q3 => if q3.1 = (0 : Int32) then some ((-1 : Int32), q3.2) else CX7_off_L22 x1 1000 (0 : Int32) (-5 : Int32) (0 : Int32) (0 : Int32) q3.2 (fun y2_22 y3_22 y4_22 y5_22 M22 => CX7_off_J120 x1 y2_22 y3_22 y4_22 y5_22 M22)
set_option maxRecDepth 100000 in
set_option maxHeartbeats 4000000 in
theorem tX7_off {x1 : Int32} {M : fxMem} {R : Int32 × fxMem} (h : CX7_off x1 M = some R) : fx_T gM mX7_off [.ref 0, .int x1] M (fx_ri R) := by
  rw [CX7_off] at h
  refine fx_enter [(0, .ref 0), (1, .int x1)] (by show plainName RX7 = true; decide) (fun _ => rfl) (fun _ => Nat.le_of_ble_eq_true rfl) ?_
  refine fx_iload_n 0 dX7_off_0 rfl 1 rfl ?_
  refine fx_iconst 1 (x := (0 : Int32)) dX7_off_1 (by decide) ?_
  refine fx_iconst 2 (x := (1 : Int32)) dX7_off_2 (by decide) ?_
  obtain ⟨q3, e3, h⟩ := fx_bd h
  refine fx_callSi 3 (mt' := mX7_in) (As := [.int x1, .int (0 : Int32), .int (1 : Int32)]) (oksX7_in _ _) lmX7_39 (by decide) rfl rfl (Nat.le_of_ble_eq_true rfl) dX7_off_3 (tX7_in e3) ?_
  refine fx_if_ne 6 11 dX7_off_6 (by decide) (fun c6 => ?_) (fun c6 => ?_)
  · replace h := fx_ne c6 h
    refine fx_iconst 11 (x := (0 : Int32)) dX7_off_11 (by decide) ?_
    refine fx_istore_n 12 (lv' := [(2, .int (0 : Int32)), (0, .ref 0), (1, .int x1)]) dX7_off_12 rfl (Nat.le_of_ble_eq_true rfl) rfl ?_
    refine fx_bipush 13 (x := (-5 : Int32)) dX7_off_13 (by decide) ?_
    refine fx_istore_n 15 (lv' := [(3, .int (-5 : Int32)), (2, .int (0 : Int32)), (0, .ref 0), (1, .int x1)]) dX7_off_15 rfl (Nat.le_of_ble_eq_true rfl) rfl ?_
    refine fx_iconst 16 (x := (0 : Int32)) dX7_off_16 (by decide) ?_
    refine fx_istore 17 (lv' := [(4, .int (0 : Int32)), (3, .int (-5 : Int32)), (2, .int (0 : Int32)), (0, .ref 0), (1, .int x1)]) dX7_off_17 (Nat.le_of_ble_eq_true rfl) rfl ?_
    refine fx_iconst 19 (x := (0 : Int32)) dX7_off_19 (by decide) ?_
    refine fx_istore 20 (lv' := [(5, .int (0 : Int32)), (4, .int (0 : Int32)), (3, .int (-5 : Int32)), (2, .int (0 : Int32)), (0, .ref 0), (1, .int x1)]) dX7_off_20 (Nat.le_of_ble_eq_true rfl) rfl ?_
    refine fx_sub [4, 5, 3, 2, 1, 0] rfl ?_
    refine vX7_off_L22 (fun y2_22 y3_22 y4_22 y5_22 M22 h => ?_) 1000 _ _ _ _ _ h
    refine fx_sub [0, 1, 2, 3, 4, 5] rfl ?_
    exact vX7_off_J120 h
  · replace h := fx_ip c6 h
    refine fx_iconst 9 (x := (-1 : Int32)) dX7_off_9 (by decide) ?_
    obtain rfl := Option.some.inj h
    exact fx_iret 10 dX7_off_10 rfl rfl ⟨rfl, rfl⟩
def mX7_whom : fxM := (yX7_whom, cX7_whom, 7, (some .int), 48, 1920)
theorem okvX7_whom (f l : Nat) : fx_okV (yX7_whom, cX7_whom, 7, (some .int), f, l) 3 := ⟨⟨rin35 _ (List.mem_of_getElem? (i := 13) rfl), rin1 _ (List.mem_of_getElem? (i := 5) rfl), by show yX7_whom.cls ≠ _; decide +kernel, by show yX7_whom.cls ≠ _; decide +kernel, by show (parseMethodDescriptor yX7_whom.desc).map _ = _; decide +kernel⟩, rin35 _ (List.mem_of_getElem? (i := 11) rfl), rin35 _ (List.mem_of_getElem? (i := 12) rfl)⟩
def CX7_whom_L49 (x1 : Int32) (x2 : Int32) (x3 : Int32) (x4 : Int32) : Nat → Int32 → Int32 → fxMem → (Int32 → Int32 → fxMem → Option (Int32 × fxMem)) → Option (Int32 × fxMem)
  | 0, _, _, _, _ => none
  | n + 1, x5, x6, M, k => if (7 : Int32) ≤ x6 then k x5 x6 M else if fx_in ((130 : Int32) + x1) 900 = true then Option.bind (CX7_heardAt x2 x1 (fx_st M 1 ((130 : Int32) + x1).toNatClampNeg x6)) fun q73 => CX7_whom_L49 x1 x2 x3 x4 n (x5 ||| (if q73.1 = x3 then (1 : Int32) <<< (x6 &&& 31) else (0 : Int32))) (x6 + (1 : Int32)) q73.2 k else none
set_option maxRecDepth 100000 in
set_option maxHeartbeats 4000000 in
theorem vX7_whom_L49 {x1 : Int32} {x2 : Int32} {x3 : Int32} {x4 : Int32} {R : Int32 × fxMem} {k : Int32 → Int32 → fxMem → Option (Int32 × fxMem)} (hk : ∀ (x5 : Int32) (x6 : Int32) (M : fxMem), k x5 x6 M = some R → fx_V gM mX7_whom (fx_ri R) 97 [(0, .ref 0), (1, .int x1), (2, .int x2), (3, .int x3), (4, .int x4), (5, .int x5), (6, .int x6)] [] M) : ∀ (n : Nat) (x5 : Int32) (x6 : Int32) (M : fxMem), CX7_whom_L49 x1 x2 x3 x4 n x5 x6 M k = some R → fx_V gM mX7_whom (fx_ri R) 49 [(0, .ref 0), (1, .int x1), (2, .int x2), (3, .int x3), (4, .int x4), (5, .int x5), (6, .int x6)] [] M := by
  intro n
  induction n with
  | zero => intro x5 x6 M h; rw [CX7_whom_L49] at h; cases h
  | succ n ih =>
    intro x5 x6 M h
    rw [CX7_whom_L49] at h
    refine fx_iload 49 dX7_whom_49 6 rfl ?_
    refine fx_bipush 51 (x := (7 : Int32)) dX7_whom_51 (by decide) ?_
    refine fx_icmp_ge 53 97 dX7_whom_53 (by decide) (fun c53 => ?_) (fun c53 => ?_)
    · replace h := fx_ip c53 h
      refine fx_sub [0, 1, 2, 3, 4, 5, 6] rfl ?_
      exact hk _ _ _ h
    · replace h := fx_ne c53 h
      refine fx_aload_n 56 dX7_whom_56 rfl 0 rfl ?_
      refine fx_get 57 (j := 1) (v := .ref 1) okm0 dX7_whom_57 lfX7_7 (by decide) (fun _ => rfl) ?_
      refine fx_sipush 60 (x := (130 : Int32)) dX7_whom_60 (by decide) ?_
      refine fx_iload_n 63 dX7_whom_63 rfl 1 rfl ?_
      refine fx_iadd 64 dX7_whom_64 ?_
      refine fx_iload 65 dX7_whom_65 6 rfl ?_
      obtain ⟨g67, h⟩ := fx_gt h
      refine fx_iast 67 okb1 dX7_whom_67 g67 ?_
      refine fx_iload 68 dX7_whom_68 5 rfl ?_
      refine fx_aload_n 70 dX7_whom_70 rfl 0 rfl ?_
      refine fx_iload_n 71 dX7_whom_71 rfl 2 rfl ?_
      refine fx_iload_n 72 dX7_whom_72 rfl 1 rfl ?_
      obtain ⟨q73, e73, h⟩ := fx_bd h
      refine fx_callVi 73 (mt' := mX7_heardAt) (As := [.int x2, .int x1]) okm0 (okvX7_heardAt _ _) lmX7_187 (by decide) rfl rfl (Nat.le_of_ble_eq_true rfl) dX7_whom_73 (tX7_heardAt e73) ?_
      refine fx_iload_n 76 dX7_whom_76 rfl 3 rfl ?_
      have J : fx_V gM mX7_whom (fx_ri R) 88 [(0, .ref 0), (1, .int x1), (2, .int x2), (3, .int x3), (4, .int x4), (5, .int x5), (6, .int x6)] [.int (if q73.1 = x3 then (1 : Int32) <<< (x6 &&& 31) else (0 : Int32)), .int x5] q73.2 := by
        refine fx_ior 88 dX7_whom_88 ?_
        refine fx_istore 89 (lv' := [(5, .int (x5 ||| (if q73.1 = x3 then (1 : Int32) <<< (x6 &&& 31) else (0 : Int32)))), (0, .ref 0), (1, .int x1), (2, .int x2), (3, .int x3), (4, .int x4), (6, .int x6)]) dX7_whom_89 (Nat.le_of_ble_eq_true rfl) rfl ?_
        refine fx_iinc 91 (lv' := [(6, .int (x6 + (1 : Int32))), (5, .int (x5 ||| (if q73.1 = x3 then (1 : Int32) <<< (x6 &&& 31) else (0 : Int32)))), (0, .ref 0), (1, .int x1), (2, .int x2), (3, .int x3), (4, .int x4)]) (y := x6 + (1 : Int32)) dX7_whom_91 6 rfl (by rfl) (Nat.le_of_ble_eq_true rfl) rfl ?_
        refine fx_goto 94 49 dX7_whom_94 (by decide) ?_
        refine fx_sub [2, 3, 4, 5, 6, 1, 0] rfl ?_
        exact ih _ _ _ h
      refine fx_icmp_ne 77 87 dX7_whom_77 (by decide) (fun c77 => ?_) (fun c77 => ?_)
      · refine fx_iconst 87 (x := (0 : Int32)) dX7_whom_87 (by decide) ?_
        refine fx_sub (lv' := [(0, .ref 0), (1, .int x1), (2, .int x2), (3, .int x3), (4, .int x4), (5, .int x5), (6, .int x6)]) [0, 1, 2, 3, 4, 5, 6] rfl ?_
        show fx_V gM mX7_whom (fx_ri R) 88 [(0, .ref 0), (1, .int x1), (2, .int x2), (3, .int x3), (4, .int x4), (5, .int x5), (6, .int x6)] [.int (0 : Int32), .int x5] q73.2
        simpa only [if_neg c77] using J
      · refine fx_iconst 80 (x := (1 : Int32)) dX7_whom_80 (by decide) ?_
        refine fx_iload 81 dX7_whom_81 6 rfl ?_
        refine fx_ishl 83 dX7_whom_83 ?_
        refine fx_goto 84 88 dX7_whom_84 (by decide) ?_
        refine fx_sub (lv' := [(0, .ref 0), (1, .int x1), (2, .int x2), (3, .int x3), (4, .int x4), (5, .int x5), (6, .int x6)]) [0, 1, 2, 3, 4, 5, 6] rfl ?_
        show fx_V gM mX7_whom (fx_ri R) 88 [(0, .ref 0), (1, .int x1), (2, .int x2), (3, .int x3), (4, .int x4), (5, .int x5), (6, .int x6)] [.int ((1 : Int32) <<< (x6 &&& 31)), .int x5] q73.2
        simpa only [if_pos c77] using J
def CX7_whom (x1 : Int32) (x2 : Int32) (x3 : Int32) (M : fxMem) : Option (Int32 × fxMem) := Option.bind (CX7_isPlayer x1 M) fun q2 => if q2.1 = (0 : Int32) then some ((-1 : Int32), q2.2) else Option.bind (CX7_isSeat x2 q2.2) fun q9 => if q9.1 = (0 : Int32) then some ((-1 : Int32), q9.2) else Option.bind (CX7_in x3 (0 : Int32) (999 : Int32) q9.2) fun q22 => if q22.1 = (0 : Int32) then some ((-2 : Int32), q22.2) else if fx_in ((130 : Int32) + x1) 900 = true then CX7_whom_L49 x1 x2 x3 (q22.2 1 ((130 : Int32) + x1).toNatClampNeg) 1000 (0 : Int32) (0 : Int32) q22.2 (fun y5_49 y6_49 M49 => if fx_in ((130 : Int32) + x1) 900 = true then some (y5_49, fx_st M49 1 ((130 : Int32) + x1).toNatClampNeg (q22.2 1 ((130 : Int32) + x1).toNatClampNeg)) else none) else none
set_option maxRecDepth 100000 in
set_option maxHeartbeats 4000000 in
theorem tX7_whom {x1 : Int32} {x2 : Int32} {x3 : Int32} {M : fxMem} {R : Int32 × fxMem} (h : CX7_whom x1 x2 x3 M = some R) : fx_T gM mX7_whom [.ref 0, .int x1, .int x2, .int x3] M (fx_ri R) := by
  rw [CX7_whom] at h
  refine fx_enter [(0, .ref 0), (1, .int x1), (2, .int x2), (3, .int x3)] (by show plainName RX7 = true; decide) (fun _ => rfl) (fun _ => Nat.le_of_ble_eq_true rfl) ?_
  refine fx_aload_n 0 dX7_whom_0 rfl 0 rfl ?_
  refine fx_iload_n 1 dX7_whom_1 rfl 1 rfl ?_
  obtain ⟨q2, e2, h⟩ := fx_bd h
  refine fx_callVi 2 (mt' := mX7_isPlayer) (As := [.int x1]) okm0 (okvX7_isPlayer _ _) lmX7_152 (by decide) rfl rfl (Nat.le_of_ble_eq_true rfl) dX7_whom_2 (tX7_isPlayer e2) ?_
  refine fx_if_eq 5 15 dX7_whom_5 (by decide) (fun c5 => ?_) (fun c5 => ?_)
  · replace h := fx_ip c5 h
    refine fx_iconst 15 (x := (-1 : Int32)) dX7_whom_15 (by decide) ?_
    obtain rfl := Option.some.inj h
    exact fx_iret 16 dX7_whom_16 rfl rfl ⟨rfl, rfl⟩
  · replace h := fx_ne c5 h
    refine fx_iload_n 8 dX7_whom_8 rfl 2 rfl ?_
    obtain ⟨q9, e9, h⟩ := fx_bd h
    refine fx_callSi 9 (mt' := mX7_isSeat) (As := [.int x2]) (oksX7_isSeat _ _) lmX7_184 (by decide) rfl rfl (Nat.le_of_ble_eq_true rfl) dX7_whom_9 (tX7_isSeat e9) ?_
    refine fx_if_ne 12 17 dX7_whom_12 (by decide) (fun c12 => ?_) (fun c12 => ?_)
    · replace h := fx_ne c12 h
      refine fx_iload_n 17 dX7_whom_17 rfl 3 rfl ?_
      refine fx_iconst 18 (x := (0 : Int32)) dX7_whom_18 (by decide) ?_
      refine fx_sipush 19 (x := (999 : Int32)) dX7_whom_19 (by decide) ?_
      obtain ⟨q22, e22, h⟩ := fx_bd h
      refine fx_callSi 22 (mt' := mX7_in) (As := [.int x3, .int (0 : Int32), .int (999 : Int32)]) (oksX7_in _ _) lmX7_39 (by decide) rfl rfl (Nat.le_of_ble_eq_true rfl) dX7_whom_22 (tX7_in e22) ?_
      refine fx_if_ne 25 31 dX7_whom_25 (by decide) (fun c25 => ?_) (fun c25 => ?_)
      · replace h := fx_ne c25 h
        refine fx_aload_n 31 dX7_whom_31 rfl 0 rfl ?_
        refine fx_get 32 (j := 1) (v := .ref 1) okm0 dX7_whom_32 lfX7_7 (by decide) (fun _ => rfl) ?_
        refine fx_sipush 35 (x := (130 : Int32)) dX7_whom_35 (by decide) ?_
        refine fx_iload_n 38 dX7_whom_38 rfl 1 rfl ?_
        refine fx_iadd 39 dX7_whom_39 ?_
        obtain ⟨g40, h⟩ := fx_gt h
        refine fx_iald 40 okb1 dX7_whom_40 g40 ?_
        refine fx_istore 41 (lv' := [(4, .int (q22.2 1 ((130 : Int32) + x1).toNatClampNeg)), (0, .ref 0), (1, .int x1), (2, .int x2), (3, .int x3)]) dX7_whom_41 (Nat.le_of_ble_eq_true rfl) rfl ?_
        refine fx_iconst 43 (x := (0 : Int32)) dX7_whom_43 (by decide) ?_
        refine fx_istore 44 (lv' := [(5, .int (0 : Int32)), (4, .int (q22.2 1 ((130 : Int32) + x1).toNatClampNeg)), (0, .ref 0), (1, .int x1), (2, .int x2), (3, .int x3)]) dX7_whom_44 (Nat.le_of_ble_eq_true rfl) rfl ?_
        refine fx_iconst 46 (x := (0 : Int32)) dX7_whom_46 (by decide) ?_
        refine fx_istore 47 (lv' := [(6, .int (0 : Int32)), (5, .int (0 : Int32)), (4, .int (q22.2 1 ((130 : Int32) + x1).toNatClampNeg)), (0, .ref 0), (1, .int x1), (2, .int x2), (3, .int x3)]) dX7_whom_47 (Nat.le_of_ble_eq_true rfl) rfl ?_
        refine fx_sub [3, 4, 5, 6, 2, 1, 0] rfl ?_
        refine vX7_whom_L49 (fun y5_49 y6_49 M49 h => ?_) 1000 _ _ _ h
        refine fx_aload_n 97 dX7_whom_97 rfl 0 rfl ?_
        refine fx_get 98 (j := 1) (v := .ref 1) okm0 dX7_whom_98 lfX7_7 (by decide) (fun _ => rfl) ?_
        refine fx_sipush 101 (x := (130 : Int32)) dX7_whom_101 (by decide) ?_
        refine fx_iload_n 104 dX7_whom_104 rfl 1 rfl ?_
        refine fx_iadd 105 dX7_whom_105 ?_
        refine fx_iload 106 dX7_whom_106 4 rfl ?_
        obtain ⟨g108, h⟩ := fx_gt h
        refine fx_iast 108 okb1 dX7_whom_108 g108 ?_
        refine fx_iload 109 dX7_whom_109 5 rfl ?_
        obtain rfl := Option.some.inj h
        exact fx_iret 111 dX7_whom_111 rfl rfl ⟨rfl, rfl⟩
      · replace h := fx_ip c25 h
        refine fx_bipush 28 (x := (-2 : Int32)) dX7_whom_28 (by decide) ?_
        obtain rfl := Option.some.inj h
        exact fx_iret 30 dX7_whom_30 rfl rfl ⟨rfl, rfl⟩
    · replace h := fx_ip c12 h
      refine fx_iconst 15 (x := (-1 : Int32)) dX7_whom_15 (by decide) ?_
      obtain rfl := Option.some.inj h
      exact fx_iret 16 dX7_whom_16 rfl rfl ⟨rfl, rfl⟩
def mX7_out : fxM := (yX7_out, cX7_out, 6, (some .int), 50, 2000)
theorem okvX7_out (f l : Nat) : fx_okV (yX7_out, cX7_out, 6, (some .int), f, l) 0 := ⟨⟨rin36 _ (List.mem_of_getElem? (i := 1) rfl), rin1 _ (List.mem_of_getElem? (i := 5) rfl), by show yX7_out.cls ≠ _; decide +kernel, by show yX7_out.cls ≠ _; decide +kernel, by show (parseMethodDescriptor yX7_out.desc).map _ = _; decide +kernel⟩, rin35 _ (List.mem_of_getElem? (i := 23) rfl), rin36 _ (List.mem_of_getElem? (i := 0) rfl)⟩
def CX7_out_L19 : Nat → Int32 → Int32 → Int32 → fxMem → (Int32 → Int32 → Int32 → fxMem → Option (Int32 × fxMem)) → Option (Int32 × fxMem)
  | 0, _, _, _, _, _ => none
  | n + 1, x1, x2, x3, M, k => if fx_in (0 : Int32) 900 = true then if M 1 (0 : Int32).toNatClampNeg ≤ x3 then k x1 x2 x3 M else Option.bind (CX7_allSpreads (fx_st M 0 13 x3)) fun q35 => CX7_out_L19  n (if (if x1 = (-1 : Int32) then (1 : Int32) else (if x2 ≤ q35.1 then (0 : Int32) else (1 : Int32))) = (0 : Int32) then x1 else x3) (if (if x1 = (-1 : Int32) then (1 : Int32) else (if x2 ≤ q35.1 then (0 : Int32) else (1 : Int32))) = (0 : Int32) then x2 else q35.1) (x3 + (1 : Int32)) q35.2 k else none
set_option maxRecDepth 100000 in
set_option maxHeartbeats 4000000 in
theorem vX7_out_L19 {R : Int32 × fxMem} {k : Int32 → Int32 → Int32 → fxMem → Option (Int32 × fxMem)} (hk : ∀ (x1 : Int32) (x2 : Int32) (x3 : Int32) (M : fxMem), k x1 x2 x3 M = some R → fx_V gM mX7_out (fx_ri R) 87 [(0, .ref 0), (1, .int x1), (2, .int x2), (3, .int x3)] [] M) : ∀ (n : Nat) (x1 : Int32) (x2 : Int32) (x3 : Int32) (M : fxMem), CX7_out_L19  n x1 x2 x3 M k = some R → fx_V gM mX7_out (fx_ri R) 19 [(0, .ref 0), (1, .int x1), (2, .int x2), (3, .int x3)] [] M := by
  intro n
  induction n with
  | zero => intro x1 x2 x3 M h; rw [CX7_out_L19] at h; cases h
  | succ n ih =>
    intro x1 x2 x3 M h
    rw [CX7_out_L19] at h
    refine fx_iload_n 19 dX7_out_19 rfl 3 rfl ?_
    refine fx_aload_n 20 dX7_out_20 rfl 0 rfl ?_
    refine fx_get 21 (j := 1) (v := .ref 1) okm0 dX7_out_21 lfX7_7 (by decide) (fun _ => rfl) ?_
    refine fx_iconst 24 (x := (0 : Int32)) dX7_out_24 (by decide) ?_
    obtain ⟨g25, h⟩ := fx_gt h
    refine fx_iald 25 okb1 dX7_out_25 g25 ?_
    refine fx_icmp_ge 26 87 dX7_out_26 (by decide) (fun c26 => ?_) (fun c26 => ?_)
    · replace h := fx_ip c26 h
      refine fx_sub [0, 1, 2, 3] rfl ?_
      exact hk _ _ _ _ h
    · replace h := fx_ne c26 h
      refine fx_aload_n 29 dX7_out_29 rfl 0 rfl ?_
      refine fx_iload_n 30 dX7_out_30 rfl 3 rfl ?_
      refine fx_putI 31 (j := 13) okm0 dX7_out_31 lfX7_23 (by decide) rfl (by decide +kernel) (fun _ _ => Nat.le_of_ble_eq_true rfl) (fun _ _ _ => rfl) ?_
      refine fx_aload_n 34 dX7_out_34 rfl 0 rfl ?_
      obtain ⟨q35, e35, h⟩ := fx_bd h
      refine fx_callVi 35 (mt' := mX7_allSpreads) (As := []) okm0 (okvX7_allSpreads _ _) lmX7_202 (by decide) rfl rfl (Nat.le_of_ble_eq_true rfl) dX7_out_35 (tX7_allSpreads e35) ?_
      refine fx_istore 38 (lv' := [(4, .int q35.1), (0, .ref 0), (1, .int x1), (2, .int x2), (3, .int x3)]) dX7_out_38 (Nat.le_of_ble_eq_true rfl) rfl ?_
      refine fx_iload_n 40 dX7_out_40 rfl 2 rfl ?_
      refine fx_iconst 41 (x := (-1 : Int32)) dX7_out_41 (by decide) ?_
      have J : fx_V gM mX7_out (fx_ri R) 56 [(0, .ref 0), (1, .int x1), (2, .int x2), (3, .int x3), (4, .int q35.1)] [.int (if x1 = (-1 : Int32) then (1 : Int32) else (if x2 ≤ q35.1 then (0 : Int32) else (1 : Int32)))] q35.2 := by
        refine fx_istore 56 (lv' := [(5, .int (if x1 = (-1 : Int32) then (1 : Int32) else (if x2 ≤ q35.1 then (0 : Int32) else (1 : Int32)))), (0, .ref 0), (1, .int x1), (2, .int x2), (3, .int x3), (4, .int q35.1)]) dX7_out_56 (Nat.le_of_ble_eq_true rfl) rfl ?_
        refine fx_iload 58 dX7_out_58 0 rfl ?_
        have J : fx_V gM mX7_out (fx_ri R) 68 [(0, .ref 0), (1, .int x1), (2, .int x2), (3, .int x3), (4, .int q35.1), (5, .int (if x1 = (-1 : Int32) then (1 : Int32) else (if x2 ≤ q35.1 then (0 : Int32) else (1 : Int32))))] [.int (if (if x1 = (-1 : Int32) then (1 : Int32) else (if x2 ≤ q35.1 then (0 : Int32) else (1 : Int32))) = (0 : Int32) then x1 else x3)] q35.2 := by
          refine fx_istore_n 68 (lv' := [(1, .int (if (if x1 = (-1 : Int32) then (1 : Int32) else (if x2 ≤ q35.1 then (0 : Int32) else (1 : Int32))) = (0 : Int32) then x1 else x3)), (0, .ref 0), (2, .int x2), (3, .int x3), (4, .int q35.1), (5, .int (if x1 = (-1 : Int32) then (1 : Int32) else (if x2 ≤ q35.1 then (0 : Int32) else (1 : Int32))))]) dX7_out_68 rfl (Nat.le_of_ble_eq_true rfl) rfl ?_
          refine fx_iload 69 dX7_out_69 5 rfl ?_
          have J : fx_V gM mX7_out (fx_ri R) 80 [(0, .ref 0), (1, .int (if (if x1 = (-1 : Int32) then (1 : Int32) else (if x2 ≤ q35.1 then (0 : Int32) else (1 : Int32))) = (0 : Int32) then x1 else x3)), (2, .int x2), (3, .int x3), (4, .int q35.1), (5, .int (if x1 = (-1 : Int32) then (1 : Int32) else (if x2 ≤ q35.1 then (0 : Int32) else (1 : Int32))))] [.int (if (if x1 = (-1 : Int32) then (1 : Int32) else (if x2 ≤ q35.1 then (0 : Int32) else (1 : Int32))) = (0 : Int32) then x2 else q35.1)] q35.2 := by
            refine fx_istore_n 80 (lv' := [(2, .int (if (if x1 = (-1 : Int32) then (1 : Int32) else (if x2 ≤ q35.1 then (0 : Int32) else (1 : Int32))) = (0 : Int32) then x2 else q35.1)), (0, .ref 0), (1, .int (if (if x1 = (-1 : Int32) then (1 : Int32) else (if x2 ≤ q35.1 then (0 : Int32) else (1 : Int32))) = (0 : Int32) then x1 else x3)), (3, .int x3), (4, .int q35.1), (5, .int (if x1 = (-1 : Int32) then (1 : Int32) else (if x2 ≤ q35.1 then (0 : Int32) else (1 : Int32))))]) dX7_out_80 rfl (Nat.le_of_ble_eq_true rfl) rfl ?_
            refine fx_iinc 81 (lv' := [(3, .int (x3 + (1 : Int32))), (2, .int (if (if x1 = (-1 : Int32) then (1 : Int32) else (if x2 ≤ q35.1 then (0 : Int32) else (1 : Int32))) = (0 : Int32) then x2 else q35.1)), (0, .ref 0), (1, .int (if (if x1 = (-1 : Int32) then (1 : Int32) else (if x2 ≤ q35.1 then (0 : Int32) else (1 : Int32))) = (0 : Int32) then x1 else x3)), (4, .int q35.1), (5, .int (if x1 = (-1 : Int32) then (1 : Int32) else (if x2 ≤ q35.1 then (0 : Int32) else (1 : Int32))))]) (y := x3 + (1 : Int32)) dX7_out_81 3 rfl (by rfl) (Nat.le_of_ble_eq_true rfl) rfl ?_
            refine fx_goto 84 19 dX7_out_84 (by decide) ?_
            refine fx_sub [2, 3, 1, 0] rfl ?_
            exact ih _ _ _ _ h
          refine fx_if_eq 71 79 dX7_out_71 (by decide) (fun c71 => ?_) (fun c71 => ?_)
          · refine fx_iload_n 79 dX7_out_79 rfl 2 rfl ?_
            refine fx_sub (lv' := [(0, .ref 0), (1, .int (if (if x1 = (-1 : Int32) then (1 : Int32) else (if x2 ≤ q35.1 then (0 : Int32) else (1 : Int32))) = (0 : Int32) then x1 else x3)), (2, .int x2), (3, .int x3), (4, .int q35.1), (5, .int (if x1 = (-1 : Int32) then (1 : Int32) else (if x2 ≤ q35.1 then (0 : Int32) else (1 : Int32))))]) [1, 0, 2, 3, 4, 5] rfl ?_
            show fx_V gM mX7_out (fx_ri R) 80 [(0, .ref 0), (1, .int (if (if x1 = (-1 : Int32) then (1 : Int32) else (if x2 ≤ q35.1 then (0 : Int32) else (1 : Int32))) = (0 : Int32) then x1 else x3)), (2, .int x2), (3, .int x3), (4, .int q35.1), (5, .int (if x1 = (-1 : Int32) then (1 : Int32) else (if x2 ≤ q35.1 then (0 : Int32) else (1 : Int32))))] [.int x2] q35.2
            simpa only [if_pos c71] using J
          · refine fx_iload 74 dX7_out_74 4 rfl ?_
            refine fx_goto 76 80 dX7_out_76 (by decide) ?_
            refine fx_sub (lv' := [(0, .ref 0), (1, .int (if (if x1 = (-1 : Int32) then (1 : Int32) else (if x2 ≤ q35.1 then (0 : Int32) else (1 : Int32))) = (0 : Int32) then x1 else x3)), (2, .int x2), (3, .int x3), (4, .int q35.1), (5, .int (if x1 = (-1 : Int32) then (1 : Int32) else (if x2 ≤ q35.1 then (0 : Int32) else (1 : Int32))))]) [1, 0, 2, 3, 4, 5] rfl ?_
            show fx_V gM mX7_out (fx_ri R) 80 [(0, .ref 0), (1, .int (if (if x1 = (-1 : Int32) then (1 : Int32) else (if x2 ≤ q35.1 then (0 : Int32) else (1 : Int32))) = (0 : Int32) then x1 else x3)), (2, .int x2), (3, .int x3), (4, .int q35.1), (5, .int (if x1 = (-1 : Int32) then (1 : Int32) else (if x2 ≤ q35.1 then (0 : Int32) else (1 : Int32))))] [.int q35.1] q35.2
            simpa only [if_neg c71] using J
        refine fx_if_eq 60 67 dX7_out_60 (by decide) (fun c60 => ?_) (fun c60 => ?_)
        · refine fx_iload_n 67 dX7_out_67 rfl 2 rfl ?_
          refine fx_sub (lv' := [(0, .ref 0), (1, .int x1), (2, .int x2), (3, .int x3), (4, .int q35.1), (5, .int (if x1 = (-1 : Int32) then (1 : Int32) else (if x2 ≤ q35.1 then (0 : Int32) else (1 : Int32))))]) [1, 2, 3, 4, 5, 0] rfl ?_
          show fx_V gM mX7_out (fx_ri R) 68 [(0, .ref 0), (1, .int x1), (2, .int x2), (3, .int x3), (4, .int q35.1), (5, .int (if x1 = (-1 : Int32) then (1 : Int32) else (if x2 ≤ q35.1 then (0 : Int32) else (1 : Int32))))] [.int x1] q35.2
          simpa only [if_pos c60] using J
        · refine fx_iload_n 63 dX7_out_63 rfl 4 rfl ?_
          refine fx_goto 64 68 dX7_out_64 (by decide) ?_
          refine fx_sub (lv' := [(0, .ref 0), (1, .int x1), (2, .int x2), (3, .int x3), (4, .int q35.1), (5, .int (if x1 = (-1 : Int32) then (1 : Int32) else (if x2 ≤ q35.1 then (0 : Int32) else (1 : Int32))))]) [1, 2, 3, 4, 5, 0] rfl ?_
          show fx_V gM mX7_out (fx_ri R) 68 [(0, .ref 0), (1, .int x1), (2, .int x2), (3, .int x3), (4, .int q35.1), (5, .int (if x1 = (-1 : Int32) then (1 : Int32) else (if x2 ≤ q35.1 then (0 : Int32) else (1 : Int32))))] [.int x3] q35.2
          simpa only [if_neg c60] using J
      refine fx_icmp_eq 42 51 dX7_out_42 (by decide) (fun c42 => ?_) (fun c42 => ?_)
      · refine fx_iconst 51 (x := (1 : Int32)) dX7_out_51 (by decide) ?_
        refine fx_goto 52 56 dX7_out_52 (by decide) ?_
        refine fx_sub (lv' := [(0, .ref 0), (1, .int x1), (2, .int x2), (3, .int x3), (4, .int q35.1)]) [1, 2, 3, 4, 0] rfl ?_
        show fx_V gM mX7_out (fx_ri R) 56 [(0, .ref 0), (1, .int x1), (2, .int x2), (3, .int x3), (4, .int q35.1)] [.int (1 : Int32)] q35.2
        simpa only [if_pos c42] using J
      · refine fx_iload 45 dX7_out_45 0 rfl ?_
        refine fx_iload_n 47 dX7_out_47 rfl 3 rfl ?_
        refine fx_icmp_ge 48 55 dX7_out_48 (by decide) (fun c48 => ?_) (fun c48 => ?_)
        · refine fx_iconst 55 (x := (0 : Int32)) dX7_out_55 (by decide) ?_
          refine fx_sub (lv' := [(0, .ref 0), (1, .int x1), (2, .int x2), (3, .int x3), (4, .int q35.1)]) [1, 2, 3, 4, 0] rfl ?_
          show fx_V gM mX7_out (fx_ri R) 56 [(0, .ref 0), (1, .int x1), (2, .int x2), (3, .int x3), (4, .int q35.1)] [.int (0 : Int32)] q35.2
          simpa only [if_neg c42, if_pos c48] using J
        · refine fx_iconst 51 (x := (1 : Int32)) dX7_out_51 (by decide) ?_
          refine fx_goto 52 56 dX7_out_52 (by decide) ?_
          refine fx_sub (lv' := [(0, .ref 0), (1, .int x1), (2, .int x2), (3, .int x3), (4, .int q35.1)]) [1, 2, 3, 4, 0] rfl ?_
          show fx_V gM mX7_out (fx_ri R) 56 [(0, .ref 0), (1, .int x1), (2, .int x2), (3, .int x3), (4, .int q35.1)] [.int (1 : Int32)] q35.2
          simpa only [if_neg c42, if_neg c48] using J
def CX7_out  (M : fxMem) : Option (Int32 × fxMem) := if fx_in (0 : Int32) 900 = true then if (2 : Int32) ≤ M 1 (0 : Int32).toNatClampNeg then CX7_out_L19  1000 (-1 : Int32) (0 : Int32) (0 : Int32) M (fun y1_19 y2_19 y3_19 M19 => some (y1_19, fx_st M19 0 13 (-1 : Int32))) else some ((-5 : Int32), M) else none
set_option maxRecDepth 100000 in
set_option maxHeartbeats 4000000 in
theorem tX7_out  {M : fxMem} {R : Int32 × fxMem} (h : CX7_out  M = some R) : fx_T gM mX7_out [.ref 0] M (fx_ri R) := by
  rw [CX7_out] at h
  refine fx_enter [(0, .ref 0)] (by show plainName RX7 = true; decide) (fun _ => rfl) (fun _ => Nat.le_of_ble_eq_true rfl) ?_
  refine fx_aload_n 0 dX7_out_0 rfl 0 rfl ?_
  refine fx_get 1 (j := 1) (v := .ref 1) okm0 dX7_out_1 lfX7_7 (by decide) (fun _ => rfl) ?_
  refine fx_iconst 4 (x := (0 : Int32)) dX7_out_4 (by decide) ?_
  obtain ⟨g5, h⟩ := fx_gt h
  refine fx_iald 5 okb1 dX7_out_5 g5 ?_
  refine fx_iconst 6 (x := (2 : Int32)) dX7_out_6 (by decide) ?_
  refine fx_icmp_ge 7 13 dX7_out_7 (by decide) (fun c7 => ?_) (fun c7 => ?_)
  · replace h := fx_ip c7 h
    refine fx_iconst 13 (x := (-1 : Int32)) dX7_out_13 (by decide) ?_
    refine fx_istore_n 14 (lv' := [(1, .int (-1 : Int32)), (0, .ref 0)]) dX7_out_14 rfl (Nat.le_of_ble_eq_true rfl) rfl ?_
    refine fx_iconst 15 (x := (0 : Int32)) dX7_out_15 (by decide) ?_
    refine fx_istore_n 16 (lv' := [(2, .int (0 : Int32)), (1, .int (-1 : Int32)), (0, .ref 0)]) dX7_out_16 rfl (Nat.le_of_ble_eq_true rfl) rfl ?_
    refine fx_iconst 17 (x := (0 : Int32)) dX7_out_17 (by decide) ?_
    refine fx_istore_n 18 (lv' := [(3, .int (0 : Int32)), (2, .int (0 : Int32)), (1, .int (-1 : Int32)), (0, .ref 0)]) dX7_out_18 rfl (Nat.le_of_ble_eq_true rfl) rfl ?_
    refine fx_sub [3, 2, 1, 0] rfl ?_
    refine vX7_out_L19 (fun y1_19 y2_19 y3_19 M19 h => ?_) 1000 _ _ _ _ h
    refine fx_aload_n 87 dX7_out_87 rfl 0 rfl ?_
    refine fx_iconst 88 (x := (-1 : Int32)) dX7_out_88 (by decide) ?_
    refine fx_putI 89 (j := 13) okm0 dX7_out_89 lfX7_23 (by decide) rfl (by decide +kernel) (fun _ _ => Nat.le_of_ble_eq_true rfl) (fun _ _ _ => rfl) ?_
    refine fx_iload_n 92 dX7_out_92 rfl 1 rfl ?_
    obtain rfl := Option.some.inj h
    exact fx_iret 93 dX7_out_93 rfl rfl ⟨rfl, rfl⟩
  · replace h := fx_ne c7 h
    refine fx_bipush 10 (x := (-5 : Int32)) dX7_out_10 (by decide) ?_
    obtain rfl := Option.some.inj h
    exact fx_iret 12 dX7_out_12 rfl rfl ⟨rfl, rfl⟩
def mX7_runs : fxM := (yX7_runs, cX7_runs, 2, none, 2, 80)
theorem okvX7_runs (f l : Nat) : fx_okV (yX7_runs, cX7_runs, 2, none, f, l) 1 := ⟨⟨rin37 _ (List.mem_of_getElem? (i := 22) rfl), rin1 _ (List.mem_of_getElem? (i := 5) rfl), by show yX7_runs.cls ≠ _; decide +kernel, by show yX7_runs.cls ≠ _; decide +kernel, by show (parseMethodDescriptor yX7_runs.desc).map _ = _; decide +kernel⟩, rin37 _ (List.mem_of_getElem? (i := 20) rfl), rin37 _ (List.mem_of_getElem? (i := 21) rfl)⟩
def CX7_runs_J19  (x1 : Int32) (M : fxMem) : Option (fxMem) := some (fx_st M 0 20 ((M 0 20) + (1 : Int32)))
set_option maxRecDepth 100000 in
set_option maxHeartbeats 4000000 in
theorem vX7_runs_J19  {x1 : Int32} {R : fxMem} {M : fxMem} (h : CX7_runs_J19 x1 M = some R) : fx_V gM mX7_runs (fx_rv R) 19 [(0, .ref 0), (1, .int x1)] [] M := by
  rw [CX7_runs_J19] at h
  refine fx_aload_n 19 dX7_runs_19 rfl 0 rfl ?_
  refine fx_dup 20 dX7_runs_20 rfl ?_
  refine fx_get 21 (j := 20) (v := .int (M 0 20)) okm0 dX7_runs_21 lfX7_228 (by decide) (fun _ => rfl) ?_
  refine fx_iconst 24 (x := (1 : Int32)) dX7_runs_24 (by decide) ?_
  refine fx_iadd 25 dX7_runs_25 ?_
  refine fx_putI 26 (j := 20) okm0 dX7_runs_26 lfX7_228 (by decide) rfl (by decide +kernel) (fun _ _ => Nat.le_of_ble_eq_true rfl) (fun _ _ _ => rfl) ?_
  obtain rfl := Option.some.inj h
  exact fx_vret 29 dX7_runs_29 rfl ⟨rfl, rfl⟩
def CX7_runs (x1 : Int32) (M : fxMem) : Option (fxMem) := if (20 : Int32) ≤ M 0 20 then CX7_runs_J19 x1 M else if fx_in (M 0 20) 20 = true then CX7_runs_J19 x1 (fx_st M 7 (M 0 20).toNatClampNeg x1) else none
set_option maxRecDepth 100000 in
set_option maxHeartbeats 4000000 in
theorem tX7_runs {x1 : Int32} {M : fxMem} {R : fxMem} (h : CX7_runs x1 M = some R) : fx_T gM mX7_runs [.ref 0, .int x1] M (fx_rv R) := by
  rw [CX7_runs] at h
  refine fx_enter [(0, .ref 0), (1, .int x1)] (by show plainName RX7 = true; decide) (fun _ => rfl) (fun _ => Nat.le_of_ble_eq_true rfl) ?_
  refine fx_aload_n 0 dX7_runs_0 rfl 0 rfl ?_
  refine fx_get 1 (j := 20) (v := .int (M 0 20)) okm0 dX7_runs_1 lfX7_228 (by decide) (fun _ => rfl) ?_
  refine fx_bipush 4 (x := (20 : Int32)) dX7_runs_4 (by decide) ?_
  refine fx_icmp_ge 6 19 dX7_runs_6 (by decide) (fun c6 => ?_) (fun c6 => ?_)
  · replace h := fx_ip c6 h
    refine fx_sub [0, 1] rfl ?_
    exact vX7_runs_J19 h
  · replace h := fx_ne c6 h
    refine fx_aload_n 9 dX7_runs_9 rfl 0 rfl ?_
    refine fx_get 10 (j := 19) (v := .ref 7) okm0 dX7_runs_10 lfX7_33 (by decide) (fun _ => rfl) ?_
    refine fx_aload_n 13 dX7_runs_13 rfl 0 rfl ?_
    refine fx_get 14 (j := 20) (v := .int (M 0 20)) okm0 dX7_runs_14 lfX7_228 (by decide) (fun _ => rfl) ?_
    refine fx_iload_n 17 dX7_runs_17 rfl 1 rfl ?_
    obtain ⟨g18, h⟩ := fx_gt h
    refine fx_iast 18 okb7 dX7_runs_18 g18 ?_
    refine fx_sub [0, 1] rfl ?_
    exact vX7_runs_J19 h
def mX7_isUnder : fxM := (yX7_isUnder, cX7_isUnder, 2, (some .boolean), 2, 80)
theorem oksX7_isUnder (f l : Nat) : fx_okS (yX7_isUnder, cX7_isUnder, 2, (some .boolean), f, l) 2 := ⟨⟨rin37 _ (List.mem_of_getElem? (i := 18) rfl), rin1 _ (List.mem_of_getElem? (i := 5) rfl), by show yX7_isUnder.cls ≠ _; decide +kernel, by show yX7_isUnder.cls ≠ _; decide +kernel, by show (parseMethodDescriptor yX7_isUnder.desc).map _ = _; decide +kernel⟩, rin37 _ (List.mem_of_getElem? (i := 17) rfl)⟩
def CX7_isUnder (x0 : Int32) (x1 : Int32) (M : fxMem) : Option (Int32 × fxMem) := some ((if x1 = (0 : Int32) then (1 : Int32) else (if x1 = x0 then (1 : Int32) else (if x1 = (1 : Int32) then (if x0 = (4 : Int32) then (1 : Int32) else (if x1 = (2 : Int32) then (if x0 = (5 : Int32) then (1 : Int32) else (if x1 = (3 : Int32) then (if x0 = (6 : Int32) then (1 : Int32) else (0 : Int32)) else (0 : Int32))) else (if x1 = (3 : Int32) then (if x0 = (6 : Int32) then (1 : Int32) else (0 : Int32)) else (0 : Int32)))) else (if x1 = (2 : Int32) then (if x0 = (5 : Int32) then (1 : Int32) else (if x1 = (3 : Int32) then (if x0 = (6 : Int32) then (1 : Int32) else (0 : Int32)) else (0 : Int32))) else (if x1 = (3 : Int32) then (if x0 = (6 : Int32) then (1 : Int32) else (0 : Int32)) else (0 : Int32)))))), M)
set_option maxRecDepth 100000 in
set_option maxHeartbeats 4000000 in
theorem tX7_isUnder {x0 : Int32} {x1 : Int32} {M : fxMem} {R : Int32 × fxMem} (h : CX7_isUnder x0 x1 M = some R) : fx_T gM mX7_isUnder [.int x0, .int x1] M (fx_ri R) := by
  rw [CX7_isUnder] at h
  refine fx_enter [(0, .int x0), (1, .int x1)] (by show plainName RX7 = true; decide) (fun _ => rfl) (fun _ => Nat.le_of_ble_eq_true rfl) ?_
  refine fx_iload_n 0 dX7_isUnder_0 rfl 1 rfl ?_
  have J : fx_V gM mX7_isUnder (fx_ri R) 45 [(0, .int x0), (1, .int x1)] [.int (if x1 = (0 : Int32) then (1 : Int32) else (if x1 = x0 then (1 : Int32) else (if x1 = (1 : Int32) then (if x0 = (4 : Int32) then (1 : Int32) else (if x1 = (2 : Int32) then (if x0 = (5 : Int32) then (1 : Int32) else (if x1 = (3 : Int32) then (if x0 = (6 : Int32) then (1 : Int32) else (0 : Int32)) else (0 : Int32))) else (if x1 = (3 : Int32) then (if x0 = (6 : Int32) then (1 : Int32) else (0 : Int32)) else (0 : Int32)))) else (if x1 = (2 : Int32) then (if x0 = (5 : Int32) then (1 : Int32) else (if x1 = (3 : Int32) then (if x0 = (6 : Int32) then (1 : Int32) else (0 : Int32)) else (0 : Int32))) else (if x1 = (3 : Int32) then (if x0 = (6 : Int32) then (1 : Int32) else (0 : Int32)) else (0 : Int32))))))] M := by
    obtain rfl := Option.some.inj h
    exact fx_iret 45 dX7_isUnder_45 rfl (by (repeat' split) <;> rfl) ⟨rfl, rfl⟩
  refine fx_if_eq 1 40 dX7_isUnder_1 (by decide) (fun c1 => ?_) (fun c1 => ?_)
  · refine fx_iconst 40 (x := (1 : Int32)) dX7_isUnder_40 (by decide) ?_
    refine fx_goto 41 45 dX7_isUnder_41 (by decide) ?_
    refine fx_sub (lv' := [(0, .int x0), (1, .int x1)]) [0, 1] rfl ?_
    show fx_V gM mX7_isUnder (fx_ri R) 45 [(0, .int x0), (1, .int x1)] [.int (1 : Int32)] M
    simpa only [if_pos c1] using J
  · refine fx_iload_n 4 dX7_isUnder_4 rfl 1 rfl ?_
    refine fx_iload_n 5 dX7_isUnder_5 rfl 0 rfl ?_
    refine fx_icmp_eq 6 40 dX7_isUnder_6 (by decide) (fun c6 => ?_) (fun c6 => ?_)
    · refine fx_iconst 40 (x := (1 : Int32)) dX7_isUnder_40 (by decide) ?_
      refine fx_goto 41 45 dX7_isUnder_41 (by decide) ?_
      refine fx_sub (lv' := [(0, .int x0), (1, .int x1)]) [0, 1] rfl ?_
      show fx_V gM mX7_isUnder (fx_ri R) 45 [(0, .int x0), (1, .int x1)] [.int (1 : Int32)] M
      simpa only [if_neg c1, if_pos c6] using J
    · refine fx_iload_n 9 dX7_isUnder_9 rfl 1 rfl ?_
      refine fx_iconst 10 (x := (1 : Int32)) dX7_isUnder_10 (by decide) ?_
      refine fx_icmp_ne 11 19 dX7_isUnder_11 (by decide) (fun c11 => ?_) (fun c11 => ?_)
      · refine fx_iload_n 19 dX7_isUnder_19 rfl 1 rfl ?_
        refine fx_iconst 20 (x := (2 : Int32)) dX7_isUnder_20 (by decide) ?_
        refine fx_icmp_ne 21 29 dX7_isUnder_21 (by decide) (fun c21 => ?_) (fun c21 => ?_)
        · refine fx_iload_n 29 dX7_isUnder_29 rfl 1 rfl ?_
          refine fx_iconst 30 (x := (3 : Int32)) dX7_isUnder_30 (by decide) ?_
          refine fx_icmp_ne 31 44 dX7_isUnder_31 (by decide) (fun c31 => ?_) (fun c31 => ?_)
          · refine fx_iconst 44 (x := (0 : Int32)) dX7_isUnder_44 (by decide) ?_
            refine fx_sub (lv' := [(0, .int x0), (1, .int x1)]) [0, 1] rfl ?_
            show fx_V gM mX7_isUnder (fx_ri R) 45 [(0, .int x0), (1, .int x1)] [.int (0 : Int32)] M
            simpa only [if_neg c1, if_neg c6, if_neg c11, if_neg c21, if_neg c31] using J
          · refine fx_iload_n 34 dX7_isUnder_34 rfl 0 rfl ?_
            refine fx_bipush 35 (x := (6 : Int32)) dX7_isUnder_35 (by decide) ?_
            refine fx_icmp_ne 37 44 dX7_isUnder_37 (by decide) (fun c37 => ?_) (fun c37 => ?_)
            · refine fx_iconst 44 (x := (0 : Int32)) dX7_isUnder_44 (by decide) ?_
              refine fx_sub (lv' := [(0, .int x0), (1, .int x1)]) [0, 1] rfl ?_
              show fx_V gM mX7_isUnder (fx_ri R) 45 [(0, .int x0), (1, .int x1)] [.int (0 : Int32)] M
              simpa only [if_neg c1, if_neg c6, if_neg c11, if_neg c21, if_pos c31, if_neg c37] using J
            · refine fx_iconst 40 (x := (1 : Int32)) dX7_isUnder_40 (by decide) ?_
              refine fx_goto 41 45 dX7_isUnder_41 (by decide) ?_
              refine fx_sub (lv' := [(0, .int x0), (1, .int x1)]) [0, 1] rfl ?_
              show fx_V gM mX7_isUnder (fx_ri R) 45 [(0, .int x0), (1, .int x1)] [.int (1 : Int32)] M
              simpa only [if_neg c1, if_neg c6, if_neg c11, if_neg c21, if_pos c31, if_pos c37] using J
        · refine fx_iload_n 24 dX7_isUnder_24 rfl 0 rfl ?_
          refine fx_iconst 25 (x := (5 : Int32)) dX7_isUnder_25 (by decide) ?_
          refine fx_icmp_eq 26 40 dX7_isUnder_26 (by decide) (fun c26 => ?_) (fun c26 => ?_)
          · refine fx_iconst 40 (x := (1 : Int32)) dX7_isUnder_40 (by decide) ?_
            refine fx_goto 41 45 dX7_isUnder_41 (by decide) ?_
            refine fx_sub (lv' := [(0, .int x0), (1, .int x1)]) [0, 1] rfl ?_
            show fx_V gM mX7_isUnder (fx_ri R) 45 [(0, .int x0), (1, .int x1)] [.int (1 : Int32)] M
            simpa only [if_neg c1, if_neg c6, if_neg c11, if_pos c21, if_pos c26] using J
          · refine fx_iload_n 29 dX7_isUnder_29 rfl 1 rfl ?_
            refine fx_iconst 30 (x := (3 : Int32)) dX7_isUnder_30 (by decide) ?_
            refine fx_icmp_ne 31 44 dX7_isUnder_31 (by decide) (fun c31 => ?_) (fun c31 => ?_)
            · refine fx_iconst 44 (x := (0 : Int32)) dX7_isUnder_44 (by decide) ?_
              refine fx_sub (lv' := [(0, .int x0), (1, .int x1)]) [0, 1] rfl ?_
              show fx_V gM mX7_isUnder (fx_ri R) 45 [(0, .int x0), (1, .int x1)] [.int (0 : Int32)] M
              simpa only [if_neg c1, if_neg c6, if_neg c11, if_pos c21, if_neg c26, if_neg c31] using J
            · refine fx_iload_n 34 dX7_isUnder_34 rfl 0 rfl ?_
              refine fx_bipush 35 (x := (6 : Int32)) dX7_isUnder_35 (by decide) ?_
              refine fx_icmp_ne 37 44 dX7_isUnder_37 (by decide) (fun c37 => ?_) (fun c37 => ?_)
              · refine fx_iconst 44 (x := (0 : Int32)) dX7_isUnder_44 (by decide) ?_
                refine fx_sub (lv' := [(0, .int x0), (1, .int x1)]) [0, 1] rfl ?_
                show fx_V gM mX7_isUnder (fx_ri R) 45 [(0, .int x0), (1, .int x1)] [.int (0 : Int32)] M
                simpa only [if_neg c1, if_neg c6, if_neg c11, if_pos c21, if_neg c26, if_pos c31, if_neg c37] using J
              · refine fx_iconst 40 (x := (1 : Int32)) dX7_isUnder_40 (by decide) ?_
                refine fx_goto 41 45 dX7_isUnder_41 (by decide) ?_
                refine fx_sub (lv' := [(0, .int x0), (1, .int x1)]) [0, 1] rfl ?_
                show fx_V gM mX7_isUnder (fx_ri R) 45 [(0, .int x0), (1, .int x1)] [.int (1 : Int32)] M
                simpa only [if_neg c1, if_neg c6, if_neg c11, if_pos c21, if_neg c26, if_pos c31, if_pos c37] using J
      · refine fx_iload_n 14 dX7_isUnder_14 rfl 0 rfl ?_
        refine fx_iconst 15 (x := (4 : Int32)) dX7_isUnder_15 (by decide) ?_
        refine fx_icmp_eq 16 40 dX7_isUnder_16 (by decide) (fun c16 => ?_) (fun c16 => ?_)
        · refine fx_iconst 40 (x := (1 : Int32)) dX7_isUnder_40 (by decide) ?_
          refine fx_goto 41 45 dX7_isUnder_41 (by decide) ?_
          refine fx_sub (lv' := [(0, .int x0), (1, .int x1)]) [0, 1] rfl ?_
          show fx_V gM mX7_isUnder (fx_ri R) 45 [(0, .int x0), (1, .int x1)] [.int (1 : Int32)] M
          simpa only [if_neg c1, if_neg c6, if_pos c11, if_pos c16] using J
        · refine fx_iload_n 19 dX7_isUnder_19 rfl 1 rfl ?_
          refine fx_iconst 20 (x := (2 : Int32)) dX7_isUnder_20 (by decide) ?_
          refine fx_icmp_ne 21 29 dX7_isUnder_21 (by decide) (fun c21 => ?_) (fun c21 => ?_)
          · refine fx_iload_n 29 dX7_isUnder_29 rfl 1 rfl ?_
            refine fx_iconst 30 (x := (3 : Int32)) dX7_isUnder_30 (by decide) ?_
            refine fx_icmp_ne 31 44 dX7_isUnder_31 (by decide) (fun c31 => ?_) (fun c31 => ?_)
            · refine fx_iconst 44 (x := (0 : Int32)) dX7_isUnder_44 (by decide) ?_
              refine fx_sub (lv' := [(0, .int x0), (1, .int x1)]) [0, 1] rfl ?_
              show fx_V gM mX7_isUnder (fx_ri R) 45 [(0, .int x0), (1, .int x1)] [.int (0 : Int32)] M
              simpa only [if_neg c1, if_neg c6, if_pos c11, if_neg c16, if_neg c21, if_neg c31] using J
            · refine fx_iload_n 34 dX7_isUnder_34 rfl 0 rfl ?_
              refine fx_bipush 35 (x := (6 : Int32)) dX7_isUnder_35 (by decide) ?_
              refine fx_icmp_ne 37 44 dX7_isUnder_37 (by decide) (fun c37 => ?_) (fun c37 => ?_)
              · refine fx_iconst 44 (x := (0 : Int32)) dX7_isUnder_44 (by decide) ?_
                refine fx_sub (lv' := [(0, .int x0), (1, .int x1)]) [0, 1] rfl ?_
                show fx_V gM mX7_isUnder (fx_ri R) 45 [(0, .int x0), (1, .int x1)] [.int (0 : Int32)] M
                simpa only [if_neg c1, if_neg c6, if_pos c11, if_neg c16, if_neg c21, if_pos c31, if_neg c37] using J
              · refine fx_iconst 40 (x := (1 : Int32)) dX7_isUnder_40 (by decide) ?_
                refine fx_goto 41 45 dX7_isUnder_41 (by decide) ?_
                refine fx_sub (lv' := [(0, .int x0), (1, .int x1)]) [0, 1] rfl ?_
                show fx_V gM mX7_isUnder (fx_ri R) 45 [(0, .int x0), (1, .int x1)] [.int (1 : Int32)] M
                simpa only [if_neg c1, if_neg c6, if_pos c11, if_neg c16, if_neg c21, if_pos c31, if_pos c37] using J
          · refine fx_iload_n 24 dX7_isUnder_24 rfl 0 rfl ?_
            refine fx_iconst 25 (x := (5 : Int32)) dX7_isUnder_25 (by decide) ?_
            refine fx_icmp_eq 26 40 dX7_isUnder_26 (by decide) (fun c26 => ?_) (fun c26 => ?_)
            · refine fx_iconst 40 (x := (1 : Int32)) dX7_isUnder_40 (by decide) ?_
              refine fx_goto 41 45 dX7_isUnder_41 (by decide) ?_
              refine fx_sub (lv' := [(0, .int x0), (1, .int x1)]) [0, 1] rfl ?_
              show fx_V gM mX7_isUnder (fx_ri R) 45 [(0, .int x0), (1, .int x1)] [.int (1 : Int32)] M
              simpa only [if_neg c1, if_neg c6, if_pos c11, if_neg c16, if_pos c21, if_pos c26] using J
            · refine fx_iload_n 29 dX7_isUnder_29 rfl 1 rfl ?_
              refine fx_iconst 30 (x := (3 : Int32)) dX7_isUnder_30 (by decide) ?_
              refine fx_icmp_ne 31 44 dX7_isUnder_31 (by decide) (fun c31 => ?_) (fun c31 => ?_)
              · refine fx_iconst 44 (x := (0 : Int32)) dX7_isUnder_44 (by decide) ?_
                refine fx_sub (lv' := [(0, .int x0), (1, .int x1)]) [0, 1] rfl ?_
                show fx_V gM mX7_isUnder (fx_ri R) 45 [(0, .int x0), (1, .int x1)] [.int (0 : Int32)] M
                simpa only [if_neg c1, if_neg c6, if_pos c11, if_neg c16, if_pos c21, if_neg c26, if_neg c31] using J
              · refine fx_iload_n 34 dX7_isUnder_34 rfl 0 rfl ?_
                refine fx_bipush 35 (x := (6 : Int32)) dX7_isUnder_35 (by decide) ?_
                refine fx_icmp_ne 37 44 dX7_isUnder_37 (by decide) (fun c37 => ?_) (fun c37 => ?_)
                · refine fx_iconst 44 (x := (0 : Int32)) dX7_isUnder_44 (by decide) ?_
                  refine fx_sub (lv' := [(0, .int x0), (1, .int x1)]) [0, 1] rfl ?_
                  show fx_V gM mX7_isUnder (fx_ri R) 45 [(0, .int x0), (1, .int x1)] [.int (0 : Int32)] M
                  simpa only [if_neg c1, if_neg c6, if_pos c11, if_neg c16, if_pos c21, if_neg c26, if_pos c31, if_neg c37] using J
                · refine fx_iconst 40 (x := (1 : Int32)) dX7_isUnder_40 (by decide) ?_
                  refine fx_goto 41 45 dX7_isUnder_41 (by decide) ?_
                  refine fx_sub (lv' := [(0, .int x0), (1, .int x1)]) [0, 1] rfl ?_
                  show fx_V gM mX7_isUnder (fx_ri R) 45 [(0, .int x0), (1, .int x1)] [.int (1 : Int32)] M
                  simpa only [if_neg c1, if_neg c6, if_pos c11, if_neg c16, if_pos c21, if_neg c26, if_pos c31, if_pos c37] using J
def mX7_plainGoes : fxM := (yX7_plainGoes, cX7_plainGoes, 2, (some .int), 3, 120)
theorem okvX7_plainGoes (f l : Nat) : fx_okV (yX7_plainGoes, cX7_plainGoes, 2, (some .int), f, l) 1 := ⟨⟨rin38 _ (List.mem_of_getElem? (i := 2) rfl), rin1 _ (List.mem_of_getElem? (i := 5) rfl), by show yX7_plainGoes.cls ≠ _; decide +kernel, by show yX7_plainGoes.cls ≠ _; decide +kernel, by show (parseMethodDescriptor yX7_plainGoes.desc).map _ = _; decide +kernel⟩, rin38 _ (List.mem_of_getElem? (i := 0) rfl), rin38 _ (List.mem_of_getElem? (i := 1) rfl)⟩
def CX7_plainGoes (x1 : Int32) (M : fxMem) : Option (Int32 × fxMem) := Option.bind (CX7_runs (1 : Int32) M) fun q2 => some (x1 + (q2 0 22), q2)
set_option maxRecDepth 100000 in
set_option maxHeartbeats 4000000 in
theorem tX7_plainGoes {x1 : Int32} {M : fxMem} {R : Int32 × fxMem} (h : CX7_plainGoes x1 M = some R) : fx_T gM mX7_plainGoes [.ref 0, .int x1] M (fx_ri R) := by
  rw [CX7_plainGoes] at h
  refine fx_enter [(0, .ref 0), (1, .int x1)] (by show plainName RX7 = true; decide) (fun _ => rfl) (fun _ => Nat.le_of_ble_eq_true rfl) ?_
  refine fx_aload_n 0 dX7_plainGoes_0 rfl 0 rfl ?_
  refine fx_iconst 1 (x := (1 : Int32)) dX7_plainGoes_1 (by decide) ?_
  obtain ⟨q2, e2, h⟩ := fx_bd h
  refine fx_callVv 2 (mt' := mX7_runs) (As := [.int (1 : Int32)]) okm0 (okvX7_runs _ _) lmX7_231 (by decide) rfl rfl (Nat.le_of_ble_eq_true rfl) dX7_plainGoes_2 (tX7_runs e2) ?_
  refine fx_iload_n 5 dX7_plainGoes_5 rfl 1 rfl ?_
  refine fx_aload_n 6 dX7_plainGoes_6 rfl 0 rfl ?_
  refine fx_get 7 (j := 22) (v := .int (q2 0 22)) okm0 dX7_plainGoes_7 lfX7_234 (by decide) (fun _ => rfl) ?_
  refine fx_iadd 10 dX7_plainGoes_10 ?_
  obtain rfl := Option.some.inj h
  exact fx_iret 11 dX7_plainGoes_11 rfl rfl ⟨rfl, rfl⟩
def mX7_goesActs : fxM := (yX7_goesActs, cX7_goesActs, 2, (some .int), 4, 160)
theorem okvX7_goesActs (f l : Nat) : fx_okV (yX7_goesActs, cX7_goesActs, 2, (some .int), f, l) 1 := ⟨⟨rin37 _ (List.mem_of_getElem? (i := 15) rfl), rin1 _ (List.mem_of_getElem? (i := 5) rfl), by show yX7_goesActs.cls ≠ _; decide +kernel, by show yX7_goesActs.cls ≠ _; decide +kernel, by show (parseMethodDescriptor yX7_goesActs.desc).map _ = _; decide +kernel⟩, rin37 _ (List.mem_of_getElem? (i := 13) rfl), rin37 _ (List.mem_of_getElem? (i := 14) rfl)⟩
def CX7_goesActs (x1 : Int32) (M : fxMem) : Option (Int32 × fxMem) := Option.bind (CX7_isUnder (M 0 21) (1 : Int32) M) fun q5 => if q5.1 = (0 : Int32) then if q5.2 0 21 = (5 : Int32) then Option.bind (CX7_runs (51 : Int32) q5.2) fun q36 => Option.bind (CX7_plainGoes x1 q36) fun q41 => some (q41.1 ^^^ (q41.2 0 22), q41.2) else Option.bind (CX7_plainGoes x1 q5.2) fun q52 => some (q52.1, q52.2) else Option.bind (CX7_runs (11 : Int32) q5.2) fun q14 => Option.bind (CX7_plainGoes (x1 * (3 : Int32)) q14) fun q21 => some (q21.1, q21.2)
set_option maxRecDepth 100000 in
set_option maxHeartbeats 4000000 in
theorem tX7_goesActs {x1 : Int32} {M : fxMem} {R : Int32 × fxMem} (h : CX7_goesActs x1 M = some R) : fx_T gM mX7_goesActs [.ref 0, .int x1] M (fx_ri R) := by
  rw [CX7_goesActs] at h
  refine fx_enter [(0, .ref 0), (1, .int x1)] (by show plainName RX7 = true; decide) (fun _ => rfl) (fun _ => Nat.le_of_ble_eq_true rfl) ?_
  refine fx_aload_n 0 dX7_goesActs_0 rfl 0 rfl ?_
  refine fx_get 1 (j := 21) (v := .int (M 0 21)) okm0 dX7_goesActs_1 lfX7_237 (by decide) (fun _ => rfl) ?_
  refine fx_iconst 4 (x := (1 : Int32)) dX7_goesActs_4 (by decide) ?_
  obtain ⟨q5, e5, h⟩ := fx_bd h
  refine fx_callSi 5 (mt' := mX7_isUnder) (As := [.int (M 0 21), .int (1 : Int32)]) (oksX7_isUnder _ _) lmX7_240 (by decide) rfl rfl (Nat.le_of_ble_eq_true rfl) dX7_goesActs_5 (tX7_isUnder e5) ?_
  refine fx_if_eq 8 25 dX7_goesActs_8 (by decide) (fun c8 => ?_) (fun c8 => ?_)
  · replace h := fx_ip c8 h
    refine fx_aload_n 25 dX7_goesActs_25 rfl 0 rfl ?_
    refine fx_get 26 (j := 21) (v := .int (q5.2 0 21)) okm0 dX7_goesActs_26 lfX7_237 (by decide) (fun _ => rfl) ?_
    refine fx_iconst 29 (x := (5 : Int32)) dX7_goesActs_29 (by decide) ?_
    refine fx_icmp_ne 30 50 dX7_goesActs_30 (by decide) (fun c30 => ?_) (fun c30 => ?_)
    · replace h := fx_ne c30 h
      refine fx_aload_n 50 dX7_goesActs_50 rfl 0 rfl ?_
      refine fx_iload_n 51 dX7_goesActs_51 rfl 1 rfl ?_
      obtain ⟨q52, e52, h⟩ := fx_bd h
      refine fx_callVi 52 (mt' := mX7_plainGoes) (As := [.int x1]) okm0 (okvX7_plainGoes _ _) lmX7_244 (by decide) rfl rfl (Nat.le_of_ble_eq_true rfl) dX7_goesActs_52 (tX7_plainGoes e52) ?_
      obtain rfl := Option.some.inj h
      exact fx_iret 55 dX7_goesActs_55 rfl rfl ⟨rfl, rfl⟩
    · replace h := fx_ip c30 h
      refine fx_aload_n 33 dX7_goesActs_33 rfl 0 rfl ?_
      refine fx_bipush 34 (x := (51 : Int32)) dX7_goesActs_34 (by decide) ?_
      obtain ⟨q36, e36, h⟩ := fx_bd h
      refine fx_callVv 36 (mt' := mX7_runs) (As := [.int (51 : Int32)]) okm0 (okvX7_runs _ _) lmX7_231 (by decide) rfl rfl (Nat.le_of_ble_eq_true rfl) dX7_goesActs_36 (tX7_runs e36) ?_
      refine fx_aload_n 39 dX7_goesActs_39 rfl 0 rfl ?_
      refine fx_iload_n 40 dX7_goesActs_40 rfl 1 rfl ?_
      obtain ⟨q41, e41, h⟩ := fx_bd h
      refine fx_callVi 41 (mt' := mX7_plainGoes) (As := [.int x1]) okm0 (okvX7_plainGoes _ _) lmX7_244 (by decide) rfl rfl (Nat.le_of_ble_eq_true rfl) dX7_goesActs_41 (tX7_plainGoes e41) ?_
      refine fx_aload_n 44 dX7_goesActs_44 rfl 0 rfl ?_
      refine fx_get 45 (j := 22) (v := .int (q41.2 0 22)) okm0 dX7_goesActs_45 lfX7_234 (by decide) (fun _ => rfl) ?_
      refine fx_ixor 48 dX7_goesActs_48 ?_
      obtain rfl := Option.some.inj h
      exact fx_iret 49 dX7_goesActs_49 rfl rfl ⟨rfl, rfl⟩
  · replace h := fx_ne c8 h
    refine fx_aload_n 11 dX7_goesActs_11 rfl 0 rfl ?_
    refine fx_bipush 12 (x := (11 : Int32)) dX7_goesActs_12 (by decide) ?_
    obtain ⟨q14, e14, h⟩ := fx_bd h
    refine fx_callVv 14 (mt' := mX7_runs) (As := [.int (11 : Int32)]) okm0 (okvX7_runs _ _) lmX7_231 (by decide) rfl rfl (Nat.le_of_ble_eq_true rfl) dX7_goesActs_14 (tX7_runs e14) ?_
    refine fx_aload_n 17 dX7_goesActs_17 rfl 0 rfl ?_
    refine fx_iload_n 18 dX7_goesActs_18 rfl 1 rfl ?_
    refine fx_iconst 19 (x := (3 : Int32)) dX7_goesActs_19 (by decide) ?_
    refine fx_imul 20 dX7_goesActs_20 ?_
    obtain ⟨q21, e21, h⟩ := fx_bd h
    refine fx_callVi 21 (mt' := mX7_plainGoes) (As := [.int (x1 * (3 : Int32))]) okm0 (okvX7_plainGoes _ _) lmX7_244 (by decide) rfl rfl (Nat.le_of_ble_eq_true rfl) dX7_goesActs_21 (tX7_plainGoes e21) ?_
    obtain rfl := Option.some.inj h
    exact fx_iret 24 dX7_goesActs_24 rfl rfl ⟨rfl, rfl⟩
def mX7_plainPlays : fxM := (yX7_plainPlays, cX7_plainPlays, 2, (some .int), 5, 200)
theorem okvX7_plainPlays (f l : Nat) : fx_okV (yX7_plainPlays, cX7_plainPlays, 2, (some .int), f, l) 1 := ⟨⟨rin38 _ (List.mem_of_getElem? (i := 10) rfl), rin1 _ (List.mem_of_getElem? (i := 5) rfl), by show yX7_plainPlays.cls ≠ _; decide +kernel, by show yX7_plainPlays.cls ≠ _; decide +kernel, by show (parseMethodDescriptor yX7_plainPlays.desc).map _ = _; decide +kernel⟩, rin38 _ (List.mem_of_getElem? (i := 8) rfl), rin38 _ (List.mem_of_getElem? (i := 9) rfl)⟩
def CX7_plainPlays (x1 : Int32) (M : fxMem) : Option (Int32 × fxMem) := Option.bind (CX7_runs (2 : Int32) M) fun q2 => Option.bind (CX7_goesActs x1 q2) fun q7 => some (q7.1 - (q7.2 0 23), q7.2)
set_option maxRecDepth 100000 in
set_option maxHeartbeats 4000000 in
theorem tX7_plainPlays {x1 : Int32} {M : fxMem} {R : Int32 × fxMem} (h : CX7_plainPlays x1 M = some R) : fx_T gM mX7_plainPlays [.ref 0, .int x1] M (fx_ri R) := by
  rw [CX7_plainPlays] at h
  refine fx_enter [(0, .ref 0), (1, .int x1)] (by show plainName RX7 = true; decide) (fun _ => rfl) (fun _ => Nat.le_of_ble_eq_true rfl) ?_
  refine fx_aload_n 0 dX7_plainPlays_0 rfl 0 rfl ?_
  refine fx_iconst 1 (x := (2 : Int32)) dX7_plainPlays_1 (by decide) ?_
  obtain ⟨q2, e2, h⟩ := fx_bd h
  refine fx_callVv 2 (mt' := mX7_runs) (As := [.int (2 : Int32)]) okm0 (okvX7_runs _ _) lmX7_231 (by decide) rfl rfl (Nat.le_of_ble_eq_true rfl) dX7_plainPlays_2 (tX7_runs e2) ?_
  refine fx_aload_n 5 dX7_plainPlays_5 rfl 0 rfl ?_
  refine fx_iload_n 6 dX7_plainPlays_6 rfl 1 rfl ?_
  obtain ⟨q7, e7, h⟩ := fx_bd h
  refine fx_callVi 7 (mt' := mX7_goesActs) (As := [.int x1]) okm0 (okvX7_goesActs _ _) lmX7_247 (by decide) rfl rfl (Nat.le_of_ble_eq_true rfl) dX7_plainPlays_7 (tX7_goesActs e7) ?_
  refine fx_aload_n 10 dX7_plainPlays_10 rfl 0 rfl ?_
  refine fx_get 11 (j := 23) (v := .int (q7.2 0 23)) okm0 dX7_plainPlays_11 lfX7_250 (by decide) (fun _ => rfl) ?_
  refine fx_isub 14 dX7_plainPlays_14 ?_
  obtain rfl := Option.some.inj h
  exact fx_iret 15 dX7_plainPlays_15 rfl rfl ⟨rfl, rfl⟩
def mX7_playsActs : fxM := (yX7_playsActs, cX7_playsActs, 2, (some .int), 6, 240)
theorem okvX7_playsActs (f l : Nat) : fx_okV (yX7_playsActs, cX7_playsActs, 2, (some .int), f, l) 1 := ⟨⟨rin38 _ (List.mem_of_getElem? (i := 6) rfl), rin1 _ (List.mem_of_getElem? (i := 5) rfl), by show yX7_playsActs.cls ≠ _; decide +kernel, by show yX7_playsActs.cls ≠ _; decide +kernel, by show (parseMethodDescriptor yX7_playsActs.desc).map _ = _; decide +kernel⟩, rin38 _ (List.mem_of_getElem? (i := 4) rfl), rin38 _ (List.mem_of_getElem? (i := 5) rfl)⟩
def CX7_playsActs (x1 : Int32) (M : fxMem) : Option (Int32 × fxMem) := Option.bind (CX7_isUnder (M 0 21) (2 : Int32) M) fun q5 => if q5.1 = (0 : Int32) then if q5.2 0 21 = (6 : Int32) then Option.bind (CX7_runs (61 : Int32) q5.2) fun q36 => Option.bind (CX7_plainPlays x1 q36) fun q41 => some (q41.1 + (q41.2 0 23), q41.2) else Option.bind (CX7_plainPlays x1 q5.2) fun q52 => some (q52.1, q52.2) else Option.bind (CX7_runs (21 : Int32) q5.2) fun q14 => Option.bind (CX7_plainPlays x1 q14) fun q19 => some (-q19.1, q19.2)
set_option maxRecDepth 100000 in
set_option maxHeartbeats 4000000 in
theorem tX7_playsActs {x1 : Int32} {M : fxMem} {R : Int32 × fxMem} (h : CX7_playsActs x1 M = some R) : fx_T gM mX7_playsActs [.ref 0, .int x1] M (fx_ri R) := by
  rw [CX7_playsActs] at h
  refine fx_enter [(0, .ref 0), (1, .int x1)] (by show plainName RX7 = true; decide) (fun _ => rfl) (fun _ => Nat.le_of_ble_eq_true rfl) ?_
  refine fx_aload_n 0 dX7_playsActs_0 rfl 0 rfl ?_
  refine fx_get 1 (j := 21) (v := .int (M 0 21)) okm0 dX7_playsActs_1 lfX7_237 (by decide) (fun _ => rfl) ?_
  refine fx_iconst 4 (x := (2 : Int32)) dX7_playsActs_4 (by decide) ?_
  obtain ⟨q5, e5, h⟩ := fx_bd h
  refine fx_callSi 5 (mt' := mX7_isUnder) (As := [.int (M 0 21), .int (2 : Int32)]) (oksX7_isUnder _ _) lmX7_240 (by decide) rfl rfl (Nat.le_of_ble_eq_true rfl) dX7_playsActs_5 (tX7_isUnder e5) ?_
  refine fx_if_eq 8 24 dX7_playsActs_8 (by decide) (fun c8 => ?_) (fun c8 => ?_)
  · replace h := fx_ip c8 h
    refine fx_aload_n 24 dX7_playsActs_24 rfl 0 rfl ?_
    refine fx_get 25 (j := 21) (v := .int (q5.2 0 21)) okm0 dX7_playsActs_25 lfX7_237 (by decide) (fun _ => rfl) ?_
    refine fx_bipush 28 (x := (6 : Int32)) dX7_playsActs_28 (by decide) ?_
    refine fx_icmp_ne 30 50 dX7_playsActs_30 (by decide) (fun c30 => ?_) (fun c30 => ?_)
    · replace h := fx_ne c30 h
      refine fx_aload_n 50 dX7_playsActs_50 rfl 0 rfl ?_
      refine fx_iload_n 51 dX7_playsActs_51 rfl 1 rfl ?_
      obtain ⟨q52, e52, h⟩ := fx_bd h
      refine fx_callVi 52 (mt' := mX7_plainPlays) (As := [.int x1]) okm0 (okvX7_plainPlays _ _) lmX7_253 (by decide) rfl rfl (Nat.le_of_ble_eq_true rfl) dX7_playsActs_52 (tX7_plainPlays e52) ?_
      obtain rfl := Option.some.inj h
      exact fx_iret 55 dX7_playsActs_55 rfl rfl ⟨rfl, rfl⟩
    · replace h := fx_ip c30 h
      refine fx_aload_n 33 dX7_playsActs_33 rfl 0 rfl ?_
      refine fx_bipush 34 (x := (61 : Int32)) dX7_playsActs_34 (by decide) ?_
      obtain ⟨q36, e36, h⟩ := fx_bd h
      refine fx_callVv 36 (mt' := mX7_runs) (As := [.int (61 : Int32)]) okm0 (okvX7_runs _ _) lmX7_231 (by decide) rfl rfl (Nat.le_of_ble_eq_true rfl) dX7_playsActs_36 (tX7_runs e36) ?_
      refine fx_aload_n 39 dX7_playsActs_39 rfl 0 rfl ?_
      refine fx_iload_n 40 dX7_playsActs_40 rfl 1 rfl ?_
      obtain ⟨q41, e41, h⟩ := fx_bd h
      refine fx_callVi 41 (mt' := mX7_plainPlays) (As := [.int x1]) okm0 (okvX7_plainPlays _ _) lmX7_253 (by decide) rfl rfl (Nat.le_of_ble_eq_true rfl) dX7_playsActs_41 (tX7_plainPlays e41) ?_
      refine fx_aload_n 44 dX7_playsActs_44 rfl 0 rfl ?_
      refine fx_get 45 (j := 23) (v := .int (q41.2 0 23)) okm0 dX7_playsActs_45 lfX7_250 (by decide) (fun _ => rfl) ?_
      refine fx_iadd 48 dX7_playsActs_48 ?_
      obtain rfl := Option.some.inj h
      exact fx_iret 49 dX7_playsActs_49 rfl rfl ⟨rfl, rfl⟩
  · replace h := fx_ne c8 h
    refine fx_aload_n 11 dX7_playsActs_11 rfl 0 rfl ?_
    refine fx_bipush 12 (x := (21 : Int32)) dX7_playsActs_12 (by decide) ?_
    obtain ⟨q14, e14, h⟩ := fx_bd h
    refine fx_callVv 14 (mt' := mX7_runs) (As := [.int (21 : Int32)]) okm0 (okvX7_runs _ _) lmX7_231 (by decide) rfl rfl (Nat.le_of_ble_eq_true rfl) dX7_playsActs_14 (tX7_runs e14) ?_
    refine fx_aload_n 17 dX7_playsActs_17 rfl 0 rfl ?_
    refine fx_iload_n 18 dX7_playsActs_18 rfl 1 rfl ?_
    obtain ⟨q19, e19, h⟩ := fx_bd h
    refine fx_callVi 19 (mt' := mX7_plainPlays) (As := [.int x1]) okm0 (okvX7_plainPlays _ _) lmX7_253 (by decide) rfl rfl (Nat.le_of_ble_eq_true rfl) dX7_playsActs_19 (tX7_plainPlays e19) ?_
    refine fx_ineg 22 dX7_playsActs_22 ?_
    obtain rfl := Option.some.inj h
    exact fx_iret 23 dX7_playsActs_23 rfl rfl ⟨rfl, rfl⟩
def mX7_plainFits : fxM := (yX7_plainFits, cX7_plainFits, 2, (some .int), 7, 280)
theorem okvX7_plainFits (f l : Nat) : fx_okV (yX7_plainFits, cX7_plainFits, 2, (some .int), f, l) 1 := ⟨⟨rin38 _ (List.mem_of_getElem? (i := 18) rfl), rin1 _ (List.mem_of_getElem? (i := 5) rfl), by show yX7_plainFits.cls ≠ _; decide +kernel, by show yX7_plainFits.cls ≠ _; decide +kernel, by show (parseMethodDescriptor yX7_plainFits.desc).map _ = _; decide +kernel⟩, rin38 _ (List.mem_of_getElem? (i := 16) rfl), rin38 _ (List.mem_of_getElem? (i := 17) rfl)⟩
def CX7_plainFits (x1 : Int32) (M : fxMem) : Option (Int32 × fxMem) := Option.bind (CX7_runs (3 : Int32) M) fun q2 => Option.bind (CX7_playsActs x1 q2) fun q7 => some (q7.1 * (2 : Int32), q7.2)
set_option maxRecDepth 100000 in
set_option maxHeartbeats 4000000 in
theorem tX7_plainFits {x1 : Int32} {M : fxMem} {R : Int32 × fxMem} (h : CX7_plainFits x1 M = some R) : fx_T gM mX7_plainFits [.ref 0, .int x1] M (fx_ri R) := by
  rw [CX7_plainFits] at h
  refine fx_enter [(0, .ref 0), (1, .int x1)] (by show plainName RX7 = true; decide) (fun _ => rfl) (fun _ => Nat.le_of_ble_eq_true rfl) ?_
  refine fx_aload_n 0 dX7_plainFits_0 rfl 0 rfl ?_
  refine fx_iconst 1 (x := (3 : Int32)) dX7_plainFits_1 (by decide) ?_
  obtain ⟨q2, e2, h⟩ := fx_bd h
  refine fx_callVv 2 (mt' := mX7_runs) (As := [.int (3 : Int32)]) okm0 (okvX7_runs _ _) lmX7_231 (by decide) rfl rfl (Nat.le_of_ble_eq_true rfl) dX7_plainFits_2 (tX7_runs e2) ?_
  refine fx_aload_n 5 dX7_plainFits_5 rfl 0 rfl ?_
  refine fx_iload_n 6 dX7_plainFits_6 rfl 1 rfl ?_
  obtain ⟨q7, e7, h⟩ := fx_bd h
  refine fx_callVi 7 (mt' := mX7_playsActs) (As := [.int x1]) okm0 (okvX7_playsActs _ _) lmX7_256 (by decide) rfl rfl (Nat.le_of_ble_eq_true rfl) dX7_plainFits_7 (tX7_playsActs e7) ?_
  refine fx_iconst 10 (x := (2 : Int32)) dX7_plainFits_10 (by decide) ?_
  refine fx_imul 11 dX7_plainFits_11 ?_
  obtain rfl := Option.some.inj h
  exact fx_iret 12 dX7_plainFits_12 rfl rfl ⟨rfl, rfl⟩
def mX7_fitsActs : fxM := (yX7_fitsActs, cX7_fitsActs, 3, (some .int), 8, 320)
theorem okvX7_fitsActs (f l : Nat) : fx_okV (yX7_fitsActs, cX7_fitsActs, 3, (some .int), f, l) 1 := ⟨⟨rin38 _ (List.mem_of_getElem? (i := 14) rfl), rin1 _ (List.mem_of_getElem? (i := 5) rfl), by show yX7_fitsActs.cls ≠ _; decide +kernel, by show yX7_fitsActs.cls ≠ _; decide +kernel, by show (parseMethodDescriptor yX7_fitsActs.desc).map _ = _; decide +kernel⟩, rin38 _ (List.mem_of_getElem? (i := 12) rfl), rin38 _ (List.mem_of_getElem? (i := 13) rfl)⟩
def CX7_fitsActs (x1 : Int32) (M : fxMem) : Option (Int32 × fxMem) := Option.bind (CX7_isUnder (M 0 21) (3 : Int32) M) fun q5 => if q5.1 = (0 : Int32) then if q5.2 0 21 = (4 : Int32) then Option.bind (CX7_runs (41 : Int32) q5.2) fun q37 => Option.bind (CX7_plainFits (x1 - (1 : Int32)) q37) fun q44 => Option.bind (CX7_goesActs (2 : Int32) q44.2) fun q51 => some (q44.1 + q51.1, q51.2) else Option.bind (CX7_plainFits x1 q5.2) fun q58 => some (q58.1, q58.2) else Option.bind (CX7_runs (31 : Int32) q5.2) fun q14 => Option.bind (CX7_plainFits x1 q14) fun q19 => some (q19.1 ^^^ (7 : Int32), q19.2)
set_option maxRecDepth 100000 in
set_option maxHeartbeats 4000000 in
theorem tX7_fitsActs {x1 : Int32} {M : fxMem} {R : Int32 × fxMem} (h : CX7_fitsActs x1 M = some R) : fx_T gM mX7_fitsActs [.ref 0, .int x1] M (fx_ri R) := by
  rw [CX7_fitsActs] at h
  refine fx_enter [(0, .ref 0), (1, .int x1)] (by show plainName RX7 = true; decide) (fun _ => rfl) (fun _ => Nat.le_of_ble_eq_true rfl) ?_
  refine fx_aload_n 0 dX7_fitsActs_0 rfl 0 rfl ?_
  refine fx_get 1 (j := 21) (v := .int (M 0 21)) okm0 dX7_fitsActs_1 lfX7_237 (by decide) (fun _ => rfl) ?_
  refine fx_iconst 4 (x := (3 : Int32)) dX7_fitsActs_4 (by decide) ?_
  obtain ⟨q5, e5, h⟩ := fx_bd h
  refine fx_callSi 5 (mt' := mX7_isUnder) (As := [.int (M 0 21), .int (3 : Int32)]) (oksX7_isUnder _ _) lmX7_240 (by decide) rfl rfl (Nat.le_of_ble_eq_true rfl) dX7_fitsActs_5 (tX7_isUnder e5) ?_
  refine fx_if_eq 8 26 dX7_fitsActs_8 (by decide) (fun c8 => ?_) (fun c8 => ?_)
  · replace h := fx_ip c8 h
    refine fx_aload_n 26 dX7_fitsActs_26 rfl 0 rfl ?_
    refine fx_get 27 (j := 21) (v := .int (q5.2 0 21)) okm0 dX7_fitsActs_27 lfX7_237 (by decide) (fun _ => rfl) ?_
    refine fx_iconst 30 (x := (4 : Int32)) dX7_fitsActs_30 (by decide) ?_
    refine fx_icmp_ne 31 56 dX7_fitsActs_31 (by decide) (fun c31 => ?_) (fun c31 => ?_)
    · replace h := fx_ne c31 h
      refine fx_aload_n 56 dX7_fitsActs_56 rfl 0 rfl ?_
      refine fx_iload_n 57 dX7_fitsActs_57 rfl 1 rfl ?_
      obtain ⟨q58, e58, h⟩ := fx_bd h
      refine fx_callVi 58 (mt' := mX7_plainFits) (As := [.int x1]) okm0 (okvX7_plainFits _ _) lmX7_259 (by decide) rfl rfl (Nat.le_of_ble_eq_true rfl) dX7_fitsActs_58 (tX7_plainFits e58) ?_
      obtain rfl := Option.some.inj h
      exact fx_iret 61 dX7_fitsActs_61 rfl rfl ⟨rfl, rfl⟩
    · replace h := fx_ip c31 h
      refine fx_aload_n 34 dX7_fitsActs_34 rfl 0 rfl ?_
      refine fx_bipush 35 (x := (41 : Int32)) dX7_fitsActs_35 (by decide) ?_
      obtain ⟨q37, e37, h⟩ := fx_bd h
      refine fx_callVv 37 (mt' := mX7_runs) (As := [.int (41 : Int32)]) okm0 (okvX7_runs _ _) lmX7_231 (by decide) rfl rfl (Nat.le_of_ble_eq_true rfl) dX7_fitsActs_37 (tX7_runs e37) ?_
      refine fx_aload_n 40 dX7_fitsActs_40 rfl 0 rfl ?_
      refine fx_iload_n 41 dX7_fitsActs_41 rfl 1 rfl ?_
      refine fx_iconst 42 (x := (1 : Int32)) dX7_fitsActs_42 (by decide) ?_
      refine fx_isub 43 dX7_fitsActs_43 ?_
      obtain ⟨q44, e44, h⟩ := fx_bd h
      refine fx_callVi 44 (mt' := mX7_plainFits) (As := [.int (x1 - (1 : Int32))]) okm0 (okvX7_plainFits _ _) lmX7_259 (by decide) rfl rfl (Nat.le_of_ble_eq_true rfl) dX7_fitsActs_44 (tX7_plainFits e44) ?_
      refine fx_istore_n 47 (lv' := [(2, .int q44.1), (0, .ref 0), (1, .int x1)]) dX7_fitsActs_47 rfl (Nat.le_of_ble_eq_true rfl) rfl ?_
      refine fx_iload_n 48 dX7_fitsActs_48 rfl 0 rfl ?_
      refine fx_aload_n 49 dX7_fitsActs_49 rfl 1 rfl ?_
      refine fx_iconst 50 (x := (2 : Int32)) dX7_fitsActs_50 (by decide) ?_
      obtain ⟨q51, e51, h⟩ := fx_bd h
      refine fx_callVi 51 (mt' := mX7_goesActs) (As := [.int (2 : Int32)]) okm0 (okvX7_goesActs _ _) lmX7_247 (by decide) rfl rfl (Nat.le_of_ble_eq_true rfl) dX7_fitsActs_51 (tX7_goesActs e51) ?_
      refine fx_iadd 54 dX7_fitsActs_54 ?_
      obtain rfl := Option.some.inj h
      exact fx_iret 55 dX7_fitsActs_55 rfl rfl ⟨rfl, rfl⟩
  · replace h := fx_ne c8 h
    refine fx_aload_n 11 dX7_fitsActs_11 rfl 0 rfl ?_
    refine fx_bipush 12 (x := (31 : Int32)) dX7_fitsActs_12 (by decide) ?_
    obtain ⟨q14, e14, h⟩ := fx_bd h
    refine fx_callVv 14 (mt' := mX7_runs) (As := [.int (31 : Int32)]) okm0 (okvX7_runs _ _) lmX7_231 (by decide) rfl rfl (Nat.le_of_ble_eq_true rfl) dX7_fitsActs_14 (tX7_runs e14) ?_
    refine fx_aload_n 17 dX7_fitsActs_17 rfl 0 rfl ?_
    refine fx_iload_n 18 dX7_fitsActs_18 rfl 1 rfl ?_
    obtain ⟨q19, e19, h⟩ := fx_bd h
    refine fx_callVi 19 (mt' := mX7_plainFits) (As := [.int x1]) okm0 (okvX7_plainFits _ _) lmX7_259 (by decide) rfl rfl (Nat.le_of_ble_eq_true rfl) dX7_fitsActs_19 (tX7_plainFits e19) ?_
    refine fx_bipush 22 (x := (7 : Int32)) dX7_fitsActs_22 (by decide) ?_
    refine fx_ixor 24 dX7_fitsActs_24 ?_
    obtain rfl := Option.some.inj h
    exact fx_iret 25 dX7_fitsActs_25 rfl rfl ⟨rfl, rfl⟩
def mX7_act : fxM := (yX7_act, cX7_act, 4, (some .int), 9, 360)
theorem okvX7_act (f l : Nat) : fx_okV (yX7_act, cX7_act, 4, (some .int), f, l) 3 := ⟨⟨rin37 _ (List.mem_of_getElem? (i := 7) rfl), rin1 _ (List.mem_of_getElem? (i := 5) rfl), by show yX7_act.cls ≠ _; decide +kernel, by show yX7_act.cls ≠ _; decide +kernel, by show (parseMethodDescriptor yX7_act.desc).map _ = _; decide +kernel⟩, rin37 _ (List.mem_of_getElem? (i := 5) rfl), rin37 _ (List.mem_of_getElem? (i := 6) rfl)⟩
def CX7_act (x1 : Int32) (x2 : Int32) (x3 : Int32) (M : fxMem) : Option (Int32 × fxMem) := Option.bind (CX7_isPlayer x1 (fx_st M 0 20 (0 : Int32))) fun q7 => if q7.1 = (0 : Int32) then some ((0 : Int32), q7.2) else Option.bind (CX7_in x2 (0 : Int32) (2 : Int32) q7.2) fun q16 => if q16.1 = (0 : Int32) then some ((0 : Int32), q16.2) else if fx_in ((130 : Int32) + x1) 900 = true then fx_lt (fx_st (fx_st q16.2 0 21 (q16.2 1 ((130 : Int32) + x1).toNatClampNeg)) 0 22 x1) fun M53 => if fx_in ((140 : Int32) + x1) 900 = true then if x2 = (0 : Int32) then Option.bind (CX7_goesActs x3 (fx_st M53 0 23 (M53 1 ((140 : Int32) + x1).toNatClampNeg))) fun q63 => some (q63.1, q63.2) else if x2 = (1 : Int32) then Option.bind (CX7_playsActs x3 (fx_st M53 0 23 (M53 1 ((140 : Int32) + x1).toNatClampNeg))) fun q76 => some (q76.1, q76.2) else Option.bind (CX7_fitsActs x3 (fx_st M53 0 23 (M53 1 ((140 : Int32) + x1).toNatClampNeg))) fun q84 => some (q84.1, q84.2) else none else none
set_option maxRecDepth 100000 in
set_option maxHeartbeats 4000000 in
theorem tX7_act {x1 : Int32} {x2 : Int32} {x3 : Int32} {M : fxMem} {R : Int32 × fxMem} (h : CX7_act x1 x2 x3 M = some R) : fx_T gM mX7_act [.ref 0, .int x1, .int x2, .int x3] M (fx_ri R) := by
  rw [CX7_act] at h
  refine fx_enter [(0, .ref 0), (1, .int x1), (2, .int x2), (3, .int x3)] (by show plainName RX7 = true; decide) (fun _ => rfl) (fun _ => Nat.le_of_ble_eq_true rfl) ?_
  refine fx_aload_n 0 dX7_act_0 rfl 0 rfl ?_
  refine fx_iconst 1 (x := (0 : Int32)) dX7_act_1 (by decide) ?_
  refine fx_putI 2 (j := 20) okm0 dX7_act_2 lfX7_228 (by decide) rfl (by decide +kernel) (fun _ _ => Nat.le_of_ble_eq_true rfl) (fun _ _ _ => rfl) ?_
  refine fx_aload_n 5 dX7_act_5 rfl 0 rfl ?_
  refine fx_iload_n 6 dX7_act_6 rfl 1 rfl ?_
  obtain ⟨q7, e7, h⟩ := fx_bd h
  refine fx_callVi 7 (mt' := mX7_isPlayer) (As := [.int x1]) okm0 (okvX7_isPlayer _ _) lmX7_152 (by decide) rfl rfl (Nat.le_of_ble_eq_true rfl) dX7_act_7 (tX7_isPlayer e7) ?_
  refine fx_if_eq 10 22 dX7_act_10 (by decide) (fun c10 => ?_) (fun c10 => ?_)
  · replace h := fx_ip c10 h
    refine fx_iconst 22 (x := (0 : Int32)) dX7_act_22 (by decide) ?_
    obtain rfl := Option.some.inj h
    exact fx_iret 23 dX7_act_23 rfl rfl ⟨rfl, rfl⟩
  · replace h := fx_ne c10 h
    refine fx_iload_n 13 dX7_act_13 rfl 2 rfl ?_
    refine fx_iconst 14 (x := (0 : Int32)) dX7_act_14 (by decide) ?_
    refine fx_iconst 15 (x := (2 : Int32)) dX7_act_15 (by decide) ?_
    obtain ⟨q16, e16, h⟩ := fx_bd h
    refine fx_callSi 16 (mt' := mX7_in) (As := [.int x2, .int (0 : Int32), .int (2 : Int32)]) (oksX7_in _ _) lmX7_39 (by decide) rfl rfl (Nat.le_of_ble_eq_true rfl) dX7_act_16 (tX7_in e16) ?_
    refine fx_if_ne 19 24 dX7_act_19 (by decide) (fun c19 => ?_) (fun c19 => ?_)
    · replace h := fx_ne c19 h
      refine fx_aload_n 24 dX7_act_24 rfl 0 rfl ?_
      refine fx_aload_n 25 dX7_act_25 rfl 0 rfl ?_
      refine fx_get 26 (j := 1) (v := .ref 1) okm0 dX7_act_26 lfX7_7 (by decide) (fun _ => rfl) ?_
      refine fx_sipush 29 (x := (130 : Int32)) dX7_act_29 (by decide) ?_
      refine fx_iload_n 32 dX7_act_32 rfl 1 rfl ?_
      refine fx_iadd 33 dX7_act_33 ?_
      obtain ⟨g34, h⟩ := fx_gt h
      refine fx_iald 34 okb1 dX7_act_34 g34 ?_
      refine fx_putI 35 (j := 21) okm0 dX7_act_35 lfX7_237 (by decide) rfl (by decide +kernel) (fun _ _ => Nat.le_of_ble_eq_true rfl) (fun _ _ _ => rfl) ?_
      refine fx_aload_n 38 dX7_act_38 rfl 0 rfl ?_
      refine fx_iload_n 39 dX7_act_39 rfl 1 rfl ?_
      refine fx_putI 40 (j := 22) okm0 dX7_act_40 lfX7_234 (by decide) rfl (by decide +kernel) (fun _ _ => Nat.le_of_ble_eq_true rfl) (fun _ _ _ => rfl) ?_
      refine fx_aload_n 43 dX7_act_43 rfl 0 rfl ?_
      refine fx_aload_n 44 dX7_act_44 rfl 0 rfl ?_
      refine fx_get 45 (j := 1) (v := .ref 1) okm0 dX7_act_45 lfX7_7 (by decide) (fun _ => rfl) ?_
      refine fx_sipush 48 (x := (140 : Int32)) dX7_act_48 (by decide) ?_
      refine fx_iload_n 51 dX7_act_51 rfl 1 rfl ?_
      refine fx_iadd 52 dX7_act_52 ?_
      replace h := fx_ltd h
      generalize fx_st (fx_st q16.2 0 21 (q16.2 1 ((130 : Int32) + x1).toNatClampNeg)) 0 22 x1 = M53 at h ⊢
      obtain ⟨g53, h⟩ := fx_gt h
      refine fx_iald 53 okb1 dX7_act_53 g53 ?_
      refine fx_putI 54 (j := 23) okm0 dX7_act_54 lfX7_250 (by decide) rfl (by decide +kernel) (fun _ _ => Nat.le_of_ble_eq_true rfl) (fun _ _ _ => rfl) ?_
      refine fx_iload_n 57 dX7_act_57 rfl 2 rfl ?_
      refine fx_if_ne 58 69 dX7_act_58 (by decide) (fun c58 => ?_) (fun c58 => ?_)
      · replace h := fx_ne c58 h
        refine fx_iload_n 69 dX7_act_69 rfl 2 rfl ?_
        refine fx_iconst 70 (x := (1 : Int32)) dX7_act_70 (by decide) ?_
        refine fx_icmp_ne 71 82 dX7_act_71 (by decide) (fun c71 => ?_) (fun c71 => ?_)
        · replace h := fx_ne c71 h
          refine fx_aload_n 82 dX7_act_82 rfl 0 rfl ?_
          refine fx_iload_n 83 dX7_act_83 rfl 3 rfl ?_
          obtain ⟨q84, e84, h⟩ := fx_bd h
          refine fx_callVi 84 (mt' := mX7_fitsActs) (As := [.int x3]) okm0 (okvX7_fitsActs _ _) lmX7_262 (by decide) rfl rfl (Nat.le_of_ble_eq_true rfl) dX7_act_84 (tX7_fitsActs e84) ?_
          obtain rfl := Option.some.inj h
          exact fx_iret 87 dX7_act_87 rfl rfl ⟨rfl, rfl⟩
        · replace h := fx_ip c71 h
          refine fx_aload_n 74 dX7_act_74 rfl 0 rfl ?_
          refine fx_iload_n 75 dX7_act_75 rfl 3 rfl ?_
          obtain ⟨q76, e76, h⟩ := fx_bd h
          refine fx_callVi 76 (mt' := mX7_playsActs) (As := [.int x3]) okm0 (okvX7_playsActs _ _) lmX7_256 (by decide) rfl rfl (Nat.le_of_ble_eq_true rfl) dX7_act_76 (tX7_playsActs e76) ?_
          refine fx_goto 79 87 dX7_act_79 (by decide) ?_
          obtain rfl := Option.some.inj h
          exact fx_iret 87 dX7_act_87 rfl rfl ⟨rfl, rfl⟩
      · replace h := fx_ip c58 h
        refine fx_aload_n 61 dX7_act_61 rfl 0 rfl ?_
        refine fx_iload_n 62 dX7_act_62 rfl 3 rfl ?_
        obtain ⟨q63, e63, h⟩ := fx_bd h
        refine fx_callVi 63 (mt' := mX7_goesActs) (As := [.int x3]) okm0 (okvX7_goesActs _ _) lmX7_247 (by decide) rfl rfl (Nat.le_of_ble_eq_true rfl) dX7_act_63 (tX7_goesActs e63) ?_
        refine fx_goto 66 87 dX7_act_66 (by decide) ?_
        obtain rfl := Option.some.inj h
        exact fx_iret 87 dX7_act_87 rfl rfl ⟨rfl, rfl⟩
    · replace h := fx_ip c19 h
      refine fx_iconst 22 (x := (0 : Int32)) dX7_act_22 (by decide) ?_
      obtain rfl := Option.some.inj h
      exact fx_iret 23 dX7_act_23 rfl rfl ⟨rfl, rfl⟩
def mX7_trace : fxM := (yX7_trace, cX7_trace, 2, (some .int), 3, 120)
theorem okvX7_trace (f l : Nat) : fx_okV (yX7_trace, cX7_trace, 2, (some .int), f, l) 1 := ⟨⟨rin39 _ (List.mem_of_getElem? (i := 3) rfl), rin1 _ (List.mem_of_getElem? (i := 5) rfl), by show yX7_trace.cls ≠ _; decide +kernel, by show yX7_trace.cls ≠ _; decide +kernel, by show (parseMethodDescriptor yX7_trace.desc).map _ = _; decide +kernel⟩, rin39 _ (List.mem_of_getElem? (i := 1) rfl), rin39 _ (List.mem_of_getElem? (i := 2) rfl)⟩
def CX7_trace (x1 : Int32) (M : fxMem) : Option (Int32 × fxMem) := Option.bind (CX7_in x1 (0 : Int32) ((if (20 : Int32) ≤ M 0 20 then (20 : Int32) else M 0 20) - (1 : Int32)) M) fun q22 => if q22.1 = (0 : Int32) then some ((-1 : Int32), q22.2) else if fx_in x1 20 = true then some (q22.2 7 x1.toNatClampNeg, q22.2) else none
set_option maxRecDepth 100000 in
set_option maxHeartbeats 4000000 in
theorem tX7_trace {x1 : Int32} {M : fxMem} {R : Int32 × fxMem} (h : CX7_trace x1 M = some R) : fx_T gM mX7_trace [.ref 0, .int x1] M (fx_ri R) := by
  rw [CX7_trace] at h
  refine fx_enter [(0, .ref 0), (1, .int x1)] (by show plainName RX7 = true; decide) (fun _ => rfl) (fun _ => Nat.le_of_ble_eq_true rfl) ?_
  refine fx_iload_n 0 dX7_trace_0 rfl 1 rfl ?_
  refine fx_iconst 1 (x := (0 : Int32)) dX7_trace_1 (by decide) ?_
  refine fx_aload_n 2 dX7_trace_2 rfl 0 rfl ?_
  refine fx_get 3 (j := 20) (v := .int (M 0 20)) okm0 dX7_trace_3 lfX7_228 (by decide) (fun _ => rfl) ?_
  refine fx_bipush 6 (x := (20 : Int32)) dX7_trace_6 (by decide) ?_
  have J : fx_V gM mX7_trace (fx_ri R) 20 [(0, .ref 0), (1, .int x1)] [.int (if (20 : Int32) ≤ M 0 20 then (20 : Int32) else M 0 20), .int (0 : Int32), .int x1] M := by
    refine fx_iconst 20 (x := (1 : Int32)) dX7_trace_20 (by decide) ?_
    refine fx_isub 21 dX7_trace_21 ?_
    obtain ⟨q22, e22, h⟩ := fx_bd h
    refine fx_callSi 22 (mt' := mX7_in) (As := [.int x1, .int (0 : Int32), .int ((if (20 : Int32) ≤ M 0 20 then (20 : Int32) else M 0 20) - (1 : Int32))]) (oksX7_in _ _) lmX7_39 (by decide) rfl rfl (Nat.le_of_ble_eq_true rfl) dX7_trace_22 (tX7_in e22) ?_
    refine fx_if_eq 25 37 dX7_trace_25 (by decide) (fun c25 => ?_) (fun c25 => ?_)
    · replace h := fx_ip c25 h
      refine fx_iconst 37 (x := (-1 : Int32)) dX7_trace_37 (by decide) ?_
      obtain rfl := Option.some.inj h
      exact fx_iret 38 dX7_trace_38 rfl rfl ⟨rfl, rfl⟩
    · replace h := fx_ne c25 h
      refine fx_aload_n 28 dX7_trace_28 rfl 0 rfl ?_
      refine fx_get 29 (j := 19) (v := .ref 7) okm0 dX7_trace_29 lfX7_33 (by decide) (fun _ => rfl) ?_
      refine fx_iload_n 32 dX7_trace_32 rfl 1 rfl ?_
      obtain ⟨g33, h⟩ := fx_gt h
      refine fx_iald 33 okb7 dX7_trace_33 g33 ?_
      refine fx_goto 34 38 dX7_trace_34 (by decide) ?_
      obtain rfl := Option.some.inj h
      exact fx_iret 38 dX7_trace_38 rfl rfl ⟨rfl, rfl⟩
  refine fx_icmp_ge 8 18 dX7_trace_8 (by decide) (fun c8 => ?_) (fun c8 => ?_)
  · refine fx_bipush 18 (x := (20 : Int32)) dX7_trace_18 (by decide) ?_
    refine fx_sub (lv' := [(0, .ref 0), (1, .int x1)]) [0, 1] rfl ?_
    show fx_V gM mX7_trace (fx_ri R) 20 [(0, .ref 0), (1, .int x1)] [.int (20 : Int32), .int (0 : Int32), .int x1] M
    simpa only [if_pos c8] using J
  · refine fx_aload_n 11 dX7_trace_11 rfl 0 rfl ?_
    refine fx_get 12 (j := 20) (v := .int (M 0 20)) okm0 dX7_trace_12 lfX7_228 (by decide) (fun _ => rfl) ?_
    refine fx_goto 15 20 dX7_trace_15 (by decide) ?_
    refine fx_sub (lv' := [(0, .ref 0), (1, .int x1)]) [0, 1] rfl ?_
    show fx_V gM mX7_trace (fx_ri R) 20 [(0, .ref 0), (1, .int x1)] [.int (M 0 20), .int (0 : Int32), .int x1] M
    simpa only [if_neg c8] using J
def mX7_as : fxM := (yX7_as, cX7_as, 3, (some .int), 4, 160)
theorem okvX7_as (f l : Nat) : fx_okV (yX7_as, cX7_as, 3, (some .int), f, l) 2 := ⟨⟨rin39 _ (List.mem_of_getElem? (i := 12) rfl), rin1 _ (List.mem_of_getElem? (i := 5) rfl), by show yX7_as.cls ≠ _; decide +kernel, by show yX7_as.cls ≠ _; decide +kernel, by show (parseMethodDescriptor yX7_as.desc).map _ = _; decide +kernel⟩, rin39 _ (List.mem_of_getElem? (i := 10) rfl), rin39 _ (List.mem_of_getElem? (i := 11) rfl)⟩
def CX7_as (x1 : Int32) (x2 : Int32) (M : fxMem) : Option (Int32 × fxMem) := Option.bind (CX7_isPlayer x1 M) fun q2 => if q2.1 = (0 : Int32) then some ((-1 : Int32), q2.2) else Option.bind (CX7_in x2 (0 : Int32) (6 : Int32) q2.2) fun q12 => if q12.1 = (0 : Int32) then some ((-1 : Int32), q12.2) else if fx_in ((130 : Int32) + x1) 900 = true then Option.bind (CX7_isUnder (q12.2 1 ((130 : Int32) + x1).toNatClampNeg) x2 q12.2) fun q31 => if q31.1 = (0 : Int32) then some ((-6 : Int32), q31.2) else if fx_in ((140 : Int32) + x1) 900 = true then some (q31.2 1 ((140 : Int32) + x1).toNatClampNeg, q31.2) else none else none
set_option maxRecDepth 100000 in
set_option maxHeartbeats 4000000 in
theorem tX7_as {x1 : Int32} {x2 : Int32} {M : fxMem} {R : Int32 × fxMem} (h : CX7_as x1 x2 M = some R) : fx_T gM mX7_as [.ref 0, .int x1, .int x2] M (fx_ri R) := by
  rw [CX7_as] at h
  refine fx_enter [(0, .ref 0), (1, .int x1), (2, .int x2)] (by show plainName RX7 = true; decide) (fun _ => rfl) (fun _ => Nat.le_of_ble_eq_true rfl) ?_
  refine fx_aload_n 0 dX7_as_0 rfl 0 rfl ?_
  refine fx_iload_n 1 dX7_as_1 rfl 1 rfl ?_
  obtain ⟨q2, e2, h⟩ := fx_bd h
  refine fx_callVi 2 (mt' := mX7_isPlayer) (As := [.int x1]) okm0 (okvX7_isPlayer _ _) lmX7_152 (by decide) rfl rfl (Nat.le_of_ble_eq_true rfl) dX7_as_2 (tX7_isPlayer e2) ?_
  refine fx_if_eq 5 18 dX7_as_5 (by decide) (fun c5 => ?_) (fun c5 => ?_)
  · replace h := fx_ip c5 h
    refine fx_iconst 18 (x := (-1 : Int32)) dX7_as_18 (by decide) ?_
    obtain rfl := Option.some.inj h
    exact fx_iret 19 dX7_as_19 rfl rfl ⟨rfl, rfl⟩
  · replace h := fx_ne c5 h
    refine fx_iload_n 8 dX7_as_8 rfl 2 rfl ?_
    refine fx_iconst 9 (x := (0 : Int32)) dX7_as_9 (by decide) ?_
    refine fx_bipush 10 (x := (6 : Int32)) dX7_as_10 (by decide) ?_
    obtain ⟨q12, e12, h⟩ := fx_bd h
    refine fx_callSi 12 (mt' := mX7_in) (As := [.int x2, .int (0 : Int32), .int (6 : Int32)]) (oksX7_in _ _) lmX7_39 (by decide) rfl rfl (Nat.le_of_ble_eq_true rfl) dX7_as_12 (tX7_in e12) ?_
    refine fx_if_ne 15 20 dX7_as_15 (by decide) (fun c15 => ?_) (fun c15 => ?_)
    · replace h := fx_ne c15 h
      refine fx_aload_n 20 dX7_as_20 rfl 0 rfl ?_
      refine fx_get 21 (j := 1) (v := .ref 1) okm0 dX7_as_21 lfX7_7 (by decide) (fun _ => rfl) ?_
      refine fx_sipush 24 (x := (130 : Int32)) dX7_as_24 (by decide) ?_
      refine fx_iload_n 27 dX7_as_27 rfl 1 rfl ?_
      refine fx_iadd 28 dX7_as_28 ?_
      obtain ⟨g29, h⟩ := fx_gt h
      refine fx_iald 29 okb1 dX7_as_29 g29 ?_
      refine fx_iload_n 30 dX7_as_30 rfl 2 rfl ?_
      obtain ⟨q31, e31, h⟩ := fx_bd h
      refine fx_callSi 31 (mt' := mX7_isUnder) (As := [.int (q12.2 1 ((130 : Int32) + x1).toNatClampNeg), .int x2]) (oksX7_isUnder _ _) lmX7_240 (by decide) rfl rfl (Nat.le_of_ble_eq_true rfl) dX7_as_31 (tX7_isUnder e31) ?_
      refine fx_if_eq 34 50 dX7_as_34 (by decide) (fun c34 => ?_) (fun c34 => ?_)
      · replace h := fx_ip c34 h
        refine fx_bipush 50 (x := (-6 : Int32)) dX7_as_50 (by decide) ?_
        obtain rfl := Option.some.inj h
        exact fx_iret 52 dX7_as_52 rfl rfl ⟨rfl, rfl⟩
      · replace h := fx_ne c34 h
        refine fx_aload_n 37 dX7_as_37 rfl 0 rfl ?_
        refine fx_get 38 (j := 1) (v := .ref 1) okm0 dX7_as_38 lfX7_7 (by decide) (fun _ => rfl) ?_
        refine fx_sipush 41 (x := (140 : Int32)) dX7_as_41 (by decide) ?_
        refine fx_iload_n 44 dX7_as_44 rfl 1 rfl ?_
        refine fx_iadd 45 dX7_as_45 ?_
        obtain ⟨g46, h⟩ := fx_gt h
        refine fx_iald 46 okb1 dX7_as_46 g46 ?_
        refine fx_goto 47 52 dX7_as_47 (by decide) ?_
        obtain rfl := Option.some.inj h
        exact fx_iret 52 dX7_as_52 rfl rfl ⟨rfl, rfl⟩
    · replace h := fx_ip c15 h
      refine fx_iconst 18 (x := (-1 : Int32)) dX7_as_18 (by decide) ?_
      obtain rfl := Option.some.inj h
      exact fx_iret 19 dX7_as_19 rfl rfl ⟨rfl, rfl⟩
def mX7_image : fxM := (yX7_image, cX7_image, 2, (some .int), 2, 80)
theorem okvX7_image (f l : Nat) : fx_okV (yX7_image, cX7_image, 2, (some .int), f, l) 0 := ⟨⟨rin40 _ (List.mem_of_getElem? (i := 1) rfl), rin1 _ (List.mem_of_getElem? (i := 5) rfl), by show yX7_image.cls ≠ _; decide +kernel, by show yX7_image.cls ≠ _; decide +kernel, by show (parseMethodDescriptor yX7_image.desc).map _ = _; decide +kernel⟩, rin39 _ (List.mem_of_getElem? (i := 23) rfl), rin40 _ (List.mem_of_getElem? (i := 0) rfl)⟩
def CX7_image_L2 : Nat → Int32 → fxMem → (Int32 → fxMem → Option (Int32 × fxMem)) → Option (Int32 × fxMem)
  | 0, _, _, _ => none
  | n + 1, x1, M, k => if (900 : Int32) ≤ x1 then k x1 M else if fx_in x1 900 = true then CX7_image_L2  n (x1 + (1 : Int32)) (fx_st M 2 x1.toNatClampNeg (M 1 x1.toNatClampNeg)) k else none
set_option maxRecDepth 100000 in
set_option maxHeartbeats 4000000 in
theorem vX7_image_L2 {R : Int32 × fxMem} {k : Int32 → fxMem → Option (Int32 × fxMem)} (hk : ∀ (x1 : Int32) (M : fxMem), k x1 M = some R → fx_V gM mX7_image (fx_ri R) 27 [(0, .ref 0), (1, .int x1)] [] M) : ∀ (n : Nat) (x1 : Int32) (M : fxMem), CX7_image_L2  n x1 M k = some R → fx_V gM mX7_image (fx_ri R) 2 [(0, .ref 0), (1, .int x1)] [] M := by
  intro n
  induction n with
  | zero => intro x1 M h; rw [CX7_image_L2] at h; cases h
  | succ n ih =>
    intro x1 M h
    rw [CX7_image_L2] at h
    refine fx_iload_n 2 dX7_image_2 rfl 1 rfl ?_
    refine fx_sipush 3 (x := (900 : Int32)) dX7_image_3 (by decide) ?_
    refine fx_icmp_ge 6 27 dX7_image_6 (by decide) (fun c6 => ?_) (fun c6 => ?_)
    · replace h := fx_ip c6 h
      refine fx_sub [0, 1] rfl ?_
      exact hk _ _ h
    · replace h := fx_ne c6 h
      refine fx_aload_n 9 dX7_image_9 rfl 0 rfl ?_
      refine fx_get 10 (j := 2) (v := .ref 2) okm0 dX7_image_10 lfX7_13 (by decide) (fun _ => rfl) ?_
      refine fx_iload_n 13 dX7_image_13 rfl 1 rfl ?_
      refine fx_aload_n 14 dX7_image_14 rfl 0 rfl ?_
      refine fx_get 15 (j := 1) (v := .ref 1) okm0 dX7_image_15 lfX7_7 (by decide) (fun _ => rfl) ?_
      refine fx_iload_n 18 dX7_image_18 rfl 1 rfl ?_
      obtain ⟨g19, h⟩ := fx_gt h
      refine fx_iald 19 okb1 dX7_image_19 g19 ?_
      refine fx_iast 20 okb2 dX7_image_20 g19 ?_
      refine fx_iinc 21 (lv' := [(1, .int (x1 + (1 : Int32))), (0, .ref 0)]) (y := x1 + (1 : Int32)) dX7_image_21 1 rfl (by rfl) (Nat.le_of_ble_eq_true rfl) rfl ?_
      refine fx_goto 24 2 dX7_image_24 (by decide) ?_
      refine fx_sub [1, 0] rfl ?_
      exact ih _ _ h
def CX7_image  (M : fxMem) : Option (Int32 × fxMem) := CX7_image_L2  1000 (0 : Int32) M (fun y1_2 M2 => fx_lt (fx_st M2 0 3 (1 : Int32)) fun M37 => if fx_in (0 : Int32) 900 = true then some (M37 1 (0 : Int32).toNatClampNeg, M37) else none)
set_option maxRecDepth 100000 in
set_option maxHeartbeats 4000000 in
theorem tX7_image  {M : fxMem} {R : Int32 × fxMem} (h : CX7_image  M = some R) : fx_T gM mX7_image [.ref 0] M (fx_ri R) := by
  rw [CX7_image] at h
  refine fx_enter [(0, .ref 0)] (by show plainName RX7 = true; decide) (fun _ => rfl) (fun _ => Nat.le_of_ble_eq_true rfl) ?_
  refine fx_iconst 0 (x := (0 : Int32)) dX7_image_0 (by decide) ?_
  refine fx_istore_n 1 (lv' := [(1, .int (0 : Int32)), (0, .ref 0)]) dX7_image_1 rfl (Nat.le_of_ble_eq_true rfl) rfl ?_
  refine fx_sub [1, 0] rfl ?_
  refine vX7_image_L2 (fun y1_2 M2 h => ?_) 1000 _ _ h
  refine fx_aload_n 27 dX7_image_27 rfl 0 rfl ?_
  refine fx_iconst 28 (x := (1 : Int32)) dX7_image_28 (by decide) ?_
  refine fx_putZ 29 (j := 3) okm0 (by decide) dX7_image_29 lfX7_265 (by decide) rfl (by decide +kernel) (fun _ _ => Nat.le_of_ble_eq_true rfl) (fun _ _ _ => rfl) ?_
  refine fx_aload_n 32 dX7_image_32 rfl 0 rfl ?_
  refine fx_get 33 (j := 1) (v := .ref 1) okm0 dX7_image_33 lfX7_7 (by decide) (fun _ => rfl) ?_
  refine fx_iconst 36 (x := (0 : Int32)) dX7_image_36 (by decide) ?_
  replace h := fx_ltd h
  generalize fx_st M2 0 3 (1 : Int32) = M37 at h ⊢
  obtain ⟨g37, h⟩ := fx_gt h
  refine fx_iald 37 okb1 dX7_image_37 g37 ?_
  obtain rfl := Option.some.inj h
  exact fx_iret 38 dX7_image_38 rfl rfl ⟨rfl, rfl⟩
def mX7_undo : fxM := (yX7_undo, cX7_undo, 2, (some .int), 2, 80)
theorem okvX7_undo (f l : Nat) : fx_okV (yX7_undo, cX7_undo, 2, (some .int), f, l) 0 := ⟨⟨rin40 _ (List.mem_of_getElem? (i := 10) rfl), rin1 _ (List.mem_of_getElem? (i := 5) rfl), by show yX7_undo.cls ≠ _; decide +kernel, by show yX7_undo.cls ≠ _; decide +kernel, by show (parseMethodDescriptor yX7_undo.desc).map _ = _; decide +kernel⟩, rin40 _ (List.mem_of_getElem? (i := 8) rfl), rin40 _ (List.mem_of_getElem? (i := 9) rfl)⟩
def CX7_undo_L12 : Nat → Int32 → fxMem → (Int32 → fxMem → Option (Int32 × fxMem)) → Option (Int32 × fxMem)
  | 0, _, _, _ => none
  | n + 1, x1, M, k => if (900 : Int32) ≤ x1 then k x1 M else if fx_in x1 900 = true then CX7_undo_L12  n (x1 + (1 : Int32)) (fx_st M 1 x1.toNatClampNeg (M 2 x1.toNatClampNeg)) k else none
set_option maxRecDepth 100000 in
set_option maxHeartbeats 4000000 in
theorem vX7_undo_L12 {R : Int32 × fxMem} {k : Int32 → fxMem → Option (Int32 × fxMem)} (hk : ∀ (x1 : Int32) (M : fxMem), k x1 M = some R → fx_V gM mX7_undo (fx_ri R) 37 [(0, .ref 0), (1, .int x1)] [] M) : ∀ (n : Nat) (x1 : Int32) (M : fxMem), CX7_undo_L12  n x1 M k = some R → fx_V gM mX7_undo (fx_ri R) 12 [(0, .ref 0), (1, .int x1)] [] M := by
  intro n
  induction n with
  | zero => intro x1 M h; rw [CX7_undo_L12] at h; cases h
  | succ n ih =>
    intro x1 M h
    rw [CX7_undo_L12] at h
    refine fx_iload_n 12 dX7_undo_12 rfl 1 rfl ?_
    refine fx_sipush 13 (x := (900 : Int32)) dX7_undo_13 (by decide) ?_
    refine fx_icmp_ge 16 37 dX7_undo_16 (by decide) (fun c16 => ?_) (fun c16 => ?_)
    · replace h := fx_ip c16 h
      refine fx_sub [0, 1] rfl ?_
      exact hk _ _ h
    · replace h := fx_ne c16 h
      refine fx_aload_n 19 dX7_undo_19 rfl 0 rfl ?_
      refine fx_get 20 (j := 1) (v := .ref 1) okm0 dX7_undo_20 lfX7_7 (by decide) (fun _ => rfl) ?_
      refine fx_iload_n 23 dX7_undo_23 rfl 1 rfl ?_
      refine fx_aload_n 24 dX7_undo_24 rfl 0 rfl ?_
      refine fx_get 25 (j := 2) (v := .ref 2) okm0 dX7_undo_25 lfX7_13 (by decide) (fun _ => rfl) ?_
      refine fx_iload_n 28 dX7_undo_28 rfl 1 rfl ?_
      obtain ⟨g29, h⟩ := fx_gt h
      refine fx_iald 29 okb2 dX7_undo_29 g29 ?_
      refine fx_iast 30 okb1 dX7_undo_30 g29 ?_
      refine fx_iinc 31 (lv' := [(1, .int (x1 + (1 : Int32))), (0, .ref 0)]) (y := x1 + (1 : Int32)) dX7_undo_31 1 rfl (by rfl) (Nat.le_of_ble_eq_true rfl) rfl ?_
      refine fx_goto 34 12 dX7_undo_34 (by decide) ?_
      refine fx_sub [1, 0] rfl ?_
      exact ih _ _ h
def CX7_undo  (M : fxMem) : Option (Int32 × fxMem) := if M 0 3 = (0 : Int32) then some ((-3 : Int32), M) else CX7_undo_L12  1000 (0 : Int32) M (fun y1_12 M12 => if fx_in (0 : Int32) 900 = true then some (M12 1 (0 : Int32).toNatClampNeg, M12) else none)
set_option maxRecDepth 100000 in
set_option maxHeartbeats 4000000 in
theorem tX7_undo  {M : fxMem} {R : Int32 × fxMem} (h : CX7_undo  M = some R) : fx_T gM mX7_undo [.ref 0] M (fx_ri R) := by
  rw [CX7_undo] at h
  refine fx_enter [(0, .ref 0)] (by show plainName RX7 = true; decide) (fun _ => rfl) (fun _ => Nat.le_of_ble_eq_true rfl) ?_
  refine fx_aload_n 0 dX7_undo_0 rfl 0 rfl ?_
  refine fx_get 1 (j := 3) (v := .int (M 0 3)) okm0 dX7_undo_1 lfX7_265 (by decide) (fun _ => rfl) ?_
  refine fx_if_ne 4 10 dX7_undo_4 (by decide) (fun c4 => ?_) (fun c4 => ?_)
  · replace h := fx_ne c4 h
    refine fx_iconst 10 (x := (0 : Int32)) dX7_undo_10 (by decide) ?_
    refine fx_istore_n 11 (lv' := [(1, .int (0 : Int32)), (0, .ref 0)]) dX7_undo_11 rfl (Nat.le_of_ble_eq_true rfl) rfl ?_
    refine fx_sub [1, 0] rfl ?_
    refine vX7_undo_L12 (fun y1_12 M12 h => ?_) 1000 _ _ h
    refine fx_aload_n 37 dX7_undo_37 rfl 0 rfl ?_
    refine fx_get 38 (j := 1) (v := .ref 1) okm0 dX7_undo_38 lfX7_7 (by decide) (fun _ => rfl) ?_
    refine fx_iconst 41 (x := (0 : Int32)) dX7_undo_41 (by decide) ?_
    obtain ⟨g42, h⟩ := fx_gt h
    refine fx_iald 42 okb1 dX7_undo_42 g42 ?_
    obtain rfl := Option.some.inj h
    exact fx_iret 43 dX7_undo_43 rfl rfl ⟨rfl, rfl⟩
  · replace h := fx_ip c4 h
    refine fx_bipush 7 (x := (-3 : Int32)) dX7_undo_7 (by decide) ?_
    obtain rfl := Option.some.inj h
    exact fx_iret 9 dX7_undo_9 rfl rfl ⟨rfl, rfl⟩
def mX7_count : fxM := (yX7_count, cX7_count, 2, (some .int), 2, 80)
theorem okvX7_count (f l : Nat) : fx_okV (yX7_count, cX7_count, 2, (some .int), f, l) 1 := ⟨⟨rin40 _ (List.mem_of_getElem? (i := 18) rfl), rin1 _ (List.mem_of_getElem? (i := 5) rfl), by show yX7_count.cls ≠ _; decide +kernel, by show yX7_count.cls ≠ _; decide +kernel, by show (parseMethodDescriptor yX7_count.desc).map _ = _; decide +kernel⟩, rin40 _ (List.mem_of_getElem? (i := 16) rfl), rin40 _ (List.mem_of_getElem? (i := 17) rfl)⟩
def CX7_count (x1 : Int32) (M : fxMem) : Option (Int32 × fxMem) := if x1 = (0 : Int32) then if fx_in (0 : Int32) 900 = true then some (M 1 (0 : Int32).toNatClampNeg, M) else none else if x1 = (1 : Int32) then if fx_in (1 : Int32) 900 = true then some (M 1 (1 : Int32).toNatClampNeg, M) else none else if x1 = (2 : Int32) then if fx_in (2 : Int32) 900 = true then some (M 1 (2 : Int32).toNatClampNeg, M) else none else if x1 = (3 : Int32) then if fx_in (3 : Int32) 900 = true then some (M 1 (3 : Int32).toNatClampNeg, M) else none else if x1 = (4 : Int32) then if fx_in (4 : Int32) 900 = true then some (M 1 (4 : Int32).toNatClampNeg, M) else none else if x1 = (5 : Int32) then some (M 0 20, M) else if x1 = (6 : Int32) then if fx_in (5 : Int32) 900 = true then some (M 1 (5 : Int32).toNatClampNeg, M) else none else some ((-1 : Int32), M)
set_option maxRecDepth 100000 in
set_option maxHeartbeats 4000000 in
theorem tX7_count {x1 : Int32} {M : fxMem} {R : Int32 × fxMem} (h : CX7_count x1 M = some R) : fx_T gM mX7_count [.ref 0, .int x1] M (fx_ri R) := by
  rw [CX7_count] at h
  refine fx_enter [(0, .ref 0), (1, .int x1)] (by show plainName RX7 = true; decide) (fun _ => rfl) (fun _ => Nat.le_of_ble_eq_true rfl) ?_
  refine fx_iload_n 0 dX7_count_0 rfl 1 rfl ?_
  by_cases s1_0 : x1 = (0 : Int32)
  · replace h := fx_ip s1_0 h
    refine fx_tsI 1 44 dX7_count_1 (by rw [s1_0]; decide) (by rw [s1_0]; decide) (by rw [s1_0]; try rfl) (by decide) ?_
    refine fx_aload_n 44 dX7_count_44 rfl 0 rfl ?_
    refine fx_get 45 (j := 1) (v := .ref 1) okm0 dX7_count_45 lfX7_7 (by decide) (fun _ => rfl) ?_
    refine fx_iconst 48 (x := (0 : Int32)) dX7_count_48 (by decide) ?_
    obtain ⟨g49, h⟩ := fx_gt h
    refine fx_iald 49 okb1 dX7_count_49 g49 ?_
    obtain rfl := Option.some.inj h
    exact fx_iret 50 dX7_count_50 rfl rfl ⟨rfl, rfl⟩
  · replace h := fx_ne s1_0 h
    by_cases s1_1 : x1 = (1 : Int32)
    · replace h := fx_ip s1_1 h
      refine fx_tsI 1 51 dX7_count_1 (by rw [s1_1]; decide) (by rw [s1_1]; decide) (by rw [s1_1]; try rfl) (by decide) ?_
      refine fx_aload_n 51 dX7_count_51 rfl 0 rfl ?_
      refine fx_get 52 (j := 1) (v := .ref 1) okm0 dX7_count_52 lfX7_7 (by decide) (fun _ => rfl) ?_
      refine fx_iconst 55 (x := (1 : Int32)) dX7_count_55 (by decide) ?_
      obtain ⟨g56, h⟩ := fx_gt h
      refine fx_iald 56 okb1 dX7_count_56 g56 ?_
      obtain rfl := Option.some.inj h
      exact fx_iret 57 dX7_count_57 rfl rfl ⟨rfl, rfl⟩
    · replace h := fx_ne s1_1 h
      by_cases s1_2 : x1 = (2 : Int32)
      · replace h := fx_ip s1_2 h
        refine fx_tsI 1 58 dX7_count_1 (by rw [s1_2]; decide) (by rw [s1_2]; decide) (by rw [s1_2]; try rfl) (by decide) ?_
        refine fx_aload_n 58 dX7_count_58 rfl 0 rfl ?_
        refine fx_get 59 (j := 1) (v := .ref 1) okm0 dX7_count_59 lfX7_7 (by decide) (fun _ => rfl) ?_
        refine fx_iconst 62 (x := (2 : Int32)) dX7_count_62 (by decide) ?_
        obtain ⟨g63, h⟩ := fx_gt h
        refine fx_iald 63 okb1 dX7_count_63 g63 ?_
        obtain rfl := Option.some.inj h
        exact fx_iret 64 dX7_count_64 rfl rfl ⟨rfl, rfl⟩
      · replace h := fx_ne s1_2 h
        by_cases s1_3 : x1 = (3 : Int32)
        · replace h := fx_ip s1_3 h
          refine fx_tsI 1 65 dX7_count_1 (by rw [s1_3]; decide) (by rw [s1_3]; decide) (by rw [s1_3]; try rfl) (by decide) ?_
          refine fx_aload_n 65 dX7_count_65 rfl 0 rfl ?_
          refine fx_get 66 (j := 1) (v := .ref 1) okm0 dX7_count_66 lfX7_7 (by decide) (fun _ => rfl) ?_
          refine fx_iconst 69 (x := (3 : Int32)) dX7_count_69 (by decide) ?_
          obtain ⟨g70, h⟩ := fx_gt h
          refine fx_iald 70 okb1 dX7_count_70 g70 ?_
          obtain rfl := Option.some.inj h
          exact fx_iret 71 dX7_count_71 rfl rfl ⟨rfl, rfl⟩
        · replace h := fx_ne s1_3 h
          by_cases s1_4 : x1 = (4 : Int32)
          · replace h := fx_ip s1_4 h
            refine fx_tsI 1 72 dX7_count_1 (by rw [s1_4]; decide) (by rw [s1_4]; decide) (by rw [s1_4]; try rfl) (by decide) ?_
            refine fx_aload_n 72 dX7_count_72 rfl 0 rfl ?_
            refine fx_get 73 (j := 1) (v := .ref 1) okm0 dX7_count_73 lfX7_7 (by decide) (fun _ => rfl) ?_
            refine fx_iconst 76 (x := (4 : Int32)) dX7_count_76 (by decide) ?_
            obtain ⟨g77, h⟩ := fx_gt h
            refine fx_iald 77 okb1 dX7_count_77 g77 ?_
            obtain rfl := Option.some.inj h
            exact fx_iret 78 dX7_count_78 rfl rfl ⟨rfl, rfl⟩
          · replace h := fx_ne s1_4 h
            by_cases s1_5 : x1 = (5 : Int32)
            · replace h := fx_ip s1_5 h
              refine fx_tsI 1 79 dX7_count_1 (by rw [s1_5]; decide) (by rw [s1_5]; decide) (by rw [s1_5]; try rfl) (by decide) ?_
              refine fx_aload_n 79 dX7_count_79 rfl 0 rfl ?_
              refine fx_get 80 (j := 20) (v := .int (M 0 20)) okm0 dX7_count_80 lfX7_228 (by decide) (fun _ => rfl) ?_
              obtain rfl := Option.some.inj h
              exact fx_iret 83 dX7_count_83 rfl rfl ⟨rfl, rfl⟩
            · replace h := fx_ne s1_5 h
              by_cases s1_6 : x1 = (6 : Int32)
              · replace h := fx_ip s1_6 h
                refine fx_tsI 1 84 dX7_count_1 (by rw [s1_6]; decide) (by rw [s1_6]; decide) (by rw [s1_6]; try rfl) (by decide) ?_
                refine fx_aload_n 84 dX7_count_84 rfl 0 rfl ?_
                refine fx_get 85 (j := 1) (v := .ref 1) okm0 dX7_count_85 lfX7_7 (by decide) (fun _ => rfl) ?_
                refine fx_iconst 88 (x := (5 : Int32)) dX7_count_88 (by decide) ?_
                obtain ⟨g89, h⟩ := fx_gt h
                refine fx_iald 89 okb1 dX7_count_89 g89 ?_
                obtain rfl := Option.some.inj h
                exact fx_iret 90 dX7_count_90 rfl rfl ⟨rfl, rfl⟩
              · replace h := fx_ne s1_6 h
                refine fx_tsD 1 91 [(0 : Int32), (1 : Int32), (2 : Int32), (3 : Int32), (4 : Int32), (5 : Int32), (6 : Int32)] dX7_count_1 (by decide) (by decide) (by intro q hq; simp only [List.mem_cons, List.not_mem_nil, or_false] at hq; rcases hq with rfl | rfl | rfl | rfl | rfl | rfl | rfl <;> assumption) (by decide) ?_
                refine fx_iconst 91 (x := (-1 : Int32)) dX7_count_91 (by decide) ?_
                obtain rfl := Option.some.inj h
                exact fx_iret 92 dX7_count_92 rfl rfl ⟨rfl, rfl⟩
