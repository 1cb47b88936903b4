def mX7_in : fxM := (yX7_in, cX7_in, 3, (some .boolean), 2, 80)
theorem oksX7_in (f l : Nat) : fx_okS (yX7_in, cX7_in, 3, (some .boolean), f, l) 3 := ⟨⟨rin7 _ (List.mem_of_getElem? (i := 0) rfl), rin1 _ (List.mem_of_getElem? (i := 5) rfl), by show yX7_in.cls ≠ _; decide +kernel, by show yX7_in.cls ≠ _; decide +kernel, by show (parseMethodDescriptor yX7_in.desc).map _ = _; decide +kernel⟩, rin6 _ (List.mem_of_getElem? (i := 23) rfl)⟩
def CX7_in (x0 : Int32) (x1 : Int32) (x2 : Int32) (M : fxMem) : Option (Int32 × fxMem) := some ((if x0 < x1 then (0 : Int32) else (if x2 < x0 then (0 : Int32) else (1 : Int32))), M)
set_option maxRecDepth 100000 in
set_option maxHeartbeats 4000000 in
theorem tX7_in {x0 : Int32} {x1 : Int32} {x2 : Int32} {M : fxMem} {R : Int32 × fxMem} (h : CX7_in x0 x1 x2 M = some R) : fx_T gM mX7_in [.int x0, .int x1, .int x2] M (fx_ri R) := by
  rw [CX7_in] at h
  refine fx_enter [(0, .int x0), (1, .int x1), (2, .int x2)] (by show plainName RX7 = true; decide) (fun _ => rfl) (fun _ => Nat.le_of_ble_eq_true rfl) ?_
  refine fx_iload_n 0 dX7_in_0 rfl 0 rfl ?_
  refine fx_iload_n 1 dX7_in_1 rfl 1 rfl ?_
  have J : fx_V gM mX7_in (fx_ri R) 15 [(0, .int x0), (1, .int x1), (2, .int x2)] [.int (if x0 < x1 then (0 : Int32) else (if x2 < x0 then (0 : Int32) else (1 : Int32)))] M := by
    obtain rfl := Option.some.inj h
    exact fx_iret 15 dX7_in_15 rfl (by (repeat' split) <;> rfl) ⟨rfl, rfl⟩
  refine fx_icmp_lt 2 14 dX7_in_2 (by decide) (fun c2 => ?_) (fun c2 => ?_)
  · refine fx_iconst 14 (x := (0 : Int32)) dX7_in_14 (by decide) ?_
    refine fx_sub (lv' := [(0, .int x0), (1, .int x1), (2, .int x2)]) [0, 1, 2] rfl ?_
    show fx_V gM mX7_in (fx_ri R) 15 [(0, .int x0), (1, .int x1), (2, .int x2)] [.int (0 : Int32)] M
    simpa only [if_pos c2] using J
  · refine fx_iload_n 5 dX7_in_5 rfl 0 rfl ?_
    refine fx_iload_n 6 dX7_in_6 rfl 2 rfl ?_
    refine fx_icmp_gt 7 14 dX7_in_7 (by decide) (fun c7 => ?_) (fun c7 => ?_)
    · refine fx_iconst 14 (x := (0 : Int32)) dX7_in_14 (by decide) ?_
      refine fx_sub (lv' := [(0, .int x0), (1, .int x1), (2, .int x2)]) [0, 1, 2] rfl ?_
      show fx_V gM mX7_in (fx_ri R) 15 [(0, .int x0), (1, .int x1), (2, .int x2)] [.int (0 : Int32)] M
      simpa only [if_neg c2, if_pos c7] using J
    · refine fx_iconst 10 (x := (1 : Int32)) dX7_in_10 (by decide) ?_
      refine fx_goto 11 15 dX7_in_11 (by decide) ?_
      refine fx_sub (lv' := [(0, .int x0), (1, .int x1), (2, .int x2)]) [0, 1, 2] rfl ?_
      show fx_V gM mX7_in (fx_ri R) 15 [(0, .int x0), (1, .int x1), (2, .int x2)] [.int (1 : Int32)] M
      simpa only [if_neg c2, if_neg c7] using J
def mX7_size : fxM := (yX7_size, cX7_size, 1, (some .int), 2, 80)
theorem oksX7_size (f l : Nat) : fx_okS (yX7_size, cX7_size, 1, (some .int), f, l) 1 := ⟨⟨rin23 _ (List.mem_of_getElem? (i := 21) rfl), rin1 _ (List.mem_of_getElem? (i := 5) rfl), by show yX7_size.cls ≠ _; decide +kernel, by show yX7_size.cls ≠ _; decide +kernel, by show (parseMethodDescriptor yX7_size.desc).map _ = _; decide +kernel⟩, rin23 _ (List.mem_of_getElem? (i := 20) rfl)⟩
def CX7_size (x0 : Int32) (M : fxMem) : Option (Int32 × fxMem) := some ((if (0 : Int32) ≤ x0 then x0 else -x0), M)
set_option maxRecDepth 100000 in
set_option maxHeartbeats 4000000 in
theorem tX7_size {x0 : Int32} {M : fxMem} {R : Int32 × fxMem} (h : CX7_size x0 M = some R) : fx_T gM mX7_size [.int x0] M (fx_ri R) := by
  rw [CX7_size] at h
  refine fx_enter [(0, .int x0)] (by show plainName RX7 = true; decide) (fun _ => rfl) (fun _ => Nat.le_of_ble_eq_true rfl) ?_
  refine fx_iload_n 0 dX7_size_0 rfl 0 rfl ?_
  have J : fx_V gM mX7_size (fx_ri R) 10 [(0, .int x0)] [.int (if (0 : Int32) ≤ x0 then x0 else -x0)] M := by
    obtain rfl := Option.some.inj h
    exact fx_iret 10 dX7_size_10 rfl rfl ⟨rfl, rfl⟩
  refine fx_if_ge 1 9 dX7_size_1 (by decide) (fun c1 => ?_) (fun c1 => ?_)
  · refine fx_iload_n 9 dX7_size_9 rfl 0 rfl ?_
    refine fx_sub (lv' := [(0, .int x0)]) [0] rfl ?_
    show fx_V gM mX7_size (fx_ri R) 10 [(0, .int x0)] [.int x0] M
    simpa only [if_pos c1] using J
  · refine fx_iload_n 4 dX7_size_4 rfl 0 rfl ?_
    refine fx_ineg 5 dX7_size_5 ?_
    refine fx_goto 6 10 dX7_size_6 (by decide) ?_
    refine fx_sub (lv' := [(0, .int x0)]) [0] rfl ?_
    show fx_V gM mX7_size (fx_ri R) 10 [(0, .int x0)] [.int (-x0)] M
    simpa only [if_neg c1] using J
def mX7_isDot : fxM := (yX7_isDot, cX7_isDot, 1, (some .boolean), 3, 120)
theorem oksX7_isDot (f l : Nat) : fx_okS (yX7_isDot, cX7_isDot, 1, (some .boolean), f, l) 1 := ⟨⟨rin18 _ (List.mem_of_getElem? (i := 15) rfl), rin1 _ (List.mem_of_getElem? (i := 5) rfl), by show yX7_isDot.cls ≠ _; decide +kernel, by show yX7_isDot.cls ≠ _; decide +kernel, by show (parseMethodDescriptor yX7_isDot.desc).map _ = _; decide +kernel⟩, rin18 _ (List.mem_of_getElem? (i := 14) rfl)⟩
def CX7_isDot (x0 : Int32) (M : fxMem) : Option (Int32 × fxMem) := Option.bind (CX7_in x0 (0 : Int32) (63 : Int32) M) fun q4 => if fx_01 q4.1 = true then some (q4.1, q4.2) else none
set_option maxRecDepth 100000 in
set_option maxHeartbeats 4000000 in
theorem tX7_isDot {x0 : Int32} {M : fxMem} {R : Int32 × fxMem} (h : CX7_isDot x0 M = some R) : fx_T gM mX7_isDot [.int x0] M (fx_ri R) := by
  rw [CX7_isDot] at h
  refine fx_enter [(0, .int x0)] (by show plainName RX7 = true; decide) (fun _ => rfl) (fun _ => Nat.le_of_ble_eq_true rfl) ?_
  refine fx_iload_n 0 dX7_isDot_0 rfl 0 rfl ?_
  refine fx_iconst 1 (x := (0 : Int32)) dX7_isDot_1 (by decide) ?_
  refine fx_bipush 2 (x := (63 : Int32)) dX7_isDot_2 (by decide) ?_
  obtain ⟨q4, e4, h⟩ := fx_bd h
  refine fx_callSi 4 (mt' := mX7_in) (As := [.int x0, .int (0 : Int32), .int (63 : Int32)]) (oksX7_in _ _) lmX7_39 (by decide) rfl rfl (Nat.le_of_ble_eq_true rfl) dX7_isDot_4 (tX7_in e4) ?_
  obtain ⟨gr, h⟩ := fx_gt h
  obtain rfl := Option.some.inj h
  exact fx_iret 7 dX7_isDot_7 rfl (fx_01n gr).1 ⟨rfl, rfl⟩
def mX7_isSeat : fxM := (yX7_isSeat, cX7_isSeat, 1, (some .boolean), 3, 120)
theorem oksX7_isSeat (f l : Nat) : fx_okS (yX7_isSeat, cX7_isSeat, 1, (some .boolean), f, l) 1 := ⟨⟨rin25 _ (List.mem_of_getElem? (i := 23) rfl), rin1 _ (List.mem_of_getElem? (i := 5) rfl), by show yX7_isSeat.cls ≠ _; decide +kernel, by show yX7_isSeat.cls ≠ _; decide +kernel, by show (parseMethodDescriptor yX7_isSeat.desc).map _ = _; decide +kernel⟩, rin25 _ (List.mem_of_getElem? (i := 22) rfl)⟩
def CX7_isSeat (x0 : Int32) (M : fxMem) : Option (Int32 × fxMem) := Option.bind (CX7_in x0 (0 : Int32) (7 : Int32) M) fun q4 => if fx_01 q4.1 = true then some (q4.1, q4.2) else none
set_option maxRecDepth 100000 in
set_option maxHeartbeats 4000000 in
theorem tX7_isSeat {x0 : Int32} {M : fxMem} {R : Int32 × fxMem} (h : CX7_isSeat x0 M = some R) : fx_T gM mX7_isSeat [.int x0] M (fx_ri R) := by
  rw [CX7_isSeat] at h
  refine fx_enter [(0, .int x0)] (by show plainName RX7 = true; decide) (fun _ => rfl) (fun _ => Nat.le_of_ble_eq_true rfl) ?_
  refine fx_iload_n 0 dX7_isSeat_0 rfl 0 rfl ?_
  refine fx_iconst 1 (x := (0 : Int32)) dX7_isSeat_1 (by decide) ?_
  refine fx_bipush 2 (x := (7 : Int32)) dX7_isSeat_2 (by decide) ?_
  obtain ⟨q4, e4, h⟩ := fx_bd h
  refine fx_callSi 4 (mt' := mX7_in) (As := [.int x0, .int (0 : Int32), .int (7 : Int32)]) (oksX7_in _ _) lmX7_39 (by decide) rfl rfl (Nat.le_of_ble_eq_true rfl) dX7_isSeat_4 (tX7_in e4) ?_
  obtain ⟨gr, h⟩ := fx_gt h
  obtain rfl := Option.some.inj h
  exact fx_iret 7 dX7_isSeat_7 rfl (fx_01n gr).1 ⟨rfl, rfl⟩
def mX7_isPlayer : fxM := (yX7_isPlayer, cX7_isPlayer, 2, (some .boolean), 3, 120)
theorem okvX7_isPlayer (f l : Nat) : fx_okV (yX7_isPlayer, cX7_isPlayer, 2, (some .boolean), f, l) 1 := ⟨⟨rin22 _ (List.mem_of_getElem? (i := 23) rfl), rin1 _ (List.mem_of_getElem? (i := 5) rfl), by show yX7_isPlayer.cls ≠ _; decide +kernel, by show yX7_isPlayer.cls ≠ _; decide +kernel, by show (parseMethodDescriptor yX7_isPlayer.desc).map _ = _; decide +kernel⟩, rin22 _ (List.mem_of_getElem? (i := 21) rfl), rin22 _ (List.mem_of_getElem? (i := 22) rfl)⟩
def CX7_isPlayer (x1 : Int32) (M : fxMem) : Option (Int32 × fxMem) := if fx_in (0 : Int32) 900 = true then Option.bind (CX7_in x1 (0 : Int32) ((M 1 (0 : Int32).toNatClampNeg) - (1 : Int32)) M) fun q10 => if fx_01 q10.1 = true then some (q10.1, q10.2) else none else none
set_option maxRecDepth 100000 in
set_option maxHeartbeats 4000000 in
theorem tX7_isPlayer {x1 : Int32} {M : fxMem} {R : Int32 × fxMem} (h : CX7_isPlayer x1 M = some R) : fx_T gM mX7_isPlayer [.ref 0, .int x1] M (fx_ri R) := by
  rw [CX7_isPlayer] at h
  refine fx_enter [(0, .ref 0), (1, .int x1)] (by show plainName RX7 = true; decide) (fun _ => rfl) (fun _ => Nat.le_of_ble_eq_true rfl) ?_
  refine fx_iload_n 0 dX7_isPlayer_0 rfl 1 rfl ?_
  refine fx_iconst 1 (x := (0 : Int32)) dX7_isPlayer_1 (by decide) ?_
  refine fx_aload_n 2 dX7_isPlayer_2 rfl 0 rfl ?_
  refine fx_get 3 (j := 1) (v := .ref 1) okm0 dX7_isPlayer_3 lfX7_7 (by decide) (fun _ => rfl) ?_
  refine fx_iconst 6 (x := (0 : Int32)) dX7_isPlayer_6 (by decide) ?_
  obtain ⟨g7, h⟩ := fx_gt h
  refine fx_iald 7 okb1 dX7_isPlayer_7 g7 ?_
  refine fx_iconst 8 (x := (1 : Int32)) dX7_isPlayer_8 (by decide) ?_
  refine fx_isub 9 dX7_isPlayer_9 ?_
  obtain ⟨q10, e10, h⟩ := fx_bd h
  refine fx_callSi 10 (mt' := mX7_in) (As := [.int x1, .int (0 : Int32), .int ((M 1 (0 : Int32).toNatClampNeg) - (1 : Int32))]) (oksX7_in _ _) lmX7_39 (by decide) rfl rfl (Nat.le_of_ble_eq_true rfl) dX7_isPlayer_10 (tX7_in e10) ?_
  obtain ⟨gr, h⟩ := fx_gt h
  obtain rfl := Option.some.inj h
  exact fx_iret 13 dX7_isPlayer_13 rfl (fx_01n gr).1 ⟨rfl, rfl⟩
def mX7_far : fxM := (yX7_far, cX7_far, 4, (some .int), 3, 120)
theorem oksX7_far (f l : Nat) : fx_okS (yX7_far, cX7_far, 4, (some .int), f, l) 2 := ⟨⟨rin23 _ (List.mem_of_getElem? (i := 18) rfl), rin1 _ (List.mem_of_getElem? (i := 5) rfl), by show yX7_far.cls ≠ _; decide +kernel, by show yX7_far.cls ≠ _; decide +kernel, by show (parseMethodDescriptor yX7_far.desc).map _ = _; decide +kernel⟩, rin23 _ (List.mem_of_getElem? (i := 17) rfl)⟩
def CX7_far (x0 : Int32) (x1 : Int32) (M : fxMem) : Option (Int32 × fxMem) := Option.bind (CX7_size (((x0 + (8 : Int32)) / (8 : Int32)) - ((x1 + (8 : Int32)) / (8 : Int32))) M) fun q15 => Option.bind (CX7_size (((x0 + (8 : Int32)) - (x0 + (8 : Int32)) / (8 : Int32) * (8 : Int32)) - ((x1 + (8 : Int32)) - (x1 + (8 : Int32)) / (8 : Int32) * (8 : Int32))) q15.2) fun q34 => some ((if q15.1 ≤ q34.1 then q34.1 else q15.1), q34.2)
set_option maxRecDepth 100000 in
set_option maxHeartbeats 4000000 in
theorem tX7_far {x0 : Int32} {x1 : Int32} {M : fxMem} {R : Int32 × fxMem} (h : CX7_far x0 x1 M = some R) : fx_T gM mX7_far [.int x0, .int x1] M (fx_ri R) := by
  rw [CX7_far] at h
  refine fx_enter [(0, .int x0), (1, .int x1)] (by show plainName RX7 = true; decide) (fun _ => rfl) (fun _ => Nat.le_of_ble_eq_true rfl) ?_
  refine fx_iload_n 0 dX7_far_0 rfl 0 rfl ?_
  refine fx_bipush 1 (x := (8 : Int32)) dX7_far_1 (by decide) ?_
  refine fx_iadd 3 dX7_far_3 ?_
  refine fx_bipush 4 (x := (8 : Int32)) dX7_far_4 (by decide) ?_
  refine fx_idiv 6 dX7_far_6 (by decide) ?_
  refine fx_iload_n 7 dX7_far_7 rfl 1 rfl ?_
  refine fx_bipush 8 (x := (8 : Int32)) dX7_far_8 (by decide) ?_
  refine fx_iadd 10 dX7_far_10 ?_
  refine fx_bipush 11 (x := (8 : Int32)) dX7_far_11 (by decide) ?_
  refine fx_idiv 13 dX7_far_13 (by decide) ?_
  refine fx_isub 14 dX7_far_14 ?_
  obtain ⟨q15, e15, h⟩ := fx_bd h
  refine fx_callSi 15 (mt' := mX7_size) (As := [.int (((x0 + (8 : Int32)) / (8 : Int32)) - ((x1 + (8 : Int32)) / (8 : Int32)))]) (oksX7_size _ _) lmX7_43 (by decide) rfl rfl (Nat.le_of_ble_eq_true rfl) dX7_far_15 (tX7_size e15) ?_
  refine fx_istore_n 18 (lv' := [(2, .int q15.1), (0, .int x0), (1, .int x1)]) dX7_far_18 rfl (Nat.le_of_ble_eq_true rfl) rfl ?_
  refine fx_iload_n 19 dX7_far_19 rfl 1 rfl ?_
  refine fx_bipush 20 (x := (8 : Int32)) dX7_far_20 (by decide) ?_
  refine fx_iadd 22 dX7_far_22 ?_
  refine fx_bipush 23 (x := (8 : Int32)) dX7_far_23 (by decide) ?_
  refine fx_irem 25 dX7_far_25 (by decide) ?_
  refine fx_iload_n 26 dX7_far_26 rfl 2 rfl ?_
  refine fx_bipush 27 (x := (8 : Int32)) dX7_far_27 (by decide) ?_
  refine fx_iadd 29 dX7_far_29 ?_
  refine fx_bipush 30 (x := (8 : Int32)) dX7_far_30 (by decide) ?_
  refine fx_irem 32 dX7_far_32 (by decide) ?_
  refine fx_isub 33 dX7_far_33 ?_
  obtain ⟨q34, e34, h⟩ := fx_bd h
  refine fx_callSi 34 (mt' := mX7_size) (As := [.int (((x0 + (8 : Int32)) - (x0 + (8 : Int32)) / (8 : Int32) * (8 : Int32)) - ((x1 + (8 : Int32)) - (x1 + (8 : Int32)) / (8 : Int32) * (8 : Int32)))]) (oksX7_size _ _) lmX7_43 (by decide) rfl rfl (Nat.le_of_ble_eq_true rfl) dX7_far_34 (tX7_size e34) ?_
  refine fx_istore_n 37 (lv' := [(3, .int q34.1), (2, .int q15.1), (0, .int x0), (1, .int x1)]) dX7_far_37 rfl (Nat.le_of_ble_eq_true rfl) rfl ?_
  refine fx_iload_n 38 dX7_far_38 rfl 1 rfl ?_
  refine fx_iload_n 39 dX7_far_39 rfl 0 rfl ?_
  have J : fx_V gM mX7_far (fx_ri R) 48 [(0, .int x0), (1, .int x1), (2, .int q15.1), (3, .int q34.1)] [.int (if q15.1 ≤ q34.1 then q34.1 else q15.1)] q34.2 := by
    obtain rfl := Option.some.inj h
    exact fx_iret 48 dX7_far_48 rfl rfl ⟨rfl, rfl⟩
  refine fx_icmp_le 40 47 dX7_far_40 (by decide) (fun c40 => ?_) (fun c40 => ?_)
  · refine fx_iload_n 47 dX7_far_47 rfl 0 rfl ?_
    refine fx_sub (lv' := [(0, .int x0), (1, .int x1), (2, .int q15.1), (3, .int q34.1)]) [2, 3, 1, 0] rfl ?_
    show fx_V gM mX7_far (fx_ri R) 48 [(0, .int x0), (1, .int x1), (2, .int q15.1), (3, .int q34.1)] [.int q34.1] q34.2
    simpa only [if_pos c40] using J
  · refine fx_iload_n 43 dX7_far_43 rfl 1 rfl ?_
    refine fx_goto 44 48 dX7_far_44 (by decide) ?_
    refine fx_sub (lv' := [(0, .int x0), (1, .int x1), (2, .int q15.1), (3, .int q34.1)]) [2, 3, 1, 0] rfl ?_
    show fx_V gM mX7_far (fx_ri R) 48 [(0, .int x0), (1, .int x1), (2, .int q15.1), (3, .int q34.1)] [.int q15.1] q34.2
    simpa only [if_neg c40] using J
def mX7_feed : fxM := (yX7_feed, cX7_feed, 5, (some .int), 3, 120)
theorem okvX7_feed (f l : Nat) : fx_okV (yX7_feed, cX7_feed, 5, (some .int), f, l) 2 := ⟨⟨rin6 _ (List.mem_of_getElem? (i := 20) rfl), rin1 _ (List.mem_of_getElem? (i := 5) rfl), by show yX7_feed.cls ≠ _; decide +kernel, by show yX7_feed.cls ≠ _; decide +kernel, by show (parseMethodDescriptor yX7_feed.desc).map _ = _; decide +kernel⟩, rin6 _ (List.mem_of_getElem? (i := 18) rfl), rin6 _ (List.mem_of_getElem? (i := 19) rfl)⟩
def CX7_feed_L34 (x1 : Int64) (x3 : Int32) : Nat → Int32 → fxMem → (Int32 → fxMem → Option (Int32 × fxMem)) → Option (Int32 × fxMem)
  | 0, _, _, _ => none
  | n + 1, x4, M, k => if x4 < (0 : Int32) then k x4 M else if fx_in (4 : Int32) 900 = true then if fx_in ((10 : Int32) + (M 1 (4 : Int32).toNatClampNeg)) 900 = true then fx_lt (fx_st M 1 ((10 : Int32) + (M 1 (4 : Int32).toNatClampNeg)).toNatClampNeg (((x1 >>> (((8 : Int32) * x4).toInt64 &&& 63)) &&& (255 : Int64)).toInt32)) fun M71 => CX7_feed_L34 x1 x3 n (x4 + (-1 : Int32)) (fx_st M71 1 (4 : Int32).toNatClampNeg ((M71 1 (4 : Int32).toNatClampNeg) + (1 : Int32))) k else none else none
set_option maxRecDepth 100000 in
set_option maxHeartbeats 4000000 in
theorem vX7_feed_L34 {x1 : Int64} {x3 : Int32} {R : Int32 × fxMem} {k : Int32 → fxMem → Option (Int32 × fxMem)} (hk : ∀ (x4 : Int32) (M : fxMem), k x4 M = some R → fx_V gM mX7_feed (fx_ri R) 81 [(0, .ref 0), (1, .long x1), (3, .int x3), (4, .int x4)] [] M) : ∀ (n : Nat) (x4 : Int32) (M : fxMem), CX7_feed_L34 x1 x3 n x4 M k = some R → fx_V gM mX7_feed (fx_ri R) 34 [(0, .ref 0), (1, .long x1), (3, .int x3), (4, .int x4)] [] M := by
  intro n
  induction n with
  | zero => intro x4 M h; rw [CX7_feed_L34] at h; cases h
  | succ n ih =>
    intro x4 M h
    rw [CX7_feed_L34] at h
    refine fx_iload 34 dX7_feed_34 3 rfl ?_
    refine fx_if_lt 36 81 dX7_feed_36 (by decide) (fun c36 => ?_) (fun c36 => ?_)
    · replace h := fx_ip c36 h
      refine fx_sub [0, 1, 2, 3] rfl ?_
      exact hk _ _ h
    · replace h := fx_ne c36 h
      refine fx_aload_n 39 dX7_feed_39 rfl 0 rfl ?_
      refine fx_get 40 (j := 1) (v := .ref 1) okm0 dX7_feed_40 lfX7_7 (by decide) (fun _ => rfl) ?_
      refine fx_bipush 43 (x := (10 : Int32)) dX7_feed_43 (by decide) ?_
      refine fx_aload_n 45 dX7_feed_45 rfl 0 rfl ?_
      refine fx_get 46 (j := 1) (v := .ref 1) okm0 dX7_feed_46 lfX7_7 (by decide) (fun _ => rfl) ?_
      refine fx_iconst 49 (x := (4 : Int32)) dX7_feed_49 (by decide) ?_
      obtain ⟨g50, h⟩ := fx_gt h
      refine fx_iald 50 okb1 dX7_feed_50 g50 ?_
      refine fx_iadd 51 dX7_feed_51 ?_
      refine fx_lload_n 52 dX7_feed_52 rfl 1 rfl ?_
      refine fx_bipush 53 (x := (8 : Int32)) dX7_feed_53 (by decide) ?_
      refine fx_iload 55 dX7_feed_55 3 rfl ?_
      refine fx_imul 57 dX7_feed_57 ?_
      refine fx_lshr 58 dX7_feed_58 ?_
      refine fx_ldc2 59 dX7_feed_59 lcX7_47 ?_
      refine fx_land 62 dX7_feed_62 ?_
      refine fx_l2i 63 dX7_feed_63 ?_
      obtain ⟨g64, h⟩ := fx_gt h
      refine fx_iast 64 okb1 dX7_feed_64 g64 ?_
      refine fx_aload_n 65 dX7_feed_65 rfl 0 rfl ?_
      refine fx_get 66 (j := 1) (v := .ref 1) okm0 dX7_feed_66 lfX7_7 (by decide) (fun _ => rfl) ?_
      refine fx_iconst 69 (x := (4 : Int32)) dX7_feed_69 (by decide) ?_
      refine fx_dup2 70 dX7_feed_70 rfl rfl ?_
      replace h := fx_ltd h
      generalize fx_st M 1 ((10 : Int32) + (M 1 (4 : Int32).toNatClampNeg)).toNatClampNeg (((x1 >>> (((8 : Int32) * x4).toInt64 &&& 63)) &&& (255 : Int64)).toInt32) = M71 at h ⊢
      refine fx_iald 71 okb1 dX7_feed_71 g50 ?_
      refine fx_iconst 72 (x := (1 : Int32)) dX7_feed_72 (by decide) ?_
      refine fx_iadd 73 dX7_feed_73 ?_
      refine fx_iast 74 okb1 dX7_feed_74 g50 ?_
      refine fx_iinc 75 (lv' := [(4, .int (x4 + (-1 : Int32))), (0, .ref 0), (1, .long x1), (3, .int x3)]) (y := x4 + (-1 : Int32)) dX7_feed_75 3 rfl (by rfl) (Nat.le_of_ble_eq_true rfl) rfl ?_
      refine fx_goto 78 34 dX7_feed_78 (by decide) ?_
      refine fx_sub [1, 2, 3, 0] rfl ?_
      exact ih _ _ h
def CX7_feed (x1 : Int64) (x3 : Int32) (M : fxMem) : Option (Int32 × fxMem) := Option.bind (CX7_in x3 (1 : Int32) (8 : Int32) M) fun q4 => if q4.1 = (0 : Int32) then some ((-2 : Int32), q4.2) else if fx_in (4 : Int32) 900 = true then if (q4.2 1 (4 : Int32).toNatClampNeg) + x3 ≤ (120 : Int32) then CX7_feed_L34 x1 x3 1000 (x3 - (1 : Int32)) q4.2 (fun y4_34 M34 => if fx_in (4 : Int32) 900 = true then some (M34 1 (4 : Int32).toNatClampNeg, M34) else none) else some ((-4 : Int32), q4.2) else none
set_option maxRecDepth 100000 in
set_option maxHeartbeats 4000000 in
theorem tX7_feed {x1 : Int64} {x3 : Int32} {M : fxMem} {R : Int32 × fxMem} (h : CX7_feed x1 x3 M = some R) : fx_T gM mX7_feed [.ref 0, .long x1, .int x3] M (fx_ri R) := by
  rw [CX7_feed] at h
  refine fx_enter [(0, .ref 0), (1, .long x1), (3, .int x3)] (by show plainName RX7 = true; decide) (fun _ => rfl) (fun _ => Nat.le_of_ble_eq_true rfl) ?_
  refine fx_iload_n 0 dX7_feed_0 rfl 2 rfl ?_
  refine fx_iconst 1 (x := (1 : Int32)) dX7_feed_1 (by decide) ?_
  refine fx_bipush 2 (x := (8 : Int32)) dX7_feed_2 (by decide) ?_
  obtain ⟨q4, e4, h⟩ := fx_bd h
  refine fx_callSi 4 (mt' := mX7_in) (As := [.int x3, .int (1 : Int32), .int (8 : Int32)]) (oksX7_in _ _) lmX7_39 (by decide) rfl rfl (Nat.le_of_ble_eq_true rfl) dX7_feed_4 (tX7_in e4) ?_
  refine fx_if_ne 7 13 dX7_feed_7 (by decide) (fun c7 => ?_) (fun c7 => ?_)
  · replace h := fx_ne c7 h
    refine fx_aload_n 13 dX7_feed_13 rfl 0 rfl ?_
    refine fx_get 14 (j := 1) (v := .ref 1) okm0 dX7_feed_14 lfX7_7 (by decide) (fun _ => rfl) ?_
    refine fx_iconst 17 (x := (4 : Int32)) dX7_feed_17 (by decide) ?_
    obtain ⟨g18, h⟩ := fx_gt h
    refine fx_iald 18 okb1 dX7_feed_18 g18 ?_
    refine fx_iload_n 19 dX7_feed_19 rfl 2 rfl ?_
    refine fx_iadd 20 dX7_feed_20 ?_
    refine fx_bipush 21 (x := (120 : Int32)) dX7_feed_21 (by decide) ?_
    refine fx_icmp_le 23 29 dX7_feed_23 (by decide) (fun c23 => ?_) (fun c23 => ?_)
    · replace h := fx_ip c23 h
      refine fx_iload_n 29 dX7_feed_29 rfl 2 rfl ?_
      refine fx_iconst 30 (x := (1 : Int32)) dX7_feed_30 (by decide) ?_
      refine fx_isub 31 dX7_feed_31 ?_
      refine fx_istore 32 (lv' := [(4, .int (x3 - (1 : Int32))), (0, .ref 0), (1, .long x1), (3, .int x3)]) dX7_feed_32 (Nat.le_of_ble_eq_true rfl) rfl ?_
      refine fx_sub [1, 2, 3, 0] rfl ?_
      refine vX7_feed_L34 (fun y4_34 M34 h => ?_) 1000 _ _ h
      refine fx_aload_n 81 dX7_feed_81 rfl 0 rfl ?_
      refine fx_get 82 (j := 1) (v := .ref 1) okm0 dX7_feed_82 lfX7_7 (by decide) (fun _ => rfl) ?_
      refine fx_iconst 85 (x := (4 : Int32)) dX7_feed_85 (by decide) ?_
      obtain ⟨g86, h⟩ := fx_gt h
      refine fx_iald 86 okb1 dX7_feed_86 g86 ?_
      obtain rfl := Option.some.inj h
      exact fx_iret 87 dX7_feed_87 rfl rfl ⟨rfl, rfl⟩
    · replace h := fx_ne c23 h
      refine fx_bipush 26 (x := (-4 : Int32)) dX7_feed_26 (by decide) ?_
      obtain rfl := Option.some.inj h
      exact fx_iret 28 dX7_feed_28 rfl rfl ⟨rfl, rfl⟩
  · replace h := fx_ip c7 h
    refine fx_bipush 10 (x := (-2 : Int32)) dX7_feed_10 (by decide) ?_
    obtain rfl := Option.some.inj h
    exact fx_iret 12 dX7_feed_12 rfl rfl ⟨rfl, rfl⟩
def mX7_here : fxM := (yX7_here, cX7_here, 1, (some .int), 2, 80)
theorem okvX7_here (f l : Nat) : fx_okV (yX7_here, cX7_here, 1, (some .int), f, l) 0 := ⟨⟨rin14 _ (List.mem_of_getElem? (i := 20) rfl), rin1 _ (List.mem_of_getElem? (i := 5) rfl), by show yX7_here.cls ≠ _; decide +kernel, by show yX7_here.cls ≠ _; decide +kernel, by show (parseMethodDescriptor yX7_here.desc).map _ = _; decide +kernel⟩, rin14 _ (List.mem_of_getElem? (i := 18) rfl), rin14 _ (List.mem_of_getElem? (i := 19) rfl)⟩
def CX7_here  (M : fxMem) : Option (Int32 × fxMem) := if M 0 6 ≤ M 0 5 then some ((-1 : Int32), M) else if fx_in ((10 : Int32) + (M 0 5)) 900 = true then some (M 1 ((10 : Int32) + (M 0 5)).toNatClampNeg, M) else none
set_option maxRecDepth 100000 in
set_option maxHeartbeats 4000000 in
theorem tX7_here  {M : fxMem} {R : Int32 × fxMem} (h : CX7_here  M = some R) : fx_T gM mX7_here [.ref 0] M (fx_ri R) := by
  rw [CX7_here] at h
  refine fx_enter [(0, .ref 0)] (by show plainName RX7 = true; decide) (fun _ => rfl) (fun _ => Nat.le_of_ble_eq_true rfl) ?_
  refine fx_aload_n 0 dX7_here_0 rfl 0 rfl ?_
  refine fx_get 1 (j := 5) (v := .int (M 0 5)) okm0 dX7_here_1 lfX7_49 (by decide) (fun _ => rfl) ?_
  refine fx_aload_n 4 dX7_here_4 rfl 0 rfl ?_
  refine fx_get 5 (j := 6) (v := .int (M 0 6)) okm0 dX7_here_5 lfX7_52 (by decide) (fun _ => rfl) ?_
  refine fx_icmp_ge 8 26 dX7_here_8 (by decide) (fun c8 => ?_) (fun c8 => ?_)
  · replace h := fx_ip c8 h
    refine fx_iconst 26 (x := (-1 : Int32)) dX7_here_26 (by decide) ?_
    obtain rfl := Option.some.inj h
    exact fx_iret 27 dX7_here_27 rfl rfl ⟨rfl, rfl⟩
  · replace h := fx_ne c8 h
    refine fx_aload_n 11 dX7_here_11 rfl 0 rfl ?_
    refine fx_get 12 (j := 1) (v := .ref 1) okm0 dX7_here_12 lfX7_7 (by decide) (fun _ => rfl) ?_
    refine fx_bipush 15 (x := (10 : Int32)) dX7_here_15 (by decide) ?_
    refine fx_aload_n 17 dX7_here_17 rfl 0 rfl ?_
    refine fx_get 18 (j := 5) (v := .int (M 0 5)) okm0 dX7_here_18 lfX7_49 (by decide) (fun _ => rfl) ?_
    refine fx_iadd 21 dX7_here_21 ?_
    obtain ⟨g22, h⟩ := fx_gt h
    refine fx_iald 22 okb1 dX7_here_22 g22 ?_
    refine fx_goto 23 27 dX7_here_23 (by decide) ?_
    obtain rfl := Option.some.inj h
    exact fx_iret 27 dX7_here_27 rfl rfl ⟨rfl, rfl⟩
def mX7_must : fxM := (yX7_must, cX7_must, 2, none, 3, 120)
theorem okvX7_must (f l : Nat) : fx_okV (yX7_must, cX7_must, 2, none, f, l) 1 := ⟨⟨rin15 _ (List.mem_of_getElem? (i := 0) rfl), rin1 _ (List.mem_of_getElem? (i := 5) rfl), by show yX7_must.cls ≠ _; decide +kernel, by show yX7_must.cls ≠ _; decide +kernel, by show (parseMethodDescriptor yX7_must.desc).map _ = _; decide +kernel⟩, rin14 _ (List.mem_of_getElem? (i := 22) rfl), rin14 _ (List.mem_of_getElem? (i := 23) rfl)⟩
def CX7_must_J21  (x1 : Int32) (t0 : Int32) (M : fxMem) : Option (fxMem) := if fx_01 t0 = true then fx_lt (fx_st M 0 7 t0) fun M26 => some (fx_st M26 0 5 ((M26 0 5) + (if M26 0 7 = (0 : Int32) then (1 : Int32) else (0 : Int32)))) else none
set_option maxRecDepth 100000 in
set_option maxHeartbeats 4000000 in
theorem vX7_must_J21  {x1 : Int32} {t0 : Int32} {R : fxMem} {M : fxMem} (h : CX7_must_J21 x1 t0 M = some R) : fx_V gM mX7_must (fx_rv R) 21 [(0, .ref 0), (1, .int x1)] [.int t0, .ref 0] M := by
  rw [CX7_must_J21] at h
  obtain ⟨g21, h⟩ := fx_gt h
  refine fx_putZ 21 (j := 7) okm0 g21 dX7_must_21 lfX7_55 (by decide) rfl (by decide +kernel) (fun _ _ => Nat.le_of_ble_eq_true rfl) (fun _ _ _ => rfl) ?_
  refine fx_aload_n 24 dX7_must_24 rfl 0 rfl ?_
  refine fx_dup 25 dX7_must_25 rfl ?_
  replace h := fx_ltd h
  generalize fx_st M 0 7 t0 = M26 at h ⊢
  refine fx_get 26 (j := 5) (v := .int (M26 0 5)) okm0 dX7_must_26 lfX7_49 (by decide) (fun _ => rfl) ?_
  refine fx_aload_n 29 dX7_must_29 rfl 0 rfl ?_
  refine fx_get 30 (j := 7) (v := .int (M26 0 7)) okm0 dX7_must_30 lfX7_55 (by decide) (fun _ => rfl) ?_
  have J : fx_V gM mX7_must (fx_rv R) 41 [(0, .ref 0), (1, .int x1)] [.int (if M26 0 7 = (0 : Int32) then (1 : Int32) else (0 : Int32)), .int (M26 0 5), .ref 0] M26 := by
    refine fx_iadd 41 dX7_must_41 ?_
    refine fx_putI 42 (j := 5) okm0 dX7_must_42 lfX7_49 (by decide) rfl (by decide +kernel) (fun _ _ => Nat.le_of_ble_eq_true rfl) (fun _ _ _ => rfl) ?_
    obtain rfl := Option.some.inj h
    exact fx_vret 45 dX7_must_45 rfl ⟨rfl, rfl⟩
  refine fx_if_eq 33 40 dX7_must_33 (by decide) (fun c33 => ?_) (fun c33 => ?_)
  · refine fx_iconst 40 (x := (1 : Int32)) dX7_must_40 (by decide) ?_
    refine fx_sub (lv' := [(0, .ref 0), (1, .int x1)]) [0, 1] rfl ?_
    show fx_V gM mX7_must (fx_rv R) 41 [(0, .ref 0), (1, .int x1)] [.int (1 : Int32), .int (M26 0 5), .ref 0] M26
    simpa only [if_pos c33] using J
  · refine fx_iconst 36 (x := (0 : Int32)) dX7_must_36 (by decide) ?_
    refine fx_goto 37 41 dX7_must_37 (by decide) ?_
    refine fx_sub (lv' := [(0, .ref 0), (1, .int x1)]) [0, 1] rfl ?_
    show fx_V gM mX7_must (fx_rv R) 41 [(0, .ref 0), (1, .int x1)] [.int (0 : Int32), .int (M26 0 5), .ref 0] M26
    simpa only [if_neg c33] using J
def CX7_must_J16  (x1 : Int32) (M : fxMem) : Option (fxMem) := CX7_must_J21 x1 (1 : Int32) M
set_option maxRecDepth 100000 in
set_option maxHeartbeats 4000000 in
theorem vX7_must_J16  {x1 : Int32} {R : fxMem} {M : fxMem} (h : CX7_must_J16 x1 M = some R) : fx_V gM mX7_must (fx_rv R) 16 [(0, .ref 0), (1, .int x1)] [.ref 0] M := by
  rw [CX7_must_J16] at h
  refine fx_iconst 16 (x := (1 : Int32)) dX7_must_16 (by decide) ?_
  refine fx_goto 17 21 dX7_must_17 (by decide) ?_
  refine fx_sub [0, 1] rfl ?_
  exact vX7_must_J21 h
def CX7_must (x1 : Int32) (M : fxMem) : Option (fxMem) := if M 0 7 = (0 : Int32) then Option.bind (CX7_here M) fun q9 => fx_lt (fx_st q9.2 0 7 (if q9.1 = x1 then (0 : Int32) else (1 : Int32))) fun M26 => some (fx_st M26 0 5 ((M26 0 5) + (if M26 0 7 = (0 : Int32) then (1 : Int32) else (0 : Int32)))) else CX7_must_J16 x1 M
set_option maxRecDepth 100000 in
set_option maxHeartbeats 4000000 in
theorem tX7_must {x1 : Int32} {M : fxMem} {R : fxMem} (h : CX7_must x1 M = some R) : fx_T gM mX7_must [.ref 0, .int x1] M (fx_rv R) := by
  rw [CX7_must] at h
  refine fx_enter [(0, .ref 0), (1, .int x1)] (by show plainName RX7 = true; decide) (fun _ => rfl) (fun _ => Nat.le_of_ble_eq_true rfl) ?_
  refine fx_aload_n 0 dX7_must_0 rfl 0 rfl ?_
  refine fx_aload_n 1 dX7_must_1 rfl 0 rfl ?_
  refine fx_get 2 (j := 7) (v := .int (M 0 7)) okm0 dX7_must_2 lfX7_55 (by decide) (fun _ => rfl) ?_
  refine fx_if_ne 5 16 dX7_must_5 (by decide) (fun c5 => ?_) (fun c5 => ?_)
  · replace h := fx_ne c5 h
    refine fx_sub [0, 1] rfl ?_
    exact vX7_must_J16 h
  · replace h := fx_ip c5 h
    refine fx_aload_n 8 dX7_must_8 rfl 0 rfl ?_
    obtain ⟨q9, e9, h⟩ := fx_bd h
    refine fx_callVi 9 (mt' := mX7_here) (As := []) okm0 (okvX7_here _ _) lmX7_59 (by decide) rfl rfl (Nat.le_of_ble_eq_true rfl) dX7_must_9 (tX7_here e9) ?_
    refine fx_iload_n 12 dX7_must_12 rfl 1 rfl ?_
    have J : fx_V gM mX7_must (fx_rv R) 21 [(0, .ref 0), (1, .int x1)] [.int (if q9.1 = x1 then (0 : Int32) else (1 : Int32)), .ref 0] q9.2 := by
      refine fx_putZ 21 (j := 7) okm0 (by (repeat' split) <;> rfl) dX7_must_21 lfX7_55 (by decide) rfl (by decide +kernel) (fun _ _ => Nat.le_of_ble_eq_true rfl) (fun _ _ _ => rfl) ?_
      refine fx_aload_n 24 dX7_must_24 rfl 0 rfl ?_
      refine fx_dup 25 dX7_must_25 rfl ?_
      replace h := fx_ltd h
      generalize fx_st q9.2 0 7 (if q9.1 = x1 then (0 : Int32) else (1 : Int32)) = M26 at h ⊢
      refine fx_get 26 (j := 5) (v := .int (M26 0 5)) okm0 dX7_must_26 lfX7_49 (by decide) (fun _ => rfl) ?_
      refine fx_aload_n 29 dX7_must_29 rfl 0 rfl ?_
      refine fx_get 30 (j := 7) (v := .int (M26 0 7)) okm0 dX7_must_30 lfX7_55 (by decide) (fun _ => rfl) ?_
      have J : fx_V gM mX7_must (fx_rv R) 41 [(0, .ref 0), (1, .int x1)] [.int (if M26 0 7 = (0 : Int32) then (1 : Int32) else (0 : Int32)), .int (M26 0 5), .ref 0] M26 := by
        refine fx_iadd 41 dX7_must_41 ?_
        refine fx_putI 42 (j := 5) okm0 dX7_must_42 lfX7_49 (by decide) rfl (by decide +kernel) (fun _ _ => Nat.le_of_ble_eq_true rfl) (fun _ _ _ => rfl) ?_
        obtain rfl := Option.some.inj h
        exact fx_vret 45 dX7_must_45 rfl ⟨rfl, rfl⟩
      refine fx_if_eq 33 40 dX7_must_33 (by decide) (fun c33 => ?_) (fun c33 => ?_)
      · refine fx_iconst 40 (x := (1 : Int32)) dX7_must_40 (by decide) ?_
        refine fx_sub (lv' := [(0, .ref 0), (1, .int x1)]) [0, 1] rfl ?_
        show fx_V gM mX7_must (fx_rv R) 41 [(0, .ref 0), (1, .int x1)] [.int (1 : Int32), .int (M26 0 5), .ref 0] M26
        simpa only [if_pos c33] using J
      · refine fx_iconst 36 (x := (0 : Int32)) dX7_must_36 (by decide) ?_
        refine fx_goto 37 41 dX7_must_37 (by decide) ?_
        refine fx_sub (lv' := [(0, .ref 0), (1, .int x1)]) [0, 1] rfl ?_
        show fx_V gM mX7_must (fx_rv R) 41 [(0, .ref 0), (1, .int x1)] [.int (0 : Int32), .int (M26 0 5), .ref 0] M26
        simpa only [if_neg c33] using J
    refine fx_icmp_eq 13 20 dX7_must_13 (by decide) (fun c13 => ?_) (fun c13 => ?_)
    · refine fx_iconst 20 (x := (0 : Int32)) dX7_must_20 (by decide) ?_
      refine fx_sub (lv' := [(0, .ref 0), (1, .int x1)]) [0, 1] rfl ?_
      show fx_V gM mX7_must (fx_rv R) 21 [(0, .ref 0), (1, .int x1)] [.int (0 : Int32), .ref 0] q9.2
      simpa only [if_pos c13] using J
    · refine fx_iconst 16 (x := (1 : Int32)) dX7_must_16 (by decide) ?_
      refine fx_goto 17 21 dX7_must_17 (by decide) ?_
      refine fx_sub (lv' := [(0, .ref 0), (1, .int x1)]) [0, 1] rfl ?_
      show fx_V gM mX7_must (fx_rv R) 21 [(0, .ref 0), (1, .int x1)] [.int (1 : Int32), .ref 0] q9.2
      simpa only [if_neg c13] using J
def mX7_spells : fxM := (yX7_spells, cX7_spells, 3, none, 9, 360)
theorem okvX7_spells (f l : Nat) : fx_okV (yX7_spells, cX7_spells, 3, none, f, l) 1 := ⟨⟨rin15 _ (List.mem_of_getElem? (i := 8) rfl), rin1 _ (List.mem_of_getElem? (i := 5) rfl), by show yX7_spells.cls ≠ _; decide +kernel, by show yX7_spells.cls ≠ _; decide +kernel, by show (parseMethodDescriptor yX7_spells.desc).map _ = _; decide +kernel⟩, rin15 _ (List.mem_of_getElem? (i := 6) rfl), rin15 _ (List.mem_of_getElem? (i := 7) rfl)⟩
def CX7_spells_L2 (x1 : Nat) : Nat → Int32 → fxMem → (Int32 → fxMem → Option (fxMem)) → Option (fxMem)
  | 0, _, _, _ => none
  | n + 1, x2, M, k => if fx_isS x1 = true then if kx_l x1 ≤ x2 then k x2 M else if fx_in x2 (kx_b (x1 - 1000)).length = true then Option.bind (CX7_must (kx_c x1 x2) M) fun q16 => CX7_spells_L2 x1 n (x2 + (1 : Int32)) q16 k else none else none
set_option maxRecDepth 100000 in
set_option maxHeartbeats 4000000 in
theorem vX7_spells_L2 {x1 : Nat} {R : fxMem} {k : Int32 → fxMem → Option (fxMem)} (hk : ∀ (x2 : Int32) (M : fxMem), k x2 M = some R → fx_V gM mX7_spells (fx_rv R) 25 [(0, .ref 0), (1, .ref x1), (2, .int x2)] [] M) : ∀ (n : Nat) (x2 : Int32) (M : fxMem), CX7_spells_L2 x1 n x2 M k = some R → fx_V gM mX7_spells (fx_rv R) 2 [(0, .ref 0), (1, .ref x1), (2, .int x2)] [] M := by
  intro n
  induction n with
  | zero => intro x2 M h; rw [CX7_spells_L2] at h; cases h
  | succ n ih =>
    intro x2 M h
    rw [CX7_spells_L2] at h
    refine fx_iload_n 2 dX7_spells_2 rfl 2 rfl ?_
    refine fx_aload_n 3 dX7_spells_3 rfl 1 rfl ?_
    obtain ⟨g4, h⟩ := fx_gt h
    refine fx_slen 4 g4 dX7_spells_4 lmX7_63 (by decide) (Nat.le_of_ble_eq_true rfl) ?_
    refine fx_icmp_ge 7 25 dX7_spells_7 (by decide) (fun c7 => ?_) (fun c7 => ?_)
    · replace h := fx_ip c7 h
      refine fx_sub [0, 1, 2] rfl ?_
      exact hk _ _ h
    · replace h := fx_ne c7 h
      refine fx_aload_n 10 dX7_spells_10 rfl 0 rfl ?_
      refine fx_aload_n 11 dX7_spells_11 rfl 1 rfl ?_
      refine fx_iload_n 12 dX7_spells_12 rfl 2 rfl ?_
      obtain ⟨g13, h⟩ := fx_gt h
      refine fx_schar 13 g4 g13 dX7_spells_13 lmX7_68 (by decide) (Nat.le_of_ble_eq_true rfl) ?_
      obtain ⟨q16, e16, h⟩ := fx_bd h
      refine fx_callVv 16 (mt' := mX7_must) (As := [.int (kx_c x1 x2)]) okm0 (okvX7_must _ _) lmX7_72 (by decide) rfl rfl (Nat.le_of_ble_eq_true rfl) dX7_spells_16 (tX7_must e16) ?_
      refine fx_iinc 19 (lv' := [(2, .int (x2 + (1 : Int32))), (0, .ref 0), (1, .ref x1)]) (y := x2 + (1 : Int32)) dX7_spells_19 2 rfl (by rfl) (Nat.le_of_ble_eq_true rfl) rfl ?_
      refine fx_goto 22 2 dX7_spells_22 (by decide) ?_
      refine fx_sub [1, 2, 0] rfl ?_
      exact ih _ _ h
def CX7_spells (x1 : Nat) (M : fxMem) : Option (fxMem) := CX7_spells_L2 x1 1000 (0 : Int32) M (fun y2_2 M2 => some M2)
set_option maxRecDepth 100000 in
set_option maxHeartbeats 4000000 in
theorem tX7_spells {x1 : Nat} {M : fxMem} {R : fxMem} (h : CX7_spells x1 M = some R) : fx_T gM mX7_spells [.ref 0, .ref x1] M (fx_rv R) := by
  rw [CX7_spells] at h
  refine fx_enter [(0, .ref 0), (1, .ref x1)] (by show plainName RX7 = true; decide) (fun _ => rfl) (fun _ => Nat.le_of_ble_eq_true rfl) ?_
  refine fx_iconst 0 (x := (0 : Int32)) dX7_spells_0 (by decide) ?_
  refine fx_istore_n 1 (lv' := [(2, .int (0 : Int32)), (0, .ref 0), (1, .ref x1)]) dX7_spells_1 rfl (Nat.le_of_ble_eq_true rfl) rfl ?_
  refine fx_sub [1, 2, 0] rfl ?_
  refine vX7_spells_L2 (fun y2_2 M2 h => ?_) 1000 _ _ h
  obtain rfl := Option.some.inj h
  exact fx_vret 25 dX7_spells_25 rfl ⟨rfl, rfl⟩
def mX7_figures : fxM := (yX7_figures, cX7_figures, 3, (some .int), 3, 120)
theorem okvX7_figures (f l : Nat) : fx_okV (yX7_figures, cX7_figures, 3, (some .int), f, l) 0 := ⟨⟨rin15 _ (List.mem_of_getElem? (i := 14) rfl), rin1 _ (List.mem_of_getElem? (i := 5) rfl), by show yX7_figures.cls ≠ _; decide +kernel, by show yX7_figures.cls ≠ _; decide +kernel, by show (parseMethodDescriptor yX7_figures.desc).map _ = _; decide +kernel⟩, rin15 _ (List.mem_of_getElem? (i := 12) rfl), rin15 _ (List.mem_of_getElem? (i := 13) rfl)⟩
def CX7_figures_J68  (x1 : Int32) (x2 : Int32) (M : fxMem) (rr k : Int32 → Int32 → fxMem → Option (Int32 × fxMem)) : Option (Int32 × fxMem) := Option.bind (CX7_here M) fun q73 => rr ((((10 : Int32) * x1) + q73.1) - (48 : Int32)) (x2 + (1 : Int32)) (fx_st q73.2 0 5 ((q73.2 0 5) + (1 : Int32)))
set_option maxRecDepth 100000 in
set_option maxHeartbeats 4000000 in
theorem vX7_figures_J68  {x1 : Int32} {x2 : Int32} {R : Int32 × fxMem} {M : fxMem} {rr k : Int32 → Int32 → fxMem → Option (Int32 × fxMem)} (hr : ∀ (z1 : Int32) (z2 : Int32) (M : fxMem), rr z1 z2 M = some R → fx_V gM mX7_figures (fx_ri R) 34 [(0, .ref 0), (1, .int z1), (2, .int z2)] [] M) (hk : ∀ (z1 : Int32) (z2 : Int32) (M : fxMem), k z1 z2 M = some R → fx_V gM mX7_figures (fx_ri R) 97 [(0, .ref 0), (1, .int z1), (2, .int z2)] [] M) (h : CX7_figures_J68 x1 x2 M rr k = some R) : fx_V gM mX7_figures (fx_ri R) 68 [(0, .ref 0), (1, .int x1), (2, .int x2)] [] M := by
  rw [CX7_figures_J68] at h
  refine fx_bipush 68 (x := (10 : Int32)) dX7_figures_68 (by decide) ?_
  refine fx_iload_n 70 dX7_figures_70 rfl 1 rfl ?_
  refine fx_imul 71 dX7_figures_71 ?_
  refine fx_aload_n 72 dX7_figures_72 rfl 0 rfl ?_
  obtain ⟨q73, e73, h⟩ := fx_bd h
  refine fx_callVi 73 (mt' := mX7_here) (As := []) okm0 (okvX7_here _ _) lmX7_59 (by decide) rfl rfl (Nat.le_of_ble_eq_true rfl) dX7_figures_73 (tX7_here e73) ?_
  refine fx_iadd 76 dX7_figures_76 ?_
  refine fx_bipush 77 (x := (48 : Int32)) dX7_figures_77 (by decide) ?_
  refine fx_isub 79 dX7_figures_79 ?_
  refine fx_istore_n 80 (lv' := [(1, .int ((((10 : Int32) * x1) + q73.1) - (48 : Int32))), (0, .ref 0), (2, .int x2)]) dX7_figures_80 rfl (Nat.le_of_ble_eq_true rfl) rfl ?_
  refine fx_aload_n 81 dX7_figures_81 rfl 1 rfl ?_
  refine fx_dup 82 dX7_figures_82 rfl ?_
  refine fx_get 83 (j := 5) (v := .int (q73.2 0 5)) okm0 dX7_figures_83 lfX7_49 (by decide) (fun _ => rfl) ?_
  refine fx_iconst 86 (x := (1 : Int32)) dX7_figures_86 (by decide) ?_
  refine fx_iadd 87 dX7_figures_87 ?_
  refine fx_putI 88 (j := 5) okm0 dX7_figures_88 lfX7_49 (by decide) rfl (by decide +kernel) (fun _ _ => Nat.le_of_ble_eq_true rfl) (fun _ _ _ => rfl) ?_
  refine fx_iinc 91 (lv' := [(2, .int (x2 + (1 : Int32))), (1, .int ((((10 : Int32) * x1) + q73.1) - (48 : Int32))), (0, .ref 0)]) (y := x2 + (1 : Int32)) dX7_figures_91 2 rfl (by rfl) (Nat.le_of_ble_eq_true rfl) rfl ?_
  refine fx_goto 94 34 dX7_figures_94 (by decide) ?_
  refine fx_sub [2, 1, 0] rfl ?_
  exact hr _ _ _ h
def CX7_figures_L34 : Nat → Int32 → Int32 → fxMem → (Int32 → Int32 → fxMem → Option (Int32 × fxMem)) → Option (Int32 × fxMem)
  | 0, _, _, _, _ => none
  | n + 1, x1, x2, M, k => if (2 : Int32) ≤ x2 then k x1 x2 M else if M 0 7 = (0 : Int32) then Option.bind (CX7_here M) fun q47 => Option.bind (CX7_in q47.1 (48 : Int32) (57 : Int32) q47.2) fun q54 => if q54.1 = (0 : Int32) then k x1 x2 q54.2 else if x2 = (0 : Int32) then CX7_figures_J68 x1 x2 q54.2 (fun z1 z2 Mz => CX7_figures_L34  n z1 z2 Mz k) k else if x1 ≤ (0 : Int32) then k x1 x2 q54.2 else CX7_figures_J68 x1 x2 q54.2 (fun z1 z2 Mz => CX7_figures_L34  n z1 z2 Mz k) k else k x1 x2 M
set_option maxRecDepth 100000 in
set_option maxHeartbeats 4000000 in
theorem vX7_figures_L34 {R : Int32 × fxMem} {k : Int32 → Int32 → fxMem → Option (Int32 × fxMem)} (hk : ∀ (x1 : Int32) (x2 : Int32) (M : fxMem), k x1 x2 M = some R → fx_V gM mX7_figures (fx_ri R) 97 [(0, .ref 0), (1, .int x1), (2, .int x2)] [] M) : ∀ (n : Nat) (x1 : Int32) (x2 : Int32) (M : fxMem), CX7_figures_L34  n x1 x2 M k = some R → fx_V gM mX7_figures (fx_ri R) 34 [(0, .ref 0), (1, .int x1), (2, .int x2)] [] M := by
  intro n
  induction n with
  | zero => intro x1 x2 M h; rw [CX7_figures_L34] at h; cases h
  | succ n ih =>
    intro x1 x2 M h
    rw [CX7_figures_L34] at h
    refine fx_iload_n 34 dX7_figures_34 rfl 2 rfl ?_
    refine fx_iconst 35 (x := (2 : Int32)) dX7_figures_35 (by decide) ?_
    refine fx_icmp_ge 36 97 dX7_figures_36 (by decide) (fun c36 => ?_) (fun c36 => ?_)
    · replace h := fx_ip c36 h
      refine fx_sub [0, 1, 2] rfl ?_
      exact hk _ _ _ h
    · replace h := fx_ne c36 h
      refine fx_aload_n 39 dX7_figures_39 rfl 0 rfl ?_
      refine fx_get 40 (j := 7) (v := .int (M 0 7)) okm0 dX7_figures_40 lfX7_55 (by decide) (fun _ => rfl) ?_
      refine fx_if_ne 43 97 dX7_figures_43 (by decide) (fun c43 => ?_) (fun c43 => ?_)
      · replace h := fx_ne c43 h
        refine fx_sub [0, 1, 2] rfl ?_
        exact hk _ _ _ h
      · replace h := fx_ip c43 h
        refine fx_aload_n 46 dX7_figures_46 rfl 0 rfl ?_
        obtain ⟨q47, e47, h⟩ := fx_bd h
        refine fx_callVi 47 (mt' := mX7_here) (As := []) okm0 (okvX7_here _ _) lmX7_59 (by decide) rfl rfl (Nat.le_of_ble_eq_true rfl) dX7_figures_47 (tX7_here e47) ?_
        refine fx_bipush 50 (x := (48 : Int32)) dX7_figures_50 (by decide) ?_
        refine fx_bipush 52 (x := (57 : Int32)) dX7_figures_52 (by decide) ?_
        obtain ⟨q54, e54, h⟩ := fx_bd h
        refine fx_callSi 54 (mt' := mX7_in) (As := [.int q47.1, .int (48 : Int32), .int (57 : Int32)]) (oksX7_in _ _) lmX7_39 (by decide) rfl rfl (Nat.le_of_ble_eq_true rfl) dX7_figures_54 (tX7_in e54) ?_
        refine fx_if_eq 57 97 dX7_figures_57 (by decide) (fun c57 => ?_) (fun c57 => ?_)
        · replace h := fx_ip c57 h
          refine fx_sub [0, 1, 2] rfl ?_
          exact hk _ _ _ h
        · replace h := fx_ne c57 h
          refine fx_iload_n 60 dX7_figures_60 rfl 2 rfl ?_
          refine fx_if_eq 61 68 dX7_figures_61 (by decide) (fun c61 => ?_) (fun c61 => ?_)
          · replace h := fx_ip c61 h
            refine fx_sub [0, 1, 2] rfl ?_
            exact vX7_figures_J68 (fun _ _ _ => ih _ _ _) hk h
          · replace h := fx_ne c61 h
            refine fx_iload_n 64 dX7_figures_64 rfl 1 rfl ?_
            refine fx_if_le 65 97 dX7_figures_65 (by decide) (fun c65 => ?_) (fun c65 => ?_)
            · replace h := fx_ip c65 h
              refine fx_sub [0, 1, 2] rfl ?_
              exact hk _ _ _ h
            · replace h := fx_ne c65 h
              refine fx_sub [0, 1, 2] rfl ?_
              exact vX7_figures_J68 (fun _ _ _ => ih _ _ _) hk h
def CX7_figures_J27  (t0 : Int32) (M : fxMem) : Option (Int32 × fxMem) := if fx_01 t0 = true then CX7_figures_L34  1000 (0 : Int32) (0 : Int32) (fx_st M 0 7 t0) (fun y1_34 y2_34 M34 => some (y1_34, M34)) else none
set_option maxRecDepth 100000 in
set_option maxHeartbeats 4000000 in
theorem vX7_figures_J27  {t0 : Int32} {R : Int32 × fxMem} {M : fxMem} (h : CX7_figures_J27 t0 M = some R) : fx_V gM mX7_figures (fx_ri R) 27 [(0, .ref 0)] [.int t0, .ref 0] M := by
  rw [CX7_figures_J27] at h
  obtain ⟨g27, h⟩ := fx_gt h
  refine fx_putZ 27 (j := 7) okm0 g27 dX7_figures_27 lfX7_55 (by decide) rfl (by decide +kernel) (fun _ _ => Nat.le_of_ble_eq_true rfl) (fun _ _ _ => rfl) ?_
  refine fx_iconst 30 (x := (0 : Int32)) dX7_figures_30 (by decide) ?_
  refine fx_istore_n 31 (lv' := [(1, .int (0 : Int32)), (0, .ref 0)]) dX7_figures_31 rfl (Nat.le_of_ble_eq_true rfl) rfl ?_
  refine fx_iconst 32 (x := (0 : Int32)) dX7_figures_32 (by decide) ?_
  refine fx_istore_n 33 (lv' := [(2, .int (0 : Int32)), (1, .int (0 : Int32)), (0, .ref 0)]) dX7_figures_33 rfl (Nat.le_of_ble_eq_true rfl) rfl ?_
  refine fx_sub [2, 1, 0] rfl ?_
  refine vX7_figures_L34 (fun y1_34 y2_34 M34 h => ?_) 1000 _ _ _ h
  refine fx_iload_n 97 dX7_figures_97 rfl 1 rfl ?_
  obtain rfl := Option.some.inj h
  exact fx_iret 98 dX7_figures_98 rfl rfl ⟨rfl, rfl⟩
def CX7_figures_J22  (M : fxMem) : Option (Int32 × fxMem) := CX7_figures_J27 (1 : Int32) M
set_option maxRecDepth 100000 in
set_option maxHeartbeats 4000000 in
theorem vX7_figures_J22  {R : Int32 × fxMem} {M : fxMem} (h : CX7_figures_J22  M = some R) : fx_V gM mX7_figures (fx_ri R) 22 [(0, .ref 0)] [.ref 0] M := by
  rw [CX7_figures_J22] at h
  refine fx_iconst 22 (x := (1 : Int32)) dX7_figures_22 (by decide) ?_
  refine fx_goto 23 27 dX7_figures_23 (by decide) ?_
  refine fx_sub [0] rfl ?_
  exact vX7_figures_J27 h
def CX7_figures  (M : fxMem) : Option (Int32 × fxMem) := if M 0 7 = (0 : Int32) then Option.bind (CX7_here M) fun q9 => Option.bind (CX7_in q9.1 (48 : Int32) (57 : Int32) q9.2) fun q16 => CX7_figures_L34  1000 (0 : Int32) (0 : Int32) (fx_st q16.2 0 7 (if q16.1 = (0 : Int32) then (1 : Int32) else (0 : Int32))) (fun y1_34 y2_34 M34 => some (y1_34, M34)) else CX7_figures_J22  M
set_option maxRecDepth 100000 in
set_option maxHeartbeats 4000000 in
theorem tX7_figures  {M : fxMem} {R : Int32 × fxMem} (h : CX7_figures  M = some R) : fx_T gM mX7_figures [.ref 0] M (fx_ri R) := by
  rw [CX7_figures] at h
  refine fx_enter [(0, .ref 0)] (by show plainName RX7 = true; decide) (fun _ => rfl) (fun _ => Nat.le_of_ble_eq_true rfl) ?_
  refine fx_aload_n 0 dX7_figures_0 rfl 0 rfl ?_
  refine fx_aload_n 1 dX7_figures_1 rfl 0 rfl ?_
  refine fx_get 2 (j := 7) (v := .int (M 0 7)) okm0 dX7_figures_2 lfX7_55 (by decide) (fun _ => rfl) ?_
  refine fx_if_ne 5 22 dX7_figures_5 (by decide) (fun c5 => ?_) (fun c5 => ?_)
  · replace h := fx_ne c5 h
    refine fx_sub [0] rfl ?_
    exact vX7_figures_J22 h
  · replace h := fx_ip c5 h
    refine fx_aload_n 8 dX7_figures_8 rfl 0 rfl ?_
    obtain ⟨q9, e9, h⟩ := fx_bd h
    refine fx_callVi 9 (mt' := mX7_here) (As := []) okm0 (okvX7_here _ _) lmX7_59 (by decide) rfl rfl (Nat.le_of_ble_eq_true rfl) dX7_figures_9 (tX7_here e9) ?_
    refine fx_bipush 12 (x := (48 : Int32)) dX7_figures_12 (by decide) ?_
    refine fx_bipush 14 (x := (57 : Int32)) dX7_figures_14 (by decide) ?_
    obtain ⟨q16, e16, h⟩ := fx_bd h
    refine fx_callSi 16 (mt' := mX7_in) (As := [.int q9.1, .int (48 : Int32), .int (57 : Int32)]) (oksX7_in _ _) lmX7_39 (by decide) rfl rfl (Nat.le_of_ble_eq_true rfl) dX7_figures_16 (tX7_in e16) ?_
    have J : fx_V gM mX7_figures (fx_ri R) 27 [(0, .ref 0)] [.int (if q16.1 = (0 : Int32) then (1 : Int32) else (0 : Int32)), .ref 0] q16.2 := by
      refine fx_putZ 27 (j := 7) okm0 (by (repeat' split) <;> rfl) dX7_figures_27 lfX7_55 (by decide) rfl (by decide +kernel) (fun _ _ => Nat.le_of_ble_eq_true rfl) (fun _ _ _ => rfl) ?_
      refine fx_iconst 30 (x := (0 : Int32)) dX7_figures_30 (by decide) ?_
      refine fx_istore_n 31 (lv' := [(1, .int (0 : Int32)), (0, .ref 0)]) dX7_figures_31 rfl (Nat.le_of_ble_eq_true rfl) rfl ?_
      refine fx_iconst 32 (x := (0 : Int32)) dX7_figures_32 (by decide) ?_
      refine fx_istore_n 33 (lv' := [(2, .int (0 : Int32)), (1, .int (0 : Int32)), (0, .ref 0)]) dX7_figures_33 rfl (Nat.le_of_ble_eq_true rfl) rfl ?_
      refine fx_sub [2, 1, 0] rfl ?_
      refine vX7_figures_L34 (fun y1_34 y2_34 M34 h => ?_) 1000 _ _ _ h
      refine fx_iload_n 97 dX7_figures_97 rfl 1 rfl ?_
      obtain rfl := Option.some.inj h
      exact fx_iret 98 dX7_figures_98 rfl rfl ⟨rfl, rfl⟩
    refine fx_if_ne 19 26 dX7_figures_19 (by decide) (fun c19 => ?_) (fun c19 => ?_)
    · refine fx_iconst 26 (x := (0 : Int32)) dX7_figures_26 (by decide) ?_
      refine fx_sub (lv' := [(0, .ref 0)]) [0] rfl ?_
      show fx_V gM mX7_figures (fx_ri R) 27 [(0, .ref 0)] [.int (0 : Int32), .ref 0] q16.2
      simpa only [if_neg c19] using J
    · refine fx_iconst 22 (x := (1 : Int32)) dX7_figures_22 (by decide) ?_
      refine fx_goto 23 27 dX7_figures_23 (by decide) ?_
      refine fx_sub (lv' := [(0, .ref 0)]) [0] rfl ?_
      show fx_V gM mX7_figures (fx_ri R) 27 [(0, .ref 0)] [.int (1 : Int32), .ref 0] q16.2
      simpa only [if_pos c19] using J
def mX7_among : fxM := (yX7_among, cX7_among, 3, (some .int), 9, 360)
theorem okvX7_among (f l : Nat) : fx_okV (yX7_among, cX7_among, 3, (some .int), f, l) 1 := ⟨⟨rin16 _ (List.mem_of_getElem? (i := 10) rfl), rin1 _ (List.mem_of_getElem? (i := 5) rfl), by show yX7_among.cls ≠ _; decide +kernel, by show yX7_among.cls ≠ _; decide +kernel, by show (parseMethodDescriptor yX7_among.desc).map _ = _; decide +kernel⟩, rin16 _ (List.mem_of_getElem? (i := 8) rfl), rin16 _ (List.mem_of_getElem? (i := 9) rfl)⟩
def CX7_among_L2 (x1 : Nat) : Nat → Int32 → fxMem → (Int32 → fxMem → Option (Int32 × fxMem)) → Option (Int32 × fxMem)
  | 0, _, _, _ => none
  | n + 1, x2, M, k => if fx_isS x1 = true then if kx_l x1 ≤ x2 then k x2 M else Option.bind (CX7_here M) fun q11 => if fx_in x2 (kx_b (x1 - 1000)).length = true then if q11.1 = kx_c x1 x2 then some (x2, fx_st q11.2 0 5 ((q11.2 0 5) + (1 : Int32))) else CX7_among_L2 x1 n (x2 + (1 : Int32)) q11.2 k else none else none
set_option maxRecDepth 100000 in
set_option maxHeartbeats 4000000 in
theorem vX7_among_L2 {x1 : Nat} {R : Int32 × fxMem} {k : Int32 → fxMem → Option (Int32 × fxMem)} (hk : ∀ (x2 : Int32) (M : fxMem), k x2 M = some R → fx_V gM mX7_among (fx_ri R) 40 [(0, .ref 0), (1, .ref x1), (2, .int x2)] [] M) : ∀ (n : Nat) (x2 : Int32) (M : fxMem), CX7_among_L2 x1 n x2 M k = some R → fx_V gM mX7_among (fx_ri R) 2 [(0, .ref 0), (1, .ref x1), (2, .int x2)] [] M := by
  intro n
  induction n with
  | zero => intro x2 M h; rw [CX7_among_L2] at h; cases h
  | succ n ih =>
    intro x2 M h
    rw [CX7_among_L2] at h
    refine fx_iload_n 2 dX7_among_2 rfl 2 rfl ?_
    refine fx_aload_n 3 dX7_among_3 rfl 1 rfl ?_
    obtain ⟨g4, h⟩ := fx_gt h
    refine fx_slen 4 g4 dX7_among_4 lmX7_63 (by decide) (Nat.le_of_ble_eq_true rfl) ?_
    refine fx_icmp_ge 7 40 dX7_among_7 (by decide) (fun c7 => ?_) (fun c7 => ?_)
    · replace h := fx_ip c7 h
      refine fx_sub [0, 1, 2] rfl ?_
      exact hk _ _ h
    · replace h := fx_ne c7 h
      refine fx_aload_n 10 dX7_among_10 rfl 0 rfl ?_
      obtain ⟨q11, e11, h⟩ := fx_bd h
      refine fx_callVi 11 (mt' := mX7_here) (As := []) okm0 (okvX7_here _ _) lmX7_59 (by decide) rfl rfl (Nat.le_of_ble_eq_true rfl) dX7_among_11 (tX7_here e11) ?_
      refine fx_aload_n 14 dX7_among_14 rfl 1 rfl ?_
      refine fx_iload_n 15 dX7_among_15 rfl 2 rfl ?_
      obtain ⟨g16, h⟩ := fx_gt h
      refine fx_schar 16 g4 g16 dX7_among_16 lmX7_68 (by decide) (Nat.le_of_ble_eq_true rfl) ?_
      refine fx_icmp_ne 19 34 dX7_among_19 (by decide) (fun c19 => ?_) (fun c19 => ?_)
      · replace h := fx_ne c19 h
        refine fx_iinc 34 (lv' := [(2, .int (x2 + (1 : Int32))), (0, .ref 0), (1, .ref x1)]) (y := x2 + (1 : Int32)) dX7_among_34 2 rfl (by rfl) (Nat.le_of_ble_eq_true rfl) rfl ?_
        refine fx_goto 37 2 dX7_among_37 (by decide) ?_
        refine fx_sub [1, 2, 0] rfl ?_
        exact ih _ _ h
      · replace h := fx_ip c19 h
        refine fx_aload_n 22 dX7_among_22 rfl 0 rfl ?_
        refine fx_dup 23 dX7_among_23 rfl ?_
        refine fx_get 24 (j := 5) (v := .int (q11.2 0 5)) okm0 dX7_among_24 lfX7_49 (by decide) (fun _ => rfl) ?_
        refine fx_iconst 27 (x := (1 : Int32)) dX7_among_27 (by decide) ?_
        refine fx_iadd 28 dX7_among_28 ?_
        refine fx_putI 29 (j := 5) okm0 dX7_among_29 lfX7_49 (by decide) rfl (by decide +kernel) (fun _ _ => Nat.le_of_ble_eq_true rfl) (fun _ _ _ => rfl) ?_
        refine fx_iload_n 32 dX7_among_32 rfl 2 rfl ?_
        obtain rfl := Option.some.inj h
        exact fx_iret 33 dX7_among_33 rfl rfl ⟨rfl, rfl⟩
def CX7_among (x1 : Nat) (M : fxMem) : Option (Int32 × fxMem) := CX7_among_L2 x1 1000 (0 : Int32) M (fun y2_2 M2 => some ((-1 : Int32), M2))
set_option maxRecDepth 100000 in
set_option maxHeartbeats 4000000 in
theorem tX7_among {x1 : Nat} {M : fxMem} {R : Int32 × fxMem} (h : CX7_among x1 M = some R) : fx_T gM mX7_among [.ref 0, .ref x1] M (fx_ri R) := by
  rw [CX7_among] at h
  refine fx_enter [(0, .ref 0), (1, .ref x1)] (by show plainName RX7 = true; decide) (fun _ => rfl) (fun _ => Nat.le_of_ble_eq_true rfl) ?_
  refine fx_iconst 0 (x := (0 : Int32)) dX7_among_0 (by decide) ?_
  refine fx_istore_n 1 (lv' := [(2, .int (0 : Int32)), (0, .ref 0), (1, .ref x1)]) dX7_among_1 rfl (Nat.le_of_ble_eq_true rfl) rfl ?_
  refine fx_sub [1, 2, 0] rfl ?_
  refine vX7_among_L2 (fun y2_2 M2 h => ?_) 1000 _ _ h
  refine fx_iconst 40 (x := (-1 : Int32)) dX7_among_40 (by decide) ?_
  obtain rfl := Option.some.inj h
  exact fx_iret 41 dX7_among_41 rfl rfl ⟨rfl, rfl⟩
def mX7_emits : fxM := (yX7_emits, cX7_emits, 2, none, 2, 80)
theorem okvX7_emits (f l : Nat) : fx_okV (yX7_emits, cX7_emits, 2, none, f, l) 1 := ⟨⟨rin16 _ (List.mem_of_getElem? (i := 1) rfl), rin1 _ (List.mem_of_getElem? (i := 5) rfl), by show yX7_emits.cls ≠ _; decide +kernel, by show yX7_emits.cls ≠ _; decide +kernel, by show (parseMethodDescriptor yX7_emits.desc).map _ = _; decide +kernel⟩, rin15 _ (List.mem_of_getElem? (i := 23) rfl), rin16 _ (List.mem_of_getElem? (i := 0) rfl)⟩
def CX7_emits (x1 : Int32) (M : fxMem) : Option (fxMem) := if M 0 7 = (0 : Int32) then if fx_in ((195 : Int32) + (M 0 4)) 900 = true then if fx_in (((200 : Int32) + ((140 : Int32) * (M 0 4))) + (M 1 ((195 : Int32) + (M 0 4)).toNatClampNeg)) 900 = true then fx_lt (fx_st M 1 (((200 : Int32) + ((140 : Int32) * (M 0 4))) + (M 1 ((195 : Int32) + (M 0 4)).toNatClampNeg)).toNatClampNeg x1) fun M47 => if fx_in ((195 : Int32) + (M47 0 4)) 900 = true then some (fx_st M47 1 ((195 : Int32) + (M47 0 4)).toNatClampNeg ((M47 1 ((195 : Int32) + (M47 0 4)).toNatClampNeg) + (1 : Int32))) else none else none else none else some M
set_option maxRecDepth 100000 in
set_option maxHeartbeats 4000000 in
theorem tX7_emits {x1 : Int32} {M : fxMem} {R : fxMem} (h : CX7_emits x1 M = some R) : fx_T gM mX7_emits [.ref 0, .int x1] M (fx_rv R) := by
  rw [CX7_emits] at h
  refine fx_enter [(0, .ref 0), (1, .int x1)] (by show plainName RX7 = true; decide) (fun _ => rfl) (fun _ => Nat.le_of_ble_eq_true rfl) ?_
  refine fx_aload_n 0 dX7_emits_0 rfl 0 rfl ?_
  refine fx_get 1 (j := 7) (v := .int (M 0 7)) okm0 dX7_emits_1 lfX7_55 (by decide) (fun _ => rfl) ?_
  refine fx_if_ne 4 56 dX7_emits_4 (by decide) (fun c4 => ?_) (fun c4 => ?_)
  · replace h := fx_ne c4 h
    obtain rfl := Option.some.inj h
    exact fx_vret 56 dX7_emits_56 rfl ⟨rfl, rfl⟩
  · replace h := fx_ip c4 h
    refine fx_aload_n 7 dX7_emits_7 rfl 0 rfl ?_
    refine fx_get 8 (j := 1) (v := .ref 1) okm0 dX7_emits_8 lfX7_7 (by decide) (fun _ => rfl) ?_
    refine fx_sipush 11 (x := (200 : Int32)) dX7_emits_11 (by decide) ?_
    refine fx_sipush 14 (x := (140 : Int32)) dX7_emits_14 (by decide) ?_
    refine fx_aload_n 17 dX7_emits_17 rfl 0 rfl ?_
    refine fx_get 18 (j := 4) (v := .int (M 0 4)) okm0 dX7_emits_18 lfX7_76 (by decide) (fun _ => rfl) ?_
    refine fx_imul 21 dX7_emits_21 ?_
    refine fx_iadd 22 dX7_emits_22 ?_
    refine fx_aload_n 23 dX7_emits_23 rfl 0 rfl ?_
    refine fx_get 24 (j := 1) (v := .ref 1) okm0 dX7_emits_24 lfX7_7 (by decide) (fun _ => rfl) ?_
    refine fx_sipush 27 (x := (195 : Int32)) dX7_emits_27 (by decide) ?_
    refine fx_aload_n 30 dX7_emits_30 rfl 0 rfl ?_
    refine fx_get 31 (j := 4) (v := .int (M 0 4)) okm0 dX7_emits_31 lfX7_76 (by decide) (fun _ => rfl) ?_
    refine fx_iadd 34 dX7_emits_34 ?_
    obtain ⟨g35, h⟩ := fx_gt h
    refine fx_iald 35 okb1 dX7_emits_35 g35 ?_
    refine fx_iadd 36 dX7_emits_36 ?_
    refine fx_iload_n 37 dX7_emits_37 rfl 1 rfl ?_
    obtain ⟨g38, h⟩ := fx_gt h
    refine fx_iast 38 okb1 dX7_emits_38 g38 ?_
    refine fx_aload_n 39 dX7_emits_39 rfl 0 rfl ?_
    refine fx_get 40 (j := 1) (v := .ref 1) okm0 dX7_emits_40 lfX7_7 (by decide) (fun _ => rfl) ?_
    refine fx_sipush 43 (x := (195 : Int32)) dX7_emits_43 (by decide) ?_
    refine fx_aload_n 46 dX7_emits_46 rfl 0 rfl ?_
    replace h := fx_ltd h
    generalize fx_st M 1 (((200 : Int32) + ((140 : Int32) * (M 0 4))) + (M 1 ((195 : Int32) + (M 0 4)).toNatClampNeg)).toNatClampNeg x1 = M47 at h ⊢
    refine fx_get 47 (j := 4) (v := .int (M47 0 4)) okm0 dX7_emits_47 lfX7_76 (by decide) (fun _ => rfl) ?_
    refine fx_iadd 50 dX7_emits_50 ?_
    refine fx_dup2 51 dX7_emits_51 rfl rfl ?_
    obtain ⟨g52, h⟩ := fx_gt h
    refine fx_iald 52 okb1 dX7_emits_52 g52 ?_
    refine fx_iconst 53 (x := (1 : Int32)) dX7_emits_53 (by decide) ?_
    refine fx_iadd 54 dX7_emits_54 ?_
    refine fx_iast 55 okb1 dX7_emits_55 g52 ?_
    obtain rfl := Option.some.inj h
    exact fx_vret 56 dX7_emits_56 rfl ⟨rfl, rfl⟩
def mX7_some (d : Nat) : fxM := (yX7_some, cX7_some, 1, none, 10 + d, 40 * (10 + d))
theorem okvX7_some (f l : Nat) : fx_okV (yX7_some, cX7_some, 1, none, f, l) 0 := ⟨⟨rin15 _ (List.mem_of_getElem? (i := 18) rfl), rin1 _ (List.mem_of_getElem? (i := 5) rfl), by show yX7_some.cls ≠ _; decide +kernel, by show yX7_some.cls ≠ _; decide +kernel, by show (parseMethodDescriptor yX7_some.desc).map _ = _; decide +kernel⟩, rin15 _ (List.mem_of_getElem? (i := 16) rfl), rin15 _ (List.mem_of_getElem? (i := 17) rfl)⟩
def mX7_every (d : Nat) : fxM := (yX7_every, cX7_every, 1, none, 10 + d, 40 * (10 + d))
theorem okvX7_every (f l : Nat) : fx_okV (yX7_every, cX7_every, 1, none, f, l) 0 := ⟨⟨rin16 _ (List.mem_of_getElem? (i := 2) rfl), rin1 _ (List.mem_of_getElem? (i := 5) rfl), by show yX7_every.cls ≠ _; decide +kernel, by show yX7_every.cls ≠ _; decide +kernel, by show (parseMethodDescriptor yX7_every.desc).map _ = _; decide +kernel⟩, rin15 _ (List.mem_of_getElem? (i := 20) rfl), rin15 _ (List.mem_of_getElem? (i := 21) rfl)⟩
def mX7_factor (d : Nat) : fxM := (yX7_factor, cX7_factor, 5, none, 10 + d, 40 * (10 + d))
theorem okvX7_factor (f l : Nat) : fx_okV (yX7_factor, cX7_factor, 5, none, f, l) 0 := ⟨⟨rin16 _ (List.mem_of_getElem? (i := 6) rfl), rin1 _ (List.mem_of_getElem? (i := 5) rfl), by show yX7_factor.cls ≠ _; decide +kernel, by show yX7_factor.cls ≠ _; decide +kernel, by show (parseMethodDescriptor yX7_factor.desc).map _ = _; decide +kernel⟩, rin16 _ (List.mem_of_getElem? (i := 4) rfl), rin16 _ (List.mem_of_getElem? (i := 5) rfl)⟩
def CX7_some_L4 (rec : Nat → fxMem → Option (fxMem)) : Nat → fxMem → (fxMem → Option (fxMem)) → Option (fxMem)
  | 0, _, _ => none
  | n + 1, M, k => if M 0 7 = (0 : Int32) then Option.bind (CX7_here M) fun q12 => if q12.1 = (124 : Int32) then Option.bind (rec 1  (fx_st q12.2 0 5 ((q12.2 0 5) + (1 : Int32)))) fun q31 => Option.bind (CX7_emits (-3 : Int32) q31) fun q37 => CX7_some_L4 rec  n  q37 k else k  q12.2 else k  M
set_option maxRecDepth 100000 in
set_option maxHeartbeats 4000000 in
theorem vX7_some_L4 {d : Nat} {rec : Nat → fxMem → Option (fxMem)} (H0 : ∀ {M : fxMem} {R : fxMem}, rec 0  M = some R → fx_T gM (mX7_some d) [.ref 0] M (fx_rv R)) (H1 : ∀ {M : fxMem} {R : fxMem}, rec 1  M = some R → fx_T gM (mX7_every d) [.ref 0] M (fx_rv R)) (H2 : ∀ {M : fxMem} {R : fxMem}, rec 2  M = some R → fx_T gM (mX7_factor d) [.ref 0] M (fx_rv R)) {R : fxMem} {k : fxMem → Option (fxMem)} (hk : ∀ (M : fxMem), k  M = some R → fx_V gM (mX7_some (d + 1)) (fx_rv R) 43 [(0, .ref 0)] [] M) : ∀ (n : Nat) (M : fxMem), CX7_some_L4 rec  n  M k = some R → fx_V gM (mX7_some (d + 1)) (fx_rv R) 4 [(0, .ref 0)] [] M := by
  intro n
  induction n with
  | zero => intro  M h; rw [CX7_some_L4] at h; cases h
  | succ n ih =>
    intro  M h
    rw [CX7_some_L4] at h
    refine fx_aload_n 4 dX7_some_4 rfl 0 rfl ?_
    refine fx_get 5 (j := 7) (v := .int (M 0 7)) okm0 dX7_some_5 lfX7_55 (by decide) (fun _ => rfl) ?_
    refine fx_if_ne 8 43 dX7_some_8 (by decide) (fun c8 => ?_) (fun c8 => ?_)
    · replace h := fx_ne c8 h
      refine fx_sub [0] rfl ?_
      exact hk  _ h
    · replace h := fx_ip c8 h
      refine fx_aload_n 11 dX7_some_11 rfl 0 rfl ?_
      obtain ⟨q12, e12, h⟩ := fx_bd h
      refine fx_callVi 12 (mt' := mX7_here) (As := []) okm0 (okvX7_here _ _) lmX7_59 (by simp only [mX7_some, mX7_here]; omega) rfl rfl (Nat.le_of_ble_eq_true rfl) dX7_some_12 (tX7_here e12) ?_
      refine fx_bipush 15 (x := (124 : Int32)) dX7_some_15 (by decide) ?_
      refine fx_icmp_ne 17 43 dX7_some_17 (by decide) (fun c17 => ?_) (fun c17 => ?_)
      · replace h := fx_ne c17 h
        refine fx_sub [0] rfl ?_
        exact hk  _ h
      · replace h := fx_ip c17 h
        refine fx_aload_n 20 dX7_some_20 rfl 0 rfl ?_
        refine fx_dup 21 dX7_some_21 rfl ?_
        refine fx_get 22 (j := 5) (v := .int (q12.2 0 5)) okm0 dX7_some_22 lfX7_49 (by decide) (fun _ => rfl) ?_
        refine fx_iconst 25 (x := (1 : Int32)) dX7_some_25 (by decide) ?_
        refine fx_iadd 26 dX7_some_26 ?_
        refine fx_putI 27 (j := 5) okm0 dX7_some_27 lfX7_49 (by decide) rfl (by decide +kernel) (fun _ _ => Nat.le_of_ble_eq_true rfl) (fun _ _ _ => rfl) ?_
        refine fx_aload_n 30 dX7_some_30 rfl 0 rfl ?_
        obtain ⟨q31, e31, h⟩ := fx_bd h
        refine fx_callVv 31 (mt' := (mX7_every d)) (As := []) okm0 (okvX7_every _ _) lmX7_102 (by simp only [mX7_some, mX7_every]; omega) rfl rfl (Nat.le_of_ble_eq_true rfl) dX7_some_31 (H1 e31) ?_
        refine fx_aload_n 34 dX7_some_34 rfl 0 rfl ?_
        refine fx_bipush 35 (x := (-3 : Int32)) dX7_some_35 (by decide) ?_
        obtain ⟨q37, e37, h⟩ := fx_bd h
        refine fx_callVv 37 (mt' := mX7_emits) (As := [.int (-3 : Int32)]) okm0 (okvX7_emits _ _) lmX7_85 (by simp only [mX7_some, mX7_emits]; omega) rfl rfl (Nat.le_of_ble_eq_true rfl) dX7_some_37 (tX7_emits e37) ?_
        refine fx_goto 40 4 dX7_some_40 (by decide) ?_
        refine fx_sub [0] rfl ?_
        exact ih  _ h
def BX7_some (rec : Nat → fxMem → Option (fxMem))  (M : fxMem) : Option (fxMem) := Option.bind (rec 1  M) fun q1 => CX7_some_L4 rec  1000  q1 (fun  M4 => some M4)
set_option maxRecDepth 100000 in
set_option maxHeartbeats 4000000 in
theorem bX7_some {d : Nat} {rec : Nat → fxMem → Option (fxMem)} (H0 : ∀ {M : fxMem} {R : fxMem}, rec 0  M = some R → fx_T gM (mX7_some d) [.ref 0] M (fx_rv R)) (H1 : ∀ {M : fxMem} {R : fxMem}, rec 1  M = some R → fx_T gM (mX7_every d) [.ref 0] M (fx_rv R)) (H2 : ∀ {M : fxMem} {R : fxMem}, rec 2  M = some R → fx_T gM (mX7_factor d) [.ref 0] M (fx_rv R))  {M : fxMem} {R : fxMem} (h : BX7_some rec  M = some R) : fx_T gM (mX7_some (d + 1)) [.ref 0] M (fx_rv R) := by
  rw [BX7_some] at h
  refine fx_enter [(0, .ref 0)] (by show plainName RX7 = true; decide) (fun _ => rfl) (fun _ => Nat.le_of_ble_eq_true rfl) ?_
  refine fx_aload_n 0 dX7_some_0 rfl 0 rfl ?_
  obtain ⟨q1, e1, h⟩ := fx_bd h
  refine fx_callVv 1 (mt' := (mX7_every d)) (As := []) okm0 (okvX7_every _ _) lmX7_102 (by simp only [mX7_some, mX7_every]; omega) rfl rfl (Nat.le_of_ble_eq_true rfl) dX7_some_1 (H1 e1) ?_
  refine fx_sub [0] rfl ?_
  refine vX7_some_L4 H0 H1 H2 (fun  M4 h => ?_) 1000  _ h
  obtain rfl := Option.some.inj h
  exact fx_vret 43 dX7_some_43 rfl ⟨rfl, rfl⟩
def CX7_every_L4 (rec : Nat → fxMem → Option (fxMem)) : Nat → fxMem → (fxMem → Option (fxMem)) → Option (fxMem)
  | 0, _, _ => none
  | n + 1, M, k => if M 0 7 = (0 : Int32) then Option.bind (CX7_here M) fun q12 => if q12.1 = (38 : Int32) then Option.bind (rec 2  (fx_st q12.2 0 5 ((q12.2 0 5) + (1 : Int32)))) fun q31 => Option.bind (CX7_emits (-2 : Int32) q31) fun q37 => CX7_every_L4 rec  n  q37 k else k  q12.2 else k  M
set_option maxRecDepth 100000 in
set_option maxHeartbeats 4000000 in
theorem vX7_every_L4 {d : Nat} {rec : Nat → fxMem → Option (fxMem)} (H0 : ∀ {M : fxMem} {R : fxMem}, rec 0  M = some R → fx_T gM (mX7_some d) [.ref 0] M (fx_rv R)) (H1 : ∀ {M : fxMem} {R : fxMem}, rec 1  M = some R → fx_T gM (mX7_every d) [.ref 0] M (fx_rv R)) (H2 : ∀ {M : fxMem} {R : fxMem}, rec 2  M = some R → fx_T gM (mX7_factor d) [.ref 0] M (fx_rv R)) {R : fxMem} {k : fxMem → Option (fxMem)} (hk : ∀ (M : fxMem), k  M = some R → fx_V gM (mX7_every (d + 1)) (fx_rv R) 43 [(0, .ref 0)] [] M) : ∀ (n : Nat) (M : fxMem), CX7_every_L4 rec  n  M k = some R → fx_V gM (mX7_every (d + 1)) (fx_rv R) 4 [(0, .ref 0)] [] M := by
  intro n
  induction n with
  | zero => intro  M h; rw [CX7_every_L4] at h; cases h
  | succ n ih =>
    intro  M h
    rw [CX7_every_L4] at h
    refine fx_aload_n 4 dX7_every_4 rfl 0 rfl ?_
    refine fx_get 5 (j := 7) (v := .int (M 0 7)) okm0 dX7_every_5 lfX7_55 (by decide) (fun _ => rfl) ?_
    refine fx_if_ne 8 43 dX7_every_8 (by decide) (fun c8 => ?_) (fun c8 => ?_)
    · replace h := fx_ne c8 h
      refine fx_sub [0] rfl ?_
      exact hk  _ h
    · replace h := fx_ip c8 h
      refine fx_aload_n 11 dX7_every_11 rfl 0 rfl ?_
      obtain ⟨q12, e12, h⟩ := fx_bd h
      refine fx_callVi 12 (mt' := mX7_here) (As := []) okm0 (okvX7_here _ _) lmX7_59 (by simp only [mX7_every, mX7_here]; omega) rfl rfl (Nat.le_of_ble_eq_true rfl) dX7_every_12 (tX7_here e12) ?_
      refine fx_bipush 15 (x := (38 : Int32)) dX7_every_15 (by decide) ?_
      refine fx_icmp_ne 17 43 dX7_every_17 (by decide) (fun c17 => ?_) (fun c17 => ?_)
      · replace h := fx_ne c17 h
        refine fx_sub [0] rfl ?_
        exact hk  _ h
      · replace h := fx_ip c17 h
        refine fx_aload_n 20 dX7_every_20 rfl 0 rfl ?_
        refine fx_dup 21 dX7_every_21 rfl ?_
        refine fx_get 22 (j := 5) (v := .int (q12.2 0 5)) okm0 dX7_every_22 lfX7_49 (by decide) (fun _ => rfl) ?_
        refine fx_iconst 25 (x := (1 : Int32)) dX7_every_25 (by decide) ?_
        refine fx_iadd 26 dX7_every_26 ?_
        refine fx_putI 27 (j := 5) okm0 dX7_every_27 lfX7_49 (by decide) rfl (by decide +kernel) (fun _ _ => Nat.le_of_ble_eq_true rfl) (fun _ _ _ => rfl) ?_
        refine fx_aload_n 30 dX7_every_30 rfl 0 rfl ?_
        obtain ⟨q31, e31, h⟩ := fx_bd h
        refine fx_callVv 31 (mt' := (mX7_factor d)) (As := []) okm0 (okvX7_factor _ _) lmX7_82 (by simp only [mX7_every, mX7_factor]; omega) rfl rfl (Nat.le_of_ble_eq_true rfl) dX7_every_31 (H2 e31) ?_
        refine fx_aload_n 34 dX7_every_34 rfl 0 rfl ?_
        refine fx_bipush 35 (x := (-2 : Int32)) dX7_every_35 (by decide) ?_
        obtain ⟨q37, e37, h⟩ := fx_bd h
        refine fx_callVv 37 (mt' := mX7_emits) (As := [.int (-2 : Int32)]) okm0 (okvX7_emits _ _) lmX7_85 (by simp only [mX7_every, mX7_emits]; omega) rfl rfl (Nat.le_of_ble_eq_true rfl) dX7_every_37 (tX7_emits e37) ?_
        refine fx_goto 40 4 dX7_every_40 (by decide) ?_
        refine fx_sub [0] rfl ?_
        exact ih  _ h
def BX7_every (rec : Nat → fxMem → Option (fxMem))  (M : fxMem) : Option (fxMem) := Option.bind (rec 2  M) fun q1 => CX7_every_L4 rec  1000  q1 (fun  M4 => some M4)
set_option maxRecDepth 100000 in
set_option maxHeartbeats 4000000 in
theorem bX7_every {d : Nat} {rec : Nat → fxMem → Option (fxMem)} (H0 : ∀ {M : fxMem} {R : fxMem}, rec 0  M = some R → fx_T gM (mX7_some d) [.ref 0] M (fx_rv R)) (H1 : ∀ {M : fxMem} {R : fxMem}, rec 1  M = some R → fx_T gM (mX7_every d) [.ref 0] M (fx_rv R)) (H2 : ∀ {M : fxMem} {R : fxMem}, rec 2  M = some R → fx_T gM (mX7_factor d) [.ref 0] M (fx_rv R))  {M : fxMem} {R : fxMem} (h : BX7_every rec  M = some R) : fx_T gM (mX7_every (d + 1)) [.ref 0] M (fx_rv R) := by
  rw [BX7_every] at h
  refine fx_enter [(0, .ref 0)] (by show plainName RX7 = true; decide) (fun _ => rfl) (fun _ => Nat.le_of_ble_eq_true rfl) ?_
  refine fx_aload_n 0 dX7_every_0 rfl 0 rfl ?_
  obtain ⟨q1, e1, h⟩ := fx_bd h
  refine fx_callVv 1 (mt' := (mX7_factor d)) (As := []) okm0 (okvX7_factor _ _) lmX7_82 (by simp only [mX7_every, mX7_factor]; omega) rfl rfl (Nat.le_of_ble_eq_true rfl) dX7_every_1 (H2 e1) ?_
  refine fx_sub [0] rfl ?_
  refine vX7_every_L4 H0 H1 H2 (fun  M4 h => ?_) 1000  _ h
  obtain rfl := Option.some.inj h
  exact fx_vret 43 dX7_every_43 rfl ⟨rfl, rfl⟩
def CX7_factor_J101 (rec : Nat → fxMem → Option (fxMem)) (x1 : Int32) (M : fxMem) : Option (fxMem) := some (fx_st M 0 8 ((M 0 8) - (1 : Int32)))
set_option maxRecDepth 100000 in
set_option maxHeartbeats 4000000 in
theorem vX7_factor_J101 {d : Nat} {rec : Nat → fxMem → Option (fxMem)} (H0 : ∀ {M : fxMem} {R : fxMem}, rec 0  M = some R → fx_T gM (mX7_some d) [.ref 0] M (fx_rv R)) (H1 : ∀ {M : fxMem} {R : fxMem}, rec 1  M = some R → fx_T gM (mX7_every d) [.ref 0] M (fx_rv R)) (H2 : ∀ {M : fxMem} {R : fxMem}, rec 2  M = some R → fx_T gM (mX7_factor d) [.ref 0] M (fx_rv R))  {x1 : Int32} {R : fxMem} {M : fxMem} (h : CX7_factor_J101 rec x1 M = some R) : fx_V gM (mX7_factor (d + 1)) (fx_rv R) 101 [(0, .ref 0), (1, .int x1)] [] M := by
  rw [CX7_factor_J101] at h
  refine fx_aload_n 101 dX7_factor_101 rfl 0 rfl ?_
  refine fx_dup 102 dX7_factor_102 rfl ?_
  refine fx_get 103 (j := 8) (v := .int (M 0 8)) okm0 dX7_factor_103 lfX7_79 (by decide) (fun _ => rfl) ?_
  refine fx_iconst 106 (x := (1 : Int32)) dX7_factor_106 (by decide) ?_
  refine fx_isub 107 dX7_factor_107 ?_
  refine fx_putI 108 (j := 8) okm0 dX7_factor_108 lfX7_79 (by decide) rfl (by decide +kernel) (fun _ _ => Nat.le_of_ble_eq_true rfl) (fun _ _ _ => rfl) ?_
  obtain rfl := Option.some.inj h
  exact fx_vret 111 dX7_factor_111 rfl ⟨rfl, rfl⟩
def CX7_factor_J25 (rec : Nat → fxMem → Option (fxMem)) (x1 : Int32) (M : fxMem) : Option (fxMem) := fx_lt (fx_st M 0 7 (if M 0 8 = (5 : Int32) then (1 : Int32) else (0 : Int32))) fun M44 => fx_lt (fx_st M44 0 8 ((M44 0 8) + (1 : Int32))) fun M54 => if x1 = (33 : Int32) then Option.bind (rec 2  (fx_st M54 0 5 ((M54 0 5) + (if M54 0 7 = (0 : Int32) then (1 : Int32) else (0 : Int32))))) fun q80 => Option.bind (CX7_emits (-1 : Int32) q80) fun q85 => CX7_factor_J101 rec x1 q85 else Option.bind (rec 0  (fx_st M54 0 5 ((M54 0 5) + (if M54 0 7 = (0 : Int32) then (1 : Int32) else (0 : Int32))))) fun q92 => Option.bind (CX7_must (41 : Int32) q92) fun q98 => CX7_factor_J101 rec x1 q98
set_option maxRecDepth 100000 in
set_option maxHeartbeats 4000000 in
theorem vX7_factor_J25 {d : Nat} {rec : Nat → fxMem → Option (fxMem)} (H0 : ∀ {M : fxMem} {R : fxMem}, rec 0  M = some R → fx_T gM (mX7_some d) [.ref 0] M (fx_rv R)) (H1 : ∀ {M : fxMem} {R : fxMem}, rec 1  M = some R → fx_T gM (mX7_every d) [.ref 0] M (fx_rv R)) (H2 : ∀ {M : fxMem} {R : fxMem}, rec 2  M = some R → fx_T gM (mX7_factor d) [.ref 0] M (fx_rv R))  {x1 : Int32} {R : fxMem} {M : fxMem} (h : CX7_factor_J25 rec x1 M = some R) : fx_V gM (mX7_factor (d + 1)) (fx_rv R) 25 [(0, .ref 0), (1, .int x1)] [] M := by
  rw [CX7_factor_J25] at h
  refine fx_aload_n 25 dX7_factor_25 rfl 0 rfl ?_
  refine fx_aload_n 26 dX7_factor_26 rfl 0 rfl ?_
  refine fx_get 27 (j := 8) (v := .int (M 0 8)) okm0 dX7_factor_27 lfX7_79 (by decide) (fun _ => rfl) ?_
  refine fx_iconst 30 (x := (5 : Int32)) dX7_factor_30 (by decide) ?_
  have J : fx_V gM (mX7_factor (d + 1)) (fx_rv R) 39 [(0, .ref 0), (1, .int x1)] [.int (if M 0 8 = (5 : Int32) then (1 : Int32) else (0 : Int32)), .ref 0] M := by
    refine fx_putZ 39 (j := 7) okm0 (by (repeat' split) <;> rfl) dX7_factor_39 lfX7_55 (by decide) rfl (by decide +kernel) (fun _ _ => Nat.le_of_ble_eq_true rfl) (fun _ _ _ => rfl) ?_
    refine fx_aload_n 42 dX7_factor_42 rfl 0 rfl ?_
    refine fx_dup 43 dX7_factor_43 rfl ?_
    replace h := fx_ltd h
    generalize fx_st M 0 7 (if M 0 8 = (5 : Int32) then (1 : Int32) else (0 : Int32)) = M44 at h ⊢
    refine fx_get 44 (j := 8) (v := .int (M44 0 8)) okm0 dX7_factor_44 lfX7_79 (by decide) (fun _ => rfl) ?_
    refine fx_iconst 47 (x := (1 : Int32)) dX7_factor_47 (by decide) ?_
    refine fx_iadd 48 dX7_factor_48 ?_
    refine fx_putI 49 (j := 8) okm0 dX7_factor_49 lfX7_79 (by decide) rfl (by decide +kernel) (fun _ _ => Nat.le_of_ble_eq_true rfl) (fun _ _ _ => rfl) ?_
    refine fx_aload_n 52 dX7_factor_52 rfl 0 rfl ?_
    refine fx_dup 53 dX7_factor_53 rfl ?_
    replace h := fx_ltd h
    generalize fx_st M44 0 8 ((M44 0 8) + (1 : Int32)) = M54 at h ⊢
    refine fx_get 54 (j := 5) (v := .int (M54 0 5)) okm0 dX7_factor_54 lfX7_49 (by decide) (fun _ => rfl) ?_
    refine fx_aload_n 57 dX7_factor_57 rfl 0 rfl ?_
    refine fx_get 58 (j := 7) (v := .int (M54 0 7)) okm0 dX7_factor_58 lfX7_55 (by decide) (fun _ => rfl) ?_
    have J : fx_V gM (mX7_factor (d + 1)) (fx_rv R) 69 [(0, .ref 0), (1, .int x1)] [.int (if M54 0 7 = (0 : Int32) then (1 : Int32) else (0 : Int32)), .int (M54 0 5), .ref 0] M54 := by
      refine fx_iadd 69 dX7_factor_69 ?_
      refine fx_putI 70 (j := 5) okm0 dX7_factor_70 lfX7_49 (by decide) rfl (by decide +kernel) (fun _ _ => Nat.le_of_ble_eq_true rfl) (fun _ _ _ => rfl) ?_
      refine fx_iload_n 73 dX7_factor_73 rfl 1 rfl ?_
      refine fx_bipush 74 (x := (33 : Int32)) dX7_factor_74 (by decide) ?_
      refine fx_icmp_ne 76 91 dX7_factor_76 (by decide) (fun c76 => ?_) (fun c76 => ?_)
      · replace h := fx_ne c76 h
        refine fx_aload_n 91 dX7_factor_91 rfl 0 rfl ?_
        obtain ⟨q92, e92, h⟩ := fx_bd h
        refine fx_callVv 92 (mt' := (mX7_some d)) (As := []) okm0 (okvX7_some _ _) lmX7_88 (by simp only [mX7_factor, mX7_some]; omega) rfl rfl (Nat.le_of_ble_eq_true rfl) dX7_factor_92 (H0 e92) ?_
        refine fx_aload_n 95 dX7_factor_95 rfl 0 rfl ?_
        refine fx_bipush 96 (x := (41 : Int32)) dX7_factor_96 (by decide) ?_
        obtain ⟨q98, e98, h⟩ := fx_bd h
        refine fx_callVv 98 (mt' := mX7_must) (As := [.int (41 : Int32)]) okm0 (okvX7_must _ _) lmX7_72 (by simp only [mX7_factor, mX7_must]; omega) rfl rfl (Nat.le_of_ble_eq_true rfl) dX7_factor_98 (tX7_must e98) ?_
        refine fx_sub [0, 1] rfl ?_
        exact vX7_factor_J101 H0 H1 H2 h
      · replace h := fx_ip c76 h
        refine fx_aload_n 79 dX7_factor_79 rfl 0 rfl ?_
        obtain ⟨q80, e80, h⟩ := fx_bd h
        refine fx_callVv 80 (mt' := (mX7_factor d)) (As := []) okm0 (okvX7_factor _ _) lmX7_82 (by simp only [mX7_factor]; omega) rfl rfl (Nat.le_of_ble_eq_true rfl) dX7_factor_80 (H2 e80) ?_
        refine fx_aload_n 83 dX7_factor_83 rfl 0 rfl ?_
        refine fx_iconst 84 (x := (-1 : Int32)) dX7_factor_84 (by decide) ?_
        obtain ⟨q85, e85, h⟩ := fx_bd h
        refine fx_callVv 85 (mt' := mX7_emits) (As := [.int (-1 : Int32)]) okm0 (okvX7_emits _ _) lmX7_85 (by simp only [mX7_factor, mX7_emits]; omega) rfl rfl (Nat.le_of_ble_eq_true rfl) dX7_factor_85 (tX7_emits e85) ?_
        refine fx_goto 88 101 dX7_factor_88 (by decide) ?_
        refine fx_sub [0, 1] rfl ?_
        exact vX7_factor_J101 H0 H1 H2 h
    refine fx_if_eq 61 68 dX7_factor_61 (by decide) (fun c61 => ?_) (fun c61 => ?_)
    · refine fx_iconst 68 (x := (1 : Int32)) dX7_factor_68 (by decide) ?_
      refine fx_sub (lv' := [(0, .ref 0), (1, .int x1)]) [0, 1] rfl ?_
      show fx_V gM (mX7_factor (d + 1)) (fx_rv R) 69 [(0, .ref 0), (1, .int x1)] [.int (1 : Int32), .int (M54 0 5), .ref 0] M54
      simpa only [if_pos c61] using J
    · refine fx_iconst 64 (x := (0 : Int32)) dX7_factor_64 (by decide) ?_
      refine fx_goto 65 69 dX7_factor_65 (by decide) ?_
      refine fx_sub (lv' := [(0, .ref 0), (1, .int x1)]) [0, 1] rfl ?_
      show fx_V gM (mX7_factor (d + 1)) (fx_rv R) 69 [(0, .ref 0), (1, .int x1)] [.int (0 : Int32), .int (M54 0 5), .ref 0] M54
      simpa only [if_neg c61] using J
  refine fx_icmp_ne 31 38 dX7_factor_31 (by decide) (fun c31 => ?_) (fun c31 => ?_)
  · refine fx_iconst 38 (x := (0 : Int32)) dX7_factor_38 (by decide) ?_
    refine fx_sub (lv' := [(0, .ref 0), (1, .int x1)]) [0, 1] rfl ?_
    show fx_V gM (mX7_factor (d + 1)) (fx_rv R) 39 [(0, .ref 0), (1, .int x1)] [.int (0 : Int32), .ref 0] M
    simpa only [if_neg c31] using J
  · refine fx_iconst 34 (x := (1 : Int32)) dX7_factor_34 (by decide) ?_
    refine fx_goto 35 39 dX7_factor_35 (by decide) ?_
    refine fx_sub (lv' := [(0, .ref 0), (1, .int x1)]) [0, 1] rfl ?_
    show fx_V gM (mX7_factor (d + 1)) (fx_rv R) 39 [(0, .ref 0), (1, .int x1)] [.int (1 : Int32), .ref 0] M
    simpa only [if_pos c31] using J
def CX7_factor_J150 (rec : Nat → fxMem → Option (fxMem)) (x1 : Int32) (x2 : Int32) (t0 : Int32) (M : fxMem) : Option (fxMem) := Option.bind (CX7_figures (fx_st M 0 7 (if M 0 7 = (0 : Int32) then (if t0 = (-1 : Int32) then (1 : Int32) else (0 : Int32)) else (1 : Int32)))) fun q173 => Option.bind (CX7_emits ((x2 + ((8 : Int32) * t0)) + ((32 : Int32) * q173.1)) q173.2) fun q191 => some q191
set_option maxRecDepth 100000 in
set_option maxHeartbeats 4000000 in
theorem vX7_factor_J150 {d : Nat} {rec : Nat → fxMem → Option (fxMem)} (H0 : ∀ {M : fxMem} {R : fxMem}, rec 0  M = some R → fx_T gM (mX7_some d) [.ref 0] M (fx_rv R)) (H1 : ∀ {M : fxMem} {R : fxMem}, rec 1  M = some R → fx_T gM (mX7_every d) [.ref 0] M (fx_rv R)) (H2 : ∀ {M : fxMem} {R : fxMem}, rec 2  M = some R → fx_T gM (mX7_factor d) [.ref 0] M (fx_rv R))  {x1 : Int32} {x2 : Int32} {t0 : Int32} {R : fxMem} {M : fxMem} (h : CX7_factor_J150 rec x1 x2 t0 M = some R) : fx_V gM (mX7_factor (d + 1)) (fx_rv R) 150 [(0, .ref 0), (1, .int x1), (2, .int x2)] [.int t0] M := by
  rw [CX7_factor_J150] at h
  refine fx_istore_n 150 (lv' := [(3, .int t0), (0, .ref 0), (1, .int x1), (2, .int x2)]) dX7_factor_150 rfl (Nat.le_of_ble_eq_true rfl) rfl ?_
  refine fx_aload_n 151 dX7_factor_151 rfl 1 rfl ?_
  refine fx_aload_n 152 dX7_factor_152 rfl 1 rfl ?_
  refine fx_get 153 (j := 7) (v := .int (M 0 7)) okm0 dX7_factor_153 lfX7_55 (by decide) (fun _ => rfl) ?_
  have J : fx_V gM (mX7_factor (d + 1)) (fx_rv R) 169 [(0, .ref 0), (1, .int x1), (2, .int x2), (3, .int t0)] [.int (if M 0 7 = (0 : Int32) then (if t0 = (-1 : Int32) then (1 : Int32) else (0 : Int32)) else (1 : Int32)), .ref 0] M := by
    refine fx_putZ 169 (j := 7) okm0 (by (repeat' split) <;> rfl) dX7_factor_169 lfX7_55 (by decide) rfl (by decide +kernel) (fun _ _ => Nat.le_of_ble_eq_true rfl) (fun _ _ _ => rfl) ?_
    refine fx_aload_n 172 dX7_factor_172 rfl 0 rfl ?_
    obtain ⟨q173, e173, h⟩ := fx_bd h
    refine fx_callVi 173 (mt' := mX7_figures) (As := []) okm0 (okvX7_figures _ _) lmX7_99 (by simp only [mX7_factor, mX7_figures]; omega) rfl rfl (Nat.le_of_ble_eq_true rfl) dX7_factor_173 (tX7_figures e173) ?_
    refine fx_istore 176 (lv' := [(4, .int q173.1), (0, .ref 0), (1, .int x1), (2, .int x2), (3, .int t0)]) dX7_factor_176 (Nat.le_of_ble_eq_true rfl) rfl ?_
    refine fx_aload_n 178 dX7_factor_178 rfl 1 rfl ?_
    refine fx_iload_n 179 dX7_factor_179 rfl 3 rfl ?_
    refine fx_bipush 180 (x := (8 : Int32)) dX7_factor_180 (by decide) ?_
    refine fx_iload_n 182 dX7_factor_182 rfl 4 rfl ?_
    refine fx_imul 183 dX7_factor_183 ?_
    refine fx_iadd 184 dX7_factor_184 ?_
    refine fx_bipush 185 (x := (32 : Int32)) dX7_factor_185 (by decide) ?_
    refine fx_iload 187 dX7_factor_187 0 rfl ?_
    refine fx_imul 189 dX7_factor_189 ?_
    refine fx_iadd 190 dX7_factor_190 ?_
    obtain ⟨q191, e191, h⟩ := fx_bd h
    refine fx_callVv 191 (mt' := mX7_emits) (As := [.int ((x2 + ((8 : Int32) * t0)) + ((32 : Int32) * q173.1))]) okm0 (okvX7_emits _ _) lmX7_85 (by simp only [mX7_factor, mX7_emits]; omega) rfl rfl (Nat.le_of_ble_eq_true rfl) dX7_factor_191 (tX7_emits e191) ?_
    obtain rfl := Option.some.inj h
    exact fx_vret 194 dX7_factor_194 rfl ⟨rfl, rfl⟩
  refine fx_if_ne 156 164 dX7_factor_156 (by decide) (fun c156 => ?_) (fun c156 => ?_)
  · refine fx_iconst 164 (x := (1 : Int32)) dX7_factor_164 (by decide) ?_
    refine fx_goto 165 169 dX7_factor_165 (by decide) ?_
    refine fx_sub (lv' := [(0, .ref 0), (1, .int x1), (2, .int x2), (3, .int t0)]) [1, 2, 3, 0] rfl ?_
    show fx_V gM (mX7_factor (d + 1)) (fx_rv R) 169 [(0, .ref 0), (1, .int x1), (2, .int x2), (3, .int t0)] [.int (1 : Int32), .ref 0] M
    simpa only [if_neg c156] using J
  · refine fx_iload_n 159 dX7_factor_159 rfl 0 rfl ?_
    refine fx_iconst 160 (x := (-1 : Int32)) dX7_factor_160 (by decide) ?_
    refine fx_icmp_ne 161 168 dX7_factor_161 (by decide) (fun c161 => ?_) (fun c161 => ?_)
    · refine fx_iconst 168 (x := (0 : Int32)) dX7_factor_168 (by decide) ?_
      refine fx_sub (lv' := [(0, .ref 0), (1, .int x1), (2, .int x2), (3, .int t0)]) [1, 2, 3, 0] rfl ?_
      show fx_V gM (mX7_factor (d + 1)) (fx_rv R) 169 [(0, .ref 0), (1, .int x1), (2, .int x2), (3, .int t0)] [.int (0 : Int32), .ref 0] M
      simpa only [if_pos c156, if_neg c161] using J
    · refine fx_iconst 164 (x := (1 : Int32)) dX7_factor_164 (by decide) ?_
      refine fx_goto 165 169 dX7_factor_165 (by decide) ?_
      refine fx_sub (lv' := [(0, .ref 0), (1, .int x1), (2, .int x2), (3, .int t0)]) [1, 2, 3, 0] rfl ?_
      show fx_V gM (mX7_factor (d + 1)) (fx_rv R) 169 [(0, .ref 0), (1, .int x1), (2, .int x2), (3, .int t0)] [.int (1 : Int32), .ref 0] M
      simpa only [if_pos c156, if_pos c161] using J
def BX7_factor (rec : Nat → fxMem → Option (fxMem))  (M : fxMem) : Option (fxMem) := if M 0 7 = (0 : Int32) then Option.bind (CX7_here M) fun q9 => if q9.1 = (33 : Int32) then CX7_factor_J25 rec q9.1 q9.2 else if q9.1 = (40 : Int32) then CX7_factor_J25 rec q9.1 q9.2 else Option.bind (CX7_among (1000 + 17) q9.2) fun q115 => fx_lt (fx_st q115.2 0 7 (if q115.1 = (-1 : Int32) then (1 : Int32) else (0 : Int32))) fun M134 => if M134 0 7 = (0 : Int32) then Option.bind (CX7_among (1000 + 18) M134) fun q147 => CX7_factor_J150 rec q9.1 q115.1 q147.1 q147.2 else CX7_factor_J150 rec q9.1 q115.1 (0 : Int32) M134 else some M
set_option maxRecDepth 100000 in
set_option maxHeartbeats 4000000 in
theorem bX7_factor {d : Nat} {rec : Nat → fxMem → Option (fxMem)} (H0 : ∀ {M : fxMem} {R : fxMem}, rec 0  M = some R → fx_T gM (mX7_some d) [.ref 0] M (fx_rv R)) (H1 : ∀ {M : fxMem} {R : fxMem}, rec 1  M = some R → fx_T gM (mX7_every d) [.ref 0] M (fx_rv R)) (H2 : ∀ {M : fxMem} {R : fxMem}, rec 2  M = some R → fx_T gM (mX7_factor d) [.ref 0] M (fx_rv R))  {M : fxMem} {R : fxMem} (h : BX7_factor rec  M = some R) : fx_T gM (mX7_factor (d + 1)) [.ref 0] M (fx_rv R) := by
  rw [BX7_factor] at h
  refine fx_enter [(0, .ref 0)] (by show plainName RX7 = true; decide) (fun _ => rfl) (fun _ => Nat.le_of_ble_eq_true rfl) ?_
  refine fx_aload_n 0 dX7_factor_0 rfl 0 rfl ?_
  refine fx_get 1 (j := 7) (v := .int (M 0 7)) okm0 dX7_factor_1 lfX7_55 (by decide) (fun _ => rfl) ?_
  refine fx_if_eq 4 8 dX7_factor_4 (by decide) (fun c4 => ?_) (fun c4 => ?_)
  · replace h := fx_ip c4 h
    refine fx_aload_n 8 dX7_factor_8 rfl 0 rfl ?_
    obtain ⟨q9, e9, h⟩ := fx_bd h
    refine fx_callVi 9 (mt' := mX7_here) (As := []) okm0 (okvX7_here _ _) lmX7_59 (by simp only [mX7_factor, mX7_here]; omega) rfl rfl (Nat.le_of_ble_eq_true rfl) dX7_factor_9 (tX7_here e9) ?_
    refine fx_istore_n 12 (lv' := [(1, .int q9.1), (0, .ref 0)]) dX7_factor_12 rfl (Nat.le_of_ble_eq_true rfl) rfl ?_
    refine fx_iload_n 13 dX7_factor_13 rfl 0 rfl ?_
    refine fx_bipush 14 (x := (33 : Int32)) dX7_factor_14 (by decide) ?_
    refine fx_icmp_eq 16 25 dX7_factor_16 (by decide) (fun c16 => ?_) (fun c16 => ?_)
    · replace h := fx_ip c16 h
      refine fx_sub [1, 0] rfl ?_
      exact vX7_factor_J25 H0 H1 H2 h
    · replace h := fx_ne c16 h
      refine fx_iload_n 19 dX7_factor_19 rfl 0 rfl ?_
      refine fx_bipush 20 (x := (40 : Int32)) dX7_factor_20 (by decide) ?_
      refine fx_icmp_ne 22 112 dX7_factor_22 (by decide) (fun c22 => ?_) (fun c22 => ?_)
      · replace h := fx_ne c22 h
        refine fx_aload_n 112 dX7_factor_112 rfl 1 rfl ?_
        refine fx_ldcS 113 17 (by decide) dX7_factor_113 ⟨rfl, rfl⟩ ?_
        obtain ⟨q115, e115, h⟩ := fx_bd h
        refine fx_callVi 115 (mt' := mX7_among) (As := [.ref (1000 + 17)]) okm0 (okvX7_among _ _) lmX7_93 (by simp only [mX7_factor, mX7_among]; omega) rfl rfl (Nat.le_of_ble_eq_true rfl) dX7_factor_115 (tX7_among e115) ?_
        refine fx_istore_n 118 (lv' := [(2, .int q115.1), (1, .int q9.1), (0, .ref 0)]) dX7_factor_118 rfl (Nat.le_of_ble_eq_true rfl) rfl ?_
        refine fx_aload_n 119 dX7_factor_119 rfl 2 rfl ?_
        refine fx_iload_n 120 dX7_factor_120 rfl 0 rfl ?_
        refine fx_iconst 121 (x := (-1 : Int32)) dX7_factor_121 (by decide) ?_
        have J : fx_V gM (mX7_factor (d + 1)) (fx_rv R) 130 [(0, .ref 0), (1, .int q9.1), (2, .int q115.1)] [.int (if q115.1 = (-1 : Int32) then (1 : Int32) else (0 : Int32)), .ref 0] q115.2 := by
          refine fx_putZ 130 (j := 7) okm0 (by (repeat' split) <;> rfl) dX7_factor_130 lfX7_55 (by decide) rfl (by decide +kernel) (fun _ _ => Nat.le_of_ble_eq_true rfl) (fun _ _ _ => rfl) ?_
          refine fx_aload_n 133 dX7_factor_133 rfl 0 rfl ?_
          replace h := fx_ltd h
          generalize fx_st q115.2 0 7 (if q115.1 = (-1 : Int32) then (1 : Int32) else (0 : Int32)) = M134 at h ⊢
          refine fx_get 134 (j := 7) (v := .int (M134 0 7)) okm0 dX7_factor_134 lfX7_55 (by decide) (fun _ => rfl) ?_
          refine fx_if_eq 137 144 dX7_factor_137 (by decide) (fun c137 => ?_) (fun c137 => ?_)
          · replace h := fx_ip c137 h
            refine fx_aload_n 144 dX7_factor_144 rfl 0 rfl ?_
            refine fx_ldcS 145 18 (by decide) dX7_factor_145 ⟨rfl, rfl⟩ ?_
            obtain ⟨q147, e147, h⟩ := fx_bd h
            refine fx_callVi 147 (mt' := mX7_among) (As := [.ref (1000 + 18)]) okm0 (okvX7_among _ _) lmX7_93 (by simp only [mX7_factor, mX7_among]; omega) rfl rfl (Nat.le_of_ble_eq_true rfl) dX7_factor_147 (tX7_among e147) ?_
            refine fx_sub [0, 1, 2] rfl ?_
            exact vX7_factor_J150 H0 H1 H2 h
          · replace h := fx_ne c137 h
            refine fx_iconst 140 (x := (0 : Int32)) dX7_factor_140 (by decide) ?_
            refine fx_goto 141 150 dX7_factor_141 (by decide) ?_
            refine fx_sub [0, 1, 2] rfl ?_
            exact vX7_factor_J150 H0 H1 H2 h
        refine fx_icmp_ne 122 129 dX7_factor_122 (by decide) (fun c122 => ?_) (fun c122 => ?_)
        · refine fx_iconst 129 (x := (0 : Int32)) dX7_factor_129 (by decide) ?_
          refine fx_sub (lv' := [(0, .ref 0), (1, .int q9.1), (2, .int q115.1)]) [2, 1, 0] rfl ?_
          show fx_V gM (mX7_factor (d + 1)) (fx_rv R) 130 [(0, .ref 0), (1, .int q9.1), (2, .int q115.1)] [.int (0 : Int32), .ref 0] q115.2
          simpa only [if_neg c122] using J
        · refine fx_iconst 125 (x := (1 : Int32)) dX7_factor_125 (by decide) ?_
          refine fx_goto 126 130 dX7_factor_126 (by decide) ?_
          refine fx_sub (lv' := [(0, .ref 0), (1, .int q9.1), (2, .int q115.1)]) [2, 1, 0] rfl ?_
          show fx_V gM (mX7_factor (d + 1)) (fx_rv R) 130 [(0, .ref 0), (1, .int q9.1), (2, .int q115.1)] [.int (1 : Int32), .ref 0] q115.2
          simpa only [if_pos c122] using J
      · replace h := fx_ip c22 h
        refine fx_sub [1, 0] rfl ?_
        exact vX7_factor_J25 H0 H1 H2 h
  · replace h := fx_ne c4 h
    obtain rfl := Option.some.inj h
    exact fx_vret 7 dX7_factor_7 rfl ⟨rfl, rfl⟩
def gX7f : Nat → Nat → fxMem → Option (fxMem)
  | 0, _, _ => none
  | d + 1, t, M => if t = 0 then BX7_some (fun t  M => gX7f d t  M)  M else if t = 1 then BX7_every (fun t  M => gX7f d t  M)  M else BX7_factor (fun t  M => gX7f d t  M)  M
theorem tgX7f : ∀ d : Nat, (∀ {M : fxMem} {R : fxMem}, gX7f d 0  M = some R → fx_T gM (mX7_some d) [.ref 0] M (fx_rv R)) ∧ (∀ {M : fxMem} {R : fxMem}, gX7f d 1  M = some R → fx_T gM (mX7_every d) [.ref 0] M (fx_rv R)) ∧ (∀ {M : fxMem} {R : fxMem}, gX7f d 2  M = some R → fx_T gM (mX7_factor d) [.ref 0] M (fx_rv R)) := by
  intro d
  induction d with
  | zero => exact ⟨(fun h => by rw [gX7f] at h; cases h), (fun h => by rw [gX7f] at h; cases h), (fun h => by rw [gX7f] at h; cases h)⟩
  | succ d ih =>
    obtain ⟨i0, i1, i2⟩ := ih
    exact ⟨(fun h => by rw [gX7f] at h; exact bX7_some i0 i1 i2 (by simpa using h)), (fun h => by rw [gX7f] at h; exact bX7_every i0 i1 i2 (by simpa using h)), (fun h => by rw [gX7f] at h; exact bX7_factor i0 i1 i2 (by simpa using h))⟩
def CX7_some  (M : fxMem) : Option (fxMem) := gX7f 40 0  M
theorem tX7_some  {M : fxMem} {R : fxMem} (h : CX7_some  M = some R) : fx_T gM (mX7_some 40) [.ref 0] M (fx_rv R) := (tgX7f 40).1 h
def CX7_every  (M : fxMem) : Option (fxMem) := gX7f 40 1  M
theorem tX7_every  {M : fxMem} {R : fxMem} (h : CX7_every  M = some R) : fx_T gM (mX7_every 40) [.ref 0] M (fx_rv R) := (tgX7f 40).2.1 h
def CX7_factor  (M : fxMem) : Option (fxMem) := gX7f 40 2  M
theorem tX7_factor  {M : fxMem} {R : fxMem} (h : CX7_factor  M = some R) : fx_T gM (mX7_factor 40) [.ref 0] M (fx_rv R) := (tgX7f 40).2.2 h
def mX7_much : fxM := (yX7_much, cX7_much, 4, none, 51, 2040)
theorem okvX7_much (f l : Nat) : fx_okV (yX7_much, cX7_much, 4, none, f, l) 2 := ⟨⟨rin15 _ (List.mem_of_getElem? (i := 4) rfl), rin1 _ (List.mem_of_getElem? (i := 5) rfl), by show yX7_much.cls ≠ _; decide +kernel, by show yX7_much.cls ≠ _; decide +kernel, by show (parseMethodDescriptor yX7_much.desc).map _ = _; decide +kernel⟩, rin15 _ (List.mem_of_getElem? (i := 2) rfl), rin15 _ (List.mem_of_getElem? (i := 3) rfl)⟩
def CX7_much (x1 : Int32) (x2 : Nat) (M : fxMem) : Option (fxMem) := Option.bind (CX7_spells x2 M) fun q2 => Option.bind (CX7_figures q2) fun q6 => Option.bind (CX7_must (32 : Int32) q6.2) fun q13 => Option.bind (CX7_some q13) fun q17 => Option.bind (CX7_emits (x1 - q6.1) q17) fun q24 => some q24
set_option maxRecDepth 100000 in
set_option maxHeartbeats 4000000 in
theorem tX7_much {x1 : Int32} {x2 : Nat} {M : fxMem} {R : fxMem} (h : CX7_much x1 x2 M = some R) : fx_T gM mX7_much [.ref 0, .int x1, .ref x2] M (fx_rv R) := by
  rw [CX7_much] at h
  refine fx_enter [(0, .ref 0), (1, .int x1), (2, .ref x2)] (by show plainName RX7 = true; decide) (fun _ => rfl) (fun _ => Nat.le_of_ble_eq_true rfl) ?_
  refine fx_aload_n 0 dX7_much_0 rfl 0 rfl ?_
  refine fx_aload_n 1 dX7_much_1 rfl 2 rfl ?_
  obtain ⟨q2, e2, h⟩ := fx_bd h
  refine fx_callVv 2 (mt' := mX7_spells) (As := [.ref x2]) okm0 (okvX7_spells _ _) lmX7_105 (by decide) rfl rfl (Nat.le_of_ble_eq_true rfl) dX7_much_2 (tX7_spells e2) ?_
  refine fx_aload_n 5 dX7_much_5 rfl 0 rfl ?_
  obtain ⟨q6, e6, h⟩ := fx_bd h
  refine fx_callVi 6 (mt' := mX7_figures) (As := []) okm0 (okvX7_figures _ _) lmX7_99 (by decide) rfl rfl (Nat.le_of_ble_eq_true rfl) dX7_much_6 (tX7_figures e6) ?_
  refine fx_istore_n 9 (lv' := [(3, .int q6.1), (0, .ref 0), (1, .int x1), (2, .ref x2)]) dX7_much_9 rfl (Nat.le_of_ble_eq_true rfl) rfl ?_
  refine fx_aload_n 10 dX7_much_10 rfl 1 rfl ?_
  refine fx_bipush 11 (x := (32 : Int32)) dX7_much_11 (by decide) ?_
  obtain ⟨q13, e13, h⟩ := fx_bd h
  refine fx_callVv 13 (mt' := mX7_must) (As := [.int (32 : Int32)]) okm0 (okvX7_must _ _) lmX7_72 (by decide) rfl rfl (Nat.le_of_ble_eq_true rfl) dX7_much_13 (tX7_must e13) ?_
  refine fx_aload_n 16 dX7_much_16 rfl 1 rfl ?_
  obtain ⟨q17, e17, h⟩ := fx_bd h
  refine fx_callVv 17 (mt' := (mX7_some 40)) (As := []) okm0 (okvX7_some _ _) lmX7_88 (by decide) rfl rfl (Nat.le_of_ble_eq_true rfl) dX7_much_17 (tX7_some e17) ?_
  refine fx_aload_n 20 dX7_much_20 rfl 1 rfl ?_
  refine fx_iload_n 21 dX7_much_21 rfl 2 rfl ?_
  refine fx_iload_n 22 dX7_much_22 rfl 0 rfl ?_
  refine fx_isub 23 dX7_much_23 ?_
  obtain ⟨q24, e24, h⟩ := fx_bd h
  refine fx_callVv 24 (mt' := mX7_emits) (As := [.int (x1 - q6.1)]) okm0 (okvX7_emits _ _) lmX7_85 (by decide) rfl rfl (Nat.le_of_ble_eq_true rfl) dX7_much_24 (tX7_emits e24) ?_
  obtain rfl := Option.some.inj h
  exact fx_vret 27 dX7_much_27 rfl ⟨rfl, rfl⟩
def mX7_tellsHere : fxM := (yX7_tellsHere, cX7_tellsHere, 4, none, 10, 400)
theorem okvX7_tellsHere (f l : Nat) : fx_okV (yX7_tellsHere, cX7_tellsHere, 4, none, f, l) 2 := ⟨⟨rin16 _ (List.mem_of_getElem? (i := 14) rfl), rin1 _ (List.mem_of_getElem? (i := 5) rfl), by show yX7_tellsHere.cls ≠ _; decide +kernel, by show yX7_tellsHere.cls ≠ _; decide +kernel, by show (parseMethodDescriptor yX7_tellsHere.desc).map _ = _; decide +kernel⟩, rin16 _ (List.mem_of_getElem? (i := 12) rfl), rin16 _ (List.mem_of_getElem? (i := 13) rfl)⟩
def CX7_tellsHere (x1 : Int32) (x2 : Nat) (M : fxMem) : Option (fxMem) := Option.bind (CX7_spells x2 M) fun q2 => Option.bind (CX7_figures q2) fun q6 => if q6.2 0 7 = (0 : Int32) then if fx_in (x1 + (q6.2 0 4)) 900 = true then some (fx_st q6.2 1 (x1 + (q6.2 0 4)).toNatClampNeg q6.1) else none else some q6.2
set_option maxRecDepth 100000 in
set_option maxHeartbeats 4000000 in
theorem tX7_tellsHere {x1 : Int32} {x2 : Nat} {M : fxMem} {R : fxMem} (h : CX7_tellsHere x1 x2 M = some R) : fx_T gM mX7_tellsHere [.ref 0, .int x1, .ref x2] M (fx_rv R) := by
  rw [CX7_tellsHere] at h
  refine fx_enter [(0, .ref 0), (1, .int x1), (2, .ref x2)] (by show plainName RX7 = true; decide) (fun _ => rfl) (fun _ => Nat.le_of_ble_eq_true rfl) ?_
  refine fx_aload_n 0 dX7_tellsHere_0 rfl 0 rfl ?_
  refine fx_aload_n 1 dX7_tellsHere_1 rfl 2 rfl ?_
  obtain ⟨q2, e2, h⟩ := fx_bd h
  refine fx_callVv 2 (mt' := mX7_spells) (As := [.ref x2]) okm0 (okvX7_spells _ _) lmX7_105 (by decide) rfl rfl (Nat.le_of_ble_eq_true rfl) dX7_tellsHere_2 (tX7_spells e2) ?_
  refine fx_aload_n 5 dX7_tellsHere_5 rfl 0 rfl ?_
  obtain ⟨q6, e6, h⟩ := fx_bd h
  refine fx_callVi 6 (mt' := mX7_figures) (As := []) okm0 (okvX7_figures _ _) lmX7_99 (by decide) rfl rfl (Nat.le_of_ble_eq_true rfl) dX7_tellsHere_6 (tX7_figures e6) ?_
  refine fx_istore_n 9 (lv' := [(3, .int q6.1), (0, .ref 0), (1, .int x1), (2, .ref x2)]) dX7_tellsHere_9 rfl (Nat.le_of_ble_eq_true rfl) rfl ?_
  refine fx_aload_n 10 dX7_tellsHere_10 rfl 1 rfl ?_
  refine fx_get 11 (j := 7) (v := .int (q6.2 0 7)) okm0 dX7_tellsHere_11 lfX7_55 (by decide) (fun _ => rfl) ?_
  refine fx_if_ne 14 29 dX7_tellsHere_14 (by decide) (fun c14 => ?_) (fun c14 => ?_)
  · replace h := fx_ne c14 h
    obtain rfl := Option.some.inj h
    exact fx_vret 29 dX7_tellsHere_29 rfl ⟨rfl, rfl⟩
  · replace h := fx_ip c14 h
    refine fx_aload_n 17 dX7_tellsHere_17 rfl 1 rfl ?_
    refine fx_get 18 (j := 1) (v := .ref 1) okm0 dX7_tellsHere_18 lfX7_7 (by decide) (fun _ => rfl) ?_
    refine fx_iload_n 21 dX7_tellsHere_21 rfl 2 rfl ?_
    refine fx_aload_n 22 dX7_tellsHere_22 rfl 1 rfl ?_
    refine fx_get 23 (j := 4) (v := .int (q6.2 0 4)) okm0 dX7_tellsHere_23 lfX7_76 (by decide) (fun _ => rfl) ?_
    refine fx_iadd 26 dX7_tellsHere_26 ?_
    refine fx_iload_n 27 dX7_tellsHere_27 rfl 0 rfl ?_
    obtain ⟨g28, h⟩ := fx_gt h
    refine fx_iast 28 okb1 dX7_tellsHere_28 g28 ?_
    obtain rfl := Option.some.inj h
    exact fx_vret 29 dX7_tellsHere_29 rfl ⟨rfl, rfl⟩
def mX7_clauseHere : fxM := (yX7_clauseHere, cX7_clauseHere, 1, none, 52, 2080)
theorem okvX7_clauseHere (f l : Nat) : fx_okV (yX7_clauseHere, cX7_clauseHere, 1, none, f, l) 0 := ⟨⟨rin14 _ (List.mem_of_getElem? (i := 16) rfl), rin1 _ (List.mem_of_getElem? (i := 5) rfl), by show yX7_clauseHere.cls ≠ _; decide +kernel, by show yX7_clauseHere.cls ≠ _; decide +kernel, by show (parseMethodDescriptor yX7_clauseHere.desc).map _ = _; decide +kernel⟩, rin14 _ (List.mem_of_getElem? (i := 14) rfl), rin14 _ (List.mem_of_getElem? (i := 15) rfl)⟩
def CX7_clauseHere  (M : fxMem) : Option (fxMem) := Option.bind (CX7_here M) fun q1 => if q1.1 = (98 : Int32) then Option.bind (CX7_tellsHere (185 : Int32) (1000 + 22) q1.2) fun q123 => some q123 else if q1.1 = (108 : Int32) then Option.bind (CX7_must (108 : Int32) q1.2) fun q43 => Option.bind (CX7_here q43) fun q47 => if q47.1 = (111 : Int32) then Option.bind (CX7_much (-10 : Int32) (1000 + 16) q47.2) fun q60 => some q60 else Option.bind (CX7_much (-200 : Int32) (1000 + 19) q47.2) fun q72 => some q72 else if q1.1 = (115 : Int32) then Option.bind (CX7_must (115 : Int32) q1.2) fun q81 => Option.bind (CX7_here q81) fun q85 => if q85.1 = (112 : Int32) then Option.bind (CX7_tellsHere (180 : Int32) (1000 + 20) q85.2) fun q99 => some q99 else Option.bind (CX7_tellsHere (190 : Int32) (1000 + 21) q85.2) fun q111 => some q111 else some (fx_st q1.2 0 7 (1 : Int32))
set_option maxRecDepth 100000 in
set_option maxHeartbeats 4000000 in
theorem tX7_clauseHere  {M : fxMem} {R : fxMem} (h : CX7_clauseHere  M = some R) : fx_T gM mX7_clauseHere [.ref 0] M (fx_rv R) := by
  rw [CX7_clauseHere] at h
  refine fx_enter [(0, .ref 0)] (by show plainName RX7 = true; decide) (fun _ => rfl) (fun _ => Nat.le_of_ble_eq_true rfl) ?_
  refine fx_aload_n 0 dX7_clauseHere_0 rfl 0 rfl ?_
  obtain ⟨q1, e1, h⟩ := fx_bd h
  refine fx_callVi 1 (mt' := mX7_here) (As := []) okm0 (okvX7_here _ _) lmX7_59 (by decide) rfl rfl (Nat.le_of_ble_eq_true rfl) dX7_clauseHere_1 (tX7_here e1) ?_
  by_cases s4_0 : q1.1 = (98 : Int32)
  · replace h := fx_ip s4_0 h
    refine fx_lsI 4 117 dX7_clauseHere_4 (by decide) (by rw [s4_0]; try rfl) (by decide) ?_
    refine fx_aload_n 117 dX7_clauseHere_117 rfl 0 rfl ?_
    refine fx_sipush 118 (x := (185 : Int32)) dX7_clauseHere_118 (by decide) ?_
    refine fx_ldcS 121 22 (by decide) dX7_clauseHere_121 ⟨rfl, rfl⟩ ?_
    obtain ⟨q123, e123, h⟩ := fx_bd h
    refine fx_callVv 123 (mt' := mX7_tellsHere) (As := [.int (185 : Int32), .ref (1000 + 22)]) okm0 (okvX7_tellsHere _ _) lmX7_119 (by decide) rfl rfl (Nat.le_of_ble_eq_true rfl) dX7_clauseHere_123 (tX7_tellsHere e123) ?_
    refine fx_goto 126 134 dX7_clauseHere_126 (by decide) ?_
    obtain rfl := Option.some.inj h
    exact fx_vret 134 dX7_clauseHere_134 rfl ⟨rfl, rfl⟩
  · replace h := fx_ne s4_0 h
    by_cases s4_1 : q1.1 = (108 : Int32)
    · replace h := fx_ip s4_1 h
      refine fx_lsI 4 40 dX7_clauseHere_4 (by decide) (by rw [s4_1]; try rfl) (by decide) ?_
      refine fx_aload_n 40 dX7_clauseHere_40 rfl 0 rfl ?_
      refine fx_bipush 41 (x := (108 : Int32)) dX7_clauseHere_41 (by decide) ?_
      obtain ⟨q43, e43, h⟩ := fx_bd h
      refine fx_callVv 43 (mt' := mX7_must) (As := [.int (108 : Int32)]) okm0 (okvX7_must _ _) lmX7_72 (by decide) rfl rfl (Nat.le_of_ble_eq_true rfl) dX7_clauseHere_43 (tX7_must e43) ?_
      refine fx_aload_n 46 dX7_clauseHere_46 rfl 0 rfl ?_
      obtain ⟨q47, e47, h⟩ := fx_bd h
      refine fx_callVi 47 (mt' := mX7_here) (As := []) okm0 (okvX7_here _ _) lmX7_59 (by decide) rfl rfl (Nat.le_of_ble_eq_true rfl) dX7_clauseHere_47 (tX7_here e47) ?_
      refine fx_bipush 50 (x := (111 : Int32)) dX7_clauseHere_50 (by decide) ?_
      refine fx_icmp_ne 52 66 dX7_clauseHere_52 (by decide) (fun c52 => ?_) (fun c52 => ?_)
      · replace h := fx_ne c52 h
        refine fx_aload_n 66 dX7_clauseHere_66 rfl 0 rfl ?_
        refine fx_sipush 67 (x := (-200 : Int32)) dX7_clauseHere_67 (by decide) ?_
        refine fx_ldcS 70 19 (by decide) dX7_clauseHere_70 ⟨rfl, rfl⟩ ?_
        obtain ⟨q72, e72, h⟩ := fx_bd h
        refine fx_callVv 72 (mt' := mX7_much) (As := [.int (-200 : Int32), .ref (1000 + 19)]) okm0 (okvX7_much _ _) lmX7_111 (by decide) rfl rfl (Nat.le_of_ble_eq_true rfl) dX7_clauseHere_72 (tX7_much e72) ?_
        refine fx_goto 75 134 dX7_clauseHere_75 (by decide) ?_
        obtain rfl := Option.some.inj h
        exact fx_vret 134 dX7_clauseHere_134 rfl ⟨rfl, rfl⟩
      · replace h := fx_ip c52 h
        refine fx_aload_n 55 dX7_clauseHere_55 rfl 0 rfl ?_
        refine fx_bipush 56 (x := (-10 : Int32)) dX7_clauseHere_56 (by decide) ?_
        refine fx_ldcS 58 16 (by decide) dX7_clauseHere_58 ⟨rfl, rfl⟩ ?_
        obtain ⟨q60, e60, h⟩ := fx_bd h
        refine fx_callVv 60 (mt' := mX7_much) (As := [.int (-10 : Int32), .ref (1000 + 16)]) okm0 (okvX7_much _ _) lmX7_111 (by decide) rfl rfl (Nat.le_of_ble_eq_true rfl) dX7_clauseHere_60 (tX7_much e60) ?_
        refine fx_goto 63 134 dX7_clauseHere_63 (by decide) ?_
        obtain rfl := Option.some.inj h
        exact fx_vret 134 dX7_clauseHere_134 rfl ⟨rfl, rfl⟩
    · replace h := fx_ne s4_1 h
      by_cases s4_2 : q1.1 = (115 : Int32)
      · replace h := fx_ip s4_2 h
        refine fx_lsI 4 78 dX7_clauseHere_4 (by decide) (by rw [s4_2]; try rfl) (by decide) ?_
        refine fx_aload_n 78 dX7_clauseHere_78 rfl 0 rfl ?_
        refine fx_bipush 79 (x := (115 : Int32)) dX7_clauseHere_79 (by decide) ?_
        obtain ⟨q81, e81, h⟩ := fx_bd h
        refine fx_callVv 81 (mt' := mX7_must) (As := [.int (115 : Int32)]) okm0 (okvX7_must _ _) lmX7_72 (by decide) rfl rfl (Nat.le_of_ble_eq_true rfl) dX7_clauseHere_81 (tX7_must e81) ?_
        refine fx_aload_n 84 dX7_clauseHere_84 rfl 0 rfl ?_
        obtain ⟨q85, e85, h⟩ := fx_bd h
        refine fx_callVi 85 (mt' := mX7_here) (As := []) okm0 (okvX7_here _ _) lmX7_59 (by decide) rfl rfl (Nat.le_of_ble_eq_true rfl) dX7_clauseHere_85 (tX7_here e85) ?_
        refine fx_bipush 88 (x := (112 : Int32)) dX7_clauseHere_88 (by decide) ?_
        refine fx_icmp_ne 90 105 dX7_clauseHere_90 (by decide) (fun c90 => ?_) (fun c90 => ?_)
        · replace h := fx_ne c90 h
          refine fx_aload_n 105 dX7_clauseHere_105 rfl 0 rfl ?_
          refine fx_sipush 106 (x := (190 : Int32)) dX7_clauseHere_106 (by decide) ?_
          refine fx_ldcS 109 21 (by decide) dX7_clauseHere_109 ⟨rfl, rfl⟩ ?_
          obtain ⟨q111, e111, h⟩ := fx_bd h
          refine fx_callVv 111 (mt' := mX7_tellsHere) (As := [.int (190 : Int32), .ref (1000 + 21)]) okm0 (okvX7_tellsHere _ _) lmX7_119 (by decide) rfl rfl (Nat.le_of_ble_eq_true rfl) dX7_clauseHere_111 (tX7_tellsHere e111) ?_
          refine fx_goto 114 134 dX7_clauseHere_114 (by decide) ?_
          obtain rfl := Option.some.inj h
          exact fx_vret 134 dX7_clauseHere_134 rfl ⟨rfl, rfl⟩
        · replace h := fx_ip c90 h
          refine fx_aload_n 93 dX7_clauseHere_93 rfl 0 rfl ?_
          refine fx_sipush 94 (x := (180 : Int32)) dX7_clauseHere_94 (by decide) ?_
          refine fx_ldcS 97 20 (by decide) dX7_clauseHere_97 ⟨rfl, rfl⟩ ?_
          obtain ⟨q99, e99, h⟩ := fx_bd h
          refine fx_callVv 99 (mt' := mX7_tellsHere) (As := [.int (180 : Int32), .ref (1000 + 20)]) okm0 (okvX7_tellsHere _ _) lmX7_119 (by decide) rfl rfl (Nat.le_of_ble_eq_true rfl) dX7_clauseHere_99 (tX7_tellsHere e99) ?_
          refine fx_goto 102 134 dX7_clauseHere_102 (by decide) ?_
          obtain rfl := Option.some.inj h
          exact fx_vret 134 dX7_clauseHere_134 rfl ⟨rfl, rfl⟩
      · replace h := fx_ne s4_2 h
        refine fx_lsD 4 129 [(98 : Int32), (108 : Int32), (115 : Int32)] dX7_clauseHere_4 (by decide) (by decide) (by intro q hq; simp only [List.mem_cons, List.not_mem_nil, or_false] at hq; rcases hq with rfl | rfl | rfl <;> assumption) (by decide) ?_
        refine fx_aload_n 129 dX7_clauseHere_129 rfl 0 rfl ?_
        refine fx_iconst 130 (x := (1 : Int32)) dX7_clauseHere_130 (by decide) ?_
        refine fx_putZ 131 (j := 7) okm0 (by decide) dX7_clauseHere_131 lfX7_55 (by decide) rfl (by decide +kernel) (fun _ _ => Nat.le_of_ble_eq_true rfl) (fun _ _ _ => rfl) ?_
        obtain rfl := Option.some.inj h
        exact fx_vret 134 dX7_clauseHere_134 rfl ⟨rfl, rfl⟩
def mX7_show : fxM := (yX7_show, cX7_show, 2, (some .int), 53, 2120)
theorem okvX7_show (f l : Nat) : fx_okV (yX7_show, cX7_show, 2, (some .int), f, l) 0 := ⟨⟨rin14 _ (List.mem_of_getElem? (i := 7) rfl), rin1 _ (List.mem_of_getElem? (i := 5) rfl), by show yX7_show.cls ≠ _; decide +kernel, by show yX7_show.cls ≠ _; decide +kernel, by show (parseMethodDescriptor yX7_show.desc).map _ = _; decide +kernel⟩, rin14 _ (List.mem_of_getElem? (i := 5) rfl), rin14 _ (List.mem_of_getElem? (i := 6) rfl)⟩
def CX7_show_L118 : Nat → Int32 → fxMem → (Int32 → fxMem → Option (Int32 × fxMem)) → Option (Int32 × fxMem)
  | 0, _, _, _ => none
  | n + 1, x1, M, k => if M 0 7 = (0 : Int32) then if (10 : Int32) ≤ x1 then k x1 M else Option.bind (CX7_here M) fun q132 => if q132.1 = (59 : Int32) then Option.bind (CX7_clauseHere (fx_st q132.2 0 5 ((q132.2 0 5) + (1 : Int32)))) fun q151 => CX7_show_L118  n (x1 + (1 : Int32)) q151 k else k x1 q132.2 else k x1 M
set_option maxRecDepth 100000 in
set_option maxHeartbeats 4000000 in
theorem vX7_show_L118 {R : Int32 × fxMem} {k : Int32 → fxMem → Option (Int32 × fxMem)} (hk : ∀ (x1 : Int32) (M : fxMem), k x1 M = some R → fx_V gM mX7_show (fx_ri R) 160 [(0, .ref 0), (1, .int x1)] [] M) : ∀ (n : Nat) (x1 : Int32) (M : fxMem), CX7_show_L118  n x1 M k = some R → fx_V gM mX7_show (fx_ri R) 118 [(0, .ref 0), (1, .int x1)] [] M := by
  intro n
  induction n with
  | zero => intro x1 M h; rw [CX7_show_L118] at h; cases h
  | succ n ih =>
    intro x1 M h
    rw [CX7_show_L118] at h
    refine fx_aload_n 118 dX7_show_118 rfl 0 rfl ?_
    refine fx_get 119 (j := 7) (v := .int (M 0 7)) okm0 dX7_show_119 lfX7_55 (by decide) (fun _ => rfl) ?_
    refine fx_if_ne 122 160 dX7_show_122 (by decide) (fun c122 => ?_) (fun c122 => ?_)
    · replace h := fx_ne c122 h
      refine fx_sub [0, 1] rfl ?_
      exact hk _ _ h
    · replace h := fx_ip c122 h
      refine fx_iload_n 125 dX7_show_125 rfl 1 rfl ?_
      refine fx_bipush 126 (x := (10 : Int32)) dX7_show_126 (by decide) ?_
      refine fx_icmp_ge 128 160 dX7_show_128 (by decide) (fun c128 => ?_) (fun c128 => ?_)
      · replace h := fx_ip c128 h
        refine fx_sub [0, 1] rfl ?_
        exact hk _ _ h
      · replace h := fx_ne c128 h
        refine fx_aload_n 131 dX7_show_131 rfl 0 rfl ?_
        obtain ⟨q132, e132, h⟩ := fx_bd h
        refine fx_callVi 132 (mt' := mX7_here) (As := []) okm0 (okvX7_here _ _) lmX7_59 (by decide) rfl rfl (Nat.le_of_ble_eq_true rfl) dX7_show_132 (tX7_here e132) ?_
        refine fx_bipush 135 (x := (59 : Int32)) dX7_show_135 (by decide) ?_
        refine fx_icmp_ne 137 160 dX7_show_137 (by decide) (fun c137 => ?_) (fun c137 => ?_)
        · replace h := fx_ne c137 h
          refine fx_sub [0, 1] rfl ?_
          exact hk _ _ h
        · replace h := fx_ip c137 h
          refine fx_aload_n 140 dX7_show_140 rfl 0 rfl ?_
          refine fx_dup 141 dX7_show_141 rfl ?_
          refine fx_get 142 (j := 5) (v := .int (q132.2 0 5)) okm0 dX7_show_142 lfX7_49 (by decide) (fun _ => rfl) ?_
          refine fx_iconst 145 (x := (1 : Int32)) dX7_show_145 (by decide) ?_
          refine fx_iadd 146 dX7_show_146 ?_
          refine fx_putI 147 (j := 5) okm0 dX7_show_147 lfX7_49 (by decide) rfl (by decide +kernel) (fun _ _ => Nat.le_of_ble_eq_true rfl) (fun _ _ _ => rfl) ?_
          refine fx_aload_n 150 dX7_show_150 rfl 0 rfl ?_
          obtain ⟨q151, e151, h⟩ := fx_bd h
          refine fx_callVv 151 (mt' := mX7_clauseHere) (As := []) okm0 (okvX7_clauseHere _ _) lmX7_126 (by decide) rfl rfl (Nat.le_of_ble_eq_true rfl) dX7_show_151 (tX7_clauseHere e151) ?_
          refine fx_iinc 154 (lv' := [(1, .int (x1 + (1 : Int32))), (0, .ref 0)]) (y := x1 + (1 : Int32)) dX7_show_154 1 rfl (by rfl) (Nat.le_of_ble_eq_true rfl) rfl ?_
          refine fx_goto 157 118 dX7_show_157 (by decide) ?_
          refine fx_sub [1, 0] rfl ?_
          exact ih _ _ h
def CX7_show_J160  (x1 : Int32) (M : fxMem) : Option (Int32 × fxMem) := if M 0 7 = (0 : Int32) then if M 0 5 = M 0 6 then if fx_in (1 : Int32) 900 = true then fx_lt (fx_st M 1 (1 : Int32).toNatClampNeg ((M 1 (1 : Int32).toNatClampNeg) + (1 : Int32))) fun M203 => if fx_in (6 : Int32) 900 = true then fx_lt (fx_st M203 1 (6 : Int32).toNatClampNeg (M203 0 4)) fun M208 => some (M208 0 4, M208) else none else none else some ((-10 : Int32) - (M 0 5), M) else some ((-10 : Int32) - (M 0 5), M)
set_option maxRecDepth 100000 in
set_option maxHeartbeats 4000000 in
theorem vX7_show_J160  {x1 : Int32} {R : Int32 × fxMem} {M : fxMem} (h : CX7_show_J160 x1 M = some R) : fx_V gM mX7_show (fx_ri R) 160 [(0, .ref 0), (1, .int x1)] [] M := by
  rw [CX7_show_J160] at h
  refine fx_aload_n 160 dX7_show_160 rfl 0 rfl ?_
  refine fx_get 161 (j := 7) (v := .int (M 0 7)) okm0 dX7_show_161 lfX7_55 (by decide) (fun _ => rfl) ?_
  refine fx_if_ne 164 178 dX7_show_164 (by decide) (fun c164 => ?_) (fun c164 => ?_)
  · replace h := fx_ne c164 h
    refine fx_bipush 178 (x := (-10 : Int32)) dX7_show_178 (by decide) ?_
    refine fx_aload_n 180 dX7_show_180 rfl 0 rfl ?_
    refine fx_get 181 (j := 5) (v := .int (M 0 5)) okm0 dX7_show_181 lfX7_49 (by decide) (fun _ => rfl) ?_
    refine fx_isub 184 dX7_show_184 ?_
    obtain rfl := Option.some.inj h
    exact fx_iret 185 dX7_show_185 rfl rfl ⟨rfl, rfl⟩
  · replace h := fx_ip c164 h
    refine fx_aload_n 167 dX7_show_167 rfl 0 rfl ?_
    refine fx_get 168 (j := 5) (v := .int (M 0 5)) okm0 dX7_show_168 lfX7_49 (by decide) (fun _ => rfl) ?_
    refine fx_aload_n 171 dX7_show_171 rfl 0 rfl ?_
    refine fx_get 172 (j := 6) (v := .int (M 0 6)) okm0 dX7_show_172 lfX7_52 (by decide) (fun _ => rfl) ?_
    refine fx_icmp_eq 175 186 dX7_show_175 (by decide) (fun c175 => ?_) (fun c175 => ?_)
    · replace h := fx_ip c175 h
      refine fx_aload_n 186 dX7_show_186 rfl 0 rfl ?_
      refine fx_get 187 (j := 1) (v := .ref 1) okm0 dX7_show_187 lfX7_7 (by decide) (fun _ => rfl) ?_
      refine fx_iconst 190 (x := (1 : Int32)) dX7_show_190 (by decide) ?_
      refine fx_dup2 191 dX7_show_191 rfl rfl ?_
      obtain ⟨g192, h⟩ := fx_gt h
      refine fx_iald 192 okb1 dX7_show_192 g192 ?_
      refine fx_iconst 193 (x := (1 : Int32)) dX7_show_193 (by decide) ?_
      refine fx_iadd 194 dX7_show_194 ?_
      refine fx_iast 195 okb1 dX7_show_195 g192 ?_
      refine fx_aload_n 196 dX7_show_196 rfl 0 rfl ?_
      refine fx_get 197 (j := 1) (v := .ref 1) okm0 dX7_show_197 lfX7_7 (by decide) (fun _ => rfl) ?_
      refine fx_bipush 200 (x := (6 : Int32)) dX7_show_200 (by decide) ?_
      refine fx_aload_n 202 dX7_show_202 rfl 0 rfl ?_
      replace h := fx_ltd h
      generalize fx_st M 1 (1 : Int32).toNatClampNeg ((M 1 (1 : Int32).toNatClampNeg) + (1 : Int32)) = M203 at h ⊢
      refine fx_get 203 (j := 4) (v := .int (M203 0 4)) okm0 dX7_show_203 lfX7_76 (by decide) (fun _ => rfl) ?_
      obtain ⟨g206, h⟩ := fx_gt h
      refine fx_iast 206 okb1 dX7_show_206 g206 ?_
      refine fx_aload_n 207 dX7_show_207 rfl 0 rfl ?_
      replace h := fx_ltd h
      generalize fx_st M203 1 (6 : Int32).toNatClampNeg (M203 0 4) = M208 at h ⊢
      refine fx_get 208 (j := 4) (v := .int (M208 0 4)) okm0 dX7_show_208 lfX7_76 (by decide) (fun _ => rfl) ?_
      obtain rfl := Option.some.inj h
      exact fx_iret 211 dX7_show_211 rfl rfl ⟨rfl, rfl⟩
    · replace h := fx_ne c175 h
      refine fx_bipush 178 (x := (-10 : Int32)) dX7_show_178 (by decide) ?_
      refine fx_aload_n 180 dX7_show_180 rfl 0 rfl ?_
      refine fx_get 181 (j := 5) (v := .int (M 0 5)) okm0 dX7_show_181 lfX7_49 (by decide) (fun _ => rfl) ?_
      refine fx_isub 184 dX7_show_184 ?_
      obtain rfl := Option.some.inj h
      exact fx_iret 185 dX7_show_185 rfl rfl ⟨rfl, rfl⟩
def CX7_show  (M : fxMem) : Option (Int32 × fxMem) := if fx_in (1 : Int32) 900 = true then if M 1 (1 : Int32).toNatClampNeg = (5 : Int32) then some ((-4 : Int32), M) else fx_lt (fx_st M 0 4 (M 1 (1 : Int32).toNatClampNeg)) fun M29 => if fx_in (4 : Int32) 900 = true then fx_lt (fx_st M29 0 6 (M29 1 (4 : Int32).toNatClampNeg)) fun M39 => fx_lt (fx_st M39 1 (4 : Int32).toNatClampNeg (0 : Int32)) fun M48 => if fx_in ((180 : Int32) + (M48 0 4)) 900 = true then fx_lt (fx_st M48 1 ((180 : Int32) + (M48 0 4)).toNatClampNeg (3 : Int32)) fun M62 => if fx_in ((185 : Int32) + (M62 0 4)) 900 = true then fx_lt (fx_st M62 1 ((185 : Int32) + (M62 0 4)).toNatClampNeg (50 : Int32)) fun M77 => if fx_in ((190 : Int32) + (M77 0 4)) 900 = true then fx_lt (fx_st M77 1 ((190 : Int32) + (M77 0 4)).toNatClampNeg (2 : Int32)) fun M91 => if fx_in ((195 : Int32) + (M91 0 4)) 900 = true then Option.bind (CX7_clauseHere (fx_st (fx_st (fx_st (fx_st M91 1 ((195 : Int32) + (M91 0 4)).toNatClampNeg (0 : Int32)) 0 5 (0 : Int32)) 0 7 (0 : Int32)) 0 8 (0 : Int32))) fun q115 => CX7_show_L118  1000 (1 : Int32) q115 (fun y1_118 M118 => CX7_show_J160 y1_118 M118) else none else none else none else none else none else none
set_option maxRecDepth 100000 in
set_option maxHeartbeats 4000000 in
theorem tX7_show  {M : fxMem} {R : Int32 × fxMem} (h : CX7_show  M = some R) : fx_T gM mX7_show [.ref 0] M (fx_ri R) := by
  rw [CX7_show] at h
  refine fx_enter [(0, .ref 0)] (by show plainName RX7 = true; decide) (fun _ => rfl) (fun _ => Nat.le_of_ble_eq_true rfl) ?_
  refine fx_aload_n 0 dX7_show_0 rfl 0 rfl ?_
  refine fx_get 1 (j := 1) (v := .ref 1) okm0 dX7_show_1 lfX7_7 (by decide) (fun _ => rfl) ?_
  refine fx_iconst 4 (x := (1 : Int32)) dX7_show_4 (by decide) ?_
  obtain ⟨g5, h⟩ := fx_gt h
  refine fx_iald 5 okb1 dX7_show_5 g5 ?_
  refine fx_iconst 6 (x := (5 : Int32)) dX7_show_6 (by decide) ?_
  refine fx_icmp_ne 7 13 dX7_show_7 (by decide) (fun c7 => ?_) (fun c7 => ?_)
  · replace h := fx_ne c7 h
    refine fx_aload_n 13 dX7_show_13 rfl 0 rfl ?_
    refine fx_aload_n 14 dX7_show_14 rfl 0 rfl ?_
    refine fx_get 15 (j := 1) (v := .ref 1) okm0 dX7_show_15 lfX7_7 (by decide) (fun _ => rfl) ?_
    refine fx_iconst 18 (x := (1 : Int32)) dX7_show_18 (by decide) ?_
    refine fx_iald 19 okb1 dX7_show_19 g5 ?_
    refine fx_putI 20 (j := 4) okm0 dX7_show_20 lfX7_76 (by decide) rfl (by decide +kernel) (fun _ _ => Nat.le_of_ble_eq_true rfl) (fun _ _ _ => rfl) ?_
    refine fx_aload_n 23 dX7_show_23 rfl 0 rfl ?_
    refine fx_aload_n 24 dX7_show_24 rfl 0 rfl ?_
    refine fx_get 25 (j := 1) (v := .ref 1) okm0 dX7_show_25 lfX7_7 (by decide) (fun _ => rfl) ?_
    refine fx_iconst 28 (x := (4 : Int32)) dX7_show_28 (by decide) ?_
    replace h := fx_ltd h
    generalize fx_st M 0 4 (M 1 (1 : Int32).toNatClampNeg) = M29 at h ⊢
    obtain ⟨g29, h⟩ := fx_gt h
    refine fx_iald 29 okb1 dX7_show_29 g29 ?_
    refine fx_putI 30 (j := 6) okm0 dX7_show_30 lfX7_52 (by decide) rfl (by decide +kernel) (fun _ _ => Nat.le_of_ble_eq_true rfl) (fun _ _ _ => rfl) ?_
    refine fx_aload_n 33 dX7_show_33 rfl 0 rfl ?_
    refine fx_get 34 (j := 1) (v := .ref 1) okm0 dX7_show_34 lfX7_7 (by decide) (fun _ => rfl) ?_
    refine fx_iconst 37 (x := (4 : Int32)) dX7_show_37 (by decide) ?_
    refine fx_iconst 38 (x := (0 : Int32)) dX7_show_38 (by decide) ?_
    replace h := fx_ltd h
    generalize fx_st M29 0 6 (M29 1 (4 : Int32).toNatClampNeg) = M39 at h ⊢
    refine fx_iast 39 okb1 dX7_show_39 g29 ?_
    refine fx_aload_n 40 dX7_show_40 rfl 0 rfl ?_
    refine fx_get 41 (j := 1) (v := .ref 1) okm0 dX7_show_41 lfX7_7 (by decide) (fun _ => rfl) ?_
    refine fx_sipush 44 (x := (180 : Int32)) dX7_show_44 (by decide) ?_
    refine fx_aload_n 47 dX7_show_47 rfl 0 rfl ?_
    replace h := fx_ltd h
    generalize fx_st M39 1 (4 : Int32).toNatClampNeg (0 : Int32) = M48 at h ⊢
    refine fx_get 48 (j := 4) (v := .int (M48 0 4)) okm0 dX7_show_48 lfX7_76 (by decide) (fun _ => rfl) ?_
    refine fx_iadd 51 dX7_show_51 ?_
    refine fx_iconst 52 (x := (3 : Int32)) dX7_show_52 (by decide) ?_
    obtain ⟨g53, h⟩ := fx_gt h
    refine fx_iast 53 okb1 dX7_show_53 g53 ?_
    refine fx_aload_n 54 dX7_show_54 rfl 0 rfl ?_
    refine fx_get 55 (j := 1) (v := .ref 1) okm0 dX7_show_55 lfX7_7 (by decide) (fun _ => rfl) ?_
    refine fx_sipush 58 (x := (185 : Int32)) dX7_show_58 (by decide) ?_
    refine fx_aload_n 61 dX7_show_61 rfl 0 rfl ?_
    replace h := fx_ltd h
    generalize fx_st M48 1 ((180 : Int32) + (M48 0 4)).toNatClampNeg (3 : Int32) = M62 at h ⊢
    refine fx_get 62 (j := 4) (v := .int (M62 0 4)) okm0 dX7_show_62 lfX7_76 (by decide) (fun _ => rfl) ?_
    refine fx_iadd 65 dX7_show_65 ?_
    refine fx_bipush 66 (x := (50 : Int32)) dX7_show_66 (by decide) ?_
    obtain ⟨g68, h⟩ := fx_gt h
    refine fx_iast 68 okb1 dX7_show_68 g68 ?_
    refine fx_aload_n 69 dX7_show_69 rfl 0 rfl ?_
    refine fx_get 70 (j := 1) (v := .ref 1) okm0 dX7_show_70 lfX7_7 (by decide) (fun _ => rfl) ?_
    refine fx_sipush 73 (x := (190 : Int32)) dX7_show_73 (by decide) ?_
    refine fx_aload_n 76 dX7_show_76 rfl 0 rfl ?_
    replace h := fx_ltd h
    generalize fx_st M62 1 ((185 : Int32) + (M62 0 4)).toNatClampNeg (50 : Int32) = M77 at h ⊢
    refine fx_get 77 (j := 4) (v := .int (M77 0 4)) okm0 dX7_show_77 lfX7_76 (by decide) (fun _ => rfl) ?_
    refine fx_iadd 80 dX7_show_80 ?_
    refine fx_iconst 81 (x := (2 : Int32)) dX7_show_81 (by decide) ?_
    obtain ⟨g82, h⟩ := fx_gt h
    refine fx_iast 82 okb1 dX7_show_82 g82 ?_
    refine fx_aload_n 83 dX7_show_83 rfl 0 rfl ?_
    refine fx_get 84 (j := 1) (v := .ref 1) okm0 dX7_show_84 lfX7_7 (by decide) (fun _ => rfl) ?_
    refine fx_sipush 87 (x := (195 : Int32)) dX7_show_87 (by decide) ?_
    refine fx_aload_n 90 dX7_show_90 rfl 0 rfl ?_
    replace h := fx_ltd h
    generalize fx_st M77 1 ((190 : Int32) + (M77 0 4)).toNatClampNeg (2 : Int32) = M91 at h ⊢
    refine fx_get 91 (j := 4) (v := .int (M91 0 4)) okm0 dX7_show_91 lfX7_76 (by decide) (fun _ => rfl) ?_
    refine fx_iadd 94 dX7_show_94 ?_
    refine fx_iconst 95 (x := (0 : Int32)) dX7_show_95 (by decide) ?_
    obtain ⟨g96, h⟩ := fx_gt h
    refine fx_iast 96 okb1 dX7_show_96 g96 ?_
    refine fx_aload_n 97 dX7_show_97 rfl 0 rfl ?_
    refine fx_iconst 98 (x := (0 : Int32)) dX7_show_98 (by decide) ?_
    refine fx_putI 99 (j := 5) okm0 dX7_show_99 lfX7_49 (by decide) rfl (by decide +kernel) (fun _ _ => Nat.le_of_ble_eq_true rfl) (fun _ _ _ => rfl) ?_
    refine fx_aload_n 102 dX7_show_102 rfl 0 rfl ?_
    refine fx_iconst 103 (x := (0 : Int32)) dX7_show_103 (by decide) ?_
    refine fx_putZ 104 (j := 7) okm0 (by decide) dX7_show_104 lfX7_55 (by decide) rfl (by decide +kernel) (fun _ _ => Nat.le_of_ble_eq_true rfl) (fun _ _ _ => rfl) ?_
    refine fx_aload_n 107 dX7_show_107 rfl 0 rfl ?_
    refine fx_iconst 108 (x := (0 : Int32)) dX7_show_108 (by decide) ?_
    refine fx_putI 109 (j := 8) okm0 dX7_show_109 lfX7_79 (by decide) rfl (by decide +kernel) (fun _ _ => Nat.le_of_ble_eq_true rfl) (fun _ _ _ => rfl) ?_
    refine fx_iconst 112 (x := (1 : Int32)) dX7_show_112 (by decide) ?_
    refine fx_istore_n 113 (lv' := [(1, .int (1 : Int32)), (0, .ref 0)]) dX7_show_113 rfl (Nat.le_of_ble_eq_true rfl) rfl ?_
    refine fx_aload_n 114 dX7_show_114 rfl 1 rfl ?_
    obtain ⟨q115, e115, h⟩ := fx_bd h
    refine fx_callVv 115 (mt' := mX7_clauseHere) (As := []) okm0 (okvX7_clauseHere _ _) lmX7_126 (by decide) rfl rfl (Nat.le_of_ble_eq_true rfl) dX7_show_115 (tX7_clauseHere e115) ?_
    refine fx_sub [1, 0] rfl ?_
    refine vX7_show_L118 (fun y1_118 M118 h => ?_) 1000 _ _ h
    refine fx_sub [0, 1] rfl ?_
    exact vX7_show_J160 h
  · replace h := fx_ip c7 h
    refine fx_bipush 10 (x := (-4 : Int32)) dX7_show_10 (by decide) ?_
    obtain rfl := Option.some.inj h
    exact fx_iret 12 dX7_show_12 rfl rfl ⟨rfl, rfl⟩
