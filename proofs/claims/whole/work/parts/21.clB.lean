def mX6_told : fxM := (yX6_told, cX6_told, 2, (some .int), 3, 120)
theorem okvX6_told (f l : Nat) : fx_okV (yX6_told, cX6_told, 2, (some .int), f, l) 1 := ⟨⟨rin16 _ (List.mem_of_getElem? (i := 18) rfl), rin1 _ (List.mem_of_getElem? (i := 2) rfl), by show yX6_told.cls ≠ _; decide +kernel, by show yX6_told.cls ≠ _; decide +kernel, by show (parseMethodDescriptor yX6_told.desc).map _ = _; decide +kernel⟩, rin16 _ (List.mem_of_getElem? (i := 16) rfl), rin16 _ (List.mem_of_getElem? (i := 17) rfl)⟩
def CX6_told (x1 : Int32) (M : fxMem) : Option (Int32 × fxMem) := if x1 = (0 : Int32) then Option.bind (CX6_held M) fun q29 => if fx_isSh q29.1 = true then some (q29.2 q29.1 0, q29.2) else none else if x1 = (1 : Int32) then Option.bind (CX6_held M) fun q37 => if fx_isSh q37.1 = true then some (q37.2 q37.1 1, q37.2) else none else if x1 = (2 : Int32) then Option.bind (CX6_held M) fun q45 => if fx_isSh q45.1 = true then some (q45.2 q45.1 2, q45.2) else none else some ((-1 : Int32), M)
set_option maxRecDepth 100000 in
set_option maxHeartbeats 4000000 in
theorem tX6_told {x1 : Int32} {M : fxMem} {R : Int32 × fxMem} (h : CX6_told x1 M = some R) : fx_T gC mX6_told [.ref 0, .int x1] M (fx_ri R) := by
  rw [CX6_told] at h
  refine fx_enter [(0, .ref 0), (1, .int x1)] (by show plainName RX6 = true; decide) (fun _ => rfl) (fun _ => Nat.le_of_ble_eq_true rfl) ?_
  refine fx_iload_n 0 dX6_told_0 rfl 1 rfl ?_
  by_cases s1_0 : x1 = (0 : Int32)
  · replace h := fx_ip s1_0 h
    refine fx_tsI 1 28 dX6_told_1 (by rw [s1_0]; decide) (by rw [s1_0]; decide) (by rw [s1_0]; try rfl) (by decide) ?_
    refine fx_aload_n 28 dX6_told_28 rfl 0 rfl ?_
    obtain ⟨q29, e29, h⟩ := fx_bd h
    refine fx_callVq 29 (mt' := mX6_held) (As := []) okc0 (okvX6_held _ _) lmX6_76 (by decide) rfl rfl (Nat.le_of_ble_eq_true rfl) dX6_told_29 (tX6_held e29) ?_
    obtain ⟨g32, h⟩ := fx_gt h
    refine fx_get 32 (j := 0) (v := .int (q29.2 q29.1 0)) (okcS g32) dX6_told_32 lfX6_80 (by decide) (fun _ => rfl) ?_
    obtain rfl := Option.some.inj h
    exact fx_iret 35 dX6_told_35 rfl rfl ⟨rfl, rfl⟩
  · replace h := fx_ne s1_0 h
    by_cases s1_1 : x1 = (1 : Int32)
    · replace h := fx_ip s1_1 h
      refine fx_tsI 1 36 dX6_told_1 (by rw [s1_1]; decide) (by rw [s1_1]; decide) (by rw [s1_1]; try rfl) (by decide) ?_
      refine fx_aload_n 36 dX6_told_36 rfl 0 rfl ?_
      obtain ⟨q37, e37, h⟩ := fx_bd h
      refine fx_callVq 37 (mt' := mX6_held) (As := []) okc0 (okvX6_held _ _) lmX6_76 (by decide) rfl rfl (Nat.le_of_ble_eq_true rfl) dX6_told_37 (tX6_held e37) ?_
      obtain ⟨g40, h⟩ := fx_gt h
      refine fx_get 40 (j := 1) (v := .int (q37.2 q37.1 1)) (okcS g40) dX6_told_40 lfX6_83 (by decide) (fun _ => rfl) ?_
      obtain rfl := Option.some.inj h
      exact fx_iret 43 dX6_told_43 rfl rfl ⟨rfl, rfl⟩
    · replace h := fx_ne s1_1 h
      by_cases s1_2 : x1 = (2 : Int32)
      · replace h := fx_ip s1_2 h
        refine fx_tsI 1 44 dX6_told_1 (by rw [s1_2]; decide) (by rw [s1_2]; decide) (by rw [s1_2]; try rfl) (by decide) ?_
        refine fx_aload_n 44 dX6_told_44 rfl 0 rfl ?_
        obtain ⟨q45, e45, h⟩ := fx_bd h
        refine fx_callVq 45 (mt' := mX6_held) (As := []) okc0 (okvX6_held _ _) lmX6_76 (by decide) rfl rfl (Nat.le_of_ble_eq_true rfl) dX6_told_45 (tX6_held e45) ?_
        obtain ⟨g48, h⟩ := fx_gt h
        refine fx_get 48 (j := 2) (v := .int (q45.2 q45.1 2)) (okcS g48) dX6_told_48 lfX6_86 (by decide) (fun _ => rfl) ?_
        obtain rfl := Option.some.inj h
        exact fx_iret 51 dX6_told_51 rfl rfl ⟨rfl, rfl⟩
      · replace h := fx_ne s1_2 h
        refine fx_tsD 1 52 [(0 : Int32), (1 : Int32), (2 : Int32)] dX6_told_1 (by decide) (by decide) (by intro q hq; simp only [List.mem_cons, List.not_mem_nil, or_false] at hq; rcases hq with rfl | rfl | rfl <;> assumption) (by decide) ?_
        refine fx_iconst 52 (x := (-1 : Int32)) dX6_told_52 (by decide) ?_
        obtain rfl := Option.some.inj h
        exact fx_iret 53 dX6_told_53 rfl rfl ⟨rfl, rfl⟩
def mX6_isBelow : fxM := (yX6_isBelow, cX6_isBelow, 2, (some .boolean), 2, 80)
theorem oksX6_isBelow (f l : Nat) : fx_okS (yX6_isBelow, cX6_isBelow, 2, (some .boolean), f, l) 2 := ⟨⟨rin18 _ (List.mem_of_getElem? (i := 4) rfl), rin1 _ (List.mem_of_getElem? (i := 2) rfl), by show yX6_isBelow.cls ≠ _; decide +kernel, by show yX6_isBelow.cls ≠ _; decide +kernel, by show (parseMethodDescriptor yX6_isBelow.desc).map _ = _; decide +kernel⟩, rin18 _ (List.mem_of_getElem? (i := 3) rfl)⟩
def CX6_isBelow (x0 : Int32) (x1 : Int32) (M : fxMem) : Option (Int32 × fxMem) := some ((if x0 < (0 : Int32) then (0 : Int32) else (if x1 ≤ x0 then (0 : Int32) else (1 : Int32))), M)
set_option maxRecDepth 100000 in
set_option maxHeartbeats 4000000 in
theorem tX6_isBelow {x0 : Int32} {x1 : Int32} {M : fxMem} {R : Int32 × fxMem} (h : CX6_isBelow x0 x1 M = some R) : fx_T gC mX6_isBelow [.int x0, .int x1] M (fx_ri R) := by
  rw [CX6_isBelow] at h
  refine fx_enter [(0, .int x0), (1, .int x1)] (by show plainName RX6 = true; decide) (fun _ => rfl) (fun _ => Nat.le_of_ble_eq_true rfl) ?_
  refine fx_iload_n 0 dX6_isBelow_0 rfl 0 rfl ?_
  have J : fx_V gC mX6_isBelow (fx_ri R) 14 [(0, .int x0), (1, .int x1)] [.int (if x0 < (0 : Int32) then (0 : Int32) else (if x1 ≤ x0 then (0 : Int32) else (1 : Int32)))] M := by
    obtain rfl := Option.some.inj h
    exact fx_iret 14 dX6_isBelow_14 rfl (by (repeat' split) <;> rfl) ⟨rfl, rfl⟩
  refine fx_if_lt 1 13 dX6_isBelow_1 (by decide) (fun c1 => ?_) (fun c1 => ?_)
  · refine fx_iconst 13 (x := (0 : Int32)) dX6_isBelow_13 (by decide) ?_
    refine fx_sub (lv' := [(0, .int x0), (1, .int x1)]) [0, 1] rfl ?_
    show fx_V gC mX6_isBelow (fx_ri R) 14 [(0, .int x0), (1, .int x1)] [.int (0 : Int32)] M
    simpa only [if_pos c1] using J
  · refine fx_iload_n 4 dX6_isBelow_4 rfl 0 rfl ?_
    refine fx_iload_n 5 dX6_isBelow_5 rfl 1 rfl ?_
    refine fx_icmp_ge 6 13 dX6_isBelow_6 (by decide) (fun c6 => ?_) (fun c6 => ?_)
    · refine fx_iconst 13 (x := (0 : Int32)) dX6_isBelow_13 (by decide) ?_
      refine fx_sub (lv' := [(0, .int x0), (1, .int x1)]) [0, 1] rfl ?_
      show fx_V gC mX6_isBelow (fx_ri R) 14 [(0, .int x0), (1, .int x1)] [.int (0 : Int32)] M
      simpa only [if_neg c1, if_pos c6] using J
    · refine fx_iconst 9 (x := (1 : Int32)) dX6_isBelow_9 (by decide) ?_
      refine fx_goto 10 14 dX6_isBelow_10 (by decide) ?_
      refine fx_sub (lv' := [(0, .int x0), (1, .int x1)]) [0, 1] rfl ?_
      show fx_V gC mX6_isBelow (fx_ri R) 14 [(0, .int x0), (1, .int x1)] [.int (1 : Int32)] M
      simpa only [if_neg c1, if_neg c6] using J
def mX1_playerOn : fxM := (yX1_playerOn, cX1_playerOn, 3, (some .int), 2, 80)
theorem okvX1_playerOn (f l : Nat) : fx_okV (yX1_playerOn, cX1_playerOn, 3, (some .int), f, l) 1 := ⟨⟨rin18 _ (List.mem_of_getElem? (i := 8) rfl), rin1 _ (List.mem_of_getElem? (i := 15) rfl), by show yX1_playerOn.cls ≠ _; decide +kernel, by show yX1_playerOn.cls ≠ _; decide +kernel, by show (parseMethodDescriptor yX1_playerOn.desc).map _ = _; decide +kernel⟩, rin18 _ (List.mem_of_getElem? (i := 6) rfl), rin18 _ (List.mem_of_getElem? (i := 7) rfl)⟩
def CX1_playerOn_L2 (x1 : Int32) : Nat → Int32 → fxMem → (Int32 → fxMem → Option (Int32 × fxMem)) → Option (Int32 × fxMem)
  | 0, _, _, _ => none
  | n + 1, x2, M, k => if M 1 0 ≤ x2 then k x2 M else if fx_in x2 10 = true then if M 4 x2.toNatClampNeg = x1 then some (x2, M) else CX1_playerOn_L2 x1 n (x2 + (1 : Int32)) M k else none
set_option maxRecDepth 100000 in
set_option maxHeartbeats 4000000 in
theorem vX1_playerOn_L2 {x1 : Int32} {R : Int32 × fxMem} {k : Int32 → fxMem → Option (Int32 × fxMem)} (hk : ∀ (x2 : Int32) (M : fxMem), k x2 M = some R → fx_V gC mX1_playerOn (fx_ri R) 28 [(0, .ref 1), (1, .int x1), (2, .int x2)] [] M) : ∀ (n : Nat) (x2 : Int32) (M : fxMem), CX1_playerOn_L2 x1 n x2 M k = some R → fx_V gC mX1_playerOn (fx_ri R) 2 [(0, .ref 1), (1, .int x1), (2, .int x2)] [] M := by
  intro n
  induction n with
  | zero => intro x2 M h; rw [CX1_playerOn_L2] at h; cases h
  | succ n ih =>
    intro x2 M h
    rw [CX1_playerOn_L2] at h
    refine fx_iload_n 2 dX1_playerOn_2 rfl 2 rfl ?_
    refine fx_aload_n 3 dX1_playerOn_3 rfl 0 rfl ?_
    refine fx_get 4 (j := 0) (v := .int (M 1 0)) okc1 dX1_playerOn_4 lfX1_9 (by decide) (fun _ => rfl) ?_
    refine fx_icmp_ge 7 28 dX1_playerOn_7 (by decide) (fun c7 => ?_) (fun c7 => ?_)
    · replace h := fx_ip c7 h
      refine fx_sub [0, 1, 2] rfl ?_
      exact hk _ _ h
    · replace h := fx_ne c7 h
      refine fx_aload_n 10 dX1_playerOn_10 rfl 0 rfl ?_
      refine fx_get 11 (j := 3) (v := .ref 4) okc1 dX1_playerOn_11 lfX1_22 (by decide) (fun _ => rfl) ?_
      refine fx_iload_n 14 dX1_playerOn_14 rfl 2 rfl ?_
      obtain ⟨g15, h⟩ := fx_gt h
      refine fx_iald 15 oka4 dX1_playerOn_15 g15 ?_
      refine fx_iload_n 16 dX1_playerOn_16 rfl 1 rfl ?_
      refine fx_icmp_ne 17 22 dX1_playerOn_17 (by decide) (fun c17 => ?_) (fun c17 => ?_)
      · replace h := fx_ne c17 h
        refine fx_iinc 22 (lv' := [(2, .int (x2 + (1 : Int32))), (0, .ref 1), (1, .int x1)]) (y := x2 + (1 : Int32)) dX1_playerOn_22 2 rfl (by rfl) (Nat.le_of_ble_eq_true rfl) rfl ?_
        refine fx_goto 25 2 dX1_playerOn_25 (by decide) ?_
        refine fx_sub [1, 2, 0] rfl ?_
        exact ih _ _ h
      · replace h := fx_ip c17 h
        refine fx_iload_n 20 dX1_playerOn_20 rfl 2 rfl ?_
        obtain rfl := Option.some.inj h
        exact fx_iret 21 dX1_playerOn_21 rfl rfl ⟨rfl, rfl⟩
def CX1_playerOn (x1 : Int32) (M : fxMem) : Option (Int32 × fxMem) := CX1_playerOn_L2 x1 1000 (0 : Int32) M (fun y2_2 M2 => some ((-1 : Int32), M2))
set_option maxRecDepth 100000 in
set_option maxHeartbeats 4000000 in
theorem tX1_playerOn {x1 : Int32} {M : fxMem} {R : Int32 × fxMem} (h : CX1_playerOn x1 M = some R) : fx_T gC mX1_playerOn [.ref 1, .int x1] M (fx_ri R) := by
  rw [CX1_playerOn] at h
  refine fx_enter [(0, .ref 1), (1, .int x1)] (by show plainName RX1 = true; decide) (fun _ => rfl) (fun _ => Nat.le_of_ble_eq_true rfl) ?_
  refine fx_iconst 0 (x := (0 : Int32)) dX1_playerOn_0 (by decide) ?_
  refine fx_istore_n 1 (lv' := [(2, .int (0 : Int32)), (0, .ref 1), (1, .int x1)]) dX1_playerOn_1 rfl (Nat.le_of_ble_eq_true rfl) rfl ?_
  refine fx_sub [1, 2, 0] rfl ?_
  refine vX1_playerOn_L2 (fun y2_2 M2 h => ?_) 1000 _ _ h
  refine fx_iconst 28 (x := (-1 : Int32)) dX1_playerOn_28 (by decide) ?_
  obtain rfl := Option.some.inj h
  exact fx_iret 29 dX1_playerOn_29 rfl rfl ⟨rfl, rfl⟩
def mX6_player : fxM := (yX6_player, cX6_player, 4, (some .int), 3, 120)
theorem okvX6_player (f l : Nat) : fx_okV (yX6_player, cX6_player, 4, (some .int), f, l) 3 := ⟨⟨rin17 _ (List.mem_of_getElem? (i := 21) rfl), rin1 _ (List.mem_of_getElem? (i := 2) rfl), by show yX6_player.cls ≠ _; decide +kernel, by show yX6_player.cls ≠ _; decide +kernel, by show (parseMethodDescriptor yX6_player.desc).map _ = _; decide +kernel⟩, rin17 _ (List.mem_of_getElem? (i := 19) rfl), rin17 _ (List.mem_of_getElem? (i := 20) rfl)⟩
def CX6_player (x1 : Int32) (x2 : Int32) (x3 : Int32) (M : fxMem) : Option (Int32 × fxMem) := Option.bind (CX6_isBelow x1 (7 : Int32) M) fun q3 => if q3.1 = (0 : Int32) then some ((-1 : Int32), q3.2) else Option.bind (CX6_isBelow x3 (64 : Int32) q3.2) fun q12 => if q12.1 = (0 : Int32) then some ((-1 : Int32), q12.2) else Option.bind (CX6_isBelow x2 (10 : Int32) q12.2) fun q23 => if q23.1 = (0 : Int32) then some ((-2 : Int32), q23.2) else Option.bind (CX1_playerOn x3 q23.2) fun q37 => if q37.1 = (-1 : Int32) then if q37.2 1 0 < (10 : Int32) then if fx_in (q37.2 1 0) 10 = true then fx_lt (fx_st q37.2 2 (q37.2 1 0).toNatClampNeg x1) fun M89 => if fx_in (M89 1 0) 10 = true then fx_lt (fx_st M89 3 (M89 1 0).toNatClampNeg x2) fun M105 => if fx_in (M105 1 0) 10 = true then fx_lt (fx_st M105 4 (M105 1 0).toNatClampNeg x3) fun M115 => fx_lt (fx_st M115 1 0 ((M115 1 0) + (1 : Int32))) fun M127 => some ((M127 1 0) - (1 : Int32), M127) else none else none else none else some ((-4 : Int32), q37.2) else some ((-3 : Int32), q37.2)
set_option maxRecDepth 100000 in
set_option maxHeartbeats 4000000 in
theorem tX6_player {x1 : Int32} {x2 : Int32} {x3 : Int32} {M : fxMem} {R : Int32 × fxMem} (h : CX6_player x1 x2 x3 M = some R) : fx_T gC mX6_player [.ref 0, .int x1, .int x2, .int x3] M (fx_ri R) := by
  rw [CX6_player] at h
  refine fx_enter [(0, .ref 0), (1, .int x1), (2, .int x2), (3, .int x3)] (by show plainName RX6 = true; decide) (fun _ => rfl) (fun _ => Nat.le_of_ble_eq_true rfl) ?_
  refine fx_iload_n 0 dX6_player_0 rfl 1 rfl ?_
  refine fx_bipush 1 (x := (7 : Int32)) dX6_player_1 (by decide) ?_
  obtain ⟨q3, e3, h⟩ := fx_bd h
  refine fx_callSi 3 (mt' := mX6_isBelow) (As := [.int x1, .int (7 : Int32)]) (oksX6_isBelow _ _) lmX6_89 (by decide) rfl rfl (Nat.le_of_ble_eq_true rfl) dX6_player_3 (tX6_isBelow e3) ?_
  refine fx_if_eq 6 18 dX6_player_6 (by decide) (fun c6 => ?_) (fun c6 => ?_)
  · replace h := fx_ip c6 h
    refine fx_iconst 18 (x := (-1 : Int32)) dX6_player_18 (by decide) ?_
    obtain rfl := Option.some.inj h
    exact fx_iret 19 dX6_player_19 rfl rfl ⟨rfl, rfl⟩
  · replace h := fx_ne c6 h
    refine fx_iload_n 9 dX6_player_9 rfl 3 rfl ?_
    refine fx_bipush 10 (x := (64 : Int32)) dX6_player_10 (by decide) ?_
    obtain ⟨q12, e12, h⟩ := fx_bd h
    refine fx_callSi 12 (mt' := mX6_isBelow) (As := [.int x3, .int (64 : Int32)]) (oksX6_isBelow _ _) lmX6_89 (by decide) rfl rfl (Nat.le_of_ble_eq_true rfl) dX6_player_12 (tX6_isBelow e12) ?_
    refine fx_if_ne 15 20 dX6_player_15 (by decide) (fun c15 => ?_) (fun c15 => ?_)
    · replace h := fx_ne c15 h
      refine fx_iload_n 20 dX6_player_20 rfl 2 rfl ?_
      refine fx_bipush 21 (x := (10 : Int32)) dX6_player_21 (by decide) ?_
      obtain ⟨q23, e23, h⟩ := fx_bd h
      refine fx_callSi 23 (mt' := mX6_isBelow) (As := [.int x2, .int (10 : Int32)]) (oksX6_isBelow _ _) lmX6_89 (by decide) rfl rfl (Nat.le_of_ble_eq_true rfl) dX6_player_23 (tX6_isBelow e23) ?_
      refine fx_if_ne 26 32 dX6_player_26 (by decide) (fun c26 => ?_) (fun c26 => ?_)
      · replace h := fx_ne c26 h
        refine fx_aload_n 32 dX6_player_32 rfl 0 rfl ?_
        refine fx_get 33 (j := 0) (v := .ref 1) okc0 dX6_player_33 lfX6_12 (by decide) (fun _ => rfl) ?_
        refine fx_iload_n 36 dX6_player_36 rfl 3 rfl ?_
        obtain ⟨q37, e37, h⟩ := fx_bd h
        refine fx_callVi 37 (mt' := mX1_playerOn) (As := [.int x3]) okc1 (okvX1_playerOn _ _) lmX6_93 (by decide) rfl rfl (Nat.le_of_ble_eq_true rfl) dX6_player_37 (tX1_playerOn e37) ?_
        refine fx_iconst 40 (x := (-1 : Int32)) dX6_player_40 (by decide) ?_
        refine fx_icmp_eq 41 47 dX6_player_41 (by decide) (fun c41 => ?_) (fun c41 => ?_)
        · replace h := fx_ip c41 h
          refine fx_aload_n 47 dX6_player_47 rfl 0 rfl ?_
          refine fx_get 48 (j := 0) (v := .ref 1) okc0 dX6_player_48 lfX6_12 (by decide) (fun _ => rfl) ?_
          refine fx_get 51 (j := 0) (v := .int (q37.2 1 0)) okc1 dX6_player_51 lfX6_97 (by decide) (fun _ => rfl) ?_
          refine fx_bipush 54 (x := (10 : Int32)) dX6_player_54 (by decide) ?_
          refine fx_icmp_lt 56 62 dX6_player_56 (by decide) (fun c56 => ?_) (fun c56 => ?_)
          · replace h := fx_ip c56 h
            refine fx_aload_n 62 dX6_player_62 rfl 0 rfl ?_
            refine fx_get 63 (j := 0) (v := .ref 1) okc0 dX6_player_63 lfX6_12 (by decide) (fun _ => rfl) ?_
            refine fx_get 66 (j := 1) (v := .ref 2) okc1 dX6_player_66 lfX6_100 (by decide) (fun _ => rfl) ?_
            refine fx_aload_n 69 dX6_player_69 rfl 0 rfl ?_
            refine fx_get 70 (j := 0) (v := .ref 1) okc0 dX6_player_70 lfX6_12 (by decide) (fun _ => rfl) ?_
            refine fx_get 73 (j := 0) (v := .int (q37.2 1 0)) okc1 dX6_player_73 lfX6_97 (by decide) (fun _ => rfl) ?_
            refine fx_iload_n 76 dX6_player_76 rfl 1 rfl ?_
            obtain ⟨g77, h⟩ := fx_gt h
            refine fx_iast 77 oka2 dX6_player_77 g77 ?_
            refine fx_aload_n 78 dX6_player_78 rfl 0 rfl ?_
            refine fx_get 79 (j := 0) (v := .ref 1) okc0 dX6_player_79 lfX6_12 (by decide) (fun _ => rfl) ?_
            refine fx_get 82 (j := 2) (v := .ref 3) okc1 dX6_player_82 lfX6_104 (by decide) (fun _ => rfl) ?_
            refine fx_aload_n 85 dX6_player_85 rfl 0 rfl ?_
            refine fx_get 86 (j := 0) (v := .ref 1) okc0 dX6_player_86 lfX6_12 (by decide) (fun _ => rfl) ?_
            replace h := fx_ltd h
            generalize fx_st q37.2 2 (q37.2 1 0).toNatClampNeg x1 = M89 at h ⊢
            refine fx_get 89 (j := 0) (v := .int (M89 1 0)) okc1 dX6_player_89 lfX6_97 (by decide) (fun _ => rfl) ?_
            refine fx_iload_n 92 dX6_player_92 rfl 2 rfl ?_
            obtain ⟨g93, h⟩ := fx_gt h
            refine fx_iast 93 oka3 dX6_player_93 g93 ?_
            refine fx_aload_n 94 dX6_player_94 rfl 0 rfl ?_
            refine fx_get 95 (j := 0) (v := .ref 1) okc0 dX6_player_95 lfX6_12 (by decide) (fun _ => rfl) ?_
            refine fx_get 98 (j := 3) (v := .ref 4) okc1 dX6_player_98 lfX6_107 (by decide) (fun _ => rfl) ?_
            refine fx_aload_n 101 dX6_player_101 rfl 0 rfl ?_
            refine fx_get 102 (j := 0) (v := .ref 1) okc0 dX6_player_102 lfX6_12 (by decide) (fun _ => rfl) ?_
            replace h := fx_ltd h
            generalize fx_st M89 3 (M89 1 0).toNatClampNeg x2 = M105 at h ⊢
            refine fx_get 105 (j := 0) (v := .int (M105 1 0)) okc1 dX6_player_105 lfX6_97 (by decide) (fun _ => rfl) ?_
            refine fx_iload_n 108 dX6_player_108 rfl 3 rfl ?_
            obtain ⟨g109, h⟩ := fx_gt h
            refine fx_iast 109 oka4 dX6_player_109 g109 ?_
            refine fx_aload_n 110 dX6_player_110 rfl 0 rfl ?_
            refine fx_get 111 (j := 0) (v := .ref 1) okc0 dX6_player_111 lfX6_12 (by decide) (fun _ => rfl) ?_
            refine fx_dup 114 dX6_player_114 rfl ?_
            replace h := fx_ltd h
            generalize fx_st M105 4 (M105 1 0).toNatClampNeg x3 = M115 at h ⊢
            refine fx_get 115 (j := 0) (v := .int (M115 1 0)) okc1 dX6_player_115 lfX6_97 (by decide) (fun _ => rfl) ?_
            refine fx_iconst 118 (x := (1 : Int32)) dX6_player_118 (by decide) ?_
            refine fx_iadd 119 dX6_player_119 ?_
            refine fx_putI 120 (j := 0) okc1 dX6_player_120 lfX6_97 (by decide) rfl (by decide +kernel) (fun _ _ => Nat.le_of_ble_eq_true rfl) (fun _ _ _ => rfl) ?_
            refine fx_aload_n 123 dX6_player_123 rfl 0 rfl ?_
            refine fx_get 124 (j := 0) (v := .ref 1) okc0 dX6_player_124 lfX6_12 (by decide) (fun _ => rfl) ?_
            replace h := fx_ltd h
            generalize fx_st M115 1 0 ((M115 1 0) + (1 : Int32)) = M127 at h ⊢
            refine fx_get 127 (j := 0) (v := .int (M127 1 0)) okc1 dX6_player_127 lfX6_97 (by decide) (fun _ => rfl) ?_
            refine fx_iconst 130 (x := (1 : Int32)) dX6_player_130 (by decide) ?_
            refine fx_isub 131 dX6_player_131 ?_
            obtain rfl := Option.some.inj h
            exact fx_iret 132 dX6_player_132 rfl rfl ⟨rfl, rfl⟩
          · replace h := fx_ne c56 h
            refine fx_bipush 59 (x := (-4 : Int32)) dX6_player_59 (by decide) ?_
            obtain rfl := Option.some.inj h
            exact fx_iret 61 dX6_player_61 rfl rfl ⟨rfl, rfl⟩
        · replace h := fx_ne c41 h
          refine fx_bipush 44 (x := (-3 : Int32)) dX6_player_44 (by decide) ?_
          obtain rfl := Option.some.inj h
          exact fx_iret 46 dX6_player_46 rfl rfl ⟨rfl, rfl⟩
      · replace h := fx_ip c26 h
        refine fx_bipush 29 (x := (-2 : Int32)) dX6_player_29 (by decide) ?_
        obtain rfl := Option.some.inj h
        exact fx_iret 31 dX6_player_31 rfl rfl ⟨rfl, rfl⟩
    · replace h := fx_ip c15 h
      refine fx_iconst 18 (x := (-1 : Int32)) dX6_player_18 (by decide) ?_
      obtain rfl := Option.some.inj h
      exact fx_iret 19 dX6_player_19 rfl rfl ⟨rfl, rfl⟩
def mX6_isPlayer : fxM := (yX6_isPlayer, cX6_isPlayer, 2, (some .boolean), 3, 120)
theorem okvX6_isPlayer (f l : Nat) : fx_okV (yX6_isPlayer, cX6_isPlayer, 2, (some .boolean), f, l) 1 := ⟨⟨rin19 _ (List.mem_of_getElem? (i := 5) rfl), rin1 _ (List.mem_of_getElem? (i := 2) rfl), by show yX6_isPlayer.cls ≠ _; decide +kernel, by show yX6_isPlayer.cls ≠ _; decide +kernel, by show (parseMethodDescriptor yX6_isPlayer.desc).map _ = _; decide +kernel⟩, rin19 _ (List.mem_of_getElem? (i := 3) rfl), rin19 _ (List.mem_of_getElem? (i := 4) rfl)⟩
def CX6_isPlayer (x1 : Int32) (M : fxMem) : Option (Int32 × fxMem) := Option.bind (CX6_isBelow x1 (M 1 0) M) fun q8 => if fx_01 q8.1 = true then some (q8.1, q8.2) else none
set_option maxRecDepth 100000 in
set_option maxHeartbeats 4000000 in
theorem tX6_isPlayer {x1 : Int32} {M : fxMem} {R : Int32 × fxMem} (h : CX6_isPlayer x1 M = some R) : fx_T gC mX6_isPlayer [.ref 0, .int x1] M (fx_ri R) := by
  rw [CX6_isPlayer] at h
  refine fx_enter [(0, .ref 0), (1, .int x1)] (by show plainName RX6 = true; decide) (fun _ => rfl) (fun _ => Nat.le_of_ble_eq_true rfl) ?_
  refine fx_iload_n 0 dX6_isPlayer_0 rfl 1 rfl ?_
  refine fx_aload_n 1 dX6_isPlayer_1 rfl 0 rfl ?_
  refine fx_get 2 (j := 0) (v := .ref 1) okc0 dX6_isPlayer_2 lfX6_12 (by decide) (fun _ => rfl) ?_
  refine fx_get 5 (j := 0) (v := .int (M 1 0)) okc1 dX6_isPlayer_5 lfX6_97 (by decide) (fun _ => rfl) ?_
  obtain ⟨q8, e8, h⟩ := fx_bd h
  refine fx_callSi 8 (mt' := mX6_isBelow) (As := [.int x1, .int (M 1 0)]) (oksX6_isBelow _ _) lmX6_89 (by decide) rfl rfl (Nat.le_of_ble_eq_true rfl) dX6_isPlayer_8 (tX6_isBelow e8) ?_
  obtain ⟨gr, h⟩ := fx_gt h
  obtain rfl := Option.some.inj h
  exact fx_iret 11 dX6_isPlayer_11 rfl (fx_01n gr).1 ⟨rfl, rfl⟩
def mX6_rowOf : fxM := (yX6_rowOf, cX6_rowOf, 1, (some .int), 2, 80)
theorem oksX6_rowOf (f l : Nat) : fx_okS (yX6_rowOf, cX6_rowOf, 1, (some .int), f, l) 1 := ⟨⟨rin20 _ (List.mem_of_getElem? (i := 8) rfl), rin1 _ (List.mem_of_getElem? (i := 2) rfl), by show yX6_rowOf.cls ≠ _; decide +kernel, by show yX6_rowOf.cls ≠ _; decide +kernel, by show (parseMethodDescriptor yX6_rowOf.desc).map _ = _; decide +kernel⟩, rin20 _ (List.mem_of_getElem? (i := 7) rfl)⟩
def CX6_rowOf (x0 : Int32) (M : fxMem) : Option (Int32 × fxMem) := some (x0 >>> ((3 : Int32) &&& 31), M)
set_option maxRecDepth 100000 in
set_option maxHeartbeats 4000000 in
theorem tX6_rowOf {x0 : Int32} {M : fxMem} {R : Int32 × fxMem} (h : CX6_rowOf x0 M = some R) : fx_T gC mX6_rowOf [.int x0] M (fx_ri R) := by
  rw [CX6_rowOf] at h
  refine fx_enter [(0, .int x0)] (by show plainName RX6 = true; decide) (fun _ => rfl) (fun _ => Nat.le_of_ble_eq_true rfl) ?_
  refine fx_iload_n 0 dX6_rowOf_0 rfl 0 rfl ?_
  refine fx_iconst 1 (x := (3 : Int32)) dX6_rowOf_1 (by decide) ?_
  refine fx_ishr 2 dX6_rowOf_2 ?_
  obtain rfl := Option.some.inj h
  exact fx_iret 3 dX6_rowOf_3 rfl rfl ⟨rfl, rfl⟩
def mX6_columnOf : fxM := (yX6_columnOf, cX6_columnOf, 1, (some .int), 2, 80)
theorem oksX6_columnOf (f l : Nat) : fx_okS (yX6_columnOf, cX6_columnOf, 1, (some .int), f, l) 1 := ⟨⟨rin20 _ (List.mem_of_getElem? (i := 10) rfl), rin1 _ (List.mem_of_getElem? (i := 2) rfl), by show yX6_columnOf.cls ≠ _; decide +kernel, by show yX6_columnOf.cls ≠ _; decide +kernel, by show (parseMethodDescriptor yX6_columnOf.desc).map _ = _; decide +kernel⟩, rin20 _ (List.mem_of_getElem? (i := 9) rfl)⟩
def CX6_columnOf (x0 : Int32) (M : fxMem) : Option (Int32 × fxMem) := some (x0 &&& (7 : Int32), M)
set_option maxRecDepth 100000 in
set_option maxHeartbeats 4000000 in
theorem tX6_columnOf {x0 : Int32} {M : fxMem} {R : Int32 × fxMem} (h : CX6_columnOf x0 M = some R) : fx_T gC mX6_columnOf [.int x0] M (fx_ri R) := by
  rw [CX6_columnOf] at h
  refine fx_enter [(0, .int x0)] (by show plainName RX6 = true; decide) (fun _ => rfl) (fun _ => Nat.le_of_ble_eq_true rfl) ?_
  refine fx_iload_n 0 dX6_columnOf_0 rfl 0 rfl ?_
  refine fx_bipush 1 (x := (7 : Int32)) dX6_columnOf_1 (by decide) ?_
  refine fx_iand 3 dX6_columnOf_3 ?_
  obtain rfl := Option.some.inj h
  exact fx_iret 4 dX6_columnOf_4 rfl rfl ⟨rfl, rfl⟩
def mX3_passes : fxM := (yX3_passes, cX3_passes, 6, (some .boolean), 2, 80)
theorem oksX3_passes (f l : Nat) : fx_okS (yX3_passes, cX3_passes, 6, (some .boolean), f, l) 2 := ⟨⟨rin20 _ (List.mem_of_getElem? (i := 21) rfl), rin2 _ (List.mem_of_getElem? (i := 6) rfl), by show yX3_passes.cls ≠ _; decide +kernel, by show yX3_passes.cls ≠ _; decide +kernel, by show (parseMethodDescriptor yX3_passes.desc).map _ = _; decide +kernel⟩, rin20 _ (List.mem_of_getElem? (i := 20) rfl)⟩
def CX3_passes_J40  (x0 : Int32) (x2 : Int32) (x3 : Int32) (x4 : Int32) (t0 : Int32) (M : fxMem) : Option (Int32 × fxMem) := if x3 = (0 : Int32) then some ((if x2 ≤ t0 then (0 : Int32) else (1 : Int32)), M) else if x3 = (1 : Int32) then some ((if t0 = x2 then (1 : Int32) else (0 : Int32)), M) else some ((if t0 ≤ x2 then (0 : Int32) else (1 : Int32)), M)
set_option maxRecDepth 100000 in
set_option maxHeartbeats 4000000 in
theorem vX3_passes_J40  {x0 : Int32} {x2 : Int32} {x3 : Int32} {x4 : Int32} {t0 : Int32} {R : Int32 × fxMem} {M : fxMem} (h : CX3_passes_J40 x0 x2 x3 x4 t0 M = some R) : fx_V gC mX3_passes (fx_ri R) 40 [(0, .int x0), (1, .ref 63), (2, .int x2), (3, .int x3), (4, .int x4)] [.int t0] M := by
  rw [CX3_passes_J40] at h
  refine fx_istore 40 (lv' := [(5, .int t0), (0, .int x0), (1, .ref 63), (2, .int x2), (3, .int x3), (4, .int x4)]) dX3_passes_40 (Nat.le_of_ble_eq_true rfl) rfl ?_
  refine fx_iload_n 42 dX3_passes_42 rfl 4 rfl ?_
  by_cases s43_0 : x3 = (0 : Int32)
  · replace h := fx_ip s43_0 h
    refine fx_lsI 43 68 dX3_passes_43 (by decide) (by rw [s43_0]; try rfl) (by decide) ?_
    refine fx_iload 68 dX3_passes_68 0 rfl ?_
    refine fx_iload_n 70 dX3_passes_70 rfl 3 rfl ?_
    have J : fx_V gC mX3_passes (fx_ri R) 79 [(0, .int x0), (1, .ref 63), (2, .int x2), (3, .int x3), (4, .int x4), (5, .int t0)] [.int (if x2 ≤ t0 then (0 : Int32) else (1 : Int32))] M := by
      obtain rfl := Option.some.inj h
      exact fx_iret 79 dX3_passes_79 rfl (by (repeat' split) <;> rfl) ⟨rfl, rfl⟩
    refine fx_icmp_ge 71 78 dX3_passes_71 (by decide) (fun c71 => ?_) (fun c71 => ?_)
    · refine fx_iconst 78 (x := (0 : Int32)) dX3_passes_78 (by decide) ?_
      refine fx_sub (lv' := [(0, .int x0), (1, .ref 63), (2, .int x2), (3, .int x3), (4, .int x4), (5, .int t0)]) [1, 2, 3, 4, 5, 0] rfl ?_
      show fx_V gC mX3_passes (fx_ri R) 79 [(0, .int x0), (1, .ref 63), (2, .int x2), (3, .int x3), (4, .int x4), (5, .int t0)] [.int (0 : Int32)] M
      simpa only [if_pos c71] using J
    · refine fx_iconst 74 (x := (1 : Int32)) dX3_passes_74 (by decide) ?_
      refine fx_goto 75 79 dX3_passes_75 (by decide) ?_
      refine fx_sub (lv' := [(0, .int x0), (1, .ref 63), (2, .int x2), (3, .int x3), (4, .int x4), (5, .int t0)]) [1, 2, 3, 4, 5, 0] rfl ?_
      show fx_V gC mX3_passes (fx_ri R) 79 [(0, .int x0), (1, .ref 63), (2, .int x2), (3, .int x3), (4, .int x4), (5, .int t0)] [.int (1 : Int32)] M
      simpa only [if_neg c71] using J
  · replace h := fx_ne s43_0 h
    by_cases s43_1 : x3 = (1 : Int32)
    · replace h := fx_ip s43_1 h
      refine fx_lsI 43 80 dX3_passes_43 (by decide) (by rw [s43_1]; try rfl) (by decide) ?_
      refine fx_iload 80 dX3_passes_80 0 rfl ?_
      refine fx_iload_n 82 dX3_passes_82 rfl 3 rfl ?_
      have J : fx_V gC mX3_passes (fx_ri R) 91 [(0, .int x0), (1, .ref 63), (2, .int x2), (3, .int x3), (4, .int x4), (5, .int t0)] [.int (if t0 = x2 then (1 : Int32) else (0 : Int32))] M := by
        obtain rfl := Option.some.inj h
        exact fx_iret 91 dX3_passes_91 rfl (by (repeat' split) <;> rfl) ⟨rfl, rfl⟩
      refine fx_icmp_ne 83 90 dX3_passes_83 (by decide) (fun c83 => ?_) (fun c83 => ?_)
      · refine fx_iconst 90 (x := (0 : Int32)) dX3_passes_90 (by decide) ?_
        refine fx_sub (lv' := [(0, .int x0), (1, .ref 63), (2, .int x2), (3, .int x3), (4, .int x4), (5, .int t0)]) [1, 2, 3, 4, 5, 0] rfl ?_
        show fx_V gC mX3_passes (fx_ri R) 91 [(0, .int x0), (1, .ref 63), (2, .int x2), (3, .int x3), (4, .int x4), (5, .int t0)] [.int (0 : Int32)] M
        simpa only [if_neg c83] using J
      · refine fx_iconst 86 (x := (1 : Int32)) dX3_passes_86 (by decide) ?_
        refine fx_goto 87 91 dX3_passes_87 (by decide) ?_
        refine fx_sub (lv' := [(0, .int x0), (1, .ref 63), (2, .int x2), (3, .int x3), (4, .int x4), (5, .int t0)]) [1, 2, 3, 4, 5, 0] rfl ?_
        show fx_V gC mX3_passes (fx_ri R) 91 [(0, .int x0), (1, .ref 63), (2, .int x2), (3, .int x3), (4, .int x4), (5, .int t0)] [.int (1 : Int32)] M
        simpa only [if_pos c83] using J
    · replace h := fx_ne s43_1 h
      refine fx_lsD 43 92 [(0 : Int32), (1 : Int32)] dX3_passes_43 (by decide) (by decide) (by intro q hq; simp only [List.mem_cons, List.not_mem_nil, or_false] at hq; rcases hq with rfl | rfl <;> assumption) (by decide) ?_
      refine fx_iload 92 dX3_passes_92 0 rfl ?_
      refine fx_iload_n 94 dX3_passes_94 rfl 3 rfl ?_
      have J : fx_V gC mX3_passes (fx_ri R) 103 [(0, .int x0), (1, .ref 63), (2, .int x2), (3, .int x3), (4, .int x4), (5, .int t0)] [.int (if t0 ≤ x2 then (0 : Int32) else (1 : Int32))] M := by
        obtain rfl := Option.some.inj h
        exact fx_iret 103 dX3_passes_103 rfl (by (repeat' split) <;> rfl) ⟨rfl, rfl⟩
      refine fx_icmp_le 95 102 dX3_passes_95 (by decide) (fun c95 => ?_) (fun c95 => ?_)
      · refine fx_iconst 102 (x := (0 : Int32)) dX3_passes_102 (by decide) ?_
        refine fx_sub (lv' := [(0, .int x0), (1, .ref 63), (2, .int x2), (3, .int x3), (4, .int x4), (5, .int t0)]) [1, 2, 3, 4, 5, 0] rfl ?_
        show fx_V gC mX3_passes (fx_ri R) 103 [(0, .int x0), (1, .ref 63), (2, .int x2), (3, .int x3), (4, .int x4), (5, .int t0)] [.int (0 : Int32)] M
        simpa only [if_pos c95] using J
      · refine fx_iconst 98 (x := (1 : Int32)) dX3_passes_98 (by decide) ?_
        refine fx_goto 99 103 dX3_passes_99 (by decide) ?_
        refine fx_sub (lv' := [(0, .int x0), (1, .ref 63), (2, .int x2), (3, .int x3), (4, .int x4), (5, .int t0)]) [1, 2, 3, 4, 5, 0] rfl ?_
        show fx_V gC mX3_passes (fx_ri R) 103 [(0, .int x0), (1, .ref 63), (2, .int x2), (3, .int x3), (4, .int x4), (5, .int t0)] [.int (1 : Int32)] M
        simpa only [if_neg c95] using J
def CX3_passes_J39  (x0 : Int32) (x2 : Int32) (x3 : Int32) (x4 : Int32) (M : fxMem) : Option (Int32 × fxMem) := CX3_passes_J40 x0 x2 x3 x4 (0 : Int32) M
set_option maxRecDepth 100000 in
set_option maxHeartbeats 4000000 in
theorem vX3_passes_J39  {x0 : Int32} {x2 : Int32} {x3 : Int32} {x4 : Int32} {R : Int32 × fxMem} {M : fxMem} (h : CX3_passes_J39 x0 x2 x3 x4 M = some R) : fx_V gC mX3_passes (fx_ri R) 39 [(0, .int x0), (1, .ref 63), (2, .int x2), (3, .int x3), (4, .int x4)] [] M := by
  rw [CX3_passes_J39] at h
  refine fx_iconst 39 (x := (0 : Int32)) dX3_passes_39 (by decide) ?_
  refine fx_sub [0, 1, 2, 3, 4] rfl ?_
  exact vX3_passes_J40 h
def CX3_passes (x0 : Int32) (M : fxMem) : Option (Int32 × fxMem) := if (x0 / (100 : Int32)) / (3 : Int32) < (0 : Int32) then CX3_passes_J39 x0 (x0 - x0 / (100 : Int32) * (100 : Int32)) ((x0 / (100 : Int32)) - (x0 / (100 : Int32)) / (3 : Int32) * (3 : Int32)) ((x0 / (100 : Int32)) / (3 : Int32)) M else if (5 : Int32) ≤ (x0 / (100 : Int32)) / (3 : Int32) then CX3_passes_J39 x0 (x0 - x0 / (100 : Int32) * (100 : Int32)) ((x0 / (100 : Int32)) - (x0 / (100 : Int32)) / (3 : Int32) * (3 : Int32)) ((x0 / (100 : Int32)) / (3 : Int32)) M else if fx_in ((x0 / (100 : Int32)) / (3 : Int32)) 5 = true then CX3_passes_J40 x0 (x0 - x0 / (100 : Int32) * (100 : Int32)) ((x0 / (100 : Int32)) - (x0 / (100 : Int32)) / (3 : Int32) * (3 : Int32)) ((x0 / (100 : Int32)) / (3 : Int32)) (M 63 ((x0 / (100 : Int32)) / (3 : Int32)).toNatClampNeg) M else none
set_option maxRecDepth 100000 in
set_option maxHeartbeats 4000000 in
theorem tX3_passes {x0 : Int32} {M : fxMem} {R : Int32 × fxMem} (h : CX3_passes x0 M = some R) : fx_T gC mX3_passes [.int x0, .ref 63] M (fx_ri R) := by
  rw [CX3_passes] at h
  refine fx_enter [(0, .int x0), (1, .ref 63)] (by show plainName RX3 = true; decide) (fun _ => rfl) (fun _ => Nat.le_of_ble_eq_true rfl) ?_
  refine fx_iload_n 0 dX3_passes_0 rfl 0 rfl ?_
  refine fx_bipush 1 (x := (100 : Int32)) dX3_passes_1 (by decide) ?_
  refine fx_irem 3 dX3_passes_3 (by decide) ?_
  refine fx_istore_n 4 (lv' := [(2, .int (x0 - x0 / (100 : Int32) * (100 : Int32))), (0, .int x0), (1, .ref 63)]) dX3_passes_4 rfl (Nat.le_of_ble_eq_true rfl) rfl ?_
  refine fx_iload_n 5 dX3_passes_5 rfl 1 rfl ?_
  refine fx_bipush 6 (x := (100 : Int32)) dX3_passes_6 (by decide) ?_
  refine fx_idiv 8 dX3_passes_8 (by decide) ?_
  refine fx_iconst 9 (x := (3 : Int32)) dX3_passes_9 (by decide) ?_
  refine fx_irem 10 dX3_passes_10 (by decide) ?_
  refine fx_istore_n 11 (lv' := [(3, .int ((x0 / (100 : Int32)) - (x0 / (100 : Int32)) / (3 : Int32) * (3 : Int32))), (2, .int (x0 - x0 / (100 : Int32) * (100 : Int32))), (0, .int x0), (1, .ref 63)]) dX3_passes_11 rfl (Nat.le_of_ble_eq_true rfl) rfl ?_
  refine fx_iload_n 12 dX3_passes_12 rfl 2 rfl ?_
  refine fx_bipush 13 (x := (100 : Int32)) dX3_passes_13 (by decide) ?_
  refine fx_idiv 15 dX3_passes_15 (by decide) ?_
  refine fx_iconst 16 (x := (3 : Int32)) dX3_passes_16 (by decide) ?_
  refine fx_idiv 17 dX3_passes_17 (by decide) ?_
  refine fx_istore 18 (lv' := [(4, .int ((x0 / (100 : Int32)) / (3 : Int32))), (3, .int ((x0 / (100 : Int32)) - (x0 / (100 : Int32)) / (3 : Int32) * (3 : Int32))), (2, .int (x0 - x0 / (100 : Int32) * (100 : Int32))), (0, .int x0), (1, .ref 63)]) dX3_passes_18 (Nat.le_of_ble_eq_true rfl) rfl ?_
  refine fx_iload 20 dX3_passes_20 0 rfl ?_
  refine fx_if_lt 22 39 dX3_passes_22 (by decide) (fun c22 => ?_) (fun c22 => ?_)
  · replace h := fx_ip c22 h
    refine fx_sub [3, 4, 2, 1, 0] rfl ?_
    exact vX3_passes_J39 h
  · replace h := fx_ne c22 h
    refine fx_iload 25 dX3_passes_25 0 rfl ?_
    refine fx_aload_n 27 dX3_passes_27 rfl 4 rfl ?_
    refine fx_alen 28 (x := (5 : Int32)) oka63 (by decide) (by decide) dX3_passes_28 ?_
    refine fx_icmp_ge 29 39 dX3_passes_29 (by decide) (fun c29 => ?_) (fun c29 => ?_)
    · replace h := fx_ip c29 h
      refine fx_sub [3, 4, 2, 1, 0] rfl ?_
      exact vX3_passes_J39 h
    · replace h := fx_ne c29 h
      refine fx_aload_n 32 dX3_passes_32 rfl 4 rfl ?_
      refine fx_iload 33 dX3_passes_33 0 rfl ?_
      obtain ⟨g35, h⟩ := fx_gt h
      refine fx_iald 35 oka63 dX3_passes_35 g35 ?_
      refine fx_goto 36 40 dX3_passes_36 (by decide) ?_
      refine fx_sub [3, 4, 2, 1, 0] rfl ?_
      exact vX3_passes_J40 h
def mX3_holds : fxM := (yX3_holds, cX3_holds, 7, (some .boolean), 3, 120)
theorem okvX3_holds (f l : Nat) : fx_okV (yX3_holds, cX3_holds, 7, (some .boolean), f, l) 3 := ⟨⟨rin20 _ (List.mem_of_getElem? (i := 18) rfl), rin2 _ (List.mem_of_getElem? (i := 6) rfl), by show yX3_holds.cls ≠ _; decide +kernel, by show yX3_holds.cls ≠ _; decide +kernel, by show (parseMethodDescriptor yX3_holds.desc).map _ = _; decide +kernel⟩, rin20 _ (List.mem_of_getElem? (i := 16) rfl), rin20 _ (List.mem_of_getElem? (i := 17) rfl)⟩
def CX3_holds_L6 (x0 : Nat) (x1 : Int32) (x2 : Int32) : Nat → Int32 → Int32 → fxMem → (Int32 → Int32 → fxMem → Option (Int32 × fxMem)) → Option (Int32 × fxMem)
  | 0, _, _, _, _ => none
  | n + 1, x4, x5, M, k => if x2 ≤ x5 then k x4 x5 M else if fx_isSh x0 = true then if fx_in x5 120 = true then if M (x0 + 5) x5.toNatClampNeg = (-3 : Int32) then CX3_holds_L6 x0 x1 x2 n (((x4.toUInt32 >>> ((1 : Int32).toUInt32 &&& Int32.toUInt32 31)).toInt32) ||| (x4 &&& (1 : Int32))) (x5 + (1 : Int32)) M k else if M (x0 + 5) x5.toNatClampNeg = (-2 : Int32) then CX3_holds_L6 x0 x1 x2 n (((x4.toUInt32 >>> ((1 : Int32).toUInt32 &&& Int32.toUInt32 31)).toInt32) &&& ((x4 &&& (1 : Int32)) ||| (-2 : Int32))) (x5 + (1 : Int32)) M k else if M (x0 + 5) x5.toNatClampNeg = (-1 : Int32) then CX3_holds_L6 x0 x1 x2 n (x4 ^^^ (1 : Int32)) (x5 + (1 : Int32)) M k else Option.bind (CX3_passes (M (x0 + 5) x5.toNatClampNeg) M) fun q100 => CX3_holds_L6 x0 x1 x2 n ((x4 <<< ((1 : Int32) &&& 31)) ||| (if q100.1 = (0 : Int32) then (0 : Int32) else (1 : Int32))) (x5 + (1 : Int32)) q100.2 k else none else none
set_option maxRecDepth 100000 in
set_option maxHeartbeats 4000000 in
theorem vX3_holds_L6 {x0 : Nat} {x1 : Int32} {x2 : Int32} {R : Int32 × fxMem} {k : Int32 → Int32 → fxMem → Option (Int32 × fxMem)} (hk : ∀ (x4 : Int32) (x5 : Int32) (M : fxMem), k x4 x5 M = some R → fx_V gC mX3_holds (fx_ri R) 120 [(0, .ref x0), (1, .int x1), (2, .int x2), (3, .ref 63), (4, .int x4), (5, .int x5)] [] M) : ∀ (n : Nat) (x4 : Int32) (x5 : Int32) (M : fxMem), CX3_holds_L6 x0 x1 x2 n x4 x5 M k = some R → fx_V gC mX3_holds (fx_ri R) 6 [(0, .ref x0), (1, .int x1), (2, .int x2), (3, .ref 63), (4, .int x4), (5, .int x5)] [] M := by
  intro n
  induction n with
  | zero => intro x4 x5 M h; rw [CX3_holds_L6] at h; cases h
  | succ n ih =>
    intro x4 x5 M h
    rw [CX3_holds_L6] at h
    refine fx_iload 6 dX3_holds_6 5 rfl ?_
    refine fx_iload_n 8 dX3_holds_8 rfl 2 rfl ?_
    refine fx_icmp_ge 9 120 dX3_holds_9 (by decide) (fun c9 => ?_) (fun c9 => ?_)
    · replace h := fx_ip c9 h
      refine fx_sub [0, 1, 2, 3, 4, 5] rfl ?_
      exact hk _ _ _ h
    · replace h := fx_ne c9 h
      refine fx_iload 12 dX3_holds_12 4 rfl ?_
      refine fx_iconst 14 (x := (1 : Int32)) dX3_holds_14 (by decide) ?_
      refine fx_iand 15 dX3_holds_15 ?_
      refine fx_istore 16 (lv' := [(6, .int (x4 &&& (1 : Int32))), (0, .ref x0), (1, .int x1), (2, .int x2), (3, .ref 63), (4, .int x4), (5, .int x5)]) dX3_holds_16 (Nat.le_of_ble_eq_true rfl) rfl ?_
      refine fx_aload_n 18 dX3_holds_18 rfl 1 rfl ?_
      obtain ⟨g19, h⟩ := fx_gt h
      refine fx_get 19 (j := 9) (v := .ref (x0 + 5)) (okcS g19) dX3_holds_19 lfX3_40 (by decide) (fun _ => rfl) ?_
      refine fx_iload 22 dX3_holds_22 6 rfl ?_
      obtain ⟨g24, h⟩ := fx_gt h
      refine fx_iald 24 (okaS5 g19) dX3_holds_24 g24 ?_
      by_cases s25_0 : M (x0 + 5) x5.toNatClampNeg = (-3 : Int32)
      · replace h := fx_ip s25_0 h
        refine fx_tsI 25 76 dX3_holds_25 (by rw [s25_0]; decide) (by rw [s25_0]; decide) (by rw [s25_0]; try rfl) (by decide) ?_
        refine fx_iload 76 dX3_holds_76 5 rfl ?_
        refine fx_iconst 78 (x := (1 : Int32)) dX3_holds_78 (by decide) ?_
        refine fx_iushr 79 dX3_holds_79 ?_
        refine fx_iload 80 dX3_holds_80 0 rfl ?_
        refine fx_ior 82 dX3_holds_82 ?_
        refine fx_istore 83 (lv' := [(4, .int (((x4.toUInt32 >>> ((1 : Int32).toUInt32 &&& Int32.toUInt32 31)).toInt32) ||| (x4 &&& (1 : Int32)))), (6, .int (x4 &&& (1 : Int32))), (0, .ref x0), (1, .int x1), (2, .int x2), (3, .ref 63), (5, .int x5)]) dX3_holds_83 (Nat.le_of_ble_eq_true rfl) rfl ?_
        refine fx_goto 85 114 dX3_holds_85 (by decide) ?_
        refine fx_iinc 114 (lv' := [(5, .int (x5 + (1 : Int32))), (4, .int (((x4.toUInt32 >>> ((1 : Int32).toUInt32 &&& Int32.toUInt32 31)).toInt32) ||| (x4 &&& (1 : Int32)))), (6, .int (x4 &&& (1 : Int32))), (0, .ref x0), (1, .int x1), (2, .int x2), (3, .ref 63)]) (y := x5 + (1 : Int32)) dX3_holds_114 6 rfl (by rfl) (Nat.le_of_ble_eq_true rfl) rfl ?_
        refine fx_goto 117 6 dX3_holds_117 (by decide) ?_
        refine fx_sub [3, 4, 5, 6, 1, 0] rfl ?_
        exact ih _ _ _ h
      · replace h := fx_ne s25_0 h
        by_cases s25_1 : M (x0 + 5) x5.toNatClampNeg = (-2 : Int32)
        · replace h := fx_ip s25_1 h
          refine fx_tsI 25 61 dX3_holds_25 (by rw [s25_1]; decide) (by rw [s25_1]; decide) (by rw [s25_1]; try rfl) (by decide) ?_
          refine fx_iload 61 dX3_holds_61 5 rfl ?_
          refine fx_iconst 63 (x := (1 : Int32)) dX3_holds_63 (by decide) ?_
          refine fx_iushr 64 dX3_holds_64 ?_
          refine fx_iload 65 dX3_holds_65 0 rfl ?_
          refine fx_bipush 67 (x := (-2 : Int32)) dX3_holds_67 (by decide) ?_
          refine fx_ior 69 dX3_holds_69 ?_
          refine fx_iand 70 dX3_holds_70 ?_
          refine fx_istore 71 (lv' := [(4, .int (((x4.toUInt32 >>> ((1 : Int32).toUInt32 &&& Int32.toUInt32 31)).toInt32) &&& ((x4 &&& (1 : Int32)) ||| (-2 : Int32)))), (6, .int (x4 &&& (1 : Int32))), (0, .ref x0), (1, .int x1), (2, .int x2), (3, .ref 63), (5, .int x5)]) dX3_holds_71 (Nat.le_of_ble_eq_true rfl) rfl ?_
          refine fx_goto 73 114 dX3_holds_73 (by decide) ?_
          refine fx_iinc 114 (lv' := [(5, .int (x5 + (1 : Int32))), (4, .int (((x4.toUInt32 >>> ((1 : Int32).toUInt32 &&& Int32.toUInt32 31)).toInt32) &&& ((x4 &&& (1 : Int32)) ||| (-2 : Int32)))), (6, .int (x4 &&& (1 : Int32))), (0, .ref x0), (1, .int x1), (2, .int x2), (3, .ref 63)]) (y := x5 + (1 : Int32)) dX3_holds_114 6 rfl (by rfl) (Nat.le_of_ble_eq_true rfl) rfl ?_
          refine fx_goto 117 6 dX3_holds_117 (by decide) ?_
          refine fx_sub [3, 4, 5, 6, 1, 0] rfl ?_
          exact ih _ _ _ h
        · replace h := fx_ne s25_1 h
          by_cases s25_2 : M (x0 + 5) x5.toNatClampNeg = (-1 : Int32)
          · replace h := fx_ip s25_2 h
            refine fx_tsI 25 52 dX3_holds_25 (by rw [s25_2]; decide) (by rw [s25_2]; decide) (by rw [s25_2]; try rfl) (by decide) ?_
            refine fx_iload 52 dX3_holds_52 5 rfl ?_
            refine fx_iconst 54 (x := (1 : Int32)) dX3_holds_54 (by decide) ?_
            refine fx_ixor 55 dX3_holds_55 ?_
            refine fx_istore 56 (lv' := [(4, .int (x4 ^^^ (1 : Int32))), (6, .int (x4 &&& (1 : Int32))), (0, .ref x0), (1, .int x1), (2, .int x2), (3, .ref 63), (5, .int x5)]) dX3_holds_56 (Nat.le_of_ble_eq_true rfl) rfl ?_
            refine fx_goto 58 114 dX3_holds_58 (by decide) ?_
            refine fx_iinc 114 (lv' := [(5, .int (x5 + (1 : Int32))), (4, .int (x4 ^^^ (1 : Int32))), (6, .int (x4 &&& (1 : Int32))), (0, .ref x0), (1, .int x1), (2, .int x2), (3, .ref 63)]) (y := x5 + (1 : Int32)) dX3_holds_114 6 rfl (by rfl) (Nat.le_of_ble_eq_true rfl) rfl ?_
            refine fx_goto 117 6 dX3_holds_117 (by decide) ?_
            refine fx_sub [3, 4, 5, 6, 1, 0] rfl ?_
            exact ih _ _ _ h
          · replace h := fx_ne s25_2 h
            refine fx_tsD 25 88 [(-3 : Int32), (-2 : Int32), (-1 : Int32)] dX3_holds_25 (by decide) (by decide) (by intro q hq; simp only [List.mem_cons, List.not_mem_nil, or_false] at hq; rcases hq with rfl | rfl | rfl <;> assumption) (by decide) ?_
            refine fx_iload 88 dX3_holds_88 5 rfl ?_
            refine fx_iconst 90 (x := (1 : Int32)) dX3_holds_90 (by decide) ?_
            refine fx_ishl 91 dX3_holds_91 ?_
            refine fx_aload_n 92 dX3_holds_92 rfl 1 rfl ?_
            refine fx_get 93 (j := 9) (v := .ref (x0 + 5)) (okcS g19) dX3_holds_93 lfX3_40 (by decide) (fun _ => rfl) ?_
            refine fx_iload 96 dX3_holds_96 6 rfl ?_
            refine fx_iald 98 (okaS5 g19) dX3_holds_98 g24 ?_
            refine fx_aload_n 99 dX3_holds_99 rfl 4 rfl ?_
            obtain ⟨q100, e100, h⟩ := fx_bd h
            refine fx_callSi 100 (mt' := mX3_passes) (As := [.int (M (x0 + 5) x5.toNatClampNeg), .ref 63]) (oksX3_passes _ _) lmX3_53 (by decide) rfl rfl (Nat.le_of_ble_eq_true rfl) dX3_holds_100 (tX3_passes e100) ?_
            have J : fx_V gC mX3_holds (fx_ri R) 111 [(0, .ref x0), (1, .int x1), (2, .int x2), (3, .ref 63), (4, .int x4), (5, .int x5), (6, .int (x4 &&& (1 : Int32)))] [.int (if q100.1 = (0 : Int32) then (0 : Int32) else (1 : Int32)), .int (x4 <<< ((1 : Int32) &&& 31))] q100.2 := by
              refine fx_ior 111 dX3_holds_111 ?_
              refine fx_istore 112 (lv' := [(4, .int ((x4 <<< ((1 : Int32) &&& 31)) ||| (if q100.1 = (0 : Int32) then (0 : Int32) else (1 : Int32)))), (0, .ref x0), (1, .int x1), (2, .int x2), (3, .ref 63), (5, .int x5), (6, .int (x4 &&& (1 : Int32)))]) dX3_holds_112 (Nat.le_of_ble_eq_true rfl) rfl ?_
              refine fx_iinc 114 (lv' := [(5, .int (x5 + (1 : Int32))), (4, .int ((x4 <<< ((1 : Int32) &&& 31)) ||| (if q100.1 = (0 : Int32) then (0 : Int32) else (1 : Int32)))), (0, .ref x0), (1, .int x1), (2, .int x2), (3, .ref 63), (6, .int (x4 &&& (1 : Int32)))]) (y := x5 + (1 : Int32)) dX3_holds_114 5 rfl (by rfl) (Nat.le_of_ble_eq_true rfl) rfl ?_
              refine fx_goto 117 6 dX3_holds_117 (by decide) ?_
              refine fx_sub [2, 3, 4, 5, 1, 0] rfl ?_
              exact ih _ _ _ h
            refine fx_if_eq 103 110 dX3_holds_103 (by decide) (fun c103 => ?_) (fun c103 => ?_)
            · refine fx_iconst 110 (x := (0 : Int32)) dX3_holds_110 (by decide) ?_
              refine fx_sub (lv' := [(0, .ref x0), (1, .int x1), (2, .int x2), (3, .ref 63), (4, .int x4), (5, .int x5), (6, .int (x4 &&& (1 : Int32)))]) [1, 2, 3, 4, 5, 6, 0] rfl ?_
              show fx_V gC mX3_holds (fx_ri R) 111 [(0, .ref x0), (1, .int x1), (2, .int x2), (3, .ref 63), (4, .int x4), (5, .int x5), (6, .int (x4 &&& (1 : Int32)))] [.int (0 : Int32), .int (x4 <<< ((1 : Int32) &&& 31))] q100.2
              simpa only [if_pos c103] using J
            · refine fx_iconst 106 (x := (1 : Int32)) dX3_holds_106 (by decide) ?_
              refine fx_goto 107 111 dX3_holds_107 (by decide) ?_
              refine fx_sub (lv' := [(0, .ref x0), (1, .int x1), (2, .int x2), (3, .ref 63), (4, .int x4), (5, .int x5), (6, .int (x4 &&& (1 : Int32)))]) [1, 2, 3, 4, 5, 6, 0] rfl ?_
              show fx_V gC mX3_holds (fx_ri R) 111 [(0, .ref x0), (1, .int x1), (2, .int x2), (3, .ref 63), (4, .int x4), (5, .int x5), (6, .int (x4 &&& (1 : Int32)))] [.int (1 : Int32), .int (x4 <<< ((1 : Int32) &&& 31))] q100.2
              simpa only [if_neg c103] using J
def CX3_holds (x0 : Nat) (x1 : Int32) (x2 : Int32) (M : fxMem) : Option (Int32 × fxMem) := CX3_holds_L6 x0 x1 x2 1000 (0 : Int32) x1 M (fun y4_6 y5_6 M6 => some ((if y4_6 &&& (1 : Int32) = (1 : Int32) then (1 : Int32) else (0 : Int32)), M6))
set_option maxRecDepth 100000 in
set_option maxHeartbeats 4000000 in
theorem tX3_holds {x0 : Nat} {x1 : Int32} {x2 : Int32} {M : fxMem} {R : Int32 × fxMem} (h : CX3_holds x0 x1 x2 M = some R) : fx_T gC mX3_holds [.ref x0, .int x1, .int x2, .ref 63] M (fx_ri R) := by
  rw [CX3_holds] at h
  refine fx_enter [(0, .ref x0), (1, .int x1), (2, .int x2), (3, .ref 63)] (by show plainName RX3 = true; decide) (fun _ => rfl) (fun _ => Nat.le_of_ble_eq_true rfl) ?_
  refine fx_iconst 0 (x := (0 : Int32)) dX3_holds_0 (by decide) ?_
  refine fx_istore 1 (lv' := [(4, .int (0 : Int32)), (0, .ref x0), (1, .int x1), (2, .int x2), (3, .ref 63)]) dX3_holds_1 (Nat.le_of_ble_eq_true rfl) rfl ?_
  refine fx_iload_n 3 dX3_holds_3 rfl 2 rfl ?_
  refine fx_istore 4 (lv' := [(5, .int x1), (4, .int (0 : Int32)), (0, .ref x0), (1, .int x1), (2, .int x2), (3, .ref 63)]) dX3_holds_4 (Nat.le_of_ble_eq_true rfl) rfl ?_
  refine fx_sub [2, 3, 4, 5, 1, 0] rfl ?_
  refine vX3_holds_L6 (fun y4_6 y5_6 M6 h => ?_) 1000 _ _ _ h
  refine fx_iload 120 dX3_holds_120 4 rfl ?_
  refine fx_iconst 122 (x := (1 : Int32)) dX3_holds_122 (by decide) ?_
  refine fx_iand 123 dX3_holds_123 ?_
  refine fx_iconst 124 (x := (1 : Int32)) dX3_holds_124 (by decide) ?_
  have J : fx_V gC mX3_holds (fx_ri R) 133 [(0, .ref x0), (1, .int x1), (2, .int x2), (3, .ref 63), (4, .int y4_6), (5, .int y5_6)] [.int (if y4_6 &&& (1 : Int32) = (1 : Int32) then (1 : Int32) else (0 : Int32))] M6 := by
    obtain rfl := Option.some.inj h
    exact fx_iret 133 dX3_holds_133 rfl (by (repeat' split) <;> rfl) ⟨rfl, rfl⟩
  refine fx_icmp_ne 125 132 dX3_holds_125 (by decide) (fun c125 => ?_) (fun c125 => ?_)
  · refine fx_iconst 132 (x := (0 : Int32)) dX3_holds_132 (by decide) ?_
    refine fx_sub (lv' := [(0, .ref x0), (1, .int x1), (2, .int x2), (3, .ref 63), (4, .int y4_6), (5, .int y5_6)]) [0, 1, 2, 3, 4, 5] rfl ?_
    show fx_V gC mX3_holds (fx_ri R) 133 [(0, .ref x0), (1, .int x1), (2, .int x2), (3, .ref 63), (4, .int y4_6), (5, .int y5_6)] [.int (0 : Int32)] M6
    simpa only [if_neg c125] using J
  · refine fx_iconst 128 (x := (1 : Int32)) dX3_holds_128 (by decide) ?_
    refine fx_goto 129 133 dX3_holds_129 (by decide) ?_
    refine fx_sub (lv' := [(0, .ref x0), (1, .int x1), (2, .int x2), (3, .ref 63), (4, .int y4_6), (5, .int y5_6)]) [0, 1, 2, 3, 4, 5] rfl ?_
    show fx_V gC mX3_holds (fx_ri R) 133 [(0, .ref x0), (1, .int x1), (2, .int x2), (3, .ref 63), (4, .int y4_6), (5, .int y5_6)] [.int (1 : Int32)] M6
    simpa only [if_pos c125] using J
def mX3_sumOf : fxM := (yX3_sumOf, cX3_sumOf, 5, (some .int), 4, 160)
theorem okvX3_sumOf (f l : Nat) : fx_okV (yX3_sumOf, cX3_sumOf, 5, (some .int), f, l) 2 := ⟨⟨rin20 _ (List.mem_of_getElem? (i := 14) rfl), rin2 _ (List.mem_of_getElem? (i := 6) rfl), by show yX3_sumOf.cls ≠ _; decide +kernel, by show yX3_sumOf.cls ≠ _; decide +kernel, by show (parseMethodDescriptor yX3_sumOf.desc).map _ = _; decide +kernel⟩, rin20 _ (List.mem_of_getElem? (i := 12) rfl), rin20 _ (List.mem_of_getElem? (i := 13) rfl)⟩
def CX3_sumOf_L5 (x0 : Nat) (x1 : Int32) : Nat → Int32 → Int32 → fxMem → (Int32 → Int32 → fxMem → Option (Int32 × fxMem)) → Option (Int32 × fxMem)
  | 0, _, _, _, _ => none
  | n + 1, x3, x4, M, k => if fx_isSh x0 = true then if M x0 3 ≤ x4 then k x3 x4 M else if fx_in x4 10 = true then if M (x0 + 1) x4.toNatClampNeg = x1 then Option.bind (CX3_holds x0 (M (x0 + 3) x4.toNatClampNeg) (M (x0 + 4) x4.toNatClampNeg) M) fun q41 => CX3_sumOf_L5 x0 x1 n (if q41.1 = (0 : Int32) then x3 else x3 + (q41.2 (x0 + 2) x4.toNatClampNeg)) (x4 + (1 : Int32)) q41.2 k else CX3_sumOf_L5 x0 x1 n x3 (x4 + (1 : Int32)) M k else none else none
set_option maxRecDepth 100000 in
set_option maxHeartbeats 4000000 in
theorem vX3_sumOf_L5 {x0 : Nat} {x1 : Int32} {R : Int32 × fxMem} {k : Int32 → Int32 → fxMem → Option (Int32 × fxMem)} (hk : ∀ (x3 : Int32) (x4 : Int32) (M : fxMem), k x3 x4 M = some R → fx_V gC mX3_sumOf (fx_ri R) 63 [(0, .ref x0), (1, .int x1), (2, .ref 63), (3, .int x3), (4, .int x4)] [] M) : ∀ (n : Nat) (x3 : Int32) (x4 : Int32) (M : fxMem), CX3_sumOf_L5 x0 x1 n x3 x4 M k = some R → fx_V gC mX3_sumOf (fx_ri R) 5 [(0, .ref x0), (1, .int x1), (2, .ref 63), (3, .int x3), (4, .int x4)] [] M := by
  intro n
  induction n with
  | zero => intro x3 x4 M h; rw [CX3_sumOf_L5] at h; cases h
  | succ n ih =>
    intro x3 x4 M h
    rw [CX3_sumOf_L5] at h
    refine fx_iload 5 dX3_sumOf_5 4 rfl ?_
    refine fx_aload_n 7 dX3_sumOf_7 rfl 0 rfl ?_
    obtain ⟨g8, h⟩ := fx_gt h
    refine fx_get 8 (j := 3) (v := .int (M x0 3)) (okcS g8) dX3_sumOf_8 lfX3_21 (by decide) (fun _ => rfl) ?_
    refine fx_icmp_ge 11 63 dX3_sumOf_11 (by decide) (fun c11 => ?_) (fun c11 => ?_)
    · replace h := fx_ip c11 h
      refine fx_sub [0, 1, 2, 3, 4] rfl ?_
      exact hk _ _ _ h
    · replace h := fx_ne c11 h
      refine fx_aload_n 14 dX3_sumOf_14 rfl 0 rfl ?_
      refine fx_get 15 (j := 4) (v := .ref (x0 + 1)) (okcS g8) dX3_sumOf_15 lfX3_24 (by decide) (fun _ => rfl) ?_
      refine fx_iload 18 dX3_sumOf_18 4 rfl ?_
      obtain ⟨g20, h⟩ := fx_gt h
      refine fx_iald 20 (okaS1 g8) dX3_sumOf_20 g20 ?_
      refine fx_iload_n 21 dX3_sumOf_21 rfl 1 rfl ?_
      refine fx_icmp_ne 22 57 dX3_sumOf_22 (by decide) (fun c22 => ?_) (fun c22 => ?_)
      · replace h := fx_ne c22 h
        refine fx_iinc 57 (lv' := [(4, .int (x4 + (1 : Int32))), (0, .ref x0), (1, .int x1), (2, .ref 63), (3, .int x3)]) (y := x4 + (1 : Int32)) dX3_sumOf_57 4 rfl (by rfl) (Nat.le_of_ble_eq_true rfl) rfl ?_
        refine fx_goto 60 5 dX3_sumOf_60 (by decide) ?_
        refine fx_sub [1, 2, 3, 4, 0] rfl ?_
        exact ih _ _ _ h
      · replace h := fx_ip c22 h
        refine fx_aload_n 25 dX3_sumOf_25 rfl 0 rfl ?_
        refine fx_aload_n 26 dX3_sumOf_26 rfl 0 rfl ?_
        refine fx_get 27 (j := 6) (v := .ref (x0 + 3)) (okcS g8) dX3_sumOf_27 lfX3_31 (by decide) (fun _ => rfl) ?_
        refine fx_iload 30 dX3_sumOf_30 4 rfl ?_
        refine fx_iald 32 (okaS3 g8) dX3_sumOf_32 g20 ?_
        refine fx_aload_n 33 dX3_sumOf_33 rfl 0 rfl ?_
        refine fx_get 34 (j := 7) (v := .ref (x0 + 4)) (okcS g8) dX3_sumOf_34 lfX3_34 (by decide) (fun _ => rfl) ?_
        refine fx_iload 37 dX3_sumOf_37 4 rfl ?_
        refine fx_iald 39 (okaS4 g8) dX3_sumOf_39 g20 ?_
        refine fx_aload_n 40 dX3_sumOf_40 rfl 2 rfl ?_
        obtain ⟨q41, e41, h⟩ := fx_bd h
        refine fx_callVi 41 (mt' := mX3_holds) (As := [.int (M (x0 + 3) x4.toNatClampNeg), .int (M (x0 + 4) x4.toNatClampNeg), .ref 63]) (okcS g8) (okvX3_holds _ _) lmX3_49 (by decide) rfl rfl (Nat.le_of_ble_eq_true rfl) dX3_sumOf_41 (tX3_holds e41) ?_
        have J : fx_V gC mX3_sumOf (fx_ri R) 57 [(0, .ref x0), (1, .int x1), (2, .ref 63), (3, .int (if q41.1 = (0 : Int32) then x3 else x3 + (q41.2 (x0 + 2) x4.toNatClampNeg))), (4, .int x4)] [] q41.2 := by
          refine fx_iinc 57 (lv' := [(4, .int (x4 + (1 : Int32))), (0, .ref x0), (1, .int x1), (2, .ref 63), (3, .int (if q41.1 = (0 : Int32) then x3 else x3 + (q41.2 (x0 + 2) x4.toNatClampNeg)))]) (y := x4 + (1 : Int32)) dX3_sumOf_57 4 rfl (by rfl) (Nat.le_of_ble_eq_true rfl) rfl ?_
          refine fx_goto 60 5 dX3_sumOf_60 (by decide) ?_
          refine fx_sub [1, 2, 3, 4, 0] rfl ?_
          exact ih _ _ _ h
        refine fx_if_eq 44 57 dX3_sumOf_44 (by decide) (fun c44 => ?_) (fun c44 => ?_)
        · refine fx_sub (lv' := [(0, .ref x0), (1, .int x1), (2, .ref 63), (3, .int x3), (4, .int x4)]) [0, 1, 2, 3, 4] rfl ?_
          show fx_V gC mX3_sumOf (fx_ri R) 57 [(0, .ref x0), (1, .int x1), (2, .ref 63), (3, .int x3), (4, .int x4)] [] q41.2
          simpa only [if_pos c44] using J
        · refine fx_iload_n 47 dX3_sumOf_47 rfl 3 rfl ?_
          refine fx_aload_n 48 dX3_sumOf_48 rfl 0 rfl ?_
          refine fx_get 49 (j := 5) (v := .ref (x0 + 2)) (okcS g8) dX3_sumOf_49 lfX3_28 (by decide) (fun _ => rfl) ?_
          refine fx_iload 52 dX3_sumOf_52 4 rfl ?_
          refine fx_iald 54 (okaS2 g8) dX3_sumOf_54 g20 ?_
          refine fx_iadd 55 dX3_sumOf_55 ?_
          refine fx_istore_n 56 (lv' := [(3, .int (x3 + (q41.2 (x0 + 2) x4.toNatClampNeg))), (0, .ref x0), (1, .int x1), (2, .ref 63), (4, .int x4)]) dX3_sumOf_56 rfl (Nat.le_of_ble_eq_true rfl) rfl ?_
          refine fx_sub (lv' := [(0, .ref x0), (1, .int x1), (2, .ref 63), (3, .int (x3 + (q41.2 (x0 + 2) x4.toNatClampNeg))), (4, .int x4)]) [1, 2, 3, 0, 4] rfl ?_
          show fx_V gC mX3_sumOf (fx_ri R) 57 [(0, .ref x0), (1, .int x1), (2, .ref 63), (3, .int (x3 + (q41.2 (x0 + 2) x4.toNatClampNeg))), (4, .int x4)] [] q41.2
          simpa only [if_neg c44] using J
def CX3_sumOf (x0 : Nat) (x1 : Int32) (M : fxMem) : Option (Int32 × fxMem) := CX3_sumOf_L5 x0 x1 1000 (0 : Int32) (0 : Int32) M (fun y3_5 y4_5 M5 => some (y3_5, M5))
set_option maxRecDepth 100000 in
set_option maxHeartbeats 4000000 in
theorem tX3_sumOf {x0 : Nat} {x1 : Int32} {M : fxMem} {R : Int32 × fxMem} (h : CX3_sumOf x0 x1 M = some R) : fx_T gC mX3_sumOf [.ref x0, .int x1, .ref 63] M (fx_ri R) := by
  rw [CX3_sumOf] at h
  refine fx_enter [(0, .ref x0), (1, .int x1), (2, .ref 63)] (by show plainName RX3 = true; decide) (fun _ => rfl) (fun _ => Nat.le_of_ble_eq_true rfl) ?_
  refine fx_iconst 0 (x := (0 : Int32)) dX3_sumOf_0 (by decide) ?_
  refine fx_istore_n 1 (lv' := [(3, .int (0 : Int32)), (0, .ref x0), (1, .int x1), (2, .ref 63)]) dX3_sumOf_1 rfl (Nat.le_of_ble_eq_true rfl) rfl ?_
  refine fx_iconst 2 (x := (0 : Int32)) dX3_sumOf_2 (by decide) ?_
  refine fx_istore 3 (lv' := [(4, .int (0 : Int32)), (3, .int (0 : Int32)), (0, .ref x0), (1, .int x1), (2, .ref 63)]) dX3_sumOf_3 (Nat.le_of_ble_eq_true rfl) rfl ?_
  refine fx_sub [2, 3, 4, 1, 0] rfl ?_
  refine vX3_sumOf_L5 (fun y3_5 y4_5 M5 h => ?_) 1000 _ _ _ h
  refine fx_iload_n 63 dX3_sumOf_63 rfl 3 rfl ?_
  obtain rfl := Option.some.inj h
  exact fx_iret 64 dX3_sumOf_64 rfl rfl ⟨rfl, rfl⟩
def mX4_sumFor : fxM := (yX4_sumFor, cX4_sumFor, 3, (some .int), 5, 200)
theorem okvX4_sumFor (f l : Nat) : fx_okV (yX4_sumFor, cX4_sumFor, 3, (some .int), f, l) 2 := ⟨⟨rin20 _ (List.mem_of_getElem? (i := 4) rfl), rin2 _ (List.mem_of_getElem? (i := 13) rfl), by show yX4_sumFor.cls ≠ _; decide +kernel, by show yX4_sumFor.cls ≠ _; decide +kernel, by show (parseMethodDescriptor yX4_sumFor.desc).map _ = _; decide +kernel⟩, rin20 _ (List.mem_of_getElem? (i := 2) rfl), rin20 _ (List.mem_of_getElem? (i := 3) rfl)⟩
def CX4_sumFor (x1 : Int32) (x2 : Int32) (M : fxMem) : Option (Int32 × fxMem) := if fx_in (0 : Int32) 5 = true then fx_lt (fx_st M 63 (0 : Int32).toNatClampNeg x2) fun M20 => if fx_in x2 10 = true then Option.bind (CX6_rowOf (M20 4 x2.toNatClampNeg) M20) fun q21 => if fx_in (1 : Int32) 5 = true then fx_lt (fx_st q21.2 63 (1 : Int32).toNatClampNeg q21.1) fun M38 => Option.bind (CX6_columnOf (M38 4 x2.toNatClampNeg) M38) fun q39 => if fx_in (2 : Int32) 5 = true then fx_lt (fx_st q39.2 63 (2 : Int32).toNatClampNeg q39.1) fun M53 => if fx_in (3 : Int32) 5 = true then fx_lt (fx_st M53 63 (3 : Int32).toNatClampNeg (M53 59 x2.toNatClampNeg)) fun M68 => if fx_in (4 : Int32) 5 = true then fx_lt (fx_st M68 63 (4 : Int32).toNatClampNeg (M68 3 x2.toNatClampNeg)) fun M71 => if fx_isSh ((M71 58 1).toNatClampNeg) = true then Option.bind (CX3_sumOf ((M71 58 1).toNatClampNeg) x1 M71) fun q79 => some (q79.1, q79.2) else none else none else none else none else none else none else none
set_option maxRecDepth 100000 in
set_option maxHeartbeats 4000000 in
theorem tX4_sumFor {x1 : Int32} {x2 : Int32} {M : fxMem} {R : Int32 × fxMem} (h : CX4_sumFor x1 x2 M = some R) : fx_T gC mX4_sumFor [.ref 58, .int x1, .int x2] M (fx_ri R) := by
  rw [CX4_sumFor] at h
  refine fx_enter [(0, .ref 58), (1, .int x1), (2, .int x2)] (by show plainName RX4 = true; decide) (fun _ => rfl) (fun _ => Nat.le_of_ble_eq_true rfl) ?_
  refine fx_aload_n 0 dX4_sumFor_0 rfl 0 rfl ?_
  refine fx_get 1 (j := 8) (v := .ref 63) okc58 dX4_sumFor_1 lfX4_39 (by decide) (fun _ => rfl) ?_
  refine fx_iconst 4 (x := (0 : Int32)) dX4_sumFor_4 (by decide) ?_
  refine fx_iload_n 5 dX4_sumFor_5 rfl 2 rfl ?_
  obtain ⟨g6, h⟩ := fx_gt h
  refine fx_iast 6 oka63 dX4_sumFor_6 g6 ?_
  refine fx_aload_n 7 dX4_sumFor_7 rfl 0 rfl ?_
  refine fx_get 8 (j := 8) (v := .ref 63) okc58 dX4_sumFor_8 lfX4_39 (by decide) (fun _ => rfl) ?_
  refine fx_iconst 11 (x := (1 : Int32)) dX4_sumFor_11 (by decide) ?_
  refine fx_aload_n 12 dX4_sumFor_12 rfl 0 rfl ?_
  refine fx_get 13 (j := 0) (v := .ref 1) okc58 dX4_sumFor_13 lfX4_42 (by decide) (fun _ => rfl) ?_
  refine fx_get 16 (j := 3) (v := .ref 4) okc1 dX4_sumFor_16 lfX4_83 (by decide) (fun _ => rfl) ?_
  refine fx_iload_n 19 dX4_sumFor_19 rfl 2 rfl ?_
  replace h := fx_ltd h
  generalize fx_st M 63 (0 : Int32).toNatClampNeg x2 = M20 at h ⊢
  obtain ⟨g20, h⟩ := fx_gt h
  refine fx_iald 20 oka4 dX4_sumFor_20 g20 ?_
  obtain ⟨q21, e21, h⟩ := fx_bd h
  refine fx_callNi 21 (mt' := mX6_rowOf) (host := "FieldBand") (As := [.int (M20 4 x2.toNatClampNeg)]) (oksX6_rowOf _ _) (List.mem_of_getElem? (i := 3) rfl) (by decide) rfl rfl (Nat.le_of_ble_eq_true rfl) dX4_sumFor_21 (tX6_rowOf e21) ?_
  obtain ⟨g24, h⟩ := fx_gt h
  refine fx_iast 24 oka63 dX4_sumFor_24 g24 ?_
  refine fx_aload_n 25 dX4_sumFor_25 rfl 0 rfl ?_
  refine fx_get 26 (j := 8) (v := .ref 63) okc58 dX4_sumFor_26 lfX4_39 (by decide) (fun _ => rfl) ?_
  refine fx_iconst 29 (x := (2 : Int32)) dX4_sumFor_29 (by decide) ?_
  refine fx_aload_n 30 dX4_sumFor_30 rfl 0 rfl ?_
  refine fx_get 31 (j := 0) (v := .ref 1) okc58 dX4_sumFor_31 lfX4_42 (by decide) (fun _ => rfl) ?_
  refine fx_get 34 (j := 3) (v := .ref 4) okc1 dX4_sumFor_34 lfX4_83 (by decide) (fun _ => rfl) ?_
  refine fx_iload_n 37 dX4_sumFor_37 rfl 2 rfl ?_
  replace h := fx_ltd h
  generalize fx_st q21.2 63 (1 : Int32).toNatClampNeg q21.1 = M38 at h ⊢
  refine fx_iald 38 oka4 dX4_sumFor_38 g20 ?_
  obtain ⟨q39, e39, h⟩ := fx_bd h
  refine fx_callNi 39 (mt' := mX6_columnOf) (host := "FieldBand") (As := [.int (M38 4 x2.toNatClampNeg)]) (oksX6_columnOf _ _) (List.mem_of_getElem? (i := 4) rfl) (by decide) rfl rfl (Nat.le_of_ble_eq_true rfl) dX4_sumFor_39 (tX6_columnOf e39) ?_
  obtain ⟨g42, h⟩ := fx_gt h
  refine fx_iast 42 oka63 dX4_sumFor_42 g42 ?_
  refine fx_aload_n 43 dX4_sumFor_43 rfl 0 rfl ?_
  refine fx_get 44 (j := 8) (v := .ref 63) okc58 dX4_sumFor_44 lfX4_39 (by decide) (fun _ => rfl) ?_
  refine fx_iconst 47 (x := (3 : Int32)) dX4_sumFor_47 (by decide) ?_
  refine fx_aload_n 48 dX4_sumFor_48 rfl 0 rfl ?_
  refine fx_get 49 (j := 4) (v := .ref 59) okc58 dX4_sumFor_49 lfX4_18 (by decide) (fun _ => rfl) ?_
  refine fx_iload_n 52 dX4_sumFor_52 rfl 2 rfl ?_
  replace h := fx_ltd h
  generalize fx_st q39.2 63 (2 : Int32).toNatClampNeg q39.1 = M53 at h ⊢
  refine fx_iald 53 oka59 dX4_sumFor_53 g20 ?_
  obtain ⟨g54, h⟩ := fx_gt h
  refine fx_iast 54 oka63 dX4_sumFor_54 g54 ?_
  refine fx_aload_n 55 dX4_sumFor_55 rfl 0 rfl ?_
  refine fx_get 56 (j := 8) (v := .ref 63) okc58 dX4_sumFor_56 lfX4_39 (by decide) (fun _ => rfl) ?_
  refine fx_iconst 59 (x := (4 : Int32)) dX4_sumFor_59 (by decide) ?_
  refine fx_aload_n 60 dX4_sumFor_60 rfl 0 rfl ?_
  refine fx_get 61 (j := 0) (v := .ref 1) okc58 dX4_sumFor_61 lfX4_42 (by decide) (fun _ => rfl) ?_
  refine fx_get 64 (j := 2) (v := .ref 3) okc1 dX4_sumFor_64 lfX4_92 (by decide) (fun _ => rfl) ?_
  refine fx_iload_n 67 dX4_sumFor_67 rfl 2 rfl ?_
  replace h := fx_ltd h
  generalize fx_st M53 63 (3 : Int32).toNatClampNeg (M53 59 x2.toNatClampNeg) = M68 at h ⊢
  refine fx_iald 68 oka3 dX4_sumFor_68 g20 ?_
  obtain ⟨g69, h⟩ := fx_gt h
  refine fx_iast 69 oka63 dX4_sumFor_69 g69 ?_
  refine fx_aload_n 70 dX4_sumFor_70 rfl 0 rfl ?_
  replace h := fx_ltd h
  generalize fx_st M68 63 (4 : Int32).toNatClampNeg (M68 3 x2.toNatClampNeg) = M71 at h ⊢
  refine fx_get 71 (j := 1) (v := .ref ((M71 58 1).toNatClampNeg)) okc58 dX4_sumFor_71 lfX4_46 (by decide) (fun _ => rfl) ?_
  refine fx_iload_n 74 dX4_sumFor_74 rfl 1 rfl ?_
  refine fx_aload_n 75 dX4_sumFor_75 rfl 0 rfl ?_
  refine fx_get 76 (j := 8) (v := .ref 63) okc58 dX4_sumFor_76 lfX4_39 (by decide) (fun _ => rfl) ?_
  obtain ⟨g79, h⟩ := fx_gt h
  obtain ⟨q79, e79, h⟩ := fx_bd h
  refine fx_callVi 79 (mt' := mX3_sumOf) (As := [.int x1, .ref 63]) (okcS g79) (okvX3_sumOf _ _) lmX4_95 (by decide) rfl rfl (Nat.le_of_ble_eq_true rfl) dX4_sumFor_79 (tX3_sumOf e79) ?_
  obtain rfl := Option.some.inj h
  exact fx_iret 82 dX4_sumFor_82 rfl rfl ⟨rfl, rfl⟩
def mX4_slipAll : fxM := (yX4_slipAll, cX4_slipAll, 2, none, 6, 240)
theorem okvX4_slipAll (f l : Nat) : fx_okV (yX4_slipAll, cX4_slipAll, 2, none, f, l) 0 := ⟨⟨rin19 _ (List.mem_of_getElem? (i := 23) rfl), rin2 _ (List.mem_of_getElem? (i := 13) rfl), by show yX4_slipAll.cls ≠ _; decide +kernel, by show yX4_slipAll.cls ≠ _; decide +kernel, by show (parseMethodDescriptor yX4_slipAll.desc).map _ = _; decide +kernel⟩, rin19 _ (List.mem_of_getElem? (i := 21) rfl), rin19 _ (List.mem_of_getElem? (i := 22) rfl)⟩
def CX4_slipAll_L2 : Nat → Int32 → fxMem → (Int32 → fxMem → Option (fxMem)) → Option (fxMem)
  | 0, _, _, _ => none
  | n + 1, x1, M, k => if M 1 0 ≤ x1 then k x1 M else Option.bind (CX4_sumFor (1 : Int32) x1 M) fun q21 => if fx_in x1 10 = true then CX4_slipAll_L2  n (x1 + (1 : Int32)) (fx_st q21.2 60 x1.toNatClampNeg q21.1) k else none
set_option maxRecDepth 100000 in
set_option maxHeartbeats 4000000 in
theorem vX4_slipAll_L2 {R : fxMem} {k : Int32 → fxMem → Option (fxMem)} (hk : ∀ (x1 : Int32) (M : fxMem), k x1 M = some R → fx_V gC mX4_slipAll (fx_rv R) 31 [(0, .ref 58), (1, .int x1)] [] M) : ∀ (n : Nat) (x1 : Int32) (M : fxMem), CX4_slipAll_L2  n x1 M k = some R → fx_V gC mX4_slipAll (fx_rv R) 2 [(0, .ref 58), (1, .int x1)] [] M := by
  intro n
  induction n with
  | zero => intro x1 M h; rw [CX4_slipAll_L2] at h; cases h
  | succ n ih =>
    intro x1 M h
    rw [CX4_slipAll_L2] at h
    refine fx_iload_n 2 dX4_slipAll_2 rfl 1 rfl ?_
    refine fx_aload_n 3 dX4_slipAll_3 rfl 0 rfl ?_
    refine fx_get 4 (j := 0) (v := .ref 1) okc58 dX4_slipAll_4 lfX4_42 (by decide) (fun _ => rfl) ?_
    refine fx_get 7 (j := 0) (v := .int (M 1 0)) okc1 dX4_slipAll_7 lfX4_69 (by decide) (fun _ => rfl) ?_
    refine fx_icmp_ge 10 31 dX4_slipAll_10 (by decide) (fun c10 => ?_) (fun c10 => ?_)
    · replace h := fx_ip c10 h
      refine fx_sub [0, 1] rfl ?_
      exact hk _ _ h
    · replace h := fx_ne c10 h
      refine fx_aload_n 13 dX4_slipAll_13 rfl 0 rfl ?_
      refine fx_get 14 (j := 5) (v := .ref 60) okc58 dX4_slipAll_14 lfX4_22 (by decide) (fun _ => rfl) ?_
      refine fx_iload_n 17 dX4_slipAll_17 rfl 1 rfl ?_
      refine fx_aload_n 18 dX4_slipAll_18 rfl 0 rfl ?_
      refine fx_iconst 19 (x := (1 : Int32)) dX4_slipAll_19 (by decide) ?_
      refine fx_iload_n 20 dX4_slipAll_20 rfl 1 rfl ?_
      obtain ⟨q21, e21, h⟩ := fx_bd h
      refine fx_callVi 21 (mt' := mX4_sumFor) (As := [.int (1 : Int32), .int x1]) okc58 (okvX4_sumFor _ _) lmX4_72 (by decide) rfl rfl (Nat.le_of_ble_eq_true rfl) dX4_slipAll_21 (tX4_sumFor e21) ?_
      obtain ⟨g24, h⟩ := fx_gt h
      refine fx_iast 24 oka60 dX4_slipAll_24 g24 ?_
      refine fx_iinc 25 (lv' := [(1, .int (x1 + (1 : Int32))), (0, .ref 58)]) (y := x1 + (1 : Int32)) dX4_slipAll_25 1 rfl (by rfl) (Nat.le_of_ble_eq_true rfl) rfl ?_
      refine fx_goto 28 2 dX4_slipAll_28 (by decide) ?_
      refine fx_sub [1, 0] rfl ?_
      exact ih _ _ h
def CX4_slipAll  (M : fxMem) : Option (fxMem) := CX4_slipAll_L2  1000 (0 : Int32) M (fun y1_2 M2 => some M2)
set_option maxRecDepth 100000 in
set_option maxHeartbeats 4000000 in
theorem tX4_slipAll  {M : fxMem} {R : fxMem} (h : CX4_slipAll  M = some R) : fx_T gC mX4_slipAll [.ref 58] M (fx_rv R) := by
  rw [CX4_slipAll] at h
  refine fx_enter [(0, .ref 58)] (by show plainName RX4 = true; decide) (fun _ => rfl) (fun _ => Nat.le_of_ble_eq_true rfl) ?_
  refine fx_iconst 0 (x := (0 : Int32)) dX4_slipAll_0 (by decide) ?_
  refine fx_istore_n 1 (lv' := [(1, .int (0 : Int32)), (0, .ref 58)]) dX4_slipAll_1 rfl (Nat.le_of_ble_eq_true rfl) rfl ?_
  refine fx_sub [1, 0] rfl ?_
  refine vX4_slipAll_L2 (fun y1_2 M2 h => ?_) 1000 _ _ h
  obtain rfl := Option.some.inj h
  exact fx_vret 31 dX4_slipAll_31 rfl ⟨rfl, rfl⟩
def mX4_nearestInColumn : fxM := (yX4_nearestInColumn, cX4_nearestInColumn, 8, (some .int), 3, 120)
theorem okvX4_nearestInColumn (f l : Nat) : fx_okV (yX4_nearestInColumn, cX4_nearestInColumn, 8, (some .int), f, l) 2 := ⟨⟨rin21 _ (List.mem_of_getElem? (i := 9) rfl), rin2 _ (List.mem_of_getElem? (i := 13) rfl), by show yX4_nearestInColumn.cls ≠ _; decide +kernel, by show yX4_nearestInColumn.cls ≠ _; decide +kernel, by show (parseMethodDescriptor yX4_nearestInColumn.desc).map _ = _; decide +kernel⟩, rin21 _ (List.mem_of_getElem? (i := 7) rfl), rin21 _ (List.mem_of_getElem? (i := 8) rfl)⟩
def CX4_nearestInColumn_J93  (x1 : Int32) (x2 : Int32) (x3 : Int32) (x4 : Int32) (x5 : Int32) (x6 : Int32) (t0 : Int32) (M : fxMem) (rr k : Int32 → Int32 → Int32 → fxMem → Option (Int32 × fxMem)) : Option (Int32 × fxMem) := rr (if t0 = (0 : Int32) then x3 else (if x6 ≤ (0 : Int32) then x3 else (if x4 ≤ x6 then x3 else x5))) (if t0 = (0 : Int32) then x4 else (if x6 ≤ (0 : Int32) then x4 else (if x4 ≤ x6 then x4 else x6))) (x5 + (1 : Int32)) M
set_option maxRecDepth 100000 in
set_option maxHeartbeats 4000000 in
theorem vX4_nearestInColumn_J93  {x1 : Int32} {x2 : Int32} {x3 : Int32} {x4 : Int32} {x5 : Int32} {x6 : Int32} {t0 : Int32} {R : Int32 × fxMem} {M : fxMem} {rr k : Int32 → Int32 → Int32 → fxMem → Option (Int32 × fxMem)} (hr : ∀ (z3 : Int32) (z4 : Int32) (z5 : Int32) (M : fxMem), rr z3 z4 z5 M = some R → fx_V gC mX4_nearestInColumn (fx_ri R) 9 [(0, .ref 58), (1, .int x1), (2, .int x2), (3, .int z3), (4, .int z4), (5, .int z5)] [] M) (hk : ∀ (z3 : Int32) (z4 : Int32) (z5 : Int32) (M : fxMem), k z3 z4 z5 M = some R → fx_V gC mX4_nearestInColumn (fx_ri R) 125 [(0, .ref 58), (1, .int x1), (2, .int x2), (3, .int z3), (4, .int z4), (5, .int z5)] [] M) (h : CX4_nearestInColumn_J93 x1 x2 x3 x4 x5 x6 t0 M rr k = some R) : fx_V gC mX4_nearestInColumn (fx_ri R) 93 [(0, .ref 58), (1, .int x1), (2, .int x2), (3, .int x3), (4, .int x4), (5, .int x5), (6, .int x6)] [.int t0] M := by
  rw [CX4_nearestInColumn_J93] at h
  refine fx_istore 93 (lv' := [(7, .int t0), (0, .ref 58), (1, .int x1), (2, .int x2), (3, .int x3), (4, .int x4), (5, .int x5), (6, .int x6)]) dX4_nearestInColumn_93 (Nat.le_of_ble_eq_true rfl) rfl ?_
  refine fx_iload 95 dX4_nearestInColumn_95 0 rfl ?_
  have J : fx_V gC mX4_nearestInColumn (fx_ri R) 119 [(0, .ref 58), (1, .int x1), (2, .int x2), (3, .int (if t0 = (0 : Int32) then x3 else (if x6 ≤ (0 : Int32) then x3 else (if x4 ≤ x6 then x3 else x5)))), (4, .int (if t0 = (0 : Int32) then x4 else (if x6 ≤ (0 : Int32) then x4 else (if x4 ≤ x6 then x4 else x6)))), (5, .int x5), (6, .int x6), (7, .int t0)] [] M := by
    refine fx_iinc 119 (lv' := [(5, .int (x5 + (1 : Int32))), (0, .ref 58), (1, .int x1), (2, .int x2), (3, .int (if t0 = (0 : Int32) then x3 else (if x6 ≤ (0 : Int32) then x3 else (if x4 ≤ x6 then x3 else x5)))), (4, .int (if t0 = (0 : Int32) then x4 else (if x6 ≤ (0 : Int32) then x4 else (if x4 ≤ x6 then x4 else x6)))), (6, .int x6), (7, .int t0)]) (y := x5 + (1 : Int32)) dX4_nearestInColumn_119 5 rfl (by rfl) (Nat.le_of_ble_eq_true rfl) rfl ?_
    refine fx_goto 122 9 dX4_nearestInColumn_122 (by decide) ?_
    refine fx_sub [1, 2, 3, 4, 5, 0] rfl ?_
    exact hr _ _ _ _ h
  refine fx_if_eq 97 119 dX4_nearestInColumn_97 (by decide) (fun c97 => ?_) (fun c97 => ?_)
  · refine fx_sub (lv' := [(0, .ref 58), (1, .int x1), (2, .int x2), (3, .int x3), (4, .int x4), (5, .int x5), (6, .int x6), (7, .int t0)]) [1, 2, 3, 4, 5, 6, 7, 0] rfl ?_
    show fx_V gC mX4_nearestInColumn (fx_ri R) 119 [(0, .ref 58), (1, .int x1), (2, .int x2), (3, .int x3), (4, .int x4), (5, .int x5), (6, .int x6), (7, .int t0)] [] M
    simpa only [if_pos c97] using J
  · refine fx_iload 100 dX4_nearestInColumn_100 7 rfl ?_
    refine fx_if_le 102 119 dX4_nearestInColumn_102 (by decide) (fun c102 => ?_) (fun c102 => ?_)
    · refine fx_sub (lv' := [(0, .ref 58), (1, .int x1), (2, .int x2), (3, .int x3), (4, .int x4), (5, .int x5), (6, .int x6), (7, .int t0)]) [1, 2, 3, 4, 5, 6, 7, 0] rfl ?_
      show fx_V gC mX4_nearestInColumn (fx_ri R) 119 [(0, .ref 58), (1, .int x1), (2, .int x2), (3, .int x3), (4, .int x4), (5, .int x5), (6, .int x6), (7, .int t0)] [] M
      simpa only [if_neg c97, if_pos c102] using J
    · refine fx_iload 105 dX4_nearestInColumn_105 7 rfl ?_
      refine fx_iload 107 dX4_nearestInColumn_107 5 rfl ?_
      refine fx_icmp_ge 109 119 dX4_nearestInColumn_109 (by decide) (fun c109 => ?_) (fun c109 => ?_)
      · refine fx_sub (lv' := [(0, .ref 58), (1, .int x1), (2, .int x2), (3, .int x3), (4, .int x4), (5, .int x5), (6, .int x6), (7, .int t0)]) [1, 2, 3, 4, 5, 6, 7, 0] rfl ?_
        show fx_V gC mX4_nearestInColumn (fx_ri R) 119 [(0, .ref 58), (1, .int x1), (2, .int x2), (3, .int x3), (4, .int x4), (5, .int x5), (6, .int x6), (7, .int t0)] [] M
        simpa only [if_neg c97, if_neg c102, if_pos c109] using J
      · refine fx_iload 112 dX4_nearestInColumn_112 6 rfl ?_
        refine fx_istore_n 114 (lv' := [(3, .int x5), (7, .int t0), (0, .ref 58), (1, .int x1), (2, .int x2), (4, .int x4), (5, .int x5), (6, .int x6)]) dX4_nearestInColumn_114 rfl (Nat.le_of_ble_eq_true rfl) rfl ?_
        refine fx_iload 115 dX4_nearestInColumn_115 7 rfl ?_
        refine fx_istore 117 (lv' := [(4, .int x6), (3, .int x5), (7, .int t0), (0, .ref 58), (1, .int x1), (2, .int x2), (5, .int x5), (6, .int x6)]) dX4_nearestInColumn_117 (Nat.le_of_ble_eq_true rfl) rfl ?_
        refine fx_sub (lv' := [(0, .ref 58), (1, .int x1), (2, .int x2), (3, .int x5), (4, .int x6), (5, .int x5), (6, .int x6), (7, .int t0)]) [3, 4, 5, 1, 0, 6, 7, 2] rfl ?_
        show fx_V gC mX4_nearestInColumn (fx_ri R) 119 [(0, .ref 58), (1, .int x1), (2, .int x2), (3, .int x5), (4, .int x6), (5, .int x5), (6, .int x6), (7, .int t0)] [] M
        simpa only [if_neg c97, if_neg c102, if_neg c109] using J
def CX4_nearestInColumn_J92  (x1 : Int32) (x2 : Int32) (x3 : Int32) (x4 : Int32) (x5 : Int32) (x6 : Int32) (M : fxMem) (rr k : Int32 → Int32 → Int32 → fxMem → Option (Int32 × fxMem)) : Option (Int32 × fxMem) := CX4_nearestInColumn_J93 x1 x2 x3 x4 x5 x6 (0 : Int32) M (fun z3 z4 z5 Mz => rr z3 z4 z5 Mz) k
set_option maxRecDepth 100000 in
set_option maxHeartbeats 4000000 in
theorem vX4_nearestInColumn_J92  {x1 : Int32} {x2 : Int32} {x3 : Int32} {x4 : Int32} {x5 : Int32} {x6 : Int32} {R : Int32 × fxMem} {M : fxMem} {rr k : Int32 → Int32 → Int32 → fxMem → Option (Int32 × fxMem)} (hr : ∀ (z3 : Int32) (z4 : Int32) (z5 : Int32) (M : fxMem), rr z3 z4 z5 M = some R → fx_V gC mX4_nearestInColumn (fx_ri R) 9 [(0, .ref 58), (1, .int x1), (2, .int x2), (3, .int z3), (4, .int z4), (5, .int z5)] [] M) (hk : ∀ (z3 : Int32) (z4 : Int32) (z5 : Int32) (M : fxMem), k z3 z4 z5 M = some R → fx_V gC mX4_nearestInColumn (fx_ri R) 125 [(0, .ref 58), (1, .int x1), (2, .int x2), (3, .int z3), (4, .int z4), (5, .int z5)] [] M) (h : CX4_nearestInColumn_J92 x1 x2 x3 x4 x5 x6 M rr k = some R) : fx_V gC mX4_nearestInColumn (fx_ri R) 92 [(0, .ref 58), (1, .int x1), (2, .int x2), (3, .int x3), (4, .int x4), (5, .int x5), (6, .int x6)] [] M := by
  rw [CX4_nearestInColumn_J92] at h
  refine fx_iconst 92 (x := (0 : Int32)) dX4_nearestInColumn_92 (by decide) ?_
  refine fx_sub [0, 1, 2, 3, 4, 5, 6] rfl ?_
  exact vX4_nearestInColumn_J93 (fun _ _ _ _ => hr _ _ _ _) hk h
def CX4_nearestInColumn_L9 (x1 : Int32) (x2 : Int32) : Nat → Int32 → Int32 → Int32 → fxMem → (Int32 → Int32 → Int32 → fxMem → Option (Int32 × fxMem)) → Option (Int32 × fxMem)
  | 0, _, _, _, _, _ => none
  | n + 1, x3, x4, x5, M, k => if M 1 0 ≤ x5 then k x3 x4 x5 M else if fx_in x5 10 = true then Option.bind (CX6_rowOf (M 4 x5.toNatClampNeg) M) fun q32 => if fx_in x1 10 = true then Option.bind (CX6_rowOf (q32.2 4 x1.toNatClampNeg) q32.2) fun q44 => if x5 = q44.2 58 3 then CX4_nearestInColumn_J92 x1 x2 x3 x4 x5 (x2 * (q32.1 - q44.1)) q44.2 (fun z3 z4 z5 Mz => CX4_nearestInColumn_L9 x1 x2 n z3 z4 z5 Mz k) k else Option.bind (CX6_columnOf (q44.2 4 x5.toNatClampNeg) q44.2) fun q70 => Option.bind (CX6_columnOf (q70.2 4 x1.toNatClampNeg) q70.2) fun q82 => CX4_nearestInColumn_L9 x1 x2 n (if (if q70.1 = q82.1 then (1 : Int32) else (0 : Int32)) = (0 : Int32) then x3 else (if x2 * (q32.1 - q44.1) ≤ (0 : Int32) then x3 else (if x4 ≤ x2 * (q32.1 - q44.1) then x3 else x5))) (if (if q70.1 = q82.1 then (1 : Int32) else (0 : Int32)) = (0 : Int32) then x4 else (if x2 * (q32.1 - q44.1) ≤ (0 : Int32) then x4 else (if x4 ≤ x2 * (q32.1 - q44.1) then x4 else x2 * (q32.1 - q44.1)))) (x5 + (1 : Int32)) q82.2 k else none else none
set_option maxRecDepth 100000 in
set_option maxHeartbeats 4000000 in
theorem vX4_nearestInColumn_L9 {x1 : Int32} {x2 : Int32} {R : Int32 × fxMem} {k : Int32 → Int32 → Int32 → fxMem → Option (Int32 × fxMem)} (hk : ∀ (x3 : Int32) (x4 : Int32) (x5 : Int32) (M : fxMem), k x3 x4 x5 M = some R → fx_V gC mX4_nearestInColumn (fx_ri R) 125 [(0, .ref 58), (1, .int x1), (2, .int x2), (3, .int x3), (4, .int x4), (5, .int x5)] [] M) : ∀ (n : Nat) (x3 : Int32) (x4 : Int32) (x5 : Int32) (M : fxMem), CX4_nearestInColumn_L9 x1 x2 n x3 x4 x5 M k = some R → fx_V gC mX4_nearestInColumn (fx_ri R) 9 [(0, .ref 58), (1, .int x1), (2, .int x2), (3, .int x3), (4, .int x4), (5, .int x5)] [] M := by
  intro n
  induction n with
  | zero => intro x3 x4 x5 M h; rw [CX4_nearestInColumn_L9] at h; cases h
  | succ n ih =>
    intro x3 x4 x5 M h
    rw [CX4_nearestInColumn_L9] at h
    refine fx_iload 9 dX4_nearestInColumn_9 5 rfl ?_
    refine fx_aload_n 11 dX4_nearestInColumn_11 rfl 0 rfl ?_
    refine fx_get 12 (j := 0) (v := .ref 1) okc58 dX4_nearestInColumn_12 lfX4_42 (by decide) (fun _ => rfl) ?_
    refine fx_get 15 (j := 0) (v := .int (M 1 0)) okc1 dX4_nearestInColumn_15 lfX4_69 (by decide) (fun _ => rfl) ?_
    refine fx_icmp_ge 18 125 dX4_nearestInColumn_18 (by decide) (fun c18 => ?_) (fun c18 => ?_)
    · replace h := fx_ip c18 h
      refine fx_sub [0, 1, 2, 3, 4, 5] rfl ?_
      exact hk _ _ _ _ h
    · replace h := fx_ne c18 h
      refine fx_iload_n 21 dX4_nearestInColumn_21 rfl 2 rfl ?_
      refine fx_aload_n 22 dX4_nearestInColumn_22 rfl 0 rfl ?_
      refine fx_get 23 (j := 0) (v := .ref 1) okc58 dX4_nearestInColumn_23 lfX4_42 (by decide) (fun _ => rfl) ?_
      refine fx_get 26 (j := 3) (v := .ref 4) okc1 dX4_nearestInColumn_26 lfX4_83 (by decide) (fun _ => rfl) ?_
      refine fx_iload 29 dX4_nearestInColumn_29 5 rfl ?_
      obtain ⟨g31, h⟩ := fx_gt h
      refine fx_iald 31 oka4 dX4_nearestInColumn_31 g31 ?_
      obtain ⟨q32, e32, h⟩ := fx_bd h
      refine fx_callNi 32 (mt' := mX6_rowOf) (host := "FieldBand") (As := [.int (M 4 x5.toNatClampNeg)]) (oksX6_rowOf _ _) (List.mem_of_getElem? (i := 3) rfl) (by decide) rfl rfl (Nat.le_of_ble_eq_true rfl) dX4_nearestInColumn_32 (tX6_rowOf e32) ?_
      refine fx_aload_n 35 dX4_nearestInColumn_35 rfl 0 rfl ?_
      refine fx_get 36 (j := 0) (v := .ref 1) okc58 dX4_nearestInColumn_36 lfX4_42 (by decide) (fun _ => rfl) ?_
      refine fx_get 39 (j := 3) (v := .ref 4) okc1 dX4_nearestInColumn_39 lfX4_83 (by decide) (fun _ => rfl) ?_
      refine fx_iload_n 42 dX4_nearestInColumn_42 rfl 1 rfl ?_
      obtain ⟨g43, h⟩ := fx_gt h
      refine fx_iald 43 oka4 dX4_nearestInColumn_43 g43 ?_
      obtain ⟨q44, e44, h⟩ := fx_bd h
      refine fx_callNi 44 (mt' := mX6_rowOf) (host := "FieldBand") (As := [.int (q32.2 4 x1.toNatClampNeg)]) (oksX6_rowOf _ _) (List.mem_of_getElem? (i := 3) rfl) (by decide) rfl rfl (Nat.le_of_ble_eq_true rfl) dX4_nearestInColumn_44 (tX6_rowOf e44) ?_
      refine fx_isub 47 dX4_nearestInColumn_47 ?_
      refine fx_imul 48 dX4_nearestInColumn_48 ?_
      refine fx_istore 49 (lv' := [(6, .int (x2 * (q32.1 - q44.1))), (0, .ref 58), (1, .int x1), (2, .int x2), (3, .int x3), (4, .int x4), (5, .int x5)]) dX4_nearestInColumn_49 (Nat.le_of_ble_eq_true rfl) rfl ?_
      refine fx_iload 51 dX4_nearestInColumn_51 6 rfl ?_
      refine fx_aload_n 53 dX4_nearestInColumn_53 rfl 1 rfl ?_
      refine fx_get 54 (j := 3) (v := .int (q44.2 58 3)) okc58 dX4_nearestInColumn_54 lfX4_15 (by decide) (fun _ => rfl) ?_
      refine fx_icmp_eq 57 92 dX4_nearestInColumn_57 (by decide) (fun c57 => ?_) (fun c57 => ?_)
      · replace h := fx_ip c57 h
        refine fx_sub [1, 2, 3, 4, 5, 6, 0] rfl ?_
        exact vX4_nearestInColumn_J92 (fun _ _ _ _ => ih _ _ _ _) hk h
      · replace h := fx_ne c57 h
        refine fx_aload_n 60 dX4_nearestInColumn_60 rfl 1 rfl ?_
        refine fx_get 61 (j := 0) (v := .ref 1) okc58 dX4_nearestInColumn_61 lfX4_42 (by decide) (fun _ => rfl) ?_
        refine fx_get 64 (j := 3) (v := .ref 4) okc1 dX4_nearestInColumn_64 lfX4_83 (by decide) (fun _ => rfl) ?_
        refine fx_iload 67 dX4_nearestInColumn_67 6 rfl ?_
        refine fx_iald 69 oka4 dX4_nearestInColumn_69 g31 ?_
        obtain ⟨q70, e70, h⟩ := fx_bd h
        refine fx_callNi 70 (mt' := mX6_columnOf) (host := "FieldBand") (As := [.int (q44.2 4 x5.toNatClampNeg)]) (oksX6_columnOf _ _) (List.mem_of_getElem? (i := 4) rfl) (by decide) rfl rfl (Nat.le_of_ble_eq_true rfl) dX4_nearestInColumn_70 (tX6_columnOf e70) ?_
        refine fx_aload_n 73 dX4_nearestInColumn_73 rfl 1 rfl ?_
        refine fx_get 74 (j := 0) (v := .ref 1) okc58 dX4_nearestInColumn_74 lfX4_42 (by decide) (fun _ => rfl) ?_
        refine fx_get 77 (j := 3) (v := .ref 4) okc1 dX4_nearestInColumn_77 lfX4_83 (by decide) (fun _ => rfl) ?_
        refine fx_iload_n 80 dX4_nearestInColumn_80 rfl 2 rfl ?_
        refine fx_iald 81 oka4 dX4_nearestInColumn_81 g43 ?_
        obtain ⟨q82, e82, h⟩ := fx_bd h
        refine fx_callNi 82 (mt' := mX6_columnOf) (host := "FieldBand") (As := [.int (q70.2 4 x1.toNatClampNeg)]) (oksX6_columnOf _ _) (List.mem_of_getElem? (i := 4) rfl) (by decide) rfl rfl (Nat.le_of_ble_eq_true rfl) dX4_nearestInColumn_82 (tX6_columnOf e82) ?_
        have J : fx_V gC mX4_nearestInColumn (fx_ri R) 93 [(0, .ref 58), (1, .int x1), (2, .int x2), (3, .int x3), (4, .int x4), (5, .int x5), (6, .int (x2 * (q32.1 - q44.1)))] [.int (if q70.1 = q82.1 then (1 : Int32) else (0 : Int32))] q82.2 := by
          refine fx_istore 93 (lv' := [(7, .int (if q70.1 = q82.1 then (1 : Int32) else (0 : Int32))), (0, .ref 58), (1, .int x1), (2, .int x2), (3, .int x3), (4, .int x4), (5, .int x5), (6, .int (x2 * (q32.1 - q44.1)))]) dX4_nearestInColumn_93 (Nat.le_of_ble_eq_true rfl) rfl ?_
          refine fx_iload 95 dX4_nearestInColumn_95 0 rfl ?_
          have J : fx_V gC mX4_nearestInColumn (fx_ri R) 119 [(0, .ref 58), (1, .int x1), (2, .int x2), (3, .int (if (if q70.1 = q82.1 then (1 : Int32) else (0 : Int32)) = (0 : Int32) then x3 else (if x2 * (q32.1 - q44.1) ≤ (0 : Int32) then x3 else (if x4 ≤ x2 * (q32.1 - q44.1) then x3 else x5)))), (4, .int (if (if q70.1 = q82.1 then (1 : Int32) else (0 : Int32)) = (0 : Int32) then x4 else (if x2 * (q32.1 - q44.1) ≤ (0 : Int32) then x4 else (if x4 ≤ x2 * (q32.1 - q44.1) then x4 else x2 * (q32.1 - q44.1))))), (5, .int x5), (6, .int (x2 * (q32.1 - q44.1))), (7, .int (if q70.1 = q82.1 then (1 : Int32) else (0 : Int32)))] [] q82.2 := by
            refine fx_iinc 119 (lv' := [(5, .int (x5 + (1 : Int32))), (0, .ref 58), (1, .int x1), (2, .int x2), (3, .int (if (if q70.1 = q82.1 then (1 : Int32) else (0 : Int32)) = (0 : Int32) then x3 else (if x2 * (q32.1 - q44.1) ≤ (0 : Int32) then x3 else (if x4 ≤ x2 * (q32.1 - q44.1) then x3 else x5)))), (4, .int (if (if q70.1 = q82.1 then (1 : Int32) else (0 : Int32)) = (0 : Int32) then x4 else (if x2 * (q32.1 - q44.1) ≤ (0 : Int32) then x4 else (if x4 ≤ x2 * (q32.1 - q44.1) then x4 else x2 * (q32.1 - q44.1))))), (6, .int (x2 * (q32.1 - q44.1))), (7, .int (if q70.1 = q82.1 then (1 : Int32) else (0 : Int32)))]) (y := x5 + (1 : Int32)) dX4_nearestInColumn_119 5 rfl (by rfl) (Nat.le_of_ble_eq_true rfl) rfl ?_
            refine fx_goto 122 9 dX4_nearestInColumn_122 (by decide) ?_
            refine fx_sub [1, 2, 3, 4, 5, 0] rfl ?_
            exact ih _ _ _ _ h
          refine fx_if_eq 97 119 dX4_nearestInColumn_97 (by decide) (fun c97 => ?_) (fun c97 => ?_)
          · refine fx_sub (lv' := [(0, .ref 58), (1, .int x1), (2, .int x2), (3, .int x3), (4, .int x4), (5, .int x5), (6, .int (x2 * (q32.1 - q44.1))), (7, .int (if q70.1 = q82.1 then (1 : Int32) else (0 : Int32)))]) [1, 2, 3, 4, 5, 6, 7, 0] rfl ?_
            show fx_V gC mX4_nearestInColumn (fx_ri R) 119 [(0, .ref 58), (1, .int x1), (2, .int x2), (3, .int x3), (4, .int x4), (5, .int x5), (6, .int (x2 * (q32.1 - q44.1))), (7, .int (if q70.1 = q82.1 then (1 : Int32) else (0 : Int32)))] [] q82.2
            simpa only [if_pos c97] using J
          · refine fx_iload 100 dX4_nearestInColumn_100 7 rfl ?_
            refine fx_if_le 102 119 dX4_nearestInColumn_102 (by decide) (fun c102 => ?_) (fun c102 => ?_)
            · refine fx_sub (lv' := [(0, .ref 58), (1, .int x1), (2, .int x2), (3, .int x3), (4, .int x4), (5, .int x5), (6, .int (x2 * (q32.1 - q44.1))), (7, .int (if q70.1 = q82.1 then (1 : Int32) else (0 : Int32)))]) [1, 2, 3, 4, 5, 6, 7, 0] rfl ?_
              show fx_V gC mX4_nearestInColumn (fx_ri R) 119 [(0, .ref 58), (1, .int x1), (2, .int x2), (3, .int x3), (4, .int x4), (5, .int x5), (6, .int (x2 * (q32.1 - q44.1))), (7, .int (if q70.1 = q82.1 then (1 : Int32) else (0 : Int32)))] [] q82.2
              simpa only [if_neg c97, if_pos c102] using J
            · refine fx_iload 105 dX4_nearestInColumn_105 7 rfl ?_
              refine fx_iload 107 dX4_nearestInColumn_107 5 rfl ?_
              refine fx_icmp_ge 109 119 dX4_nearestInColumn_109 (by decide) (fun c109 => ?_) (fun c109 => ?_)
              · refine fx_sub (lv' := [(0, .ref 58), (1, .int x1), (2, .int x2), (3, .int x3), (4, .int x4), (5, .int x5), (6, .int (x2 * (q32.1 - q44.1))), (7, .int (if q70.1 = q82.1 then (1 : Int32) else (0 : Int32)))]) [1, 2, 3, 4, 5, 6, 7, 0] rfl ?_
                show fx_V gC mX4_nearestInColumn (fx_ri R) 119 [(0, .ref 58), (1, .int x1), (2, .int x2), (3, .int x3), (4, .int x4), (5, .int x5), (6, .int (x2 * (q32.1 - q44.1))), (7, .int (if q70.1 = q82.1 then (1 : Int32) else (0 : Int32)))] [] q82.2
                simpa only [if_neg c97, if_neg c102, if_pos c109] using J
              · refine fx_iload 112 dX4_nearestInColumn_112 6 rfl ?_
                refine fx_istore_n 114 (lv' := [(3, .int x5), (7, .int (if q70.1 = q82.1 then (1 : Int32) else (0 : Int32))), (0, .ref 58), (1, .int x1), (2, .int x2), (4, .int x4), (5, .int x5), (6, .int (x2 * (q32.1 - q44.1)))]) dX4_nearestInColumn_114 rfl (Nat.le_of_ble_eq_true rfl) rfl ?_
                refine fx_iload 115 dX4_nearestInColumn_115 7 rfl ?_
                refine fx_istore 117 (lv' := [(4, .int (x2 * (q32.1 - q44.1))), (3, .int x5), (7, .int (if q70.1 = q82.1 then (1 : Int32) else (0 : Int32))), (0, .ref 58), (1, .int x1), (2, .int x2), (5, .int x5), (6, .int (x2 * (q32.1 - q44.1)))]) dX4_nearestInColumn_117 (Nat.le_of_ble_eq_true rfl) rfl ?_
                refine fx_sub (lv' := [(0, .ref 58), (1, .int x1), (2, .int x2), (3, .int x5), (4, .int (x2 * (q32.1 - q44.1))), (5, .int x5), (6, .int (x2 * (q32.1 - q44.1))), (7, .int (if q70.1 = q82.1 then (1 : Int32) else (0 : Int32)))]) [3, 4, 5, 1, 0, 6, 7, 2] rfl ?_
                show fx_V gC mX4_nearestInColumn (fx_ri R) 119 [(0, .ref 58), (1, .int x1), (2, .int x2), (3, .int x5), (4, .int (x2 * (q32.1 - q44.1))), (5, .int x5), (6, .int (x2 * (q32.1 - q44.1))), (7, .int (if q70.1 = q82.1 then (1 : Int32) else (0 : Int32)))] [] q82.2
                simpa only [if_neg c97, if_neg c102, if_neg c109] using J
        refine fx_icmp_ne 85 92 dX4_nearestInColumn_85 (by decide) (fun c85 => ?_) (fun c85 => ?_)
        · refine fx_iconst 92 (x := (0 : Int32)) dX4_nearestInColumn_92 (by decide) ?_
          refine fx_sub (lv' := [(0, .ref 58), (1, .int x1), (2, .int x2), (3, .int x3), (4, .int x4), (5, .int x5), (6, .int (x2 * (q32.1 - q44.1)))]) [1, 2, 3, 4, 5, 6, 0] rfl ?_
          show fx_V gC mX4_nearestInColumn (fx_ri R) 93 [(0, .ref 58), (1, .int x1), (2, .int x2), (3, .int x3), (4, .int x4), (5, .int x5), (6, .int (x2 * (q32.1 - q44.1)))] [.int (0 : Int32)] q82.2
          simpa only [if_neg c85] using J
        · refine fx_iconst 88 (x := (1 : Int32)) dX4_nearestInColumn_88 (by decide) ?_
          refine fx_goto 89 93 dX4_nearestInColumn_89 (by decide) ?_
          refine fx_sub (lv' := [(0, .ref 58), (1, .int x1), (2, .int x2), (3, .int x3), (4, .int x4), (5, .int x5), (6, .int (x2 * (q32.1 - q44.1)))]) [1, 2, 3, 4, 5, 6, 0] rfl ?_
          show fx_V gC mX4_nearestInColumn (fx_ri R) 93 [(0, .ref 58), (1, .int x1), (2, .int x2), (3, .int x3), (4, .int x4), (5, .int x5), (6, .int (x2 * (q32.1 - q44.1)))] [.int (1 : Int32)] q82.2
          simpa only [if_pos c85] using J
def CX4_nearestInColumn (x1 : Int32) (x2 : Int32) (M : fxMem) : Option (Int32 × fxMem) := CX4_nearestInColumn_L9 x1 x2 1000 (-1 : Int32) (8 : Int32) (0 : Int32) M (fun y3_9 y4_9 y5_9 M9 => some (y3_9, M9))
set_option maxRecDepth 100000 in
set_option maxHeartbeats 4000000 in
theorem tX4_nearestInColumn {x1 : Int32} {x2 : Int32} {M : fxMem} {R : Int32 × fxMem} (h : CX4_nearestInColumn x1 x2 M = some R) : fx_T gC mX4_nearestInColumn [.ref 58, .int x1, .int x2] M (fx_ri R) := by
  rw [CX4_nearestInColumn] at h
  refine fx_enter [(0, .ref 58), (1, .int x1), (2, .int x2)] (by show plainName RX4 = true; decide) (fun _ => rfl) (fun _ => Nat.le_of_ble_eq_true rfl) ?_
  refine fx_iconst 0 (x := (-1 : Int32)) dX4_nearestInColumn_0 (by decide) ?_
  refine fx_istore_n 1 (lv' := [(3, .int (-1 : Int32)), (0, .ref 58), (1, .int x1), (2, .int x2)]) dX4_nearestInColumn_1 rfl (Nat.le_of_ble_eq_true rfl) rfl ?_
  refine fx_bipush 2 (x := (8 : Int32)) dX4_nearestInColumn_2 (by decide) ?_
  refine fx_istore 4 (lv' := [(4, .int (8 : Int32)), (3, .int (-1 : Int32)), (0, .ref 58), (1, .int x1), (2, .int x2)]) dX4_nearestInColumn_4 (Nat.le_of_ble_eq_true rfl) rfl ?_
  refine fx_iconst 6 (x := (0 : Int32)) dX4_nearestInColumn_6 (by decide) ?_
  refine fx_istore 7 (lv' := [(5, .int (0 : Int32)), (4, .int (8 : Int32)), (3, .int (-1 : Int32)), (0, .ref 58), (1, .int x1), (2, .int x2)]) dX4_nearestInColumn_7 (Nat.le_of_ble_eq_true rfl) rfl ?_
  refine fx_sub [3, 4, 5, 2, 1, 0] rfl ?_
  refine vX4_nearestInColumn_L9 (fun y3_9 y4_9 y5_9 M9 h => ?_) 1000 _ _ _ _ h
  refine fx_iload_n 125 dX4_nearestInColumn_125 rfl 3 rfl ?_
  obtain rfl := Option.some.inj h
  exact fx_iret 126 dX4_nearestInColumn_126 rfl rfl ⟨rfl, rfl⟩
def mX6_isUnder : fxM := (yX6_isUnder, cX6_isUnder, 4, (some .boolean), 2, 80)
theorem oksX6_isUnder (f l : Nat) : fx_okS (yX6_isUnder, cX6_isUnder, 4, (some .boolean), f, l) 2 := ⟨⟨rin21 _ (List.mem_of_getElem? (i := 11) rfl), rin1 _ (List.mem_of_getElem? (i := 2) rfl), by show yX6_isUnder.cls ≠ _; decide +kernel, by show yX6_isUnder.cls ≠ _; decide +kernel, by show (parseMethodDescriptor yX6_isUnder.desc).map _ = _; decide +kernel⟩, rin21 _ (List.mem_of_getElem? (i := 10) rfl)⟩
def CX6_isUnder_L4 (x0 : Int32) (x1 : Int32) : Nat → Int32 → Int32 → fxMem → (Int32 → Int32 → fxMem → Option (Int32 × fxMem)) → Option (Int32 × fxMem)
  | 0, _, _, _, _ => none
  | n + 1, x2, x3, M, k => if (7 : Int32) ≤ x3 then k x2 x3 M else if x2 = (-1 : Int32) then k x2 x3 M else if x2 = x1 then some ((1 : Int32), M) else if fx_in x2 7 = true then CX6_isUnder_L4 x0 x1 n ((kx_a 0).2.2.getD x2.toNatClampNeg 0) (x3 + (1 : Int32)) M k else none
set_option maxRecDepth 100000 in
set_option maxHeartbeats 4000000 in
theorem vX6_isUnder_L4 {x0 : Int32} {x1 : Int32} {R : Int32 × fxMem} {k : Int32 → Int32 → fxMem → Option (Int32 × fxMem)} (hk : ∀ (x2 : Int32) (x3 : Int32) (M : fxMem), k x2 x3 M = some R → fx_V gC mX6_isUnder (fx_ri R) 34 [(0, .int x0), (1, .int x1), (2, .int x2), (3, .int x3)] [] M) : ∀ (n : Nat) (x2 : Int32) (x3 : Int32) (M : fxMem), CX6_isUnder_L4 x0 x1 n x2 x3 M k = some R → fx_V gC mX6_isUnder (fx_ri R) 4 [(0, .int x0), (1, .int x1), (2, .int x2), (3, .int x3)] [] M := by
  intro n
  induction n with
  | zero => intro x2 x3 M h; rw [CX6_isUnder_L4] at h; cases h
  | succ n ih =>
    intro x2 x3 M h
    rw [CX6_isUnder_L4] at h
    refine fx_iload_n 4 dX6_isUnder_4 rfl 3 rfl ?_
    refine fx_bipush 5 (x := (7 : Int32)) dX6_isUnder_5 (by decide) ?_
    refine fx_icmp_ge 7 34 dX6_isUnder_7 (by decide) (fun c7 => ?_) (fun c7 => ?_)
    · replace h := fx_ip c7 h
      refine fx_sub [0, 1, 2, 3] rfl ?_
      exact hk _ _ _ h
    · replace h := fx_ne c7 h
      refine fx_iload_n 10 dX6_isUnder_10 rfl 2 rfl ?_
      refine fx_iconst 11 (x := (-1 : Int32)) dX6_isUnder_11 (by decide) ?_
      refine fx_icmp_eq 12 34 dX6_isUnder_12 (by decide) (fun c12 => ?_) (fun c12 => ?_)
      · replace h := fx_ip c12 h
        refine fx_sub [0, 1, 2, 3] rfl ?_
        exact hk _ _ _ h
      · replace h := fx_ne c12 h
        refine fx_iload_n 15 dX6_isUnder_15 rfl 2 rfl ?_
        refine fx_iload_n 16 dX6_isUnder_16 rfl 1 rfl ?_
        refine fx_icmp_ne 17 22 dX6_isUnder_17 (by decide) (fun c17 => ?_) (fun c17 => ?_)
        · replace h := fx_ne c17 h
          refine fx_gets 22 0 (by decide) dX6_isUnder_22 lfX6_238 ?_
          refine fx_iload_n 25 dX6_isUnder_25 rfl 2 rfl ?_
          obtain ⟨g26, h⟩ := fx_gt h
          refine fx_sald 26 0 (by decide) dX6_isUnder_26 g26 ?_
          refine fx_istore_n 27 (lv' := [(2, .int ((kx_a 0).2.2.getD x2.toNatClampNeg 0)), (0, .int x0), (1, .int x1), (3, .int x3)]) dX6_isUnder_27 rfl (Nat.le_of_ble_eq_true rfl) rfl ?_
          refine fx_iinc 28 (lv' := [(3, .int (x3 + (1 : Int32))), (2, .int ((kx_a 0).2.2.getD x2.toNatClampNeg 0)), (0, .int x0), (1, .int x1)]) (y := x3 + (1 : Int32)) dX6_isUnder_28 3 rfl (by rfl) (Nat.le_of_ble_eq_true rfl) rfl ?_
          refine fx_goto 31 4 dX6_isUnder_31 (by decide) ?_
          refine fx_sub [2, 3, 1, 0] rfl ?_
          exact ih _ _ _ h
        · replace h := fx_ip c17 h
          refine fx_iconst 20 (x := (1 : Int32)) dX6_isUnder_20 (by decide) ?_
          obtain rfl := Option.some.inj h
          exact fx_iret 21 dX6_isUnder_21 rfl rfl ⟨rfl, rfl⟩
def CX6_isUnder (x0 : Int32) (x1 : Int32) (M : fxMem) : Option (Int32 × fxMem) := CX6_isUnder_L4 x0 x1 1000 x0 (0 : Int32) M (fun y2_4 y3_4 M4 => some ((0 : Int32), M4))
set_option maxRecDepth 100000 in
set_option maxHeartbeats 4000000 in
theorem tX6_isUnder {x0 : Int32} {x1 : Int32} {M : fxMem} {R : Int32 × fxMem} (h : CX6_isUnder x0 x1 M = some R) : fx_T gC mX6_isUnder [.int x0, .int x1] M (fx_ri R) := by
  rw [CX6_isUnder] at h
  refine fx_enter [(0, .int x0), (1, .int x1)] (by show plainName RX6 = true; decide) (fun _ => rfl) (fun _ => Nat.le_of_ble_eq_true rfl) ?_
  refine fx_iload_n 0 dX6_isUnder_0 rfl 0 rfl ?_
  refine fx_istore_n 1 (lv' := [(2, .int x0), (0, .int x0), (1, .int x1)]) dX6_isUnder_1 rfl (Nat.le_of_ble_eq_true rfl) rfl ?_
  refine fx_iconst 2 (x := (0 : Int32)) dX6_isUnder_2 (by decide) ?_
  refine fx_istore_n 3 (lv' := [(3, .int (0 : Int32)), (2, .int x0), (0, .int x0), (1, .int x1)]) dX6_isUnder_3 rfl (Nat.le_of_ble_eq_true rfl) rfl ?_
  refine fx_sub [2, 3, 1, 0] rfl ?_
  refine vX6_isUnder_L4 (fun y2_4 y3_4 M4 h => ?_) 1000 _ _ _ h
  refine fx_iconst 34 (x := (0 : Int32)) dX6_isUnder_34 (by decide) ?_
  obtain rfl := Option.some.inj h
  exact fx_iret 35 dX6_isUnder_35 rfl rfl ⟨rfl, rfl⟩
def mX4_sourceOf : fxM := (yX4_sourceOf, cX4_sourceOf, 4, (some .int), 4, 160)
theorem okvX4_sourceOf (f l : Nat) : fx_okV (yX4_sourceOf, cX4_sourceOf, 4, (some .int), f, l) 1 := ⟨⟨rin21 _ (List.mem_of_getElem? (i := 5) rfl), rin2 _ (List.mem_of_getElem? (i := 13) rfl), by show yX4_sourceOf.cls ≠ _; decide +kernel, by show yX4_sourceOf.cls ≠ _; decide +kernel, by show (parseMethodDescriptor yX4_sourceOf.desc).map _ = _; decide +kernel⟩, rin21 _ (List.mem_of_getElem? (i := 3) rfl), rin21 _ (List.mem_of_getElem? (i := 4) rfl)⟩
def CX4_sourceOf (x1 : Int32) (M : fxMem) : Option (Int32 × fxMem) := if fx_in x1 10 = true then if M 59 x1.toNatClampNeg = (0 : Int32) then some ((-2 : Int32), M) else if M 59 x1.toNatClampNeg = (2 : Int32) then Option.bind (CX4_nearestInColumn x1 (1 : Int32) M) fun q50 => some ((if q50.1 = (-1 : Int32) then (-2 : Int32) else q50.1), q50.2) else if M 59 x1.toNatClampNeg = (3 : Int32) then Option.bind (CX4_nearestInColumn x1 (-1 : Int32) M) fun q69 => if q69.1 = (-1 : Int32) then some (q69.1, q69.2) else if fx_in q69.1 10 = true then Option.bind (CX6_isUnder (q69.2 59 q69.1.toNatClampNeg) (2 : Int32) q69.2) fun q85 => some ((if q85.1 = (0 : Int32) then q69.1 else (-2 : Int32)), q85.2) else none else if M 59 x1.toNatClampNeg = (5 : Int32) then Option.bind (CX4_nearestInColumn x1 (1 : Int32) M) fun q50 => some ((if q50.1 = (-1 : Int32) then (-2 : Int32) else q50.1), q50.2) else some ((-1 : Int32), M) else none
set_option maxRecDepth 100000 in
set_option maxHeartbeats 4000000 in
theorem tX4_sourceOf {x1 : Int32} {M : fxMem} {R : Int32 × fxMem} (h : CX4_sourceOf x1 M = some R) : fx_T gC mX4_sourceOf [.ref 58, .int x1] M (fx_ri R) := by
  rw [CX4_sourceOf] at h
  refine fx_enter [(0, .ref 58), (1, .int x1)] (by show plainName RX4 = true; decide) (fun _ => rfl) (fun _ => Nat.le_of_ble_eq_true rfl) ?_
  refine fx_aload_n 0 dX4_sourceOf_0 rfl 0 rfl ?_
  refine fx_get 1 (j := 4) (v := .ref 59) okc58 dX4_sourceOf_1 lfX4_18 (by decide) (fun _ => rfl) ?_
  refine fx_iload_n 4 dX4_sourceOf_4 rfl 1 rfl ?_
  obtain ⟨g5, h⟩ := fx_gt h
  refine fx_iald 5 oka59 dX4_sourceOf_5 g5 ?_
  by_cases s6_0 : M 59 x1.toNatClampNeg = (0 : Int32)
  · replace h := fx_ip s6_0 h
    refine fx_tsI 6 44 dX4_sourceOf_6 (by rw [s6_0]; decide) (by rw [s6_0]; decide) (by rw [s6_0]; try rfl) (by decide) ?_
    refine fx_bipush 44 (x := (-2 : Int32)) dX4_sourceOf_44 (by decide) ?_
    obtain rfl := Option.some.inj h
    exact fx_iret 46 dX4_sourceOf_46 rfl rfl ⟨rfl, rfl⟩
  · replace h := fx_ne s6_0 h
    by_cases s6_1 : M 59 x1.toNatClampNeg = (2 : Int32)
    · replace h := fx_ip s6_1 h
      refine fx_tsI 6 47 dX4_sourceOf_6 (by rw [s6_1]; decide) (by rw [s6_1]; decide) (by rw [s6_1]; try rfl) (by decide) ?_
      refine fx_aload_n 47 dX4_sourceOf_47 rfl 0 rfl ?_
      refine fx_iload_n 48 dX4_sourceOf_48 rfl 1 rfl ?_
      refine fx_iconst 49 (x := (1 : Int32)) dX4_sourceOf_49 (by decide) ?_
      obtain ⟨q50, e50, h⟩ := fx_bd h
      refine fx_callVi 50 (mt' := mX4_nearestInColumn) (As := [.int x1, .int (1 : Int32)]) okc58 (okvX4_nearestInColumn _ _) lmX4_101 (by decide) rfl rfl (Nat.le_of_ble_eq_true rfl) dX4_sourceOf_50 (tX4_nearestInColumn e50) ?_
      refine fx_istore_n 53 (lv' := [(2, .int q50.1), (0, .ref 58), (1, .int x1)]) dX4_sourceOf_53 rfl (Nat.le_of_ble_eq_true rfl) rfl ?_
      refine fx_iload_n 54 dX4_sourceOf_54 rfl 0 rfl ?_
      refine fx_iconst 55 (x := (-1 : Int32)) dX4_sourceOf_55 (by decide) ?_
      have J : fx_V gC mX4_sourceOf (fx_ri R) 65 [(0, .ref 58), (1, .int x1), (2, .int q50.1)] [.int (if q50.1 = (-1 : Int32) then (-2 : Int32) else q50.1)] q50.2 := by
        obtain rfl := Option.some.inj h
        exact fx_iret 65 dX4_sourceOf_65 rfl rfl ⟨rfl, rfl⟩
      refine fx_icmp_ne 56 64 dX4_sourceOf_56 (by decide) (fun c56 => ?_) (fun c56 => ?_)
      · refine fx_iload_n 64 dX4_sourceOf_64 rfl 0 rfl ?_
        refine fx_sub (lv' := [(0, .ref 58), (1, .int x1), (2, .int q50.1)]) [1, 2, 0] rfl ?_
        show fx_V gC mX4_sourceOf (fx_ri R) 65 [(0, .ref 58), (1, .int x1), (2, .int q50.1)] [.int q50.1] q50.2
        simpa only [if_neg c56] using J
      · refine fx_bipush 59 (x := (-2 : Int32)) dX4_sourceOf_59 (by decide) ?_
        refine fx_goto 61 65 dX4_sourceOf_61 (by decide) ?_
        refine fx_sub (lv' := [(0, .ref 58), (1, .int x1), (2, .int q50.1)]) [1, 2, 0] rfl ?_
        show fx_V gC mX4_sourceOf (fx_ri R) 65 [(0, .ref 58), (1, .int x1), (2, .int q50.1)] [.int (-2 : Int32)] q50.2
        simpa only [if_pos c56] using J
    · replace h := fx_ne s6_1 h
      by_cases s6_2 : M 59 x1.toNatClampNeg = (3 : Int32)
      · replace h := fx_ip s6_2 h
        refine fx_tsI 6 66 dX4_sourceOf_6 (by rw [s6_2]; decide) (by rw [s6_2]; decide) (by rw [s6_2]; try rfl) (by decide) ?_
        refine fx_aload_n 66 dX4_sourceOf_66 rfl 0 rfl ?_
        refine fx_iload_n 67 dX4_sourceOf_67 rfl 1 rfl ?_
        refine fx_iconst 68 (x := (-1 : Int32)) dX4_sourceOf_68 (by decide) ?_
        obtain ⟨q69, e69, h⟩ := fx_bd h
        refine fx_callVi 69 (mt' := mX4_nearestInColumn) (As := [.int x1, .int (-1 : Int32)]) okc58 (okvX4_nearestInColumn _ _) lmX4_101 (by decide) rfl rfl (Nat.le_of_ble_eq_true rfl) dX4_sourceOf_69 (tX4_nearestInColumn e69) ?_
        refine fx_istore_n 72 (lv' := [(3, .int q69.1), (0, .ref 58), (1, .int x1)]) dX4_sourceOf_72 rfl (Nat.le_of_ble_eq_true rfl) rfl ?_
        refine fx_iload_n 73 dX4_sourceOf_73 rfl 0 rfl ?_
        refine fx_iconst 74 (x := (-1 : Int32)) dX4_sourceOf_74 (by decide) ?_
        refine fx_icmp_eq 75 96 dX4_sourceOf_75 (by decide) (fun c75 => ?_) (fun c75 => ?_)
        · replace h := fx_ip c75 h
          refine fx_iload_n 96 dX4_sourceOf_96 rfl 0 rfl ?_
          obtain rfl := Option.some.inj h
          exact fx_iret 97 dX4_sourceOf_97 rfl rfl ⟨rfl, rfl⟩
        · replace h := fx_ne c75 h
          refine fx_aload_n 78 dX4_sourceOf_78 rfl 1 rfl ?_
          refine fx_get 79 (j := 4) (v := .ref 59) okc58 dX4_sourceOf_79 lfX4_18 (by decide) (fun _ => rfl) ?_
          refine fx_iload_n 82 dX4_sourceOf_82 rfl 0 rfl ?_
          obtain ⟨g83, h⟩ := fx_gt h
          refine fx_iald 83 oka59 dX4_sourceOf_83 g83 ?_
          refine fx_iconst 84 (x := (2 : Int32)) dX4_sourceOf_84 (by decide) ?_
          obtain ⟨q85, e85, h⟩ := fx_bd h
          refine fx_callNi 85 (mt' := mX6_isUnder) (host := "FieldBand") (As := [.int (q69.2 59 q69.1.toNatClampNeg), .int (2 : Int32)]) (oksX6_isUnder _ _) (List.mem_of_getElem? (i := 5) rfl) (by decide) rfl rfl (Nat.le_of_ble_eq_true rfl) dX4_sourceOf_85 (tX6_isUnder e85) ?_
          have J : fx_V gC mX4_sourceOf (fx_ri R) 97 [(0, .ref 58), (1, .int x1), (3, .int q69.1)] [.int (if q85.1 = (0 : Int32) then q69.1 else (-2 : Int32))] q85.2 := by
            obtain rfl := Option.some.inj h
            exact fx_iret 97 dX4_sourceOf_97 rfl rfl ⟨rfl, rfl⟩
          refine fx_if_eq 88 96 dX4_sourceOf_88 (by decide) (fun c88 => ?_) (fun c88 => ?_)
          · refine fx_iload_n 96 dX4_sourceOf_96 rfl 0 rfl ?_
            refine fx_sub (lv' := [(0, .ref 58), (1, .int x1), (3, .int q69.1)]) [1, 2, 0] rfl ?_
            show fx_V gC mX4_sourceOf (fx_ri R) 97 [(0, .ref 58), (1, .int x1), (3, .int q69.1)] [.int q69.1] q85.2
            simpa only [if_pos c88] using J
          · refine fx_bipush 91 (x := (-2 : Int32)) dX4_sourceOf_91 (by decide) ?_
            refine fx_goto 93 97 dX4_sourceOf_93 (by decide) ?_
            refine fx_sub (lv' := [(0, .ref 58), (1, .int x1), (3, .int q69.1)]) [1, 2, 0] rfl ?_
            show fx_V gC mX4_sourceOf (fx_ri R) 97 [(0, .ref 58), (1, .int x1), (3, .int q69.1)] [.int (-2 : Int32)] q85.2
            simpa only [if_neg c88] using J
      · replace h := fx_ne s6_2 h
        by_cases s6_3 : M 59 x1.toNatClampNeg = (5 : Int32)
        · replace h := fx_ip s6_3 h
          refine fx_tsI 6 47 dX4_sourceOf_6 (by rw [s6_3]; decide) (by rw [s6_3]; decide) (by rw [s6_3]; try rfl) (by decide) ?_
          refine fx_aload_n 47 dX4_sourceOf_47 rfl 0 rfl ?_
          refine fx_iload_n 48 dX4_sourceOf_48 rfl 1 rfl ?_
          refine fx_iconst 49 (x := (1 : Int32)) dX4_sourceOf_49 (by decide) ?_
          obtain ⟨q50, e50, h⟩ := fx_bd h
          refine fx_callVi 50 (mt' := mX4_nearestInColumn) (As := [.int x1, .int (1 : Int32)]) okc58 (okvX4_nearestInColumn _ _) lmX4_101 (by decide) rfl rfl (Nat.le_of_ble_eq_true rfl) dX4_sourceOf_50 (tX4_nearestInColumn e50) ?_
          refine fx_istore_n 53 (lv' := [(2, .int q50.1), (0, .ref 58), (1, .int x1)]) dX4_sourceOf_53 rfl (Nat.le_of_ble_eq_true rfl) rfl ?_
          refine fx_iload_n 54 dX4_sourceOf_54 rfl 0 rfl ?_
          refine fx_iconst 55 (x := (-1 : Int32)) dX4_sourceOf_55 (by decide) ?_
          have J : fx_V gC mX4_sourceOf (fx_ri R) 65 [(0, .ref 58), (1, .int x1), (2, .int q50.1)] [.int (if q50.1 = (-1 : Int32) then (-2 : Int32) else q50.1)] q50.2 := by
            obtain rfl := Option.some.inj h
            exact fx_iret 65 dX4_sourceOf_65 rfl rfl ⟨rfl, rfl⟩
          refine fx_icmp_ne 56 64 dX4_sourceOf_56 (by decide) (fun c56 => ?_) (fun c56 => ?_)
          · refine fx_iload_n 64 dX4_sourceOf_64 rfl 0 rfl ?_
            refine fx_sub (lv' := [(0, .ref 58), (1, .int x1), (2, .int q50.1)]) [1, 2, 0] rfl ?_
            show fx_V gC mX4_sourceOf (fx_ri R) 65 [(0, .ref 58), (1, .int x1), (2, .int q50.1)] [.int q50.1] q50.2
            simpa only [if_neg c56] using J
          · refine fx_bipush 59 (x := (-2 : Int32)) dX4_sourceOf_59 (by decide) ?_
            refine fx_goto 61 65 dX4_sourceOf_61 (by decide) ?_
            refine fx_sub (lv' := [(0, .ref 58), (1, .int x1), (2, .int q50.1)]) [1, 2, 0] rfl ?_
            show fx_V gC mX4_sourceOf (fx_ri R) 65 [(0, .ref 58), (1, .int x1), (2, .int q50.1)] [.int (-2 : Int32)] q50.2
            simpa only [if_pos c56] using J
        · replace h := fx_ne s6_3 h
          refine fx_tsD 6 98 [(0 : Int32), (2 : Int32), (3 : Int32), (5 : Int32)] dX4_sourceOf_6 (by decide) (by decide) (by intro q hq; simp only [List.mem_cons, List.not_mem_nil, or_false] at hq; rcases hq with rfl | rfl | rfl | rfl <;> assumption) (by decide) ?_
          refine fx_iconst 98 (x := (-1 : Int32)) dX4_sourceOf_98 (by decide) ?_
          obtain rfl := Option.some.inj h
          exact fx_iret 99 dX4_sourceOf_99 rfl rfl ⟨rfl, rfl⟩
def mX4_arrange : fxM := (yX4_arrange, cX4_arrange, 2, none, 5, 200)
theorem okvX4_arrange (f l : Nat) : fx_okV (yX4_arrange, cX4_arrange, 2, none, f, l) 0 := ⟨⟨rin21 _ (List.mem_of_getElem? (i := 1) rfl), rin2 _ (List.mem_of_getElem? (i := 13) rfl), by show yX4_arrange.cls ≠ _; decide +kernel, by show yX4_arrange.cls ≠ _; decide +kernel, by show (parseMethodDescriptor yX4_arrange.desc).map _ = _; decide +kernel⟩, rin20 _ (List.mem_of_getElem? (i := 23) rfl), rin21 _ (List.mem_of_getElem? (i := 0) rfl)⟩
def CX4_arrange_L2 : Nat → Int32 → fxMem → (Int32 → fxMem → Option (fxMem)) → Option (fxMem)
  | 0, _, _, _ => none
  | n + 1, x1, M, k => if M 1 0 ≤ x1 then k x1 M else Option.bind (CX4_sourceOf x1 M) fun q20 => if fx_in x1 10 = true then CX4_arrange_L2  n (x1 + (1 : Int32)) (fx_st q20.2 61 x1.toNatClampNeg q20.1) k else none
set_option maxRecDepth 100000 in
set_option maxHeartbeats 4000000 in
theorem vX4_arrange_L2 {R : fxMem} {k : Int32 → fxMem → Option (fxMem)} (hk : ∀ (x1 : Int32) (M : fxMem), k x1 M = some R → fx_V gC mX4_arrange (fx_rv R) 30 [(0, .ref 58), (1, .int x1)] [] M) : ∀ (n : Nat) (x1 : Int32) (M : fxMem), CX4_arrange_L2  n x1 M k = some R → fx_V gC mX4_arrange (fx_rv R) 2 [(0, .ref 58), (1, .int x1)] [] M := by
  intro n
  induction n with
  | zero => intro x1 M h; rw [CX4_arrange_L2] at h; cases h
  | succ n ih =>
    intro x1 M h
    rw [CX4_arrange_L2] at h
    refine fx_iload_n 2 dX4_arrange_2 rfl 1 rfl ?_
    refine fx_aload_n 3 dX4_arrange_3 rfl 0 rfl ?_
    refine fx_get 4 (j := 0) (v := .ref 1) okc58 dX4_arrange_4 lfX4_42 (by decide) (fun _ => rfl) ?_
    refine fx_get 7 (j := 0) (v := .int (M 1 0)) okc1 dX4_arrange_7 lfX4_69 (by decide) (fun _ => rfl) ?_
    refine fx_icmp_ge 10 30 dX4_arrange_10 (by decide) (fun c10 => ?_) (fun c10 => ?_)
    · replace h := fx_ip c10 h
      refine fx_sub [0, 1] rfl ?_
      exact hk _ _ h
    · replace h := fx_ne c10 h
      refine fx_aload_n 13 dX4_arrange_13 rfl 0 rfl ?_
      refine fx_get 14 (j := 6) (v := .ref 61) okc58 dX4_arrange_14 lfX4_25 (by decide) (fun _ => rfl) ?_
      refine fx_iload_n 17 dX4_arrange_17 rfl 1 rfl ?_
      refine fx_aload_n 18 dX4_arrange_18 rfl 0 rfl ?_
      refine fx_iload_n 19 dX4_arrange_19 rfl 1 rfl ?_
      obtain ⟨q20, e20, h⟩ := fx_bd h
      refine fx_callVi 20 (mt' := mX4_sourceOf) (As := [.int x1]) okc58 (okvX4_sourceOf _ _) lmX4_76 (by decide) rfl rfl (Nat.le_of_ble_eq_true rfl) dX4_arrange_20 (tX4_sourceOf e20) ?_
      obtain ⟨g23, h⟩ := fx_gt h
      refine fx_iast 23 oka61 dX4_arrange_23 g23 ?_
      refine fx_iinc 24 (lv' := [(1, .int (x1 + (1 : Int32))), (0, .ref 58)]) (y := x1 + (1 : Int32)) dX4_arrange_24 1 rfl (by rfl) (Nat.le_of_ble_eq_true rfl) rfl ?_
      refine fx_goto 27 2 dX4_arrange_27 (by decide) ?_
      refine fx_sub [1, 0] rfl ?_
      exact ih _ _ h
def CX4_arrange  (M : fxMem) : Option (fxMem) := CX4_arrange_L2  1000 (0 : Int32) M (fun y1_2 M2 => some M2)
set_option maxRecDepth 100000 in
set_option maxHeartbeats 4000000 in
theorem tX4_arrange  {M : fxMem} {R : fxMem} (h : CX4_arrange  M = some R) : fx_T gC mX4_arrange [.ref 58] M (fx_rv R) := by
  rw [CX4_arrange] at h
  refine fx_enter [(0, .ref 58)] (by show plainName RX4 = true; decide) (fun _ => rfl) (fun _ => Nat.le_of_ble_eq_true rfl) ?_
  refine fx_iconst 0 (x := (0 : Int32)) dX4_arrange_0 (by decide) ?_
  refine fx_istore_n 1 (lv' := [(1, .int (0 : Int32)), (0, .ref 58)]) dX4_arrange_1 rfl (Nat.le_of_ble_eq_true rfl) rfl ?_
  refine fx_sub [1, 0] rfl ?_
  refine vX4_arrange_L2 (fun y1_2 M2 h => ?_) 1000 _ _ h
  obtain rfl := Option.some.inj h
  exact fx_vret 30 dX4_arrange_30 rfl ⟨rfl, rfl⟩
def mX4_ownMore : fxM := (yX4_ownMore, cX4_ownMore, 2, (some .int), 3, 120)
theorem okvX4_ownMore (f l : Nat) : fx_okV (yX4_ownMore, cX4_ownMore, 2, (some .int), f, l) 1 := ⟨⟨rin22 _ (List.mem_of_getElem? (i := 1) rfl), rin2 _ (List.mem_of_getElem? (i := 13) rfl), by show yX4_ownMore.cls ≠ _; decide +kernel, by show yX4_ownMore.cls ≠ _; decide +kernel, by show (parseMethodDescriptor yX4_ownMore.desc).map _ = _; decide +kernel⟩, rin21 _ (List.mem_of_getElem? (i := 23) rfl), rin22 _ (List.mem_of_getElem? (i := 0) rfl)⟩
def CX4_ownMore (x1 : Int32) (M : fxMem) : Option (Int32 × fxMem) := if fx_in x1 10 = true then if M 59 x1.toNatClampNeg = (4 : Int32) then some (-(M 3 x1.toNatClampNeg), M) else if M 59 x1.toNatClampNeg = (5 : Int32) then if fx_isSh ((M 58 1).toNatClampNeg) = true then Option.bind (CX6_rowOf (M 4 x1.toNatClampNeg) M) fun q59 => some ((M ((M 58 1).toNatClampNeg) 0) * q59.1, q59.2) else none else if M 59 x1.toNatClampNeg = (6 : Int32) then some ((M 3 x1.toNatClampNeg) * x1, M) else some ((0 : Int32), M) else none
set_option maxRecDepth 100000 in
set_option maxHeartbeats 4000000 in
theorem tX4_ownMore {x1 : Int32} {M : fxMem} {R : Int32 × fxMem} (h : CX4_ownMore x1 M = some R) : fx_T gC mX4_ownMore [.ref 58, .int x1] M (fx_ri R) := by
  rw [CX4_ownMore] at h
  refine fx_enter [(0, .ref 58), (1, .int x1)] (by show plainName RX4 = true; decide) (fun _ => rfl) (fun _ => Nat.le_of_ble_eq_true rfl) ?_
  refine fx_aload_n 0 dX4_ownMore_0 rfl 0 rfl ?_
  refine fx_get 1 (j := 4) (v := .ref 59) okc58 dX4_ownMore_1 lfX4_18 (by decide) (fun _ => rfl) ?_
  refine fx_iload_n 4 dX4_ownMore_4 rfl 1 rfl ?_
  obtain ⟨g5, h⟩ := fx_gt h
  refine fx_iald 5 oka59 dX4_ownMore_5 g5 ?_
  by_cases s6_0 : M 59 x1.toNatClampNeg = (4 : Int32)
  · replace h := fx_ip s6_0 h
    refine fx_tsI 6 32 dX4_ownMore_6 (by rw [s6_0]; decide) (by rw [s6_0]; decide) (by rw [s6_0]; try rfl) (by decide) ?_
    refine fx_aload_n 32 dX4_ownMore_32 rfl 0 rfl ?_
    refine fx_get 33 (j := 0) (v := .ref 1) okc58 dX4_ownMore_33 lfX4_42 (by decide) (fun _ => rfl) ?_
    refine fx_get 36 (j := 2) (v := .ref 3) okc1 dX4_ownMore_36 lfX4_92 (by decide) (fun _ => rfl) ?_
    refine fx_iload_n 39 dX4_ownMore_39 rfl 1 rfl ?_
    refine fx_iald 40 oka3 dX4_ownMore_40 g5 ?_
    refine fx_ineg 41 dX4_ownMore_41 ?_
    obtain rfl := Option.some.inj h
    exact fx_iret 42 dX4_ownMore_42 rfl rfl ⟨rfl, rfl⟩
  · replace h := fx_ne s6_0 h
    by_cases s6_1 : M 59 x1.toNatClampNeg = (5 : Int32)
    · replace h := fx_ip s6_1 h
      refine fx_tsI 6 43 dX4_ownMore_6 (by rw [s6_1]; decide) (by rw [s6_1]; decide) (by rw [s6_1]; try rfl) (by decide) ?_
      refine fx_aload_n 43 dX4_ownMore_43 rfl 0 rfl ?_
      refine fx_get 44 (j := 1) (v := .ref ((M 58 1).toNatClampNeg)) okc58 dX4_ownMore_44 lfX4_46 (by decide) (fun _ => rfl) ?_
      obtain ⟨g47, h⟩ := fx_gt h
      refine fx_get 47 (j := 0) (v := .int (M ((M 58 1).toNatClampNeg) 0)) (okcS g47) dX4_ownMore_47 lfX4_111 (by decide) (fun _ => rfl) ?_
      refine fx_aload_n 50 dX4_ownMore_50 rfl 0 rfl ?_
      refine fx_get 51 (j := 0) (v := .ref 1) okc58 dX4_ownMore_51 lfX4_42 (by decide) (fun _ => rfl) ?_
      refine fx_get 54 (j := 3) (v := .ref 4) okc1 dX4_ownMore_54 lfX4_83 (by decide) (fun _ => rfl) ?_
      refine fx_iload_n 57 dX4_ownMore_57 rfl 1 rfl ?_
      refine fx_iald 58 oka4 dX4_ownMore_58 g5 ?_
      obtain ⟨q59, e59, h⟩ := fx_bd h
      refine fx_callNi 59 (mt' := mX6_rowOf) (host := "FieldBand") (As := [.int (M 4 x1.toNatClampNeg)]) (oksX6_rowOf _ _) (List.mem_of_getElem? (i := 3) rfl) (by decide) rfl rfl (Nat.le_of_ble_eq_true rfl) dX4_ownMore_59 (tX6_rowOf e59) ?_
      refine fx_imul 62 dX4_ownMore_62 ?_
      obtain rfl := Option.some.inj h
      exact fx_iret 63 dX4_ownMore_63 rfl rfl ⟨rfl, rfl⟩
    · replace h := fx_ne s6_1 h
      by_cases s6_2 : M 59 x1.toNatClampNeg = (6 : Int32)
      · replace h := fx_ip s6_2 h
        refine fx_tsI 6 64 dX4_ownMore_6 (by rw [s6_2]; decide) (by rw [s6_2]; decide) (by rw [s6_2]; try rfl) (by decide) ?_
        refine fx_aload_n 64 dX4_ownMore_64 rfl 0 rfl ?_
        refine fx_get 65 (j := 0) (v := .ref 1) okc58 dX4_ownMore_65 lfX4_42 (by decide) (fun _ => rfl) ?_
        refine fx_get 68 (j := 2) (v := .ref 3) okc1 dX4_ownMore_68 lfX4_92 (by decide) (fun _ => rfl) ?_
        refine fx_iload_n 71 dX4_ownMore_71 rfl 1 rfl ?_
        refine fx_iald 72 oka3 dX4_ownMore_72 g5 ?_
        refine fx_iload_n 73 dX4_ownMore_73 rfl 1 rfl ?_
        refine fx_imul 74 dX4_ownMore_74 ?_
        obtain rfl := Option.some.inj h
        exact fx_iret 75 dX4_ownMore_75 rfl rfl ⟨rfl, rfl⟩
      · replace h := fx_ne s6_2 h
        refine fx_tsD 6 76 [(4 : Int32), (5 : Int32), (6 : Int32)] dX4_ownMore_6 (by decide) (by decide) (by intro q hq; simp only [List.mem_cons, List.not_mem_nil, or_false] at hq; rcases hq with rfl | rfl | rfl <;> assumption) (by decide) ?_
        refine fx_iconst 76 (x := (0 : Int32)) dX4_ownMore_76 (by decide) ?_
        obtain rfl := Option.some.inj h
        exact fx_iret 77 dX4_ownMore_77 rfl rfl ⟨rfl, rfl⟩
def mX6_far : fxM := (yX6_far, cX6_far, 2, (some .int), 3, 120)
theorem oksX6_far (f l : Nat) : fx_okS (yX6_far, cX6_far, 2, (some .int), f, l) 2 := ⟨⟨rin22 _ (List.mem_of_getElem? (i := 3) rfl), rin1 _ (List.mem_of_getElem? (i := 2) rfl), by show yX6_far.cls ≠ _; decide +kernel, by show yX6_far.cls ≠ _; decide +kernel, by show (parseMethodDescriptor yX6_far.desc).map _ = _; decide +kernel⟩, rin22 _ (List.mem_of_getElem? (i := 2) rfl)⟩
def CX6_far (x0 : Int32) (x1 : Int32) (M : fxMem) : Option (Int32 × fxMem) := Option.bind (CX6_rowOf x0 M) fun q1 => Option.bind (CX6_rowOf x1 q1.2) fun q5 => Option.bind (CX6_columnOf x0 q5.2) fun q13 => Option.bind (CX6_columnOf x1 q13.2) fun q17 => some ((if (if (0 : Int32) ≤ q1.1 - q5.1 then q1.1 - q5.1 else (0 : Int32) - (q1.1 - q5.1)) < (if (0 : Int32) ≤ q13.1 - q17.1 then q13.1 - q17.1 else (0 : Int32) - (q13.1 - q17.1)) then (if (0 : Int32) ≤ q13.1 - q17.1 then q13.1 - q17.1 else (0 : Int32) - (q13.1 - q17.1)) else (if (0 : Int32) ≤ q1.1 - q5.1 then q1.1 - q5.1 else (0 : Int32) - (q1.1 - q5.1))), q17.2)
set_option maxRecDepth 100000 in
set_option maxHeartbeats 4000000 in
theorem tX6_far {x0 : Int32} {x1 : Int32} {M : fxMem} {R : Int32 × fxMem} (h : CX6_far x0 x1 M = some R) : fx_T gC mX6_far [.int x0, .int x1] M (fx_ri R) := by
  rw [CX6_far] at h
  refine fx_enter [(0, .int x0), (1, .int x1)] (by show plainName RX6 = true; decide) (fun _ => rfl) (fun _ => Nat.le_of_ble_eq_true rfl) ?_
  refine fx_iload_n 0 dX6_far_0 rfl 0 rfl ?_
  obtain ⟨q1, e1, h⟩ := fx_bd h
  refine fx_callSi 1 (mt' := mX6_rowOf) (As := [.int x0]) (oksX6_rowOf _ _) lmX6_229 (by decide) rfl rfl (Nat.le_of_ble_eq_true rfl) dX6_far_1 (tX6_rowOf e1) ?_
  refine fx_iload_n 4 dX6_far_4 rfl 1 rfl ?_
  obtain ⟨q5, e5, h⟩ := fx_bd h
  refine fx_callSi 5 (mt' := mX6_rowOf) (As := [.int x1]) (oksX6_rowOf _ _) lmX6_229 (by decide) rfl rfl (Nat.le_of_ble_eq_true rfl) dX6_far_5 (tX6_rowOf e5) ?_
  refine fx_isub 8 dX6_far_8 ?_
  refine fx_mabs 9 dX6_far_9 lmX6_232 (by decide) (Nat.le_of_ble_eq_true rfl) ?_
  refine fx_iload_n 12 dX6_far_12 rfl 0 rfl ?_
  obtain ⟨q13, e13, h⟩ := fx_bd h
  refine fx_callSi 13 (mt' := mX6_columnOf) (As := [.int x0]) (oksX6_columnOf _ _) lmX6_235 (by decide) rfl rfl (Nat.le_of_ble_eq_true rfl) dX6_far_13 (tX6_columnOf e13) ?_
  refine fx_iload_n 16 dX6_far_16 rfl 1 rfl ?_
  obtain ⟨q17, e17, h⟩ := fx_bd h
  refine fx_callSi 17 (mt' := mX6_columnOf) (As := [.int x1]) (oksX6_columnOf _ _) lmX6_235 (by decide) rfl rfl (Nat.le_of_ble_eq_true rfl) dX6_far_17 (tX6_columnOf e17) ?_
  refine fx_isub 20 dX6_far_20 ?_
  refine fx_mabs 21 dX6_far_21 lmX6_232 (by decide) (Nat.le_of_ble_eq_true rfl) ?_
  refine fx_mmax 24 dX6_far_24 lmX6_149 (by decide) (Nat.le_of_ble_eq_true rfl) ?_
  obtain rfl := Option.some.inj h
  exact fx_iret 27 dX6_far_27 rfl rfl ⟨rfl, rfl⟩
def mX4_playedBy : fxM := (yX4_playedBy, cX4_playedBy, 6, (some .int), 4, 160)
theorem okvX4_playedBy (f l : Nat) : fx_okV (yX4_playedBy, cX4_playedBy, 6, (some .int), f, l) 1 := ⟨⟨rin21 _ (List.mem_of_getElem? (i := 20) rfl), rin2 _ (List.mem_of_getElem? (i := 13) rfl), by show yX4_playedBy.cls ≠ _; decide +kernel, by show yX4_playedBy.cls ≠ _; decide +kernel, by show (parseMethodDescriptor yX4_playedBy.desc).map _ = _; decide +kernel⟩, rin21 _ (List.mem_of_getElem? (i := 18) rfl), rin21 _ (List.mem_of_getElem? (i := 19) rfl)⟩
def CX4_playedBy_L7 (x1 : Int32) : Nat → Int32 → Int32 → Int32 → fxMem → (Int32 → Int32 → Int32 → fxMem → Option (Int32 × fxMem)) → Option (Int32 × fxMem)
  | 0, _, _, _, _, _ => none
  | n + 1, x2, x3, x4, M, k => if (10 : Int32) ≤ x4 then k x2 x3 x4 M else if fx_in x3 10 = true then Option.bind (CX4_ownMore x3 M) fun q23 => if q23.2 61 x3.toNatClampNeg = (-1 : Int32) then some (x2 + ((M 60 x3.toNatClampNeg) + q23.1), q23.2) else if q23.2 61 x3.toNatClampNeg = (-2 : Int32) then if fx_isSh ((q23.2 58 1).toNatClampNeg) = true then Option.bind (CX6_far (q23.2 4 x3.toNatClampNeg) (q23.2 58 2) q23.2) fun q73 => some ((x2 + ((M 60 x3.toNatClampNeg) + q23.1)) + ((q23.2 ((q23.2 58 1).toNatClampNeg) 0) * q73.1), q73.2) else none else if fx_isSh ((q23.2 58 1).toNatClampNeg) = true then if fx_in (q23.2 61 x3.toNatClampNeg) 10 = true then Option.bind (CX6_far (q23.2 4 x3.toNatClampNeg) (q23.2 4 (q23.2 61 x3.toNatClampNeg).toNatClampNeg) q23.2) fun q106 => CX4_playedBy_L7 x1 n ((x2 + ((M 60 x3.toNatClampNeg) + q23.1)) + ((q23.2 ((q23.2 58 1).toNatClampNeg) 0) * q106.1)) (q23.2 61 x3.toNatClampNeg) (x4 + (1 : Int32)) q106.2 k else none else none else none
set_option maxRecDepth 100000 in
set_option maxHeartbeats 4000000 in
theorem vX4_playedBy_L7 {x1 : Int32} {R : Int32 × fxMem} {k : Int32 → Int32 → Int32 → fxMem → Option (Int32 × fxMem)} (hk : ∀ (x2 : Int32) (x3 : Int32) (x4 : Int32) (M : fxMem), k x2 x3 x4 M = some R → fx_V gC mX4_playedBy (fx_ri R) 121 [(0, .ref 58), (1, .int x1), (2, .int x2), (3, .int x3), (4, .int x4)] [] M) : ∀ (n : Nat) (x2 : Int32) (x3 : Int32) (x4 : Int32) (M : fxMem), CX4_playedBy_L7 x1 n x2 x3 x4 M k = some R → fx_V gC mX4_playedBy (fx_ri R) 7 [(0, .ref 58), (1, .int x1), (2, .int x2), (3, .int x3), (4, .int x4)] [] M := by
  intro n
  induction n with
  | zero => intro x2 x3 x4 M h; rw [CX4_playedBy_L7] at h; cases h
  | succ n ih =>
    intro x2 x3 x4 M h
    rw [CX4_playedBy_L7] at h
    refine fx_iload 7 dX4_playedBy_7 4 rfl ?_
    refine fx_bipush 9 (x := (10 : Int32)) dX4_playedBy_9 (by decide) ?_
    refine fx_icmp_ge 11 121 dX4_playedBy_11 (by decide) (fun c11 => ?_) (fun c11 => ?_)
    · replace h := fx_ip c11 h
      refine fx_sub [0, 1, 2, 3, 4] rfl ?_
      exact hk _ _ _ _ h
    · replace h := fx_ne c11 h
      refine fx_iload_n 14 dX4_playedBy_14 rfl 2 rfl ?_
      refine fx_aload_n 15 dX4_playedBy_15 rfl 0 rfl ?_
      refine fx_get 16 (j := 5) (v := .ref 60) okc58 dX4_playedBy_16 lfX4_22 (by decide) (fun _ => rfl) ?_
      refine fx_iload_n 19 dX4_playedBy_19 rfl 3 rfl ?_
      obtain ⟨g20, h⟩ := fx_gt h
      refine fx_iald 20 oka60 dX4_playedBy_20 g20 ?_
      refine fx_aload_n 21 dX4_playedBy_21 rfl 0 rfl ?_
      refine fx_iload_n 22 dX4_playedBy_22 rfl 3 rfl ?_
      obtain ⟨q23, e23, h⟩ := fx_bd h
      refine fx_callVi 23 (mt' := mX4_ownMore) (As := [.int x3]) okc58 (okvX4_ownMore _ _) lmX4_108 (by decide) rfl rfl (Nat.le_of_ble_eq_true rfl) dX4_playedBy_23 (tX4_ownMore e23) ?_
      refine fx_iadd 26 dX4_playedBy_26 ?_
      refine fx_iadd 27 dX4_playedBy_27 ?_
      refine fx_istore_n 28 (lv' := [(2, .int (x2 + ((M 60 x3.toNatClampNeg) + q23.1))), (0, .ref 58), (1, .int x1), (3, .int x3), (4, .int x4)]) dX4_playedBy_28 rfl (Nat.le_of_ble_eq_true rfl) rfl ?_
      refine fx_aload_n 29 dX4_playedBy_29 rfl 1 rfl ?_
      refine fx_get 30 (j := 6) (v := .ref 61) okc58 dX4_playedBy_30 lfX4_25 (by decide) (fun _ => rfl) ?_
      refine fx_iload_n 33 dX4_playedBy_33 rfl 3 rfl ?_
      refine fx_iald 34 oka61 dX4_playedBy_34 g20 ?_
      refine fx_istore 35 (lv' := [(5, .int (q23.2 61 x3.toNatClampNeg)), (2, .int (x2 + ((M 60 x3.toNatClampNeg) + q23.1))), (0, .ref 58), (1, .int x1), (3, .int x3), (4, .int x4)]) dX4_playedBy_35 (Nat.le_of_ble_eq_true rfl) rfl ?_
      refine fx_iload 37 dX4_playedBy_37 0 rfl ?_
      refine fx_iconst 39 (x := (-1 : Int32)) dX4_playedBy_39 (by decide) ?_
      refine fx_icmp_ne 40 45 dX4_playedBy_40 (by decide) (fun c40 => ?_) (fun c40 => ?_)
      · replace h := fx_ne c40 h
        refine fx_iload 45 dX4_playedBy_45 0 rfl ?_
        refine fx_bipush 47 (x := (-2 : Int32)) dX4_playedBy_47 (by decide) ?_
        refine fx_icmp_ne 49 79 dX4_playedBy_49 (by decide) (fun c49 => ?_) (fun c49 => ?_)
        · replace h := fx_ne c49 h
          refine fx_iload_n 79 dX4_playedBy_79 rfl 1 rfl ?_
          refine fx_aload_n 80 dX4_playedBy_80 rfl 2 rfl ?_
          refine fx_get 81 (j := 1) (v := .ref ((q23.2 58 1).toNatClampNeg)) okc58 dX4_playedBy_81 lfX4_46 (by decide) (fun _ => rfl) ?_
          obtain ⟨g84, h⟩ := fx_gt h
          refine fx_get 84 (j := 0) (v := .int (q23.2 ((q23.2 58 1).toNatClampNeg) 0)) (okcS g84) dX4_playedBy_84 lfX4_111 (by decide) (fun _ => rfl) ?_
          refine fx_aload_n 87 dX4_playedBy_87 rfl 2 rfl ?_
          refine fx_get 88 (j := 0) (v := .ref 1) okc58 dX4_playedBy_88 lfX4_42 (by decide) (fun _ => rfl) ?_
          refine fx_get 91 (j := 3) (v := .ref 4) okc1 dX4_playedBy_91 lfX4_83 (by decide) (fun _ => rfl) ?_
          refine fx_iload_n 94 dX4_playedBy_94 rfl 4 rfl ?_
          refine fx_iald 95 oka4 dX4_playedBy_95 g20 ?_
          refine fx_aload_n 96 dX4_playedBy_96 rfl 2 rfl ?_
          refine fx_get 97 (j := 0) (v := .ref 1) okc58 dX4_playedBy_97 lfX4_42 (by decide) (fun _ => rfl) ?_
          refine fx_get 100 (j := 3) (v := .ref 4) okc1 dX4_playedBy_100 lfX4_83 (by decide) (fun _ => rfl) ?_
          refine fx_iload 103 dX4_playedBy_103 0 rfl ?_
          obtain ⟨g105, h⟩ := fx_gt h
          refine fx_iald 105 oka4 dX4_playedBy_105 g105 ?_
          obtain ⟨q106, e106, h⟩ := fx_bd h
          refine fx_callNi 106 (mt' := mX6_far) (host := "FieldBand") (As := [.int (q23.2 4 x3.toNatClampNeg), .int (q23.2 4 (q23.2 61 x3.toNatClampNeg).toNatClampNeg)]) (oksX6_far _ _) (List.mem_of_getElem? (i := 6) rfl) (by decide) rfl rfl (Nat.le_of_ble_eq_true rfl) dX4_playedBy_106 (tX6_far e106) ?_
          refine fx_imul 109 dX4_playedBy_109 ?_
          refine fx_iadd 110 dX4_playedBy_110 ?_
          refine fx_istore_n 111 (lv' := [(2, .int ((x2 + ((M 60 x3.toNatClampNeg) + q23.1)) + ((q23.2 ((q23.2 58 1).toNatClampNeg) 0) * q106.1))), (5, .int (q23.2 61 x3.toNatClampNeg)), (0, .ref 58), (1, .int x1), (3, .int x3), (4, .int x4)]) dX4_playedBy_111 rfl (Nat.le_of_ble_eq_true rfl) rfl ?_
          refine fx_iload 112 dX4_playedBy_112 1 rfl ?_
          refine fx_istore_n 114 (lv' := [(3, .int (q23.2 61 x3.toNatClampNeg)), (2, .int ((x2 + ((M 60 x3.toNatClampNeg) + q23.1)) + ((q23.2 ((q23.2 58 1).toNatClampNeg) 0) * q106.1))), (5, .int (q23.2 61 x3.toNatClampNeg)), (0, .ref 58), (1, .int x1), (4, .int x4)]) dX4_playedBy_114 rfl (Nat.le_of_ble_eq_true rfl) rfl ?_
          refine fx_iinc 115 (lv' := [(4, .int (x4 + (1 : Int32))), (3, .int (q23.2 61 x3.toNatClampNeg)), (2, .int ((x2 + ((M 60 x3.toNatClampNeg) + q23.1)) + ((q23.2 ((q23.2 58 1).toNatClampNeg) 0) * q106.1))), (5, .int (q23.2 61 x3.toNatClampNeg)), (0, .ref 58), (1, .int x1)]) (y := x4 + (1 : Int32)) dX4_playedBy_115 5 rfl (by rfl) (Nat.le_of_ble_eq_true rfl) rfl ?_
          refine fx_goto 118 7 dX4_playedBy_118 (by decide) ?_
          refine fx_sub [4, 5, 2, 1, 0] rfl ?_
          exact ih _ _ _ _ h
        · replace h := fx_ip c49 h
          refine fx_iload_n 52 dX4_playedBy_52 rfl 1 rfl ?_
          refine fx_aload_n 53 dX4_playedBy_53 rfl 2 rfl ?_
          refine fx_get 54 (j := 1) (v := .ref ((q23.2 58 1).toNatClampNeg)) okc58 dX4_playedBy_54 lfX4_46 (by decide) (fun _ => rfl) ?_
          obtain ⟨g57, h⟩ := fx_gt h
          refine fx_get 57 (j := 0) (v := .int (q23.2 ((q23.2 58 1).toNatClampNeg) 0)) (okcS g57) dX4_playedBy_57 lfX4_111 (by decide) (fun _ => rfl) ?_
          refine fx_aload_n 60 dX4_playedBy_60 rfl 2 rfl ?_
          refine fx_get 61 (j := 0) (v := .ref 1) okc58 dX4_playedBy_61 lfX4_42 (by decide) (fun _ => rfl) ?_
          refine fx_get 64 (j := 3) (v := .ref 4) okc1 dX4_playedBy_64 lfX4_83 (by decide) (fun _ => rfl) ?_
          refine fx_iload_n 67 dX4_playedBy_67 rfl 4 rfl ?_
          refine fx_iald 68 oka4 dX4_playedBy_68 g20 ?_
          refine fx_aload_n 69 dX4_playedBy_69 rfl 2 rfl ?_
          refine fx_get 70 (j := 2) (v := .int (q23.2 58 2)) okc58 dX4_playedBy_70 lfX4_9 (by decide) (fun _ => rfl) ?_
          obtain ⟨q73, e73, h⟩ := fx_bd h
          refine fx_callNi 73 (mt' := mX6_far) (host := "FieldBand") (As := [.int (q23.2 4 x3.toNatClampNeg), .int (q23.2 58 2)]) (oksX6_far _ _) (List.mem_of_getElem? (i := 6) rfl) (by decide) rfl rfl (Nat.le_of_ble_eq_true rfl) dX4_playedBy_73 (tX6_far e73) ?_
          refine fx_imul 76 dX4_playedBy_76 ?_
          refine fx_iadd 77 dX4_playedBy_77 ?_
          obtain rfl := Option.some.inj h
          exact fx_iret 78 dX4_playedBy_78 rfl rfl ⟨rfl, rfl⟩
      · replace h := fx_ip c40 h
        refine fx_iload_n 43 dX4_playedBy_43 rfl 1 rfl ?_
        obtain rfl := Option.some.inj h
        exact fx_iret 44 dX4_playedBy_44 rfl rfl ⟨rfl, rfl⟩
def CX4_playedBy (x1 : Int32) (M : fxMem) : Option (Int32 × fxMem) := CX4_playedBy_L7 x1 1000 (0 : Int32) x1 (0 : Int32) M (fun y2_7 y3_7 y4_7 M7 => some (y2_7, M7))
set_option maxRecDepth 100000 in
set_option maxHeartbeats 4000000 in
theorem tX4_playedBy {x1 : Int32} {M : fxMem} {R : Int32 × fxMem} (h : CX4_playedBy x1 M = some R) : fx_T gC mX4_playedBy [.ref 58, .int x1] M (fx_ri R) := by
  rw [CX4_playedBy] at h
  refine fx_enter [(0, .ref 58), (1, .int x1)] (by show plainName RX4 = true; decide) (fun _ => rfl) (fun _ => Nat.le_of_ble_eq_true rfl) ?_
  refine fx_iconst 0 (x := (0 : Int32)) dX4_playedBy_0 (by decide) ?_
  refine fx_istore_n 1 (lv' := [(2, .int (0 : Int32)), (0, .ref 58), (1, .int x1)]) dX4_playedBy_1 rfl (Nat.le_of_ble_eq_true rfl) rfl ?_
  refine fx_iload_n 2 dX4_playedBy_2 rfl 2 rfl ?_
  refine fx_istore_n 3 (lv' := [(3, .int x1), (2, .int (0 : Int32)), (0, .ref 58), (1, .int x1)]) dX4_playedBy_3 rfl (Nat.le_of_ble_eq_true rfl) rfl ?_
  refine fx_iconst 4 (x := (0 : Int32)) dX4_playedBy_4 (by decide) ?_
  refine fx_istore 5 (lv' := [(4, .int (0 : Int32)), (3, .int x1), (2, .int (0 : Int32)), (0, .ref 58), (1, .int x1)]) dX4_playedBy_5 (Nat.le_of_ble_eq_true rfl) rfl ?_
  refine fx_sub [3, 4, 2, 1, 0] rfl ?_
  refine vX4_playedBy_L7 (fun y2_7 y3_7 y4_7 M7 h => ?_) 1000 _ _ _ _ h
  refine fx_iload_n 121 dX4_playedBy_121 rfl 2 rfl ?_
  obtain rfl := Option.some.inj h
  exact fx_iret 122 dX4_playedBy_122 rfl rfl ⟨rfl, rfl⟩
def mX4_playAll : fxM := (yX4_playAll, cX4_playAll, 2, none, 5, 200)
theorem okvX4_playAll (f l : Nat) : fx_okV (yX4_playAll, cX4_playAll, 2, none, f, l) 0 := ⟨⟨rin21 _ (List.mem_of_getElem? (i := 16) rfl), rin2 _ (List.mem_of_getElem? (i := 13) rfl), by show yX4_playAll.cls ≠ _; decide +kernel, by show yX4_playAll.cls ≠ _; decide +kernel, by show (parseMethodDescriptor yX4_playAll.desc).map _ = _; decide +kernel⟩, rin21 _ (List.mem_of_getElem? (i := 14) rfl), rin21 _ (List.mem_of_getElem? (i := 15) rfl)⟩
def CX4_playAll_L2 : Nat → Int32 → fxMem → (Int32 → fxMem → Option (fxMem)) → Option (fxMem)
  | 0, _, _, _ => none
  | n + 1, x1, M, k => if M 1 0 ≤ x1 then k x1 M else Option.bind (CX4_playedBy x1 M) fun q20 => if fx_in x1 10 = true then CX4_playAll_L2  n (x1 + (1 : Int32)) (fx_st q20.2 62 x1.toNatClampNeg q20.1) k else none
set_option maxRecDepth 100000 in
set_option maxHeartbeats 4000000 in
theorem vX4_playAll_L2 {R : fxMem} {k : Int32 → fxMem → Option (fxMem)} (hk : ∀ (x1 : Int32) (M : fxMem), k x1 M = some R → fx_V gC mX4_playAll (fx_rv R) 30 [(0, .ref 58), (1, .int x1)] [] M) : ∀ (n : Nat) (x1 : Int32) (M : fxMem), CX4_playAll_L2  n x1 M k = some R → fx_V gC mX4_playAll (fx_rv R) 2 [(0, .ref 58), (1, .int x1)] [] M := by
  intro n
  induction n with
  | zero => intro x1 M h; rw [CX4_playAll_L2] at h; cases h
  | succ n ih =>
    intro x1 M h
    rw [CX4_playAll_L2] at h
    refine fx_iload_n 2 dX4_playAll_2 rfl 1 rfl ?_
    refine fx_aload_n 3 dX4_playAll_3 rfl 0 rfl ?_
    refine fx_get 4 (j := 0) (v := .ref 1) okc58 dX4_playAll_4 lfX4_42 (by decide) (fun _ => rfl) ?_
    refine fx_get 7 (j := 0) (v := .int (M 1 0)) okc1 dX4_playAll_7 lfX4_69 (by decide) (fun _ => rfl) ?_
    refine fx_icmp_ge 10 30 dX4_playAll_10 (by decide) (fun c10 => ?_) (fun c10 => ?_)
    · replace h := fx_ip c10 h
      refine fx_sub [0, 1] rfl ?_
      exact hk _ _ h
    · replace h := fx_ne c10 h
      refine fx_aload_n 13 dX4_playAll_13 rfl 0 rfl ?_
      refine fx_get 14 (j := 7) (v := .ref 62) okc58 dX4_playAll_14 lfX4_28 (by decide) (fun _ => rfl) ?_
      refine fx_iload_n 17 dX4_playAll_17 rfl 1 rfl ?_
      refine fx_aload_n 18 dX4_playAll_18 rfl 0 rfl ?_
      refine fx_iload_n 19 dX4_playAll_19 rfl 1 rfl ?_
      obtain ⟨q20, e20, h⟩ := fx_bd h
      refine fx_callVi 20 (mt' := mX4_playedBy) (As := [.int x1]) okc58 (okvX4_playedBy _ _) lmX4_80 (by decide) rfl rfl (Nat.le_of_ble_eq_true rfl) dX4_playAll_20 (tX4_playedBy e20) ?_
      obtain ⟨g23, h⟩ := fx_gt h
      refine fx_iast 23 oka62 dX4_playAll_23 g23 ?_
      refine fx_iinc 24 (lv' := [(1, .int (x1 + (1 : Int32))), (0, .ref 58)]) (y := x1 + (1 : Int32)) dX4_playAll_24 1 rfl (by rfl) (Nat.le_of_ble_eq_true rfl) rfl ?_
      refine fx_goto 27 2 dX4_playAll_27 (by decide) ?_
      refine fx_sub [1, 0] rfl ?_
      exact ih _ _ h
def CX4_playAll  (M : fxMem) : Option (fxMem) := CX4_playAll_L2  1000 (0 : Int32) M (fun y1_2 M2 => some M2)
set_option maxRecDepth 100000 in
set_option maxHeartbeats 4000000 in
theorem tX4_playAll  {M : fxMem} {R : fxMem} (h : CX4_playAll  M = some R) : fx_T gC mX4_playAll [.ref 58] M (fx_rv R) := by
  rw [CX4_playAll] at h
  refine fx_enter [(0, .ref 58)] (by show plainName RX4 = true; decide) (fun _ => rfl) (fun _ => Nat.le_of_ble_eq_true rfl) ?_
  refine fx_iconst 0 (x := (0 : Int32)) dX4_playAll_0 (by decide) ?_
  refine fx_istore_n 1 (lv' := [(1, .int (0 : Int32)), (0, .ref 58)]) dX4_playAll_1 rfl (Nat.le_of_ble_eq_true rfl) rfl ?_
  refine fx_sub [1, 0] rfl ?_
  refine vX4_playAll_L2 (fun y1_2 M2 h => ?_) 1000 _ _ h
  obtain rfl := Option.some.inj h
  exact fx_vret 30 dX4_playAll_30 rfl ⟨rfl, rfl⟩
def mX4_hearAll : fxM := (yX4_hearAll, cX4_hearAll, 2, none, 7, 280)
theorem okvX4_hearAll (f l : Nat) : fx_okV (yX4_hearAll, cX4_hearAll, 2, none, f, l) 1 := ⟨⟨rin19 _ (List.mem_of_getElem? (i := 13) rfl), rin2 _ (List.mem_of_getElem? (i := 13) rfl), by show yX4_hearAll.cls ≠ _; decide +kernel, by show yX4_hearAll.cls ≠ _; decide +kernel, by show (parseMethodDescriptor yX4_hearAll.desc).map _ = _; decide +kernel⟩, rin19 _ (List.mem_of_getElem? (i := 11) rfl), rin19 _ (List.mem_of_getElem? (i := 12) rfl)⟩
def CX4_hearAll (x1 : Nat) (M : fxMem) : Option (fxMem) := if fx_isSh x1 = true then fx_lt (fx_st M 58 1 (nI x1)) fun M10 => Option.bind (CX4_slipAll (fx_cp (fx_st (fx_st M10 58 2 (M10 1 4)) 58 3 (-1 : Int32)) 2 59 10)) fun q40 => Option.bind (CX4_arrange q40) fun q44 => Option.bind (CX4_playAll q44) fun q48 => some q48 else none
set_option maxRecDepth 100000 in
set_option maxHeartbeats 4000000 in
theorem tX4_hearAll {x1 : Nat} {M : fxMem} {R : fxMem} (h : CX4_hearAll x1 M = some R) : fx_T gC mX4_hearAll [.ref 58, .ref x1] M (fx_rv R) := by
  rw [CX4_hearAll] at h
  refine fx_enter [(0, .ref 58), (1, .ref x1)] (by show plainName RX4 = true; decide) (fun _ => rfl) (fun _ => Nat.le_of_ble_eq_true rfl) ?_
  refine fx_aload_n 0 dX4_hearAll_0 rfl 0 rfl ?_
  refine fx_aload_n 1 dX4_hearAll_1 rfl 1 rfl ?_
  obtain ⟨g2, h⟩ := fx_gt h
  refine fx_putSS 2 g2 dX4_hearAll_2 lfX4_46 ?_
  refine fx_aload_n 5 dX4_hearAll_5 rfl 0 rfl ?_
  refine fx_aload_n 6 dX4_hearAll_6 rfl 0 rfl ?_
  refine fx_get 7 (j := 0) (v := .ref 1) okc58 dX4_hearAll_7 lfX4_42 (by decide) (fun _ => rfl) ?_
  replace h := fx_ltd h
  generalize fx_st M 58 1 (nI x1) = M10 at h ⊢
  refine fx_get 10 (j := 4) (v := .int (M10 1 4)) okc1 dX4_hearAll_10 lfX4_50 (by decide) (fun _ => rfl) ?_
  refine fx_putI 13 (j := 2) okc58 dX4_hearAll_13 lfX4_9 (by decide) rfl (by decide +kernel) (fun _ _ => Nat.le_of_ble_eq_true rfl) (fun _ _ _ => rfl) ?_
  refine fx_aload_n 16 dX4_hearAll_16 rfl 0 rfl ?_
  refine fx_iconst 17 (x := (-1 : Int32)) dX4_hearAll_17 (by decide) ?_
  refine fx_putI 18 (j := 3) okc58 dX4_hearAll_18 lfX4_15 (by decide) rfl (by decide +kernel) (fun _ _ => Nat.le_of_ble_eq_true rfl) (fun _ _ _ => rfl) ?_
  refine fx_aload_n 21 dX4_hearAll_21 rfl 0 rfl ?_
  refine fx_get 22 (j := 0) (v := .ref 1) okc58 dX4_hearAll_22 lfX4_42 (by decide) (fun _ => rfl) ?_
  refine fx_get 25 (j := 1) (v := .ref 2) okc1 dX4_hearAll_25 lfX4_53 (by decide) (fun _ => rfl) ?_
  refine fx_iconst 28 (x := (0 : Int32)) dX4_hearAll_28 (by decide) ?_
  refine fx_aload_n 29 dX4_hearAll_29 rfl 0 rfl ?_
  refine fx_get 30 (j := 4) (v := .ref 59) okc58 dX4_hearAll_30 lfX4_18 (by decide) (fun _ => rfl) ?_
  refine fx_iconst 33 (x := (0 : Int32)) dX4_hearAll_33 (by decide) ?_
  refine fx_bipush 34 (x := (10 : Int32)) dX4_hearAll_34 (by decide) ?_
  refine fx_copyz 36 10 .int oka2 oka59 (fun _ => rfl) rfl (by decide) (by decide) (by decide) (fun _ _ => rfl) dX4_hearAll_36 lmX4_54 (by decide) (Nat.le_of_ble_eq_true rfl) ?_
  refine fx_aload_n 39 dX4_hearAll_39 rfl 0 rfl ?_
  obtain ⟨q40, e40, h⟩ := fx_bd h
  refine fx_callVv 40 (mt' := mX4_slipAll) (As := []) okc58 (okvX4_slipAll _ _) lmX4_60 (by decide) rfl rfl (Nat.le_of_ble_eq_true rfl) dX4_hearAll_40 (tX4_slipAll e40) ?_
  refine fx_aload_n 43 dX4_hearAll_43 rfl 0 rfl ?_
  obtain ⟨q44, e44, h⟩ := fx_bd h
  refine fx_callVv 44 (mt' := mX4_arrange) (As := []) okc58 (okvX4_arrange _ _) lmX4_63 (by decide) rfl rfl (Nat.le_of_ble_eq_true rfl) dX4_hearAll_44 (tX4_arrange e44) ?_
  refine fx_aload_n 47 dX4_hearAll_47 rfl 0 rfl ?_
  obtain ⟨q48, e48, h⟩ := fx_bd h
  refine fx_callVv 48 (mt' := mX4_playAll) (As := []) okc58 (okvX4_playAll _ _) lmX4_66 (by decide) rfl rfl (Nat.le_of_ble_eq_true rfl) dX4_hearAll_48 (tX4_playAll e48) ?_
  obtain rfl := Option.some.inj h
  exact fx_vret 51 dX4_hearAll_51 rfl ⟨rfl, rfl⟩
def mX6_listen : fxM := (yX6_listen, cX6_listen, 1, (some (.object "FieldBand$Sound")), 8, 320)
theorem okvX6_listen (f l : Nat) : fx_okV (yX6_listen, cX6_listen, 1, (some (.object "FieldBand$Sound")), f, l) 0 := ⟨⟨rin19 _ (List.mem_of_getElem? (i := 9) rfl), rin1 _ (List.mem_of_getElem? (i := 2) rfl), by show yX6_listen.cls ≠ _; decide +kernel, by show yX6_listen.cls ≠ _; decide +kernel, by show (parseMethodDescriptor yX6_listen.desc).map _ = _; decide +kernel⟩, rin19 _ (List.mem_of_getElem? (i := 7) rfl), rin19 _ (List.mem_of_getElem? (i := 8) rfl)⟩
def CX6_listen  (M : fxMem) : Option (fxMem) := Option.bind (CX6_held M) fun q5 => Option.bind (CX4_hearAll q5.1 q5.2) fun q8 => some q8
set_option maxRecDepth 100000 in
set_option maxHeartbeats 4000000 in
theorem tX6_listen  {M : fxMem} {R : fxMem} (h : CX6_listen  M = some R) : fx_T gC mX6_listen [.ref 0] M (fx_rk 58 R) := by
  rw [CX6_listen] at h
  refine fx_enter [(0, .ref 0)] (by show plainName RX6 = true; decide) (fun _ => rfl) (fun _ => Nat.le_of_ble_eq_true rfl) ?_
  refine fx_aload_n 0 dX6_listen_0 rfl 0 rfl ?_
  refine fx_get 1 (j := 5) (v := .ref 58) okc0 dX6_listen_1 lfX6_58 (by decide) (fun _ => rfl) ?_
  refine fx_aload_n 4 dX6_listen_4 rfl 0 rfl ?_
  obtain ⟨q5, e5, h⟩ := fx_bd h
  refine fx_callVq 5 (mt' := mX6_held) (As := []) okc0 (okvX6_held _ _) lmX6_76 (by decide) rfl rfl (Nat.le_of_ble_eq_true rfl) dX6_listen_5 (tX6_held e5) ?_
  obtain ⟨q8, e8, h⟩ := fx_bd h
  refine fx_callVv 8 (mt' := mX4_hearAll) (As := [.ref q5.1]) okc58 (okvX4_hearAll _ _) lmX6_222 (by decide) rfl rfl (Nat.le_of_ble_eq_true rfl) dX6_listen_8 (tX4_hearAll e8) ?_
  refine fx_aload_n 11 dX6_listen_11 rfl 0 rfl ?_
  refine fx_get 12 (j := 5) (v := .ref 58) okc0 dX6_listen_12 lfX6_58 (by decide) (fun _ => rfl) ?_
  obtain rfl := Option.some.inj h
  exact fx_aret 15 dX6_listen_15 rfl ⟨rfl, rfl⟩
def mX4_loudness : fxM := (yX4_loudness, cX4_loudness, 2, (some .int), 6, 240)
theorem okvX4_loudness (f l : Nat) : fx_okV (yX4_loudness, cX4_loudness, 2, (some .int), f, l) 1 := ⟨⟨rin22 _ (List.mem_of_getElem? (i := 13) rfl), rin2 _ (List.mem_of_getElem? (i := 13) rfl), by show yX4_loudness.cls ≠ _; decide +kernel, by show yX4_loudness.cls ≠ _; decide +kernel, by show (parseMethodDescriptor yX4_loudness.desc).map _ = _; decide +kernel⟩, rin22 _ (List.mem_of_getElem? (i := 11) rfl), rin22 _ (List.mem_of_getElem? (i := 12) rfl)⟩
def CX4_loudness (x1 : Int32) (M : fxMem) : Option (Int32 × fxMem) := Option.bind (CX4_sumFor (0 : Int32) x1 M) fun q4 => some ((1 : Int32) + q4.1, q4.2)
set_option maxRecDepth 100000 in
set_option maxHeartbeats 4000000 in
theorem tX4_loudness {x1 : Int32} {M : fxMem} {R : Int32 × fxMem} (h : CX4_loudness x1 M = some R) : fx_T gC mX4_loudness [.ref 58, .int x1] M (fx_ri R) := by
  rw [CX4_loudness] at h
  refine fx_enter [(0, .ref 58), (1, .int x1)] (by show plainName RX4 = true; decide) (fun _ => rfl) (fun _ => Nat.le_of_ble_eq_true rfl) ?_
  refine fx_iconst 0 (x := (1 : Int32)) dX4_loudness_0 (by decide) ?_
  refine fx_aload_n 1 dX4_loudness_1 rfl 0 rfl ?_
  refine fx_iconst 2 (x := (0 : Int32)) dX4_loudness_2 (by decide) ?_
  refine fx_iload_n 3 dX4_loudness_3 rfl 1 rfl ?_
  obtain ⟨q4, e4, h⟩ := fx_bd h
  refine fx_callVi 4 (mt' := mX4_sumFor) (As := [.int (0 : Int32), .int x1]) okc58 (okvX4_sumFor _ _) lmX4_72 (by decide) rfl rfl (Nat.le_of_ble_eq_true rfl) dX4_loudness_4 (tX4_sumFor e4) ?_
  refine fx_iadd 7 dX4_loudness_7 ?_
  obtain rfl := Option.some.inj h
  exact fx_iret 8 dX4_loudness_8 rfl rfl ⟨rfl, rfl⟩
