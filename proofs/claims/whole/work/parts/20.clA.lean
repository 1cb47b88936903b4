def mX6_feed : fxM := (yX6_feed, cX6_feed, 5, (some .int), 2, 80)
theorem okvX6_feed (f l : Nat) : fx_okV (yX6_feed, cX6_feed, 5, (some .int), f, l) 2 := ⟨⟨rin6 _ (List.mem_of_getElem? (i := 14) rfl), rin1 _ (List.mem_of_getElem? (i := 2) rfl), by show yX6_feed.cls ≠ _; decide +kernel, by show yX6_feed.cls ≠ _; decide +kernel, by show (parseMethodDescriptor yX6_feed.desc).map _ = _; decide +kernel⟩, rin6 _ (List.mem_of_getElem? (i := 12) rfl), rin6 _ (List.mem_of_getElem? (i := 13) rfl)⟩
def CX6_feed_L36 (x1 : Int64) (x3 : Int32) : Nat → Int32 → fxMem → (Int32 → fxMem → Option (Int32 × fxMem)) → Option (Int32 × fxMem)
  | 0, _, _, _ => none
  | n + 1, x4, M, k => if x4 < (0 : Int32) then k x4 M else if fx_in (M 1 9) 120 = true then fx_lt (fx_st M 7 (M 1 9).toNatClampNeg (vp_nar .byte ((((x1.toUInt64 >>> (((8 : Int32) * x4).toInt64.toUInt64 &&& Int64.toUInt64 63)).toInt64).toInt32).toInt8.toInt32))) fun M70 => CX6_feed_L36 x1 x3 n (x4 + (-1 : Int32)) (fx_st M70 1 9 ((M70 1 9) + (1 : Int32))) k else none
set_option maxRecDepth 100000 in
set_option maxHeartbeats 4000000 in
theorem vX6_feed_L36 {x1 : Int64} {x3 : Int32} {R : Int32 × fxMem} {k : Int32 → fxMem → Option (Int32 × fxMem)} (hk : ∀ (x4 : Int32) (M : fxMem), k x4 M = some R → fx_V gC mX6_feed (fx_ri R) 84 [(0, .ref 0), (1, .long x1), (3, .int x3), (4, .int x4)] [] M) : ∀ (n : Nat) (x4 : Int32) (M : fxMem), CX6_feed_L36 x1 x3 n x4 M k = some R → fx_V gC mX6_feed (fx_ri R) 36 [(0, .ref 0), (1, .long x1), (3, .int x3), (4, .int x4)] [] M := by
  intro n
  induction n with
  | zero => intro x4 M h; rw [CX6_feed_L36] at h; cases h
  | succ n ih =>
    intro x4 M h
    rw [CX6_feed_L36] at h
    refine fx_iload 36 dX6_feed_36 3 rfl ?_
    refine fx_if_lt 38 84 dX6_feed_38 (by decide) (fun c38 => ?_) (fun c38 => ?_)
    · replace h := fx_ip c38 h
      refine fx_sub [0, 1, 2, 3] rfl ?_
      exact hk _ _ h
    · replace h := fx_ne c38 h
      refine fx_aload_n 41 dX6_feed_41 rfl 0 rfl ?_
      refine fx_get 42 (j := 0) (v := .ref 1) okc0 dX6_feed_42 lfX6_12 (by decide) (fun _ => rfl) ?_
      refine fx_get 45 (j := 10) (v := .ref 7) okc1 dX6_feed_45 lfX6_66 (by decide) (fun _ => rfl) ?_
      refine fx_aload_n 48 dX6_feed_48 rfl 0 rfl ?_
      refine fx_get 49 (j := 0) (v := .ref 1) okc0 dX6_feed_49 lfX6_12 (by decide) (fun _ => rfl) ?_
      refine fx_get 52 (j := 9) (v := .int (M 1 9)) okc1 dX6_feed_52 lfX6_62 (by decide) (fun _ => rfl) ?_
      refine fx_lload_n 55 dX6_feed_55 rfl 1 rfl ?_
      refine fx_bipush 56 (x := (8 : Int32)) dX6_feed_56 (by decide) ?_
      refine fx_iload 58 dX6_feed_58 3 rfl ?_
      refine fx_imul 60 dX6_feed_60 ?_
      refine fx_lushr 61 dX6_feed_61 ?_
      refine fx_l2i 62 dX6_feed_62 ?_
      refine fx_i2b 63 dX6_feed_63 ?_
      obtain ⟨g64, h⟩ := fx_gt h
      refine fx_bast 64 oka7 dX6_feed_64 g64 ?_
      refine fx_aload_n 65 dX6_feed_65 rfl 0 rfl ?_
      refine fx_get 66 (j := 0) (v := .ref 1) okc0 dX6_feed_66 lfX6_12 (by decide) (fun _ => rfl) ?_
      refine fx_dup 69 dX6_feed_69 rfl ?_
      replace h := fx_ltd h
      generalize fx_st M 7 (M 1 9).toNatClampNeg (vp_nar .byte ((((x1.toUInt64 >>> (((8 : Int32) * x4).toInt64.toUInt64 &&& Int64.toUInt64 63)).toInt64).toInt32).toInt8.toInt32)) = M70 at h ⊢
      refine fx_get 70 (j := 9) (v := .int (M70 1 9)) okc1 dX6_feed_70 lfX6_62 (by decide) (fun _ => rfl) ?_
      refine fx_iconst 73 (x := (1 : Int32)) dX6_feed_73 (by decide) ?_
      refine fx_iadd 74 dX6_feed_74 ?_
      refine fx_putI 75 (j := 9) okc1 dX6_feed_75 lfX6_62 (by decide) rfl (by decide +kernel) (fun _ _ => Nat.le_of_ble_eq_true rfl) (fun _ _ _ => rfl) ?_
      refine fx_iinc 78 (lv' := [(4, .int (x4 + (-1 : Int32))), (0, .ref 0), (1, .long x1), (3, .int x3)]) (y := x4 + (-1 : Int32)) dX6_feed_78 3 rfl (by rfl) (Nat.le_of_ble_eq_true rfl) rfl ?_
      refine fx_goto 81 36 dX6_feed_81 (by decide) ?_
      refine fx_sub [1, 2, 3, 0] rfl ?_
      exact ih _ _ h
def CX6_feed (x1 : Int64) (x3 : Int32) (M : fxMem) : Option (Int32 × fxMem) := if x3 < (1 : Int32) then some ((-2 : Int32), M) else if x3 ≤ (8 : Int32) then if (M 1 9) + x3 ≤ (120 : Int32) then CX6_feed_L36 x1 x3 1000 (x3 - (1 : Int32)) M (fun y4_36 M36 => some (M36 1 9, M36)) else some ((-4 : Int32), M) else some ((-2 : Int32), M)
set_option maxRecDepth 100000 in
set_option maxHeartbeats 4000000 in
theorem tX6_feed {x1 : Int64} {x3 : Int32} {M : fxMem} {R : Int32 × fxMem} (h : CX6_feed x1 x3 M = some R) : fx_T gC mX6_feed [.ref 0, .long x1, .int x3] M (fx_ri R) := by
  rw [CX6_feed] at h
  refine fx_enter [(0, .ref 0), (1, .long x1), (3, .int x3)] (by show plainName RX6 = true; decide) (fun _ => rfl) (fun _ => Nat.le_of_ble_eq_true rfl) ?_
  refine fx_iload_n 0 dX6_feed_0 rfl 2 rfl ?_
  refine fx_iconst 1 (x := (1 : Int32)) dX6_feed_1 (by decide) ?_
  refine fx_icmp_lt 2 11 dX6_feed_2 (by decide) (fun c2 => ?_) (fun c2 => ?_)
  · replace h := fx_ip c2 h
    refine fx_bipush 11 (x := (-2 : Int32)) dX6_feed_11 (by decide) ?_
    obtain rfl := Option.some.inj h
    exact fx_iret 13 dX6_feed_13 rfl rfl ⟨rfl, rfl⟩
  · replace h := fx_ne c2 h
    refine fx_iload_n 5 dX6_feed_5 rfl 2 rfl ?_
    refine fx_bipush 6 (x := (8 : Int32)) dX6_feed_6 (by decide) ?_
    refine fx_icmp_le 8 14 dX6_feed_8 (by decide) (fun c8 => ?_) (fun c8 => ?_)
    · replace h := fx_ip c8 h
      refine fx_aload_n 14 dX6_feed_14 rfl 0 rfl ?_
      refine fx_get 15 (j := 0) (v := .ref 1) okc0 dX6_feed_15 lfX6_12 (by decide) (fun _ => rfl) ?_
      refine fx_get 18 (j := 9) (v := .int (M 1 9)) okc1 dX6_feed_18 lfX6_62 (by decide) (fun _ => rfl) ?_
      refine fx_iload_n 21 dX6_feed_21 rfl 2 rfl ?_
      refine fx_iadd 22 dX6_feed_22 ?_
      refine fx_bipush 23 (x := (120 : Int32)) dX6_feed_23 (by decide) ?_
      refine fx_icmp_le 25 31 dX6_feed_25 (by decide) (fun c25 => ?_) (fun c25 => ?_)
      · replace h := fx_ip c25 h
        refine fx_iload_n 31 dX6_feed_31 rfl 2 rfl ?_
        refine fx_iconst 32 (x := (1 : Int32)) dX6_feed_32 (by decide) ?_
        refine fx_isub 33 dX6_feed_33 ?_
        refine fx_istore 34 (lv' := [(4, .int (x3 - (1 : Int32))), (0, .ref 0), (1, .long x1), (3, .int x3)]) dX6_feed_34 (Nat.le_of_ble_eq_true rfl) rfl ?_
        refine fx_sub [1, 2, 3, 0] rfl ?_
        refine vX6_feed_L36 (fun y4_36 M36 h => ?_) 1000 _ _ h
        refine fx_aload_n 84 dX6_feed_84 rfl 0 rfl ?_
        refine fx_get 85 (j := 0) (v := .ref 1) okc0 dX6_feed_85 lfX6_12 (by decide) (fun _ => rfl) ?_
        refine fx_get 88 (j := 9) (v := .int (M36 1 9)) okc1 dX6_feed_88 lfX6_62 (by decide) (fun _ => rfl) ?_
        obtain rfl := Option.some.inj h
        exact fx_iret 91 dX6_feed_91 rfl rfl ⟨rfl, rfl⟩
      · replace h := fx_ne c25 h
        refine fx_bipush 28 (x := (-4 : Int32)) dX6_feed_28 (by decide) ?_
        obtain rfl := Option.some.inj h
        exact fx_iret 30 dX6_feed_30 rfl rfl ⟨rfl, rfl⟩
    · replace h := fx_ne c8 h
      refine fx_bipush 11 (x := (-2 : Int32)) dX6_feed_11 (by decide) ?_
      obtain rfl := Option.some.inj h
      exact fx_iret 13 dX6_feed_13 rfl rfl ⟨rfl, rfl⟩
def mX3_clear : fxM := (yX3_clear, cX3_clear, 1, none, 2, 80)
theorem okvX3_clear (f l : Nat) : fx_okV (yX3_clear, cX3_clear, 1, none, f, l) 0 := ⟨⟨rin7 _ (List.mem_of_getElem? (i := 14) rfl), rin2 _ (List.mem_of_getElem? (i := 6) rfl), by show yX3_clear.cls ≠ _; decide +kernel, by show yX3_clear.cls ≠ _; decide +kernel, by show (parseMethodDescriptor yX3_clear.desc).map _ = _; decide +kernel⟩, rin7 _ (List.mem_of_getElem? (i := 12) rfl), rin7 _ (List.mem_of_getElem? (i := 13) rfl)⟩
def CX3_clear (x0 : Nat) (M : fxMem) : Option (fxMem) := if fx_isSh x0 = true then some (fx_st (fx_st (fx_st (fx_st (fx_st M x0 0 (3 : Int32)) x0 1 (50 : Int32)) x0 2 (2 : Int32)) x0 3 (0 : Int32)) x0 8 (0 : Int32)) else none
set_option maxRecDepth 100000 in
set_option maxHeartbeats 4000000 in
theorem tX3_clear {x0 : Nat} {M : fxMem} {R : fxMem} (h : CX3_clear x0 M = some R) : fx_T gC mX3_clear [.ref x0] M (fx_rv R) := by
  rw [CX3_clear] at h
  refine fx_enter [(0, .ref x0)] (by show plainName RX3 = true; decide) (fun _ => rfl) (fun _ => Nat.le_of_ble_eq_true rfl) ?_
  refine fx_aload_n 0 dX3_clear_0 rfl 0 rfl ?_
  refine fx_iconst 1 (x := (3 : Int32)) dX3_clear_1 (by decide) ?_
  obtain ⟨g2, h⟩ := fx_gt h
  refine fx_putI 2 (j := 0) (okcS g2) dX3_clear_2 lfX3_9 (by decide) rfl (by decide +kernel) (fun _ _ => Nat.le_of_ble_eq_true rfl) (fun _ _ _ => rfl) ?_
  refine fx_aload_n 5 dX3_clear_5 rfl 0 rfl ?_
  refine fx_bipush 6 (x := (50 : Int32)) dX3_clear_6 (by decide) ?_
  refine fx_putI 8 (j := 1) (okcS g2) dX3_clear_8 lfX3_15 (by decide) rfl (by decide +kernel) (fun _ _ => Nat.le_of_ble_eq_true rfl) (fun _ _ _ => rfl) ?_
  refine fx_aload_n 11 dX3_clear_11 rfl 0 rfl ?_
  refine fx_iconst 12 (x := (2 : Int32)) dX3_clear_12 (by decide) ?_
  refine fx_putI 13 (j := 2) (okcS g2) dX3_clear_13 lfX3_18 (by decide) rfl (by decide +kernel) (fun _ _ => Nat.le_of_ble_eq_true rfl) (fun _ _ _ => rfl) ?_
  refine fx_aload_n 16 dX3_clear_16 rfl 0 rfl ?_
  refine fx_iconst 17 (x := (0 : Int32)) dX3_clear_17 (by decide) ?_
  refine fx_putI 18 (j := 3) (okcS g2) dX3_clear_18 lfX3_21 (by decide) rfl (by decide +kernel) (fun _ _ => Nat.le_of_ble_eq_true rfl) (fun _ _ _ => rfl) ?_
  refine fx_aload_n 21 dX3_clear_21 rfl 0 rfl ?_
  refine fx_iconst 22 (x := (0 : Int32)) dX3_clear_22 (by decide) ?_
  refine fx_putI 23 (j := 8) (okcS g2) dX3_clear_23 lfX3_37 (by decide) rfl (by decide +kernel) (fun _ _ => Nat.le_of_ble_eq_true rfl) (fun _ _ _ => rfl) ?_
  obtain rfl := Option.some.inj h
  exact fx_vret 26 dX3_clear_26 rfl ⟨rfl, rfl⟩
def mX2_textOf : fxM := (yX2_textOf, cX2_textOf, 1, (some (.object "java/lang/String")), 2, 80)
theorem oksX2_textOf (f l : Nat) : fx_okS (yX2_textOf, cX2_textOf, 1, (some (.object "java/lang/String")), f, l) 1 := ⟨⟨rin8 _ (List.mem_of_getElem? (i := 6) rfl), rin2 _ (List.mem_of_getElem? (i := 9) rfl), by show yX2_textOf.cls ≠ _; decide +kernel, by show yX2_textOf.cls ≠ _; decide +kernel, by show (parseMethodDescriptor yX2_textOf.desc).map _ = _; decide +kernel⟩, rin8 _ (List.mem_of_getElem? (i := 5) rfl)⟩
def CX2_textOf (x0 : Int32) (M : fxMem) : Option (Nat × fxMem) := if x0 = (0 : Int32) then some (1000 + 1, M) else if x0 = (1 : Int32) then some (1000 + 2, M) else if x0 = (2 : Int32) then some (1000 + 3, M) else if x0 = (3 : Int32) then some (1000 + 4, M) else some (1000 + 5, M)
set_option maxRecDepth 100000 in
set_option maxHeartbeats 4000000 in
theorem tX2_textOf {x0 : Int32} {M : fxMem} {R : Nat × fxMem} (h : CX2_textOf x0 M = some R) : fx_T gC mX2_textOf [.int x0] M (fx_rr R) := by
  rw [CX2_textOf] at h
  refine fx_enter [(0, .int x0)] (by show plainName RX2 = true; decide) (fun _ => rfl) (fun _ => Nat.le_of_ble_eq_true rfl) ?_
  refine fx_iload_n 0 dX2_textOf_0 rfl 0 rfl ?_
  by_cases s1_0 : x0 = (0 : Int32)
  · replace h := fx_ip s1_0 h
    refine fx_tsI 1 32 dX2_textOf_1 (by rw [s1_0]; decide) (by rw [s1_0]; decide) (by rw [s1_0]; try rfl) (by decide) ?_
    refine fx_ldcS 32 1 (by decide) dX2_textOf_32 ⟨rfl, rfl⟩ ?_
    obtain rfl := Option.some.inj h
    exact fx_aret 34 dX2_textOf_34 rfl ⟨rfl, rfl⟩
  · replace h := fx_ne s1_0 h
    by_cases s1_1 : x0 = (1 : Int32)
    · replace h := fx_ip s1_1 h
      refine fx_tsI 1 35 dX2_textOf_1 (by rw [s1_1]; decide) (by rw [s1_1]; decide) (by rw [s1_1]; try rfl) (by decide) ?_
      refine fx_ldcS 35 2 (by decide) dX2_textOf_35 ⟨rfl, rfl⟩ ?_
      obtain rfl := Option.some.inj h
      exact fx_aret 37 dX2_textOf_37 rfl ⟨rfl, rfl⟩
    · replace h := fx_ne s1_1 h
      by_cases s1_2 : x0 = (2 : Int32)
      · replace h := fx_ip s1_2 h
        refine fx_tsI 1 38 dX2_textOf_1 (by rw [s1_2]; decide) (by rw [s1_2]; decide) (by rw [s1_2]; try rfl) (by decide) ?_
        refine fx_ldcS 38 3 (by decide) dX2_textOf_38 ⟨rfl, rfl⟩ ?_
        obtain rfl := Option.some.inj h
        exact fx_aret 40 dX2_textOf_40 rfl ⟨rfl, rfl⟩
      · replace h := fx_ne s1_2 h
        by_cases s1_3 : x0 = (3 : Int32)
        · replace h := fx_ip s1_3 h
          refine fx_tsI 1 41 dX2_textOf_1 (by rw [s1_3]; decide) (by rw [s1_3]; decide) (by rw [s1_3]; try rfl) (by decide) ?_
          refine fx_ldcS 41 4 (by decide) dX2_textOf_41 ⟨rfl, rfl⟩ ?_
          obtain rfl := Option.some.inj h
          exact fx_aret 43 dX2_textOf_43 rfl ⟨rfl, rfl⟩
        · replace h := fx_ne s1_3 h
          refine fx_tsD 1 44 [(0 : Int32), (1 : Int32), (2 : Int32), (3 : Int32)] dX2_textOf_1 (by decide) (by decide) (by intro q hq; simp only [List.mem_cons, List.not_mem_nil, or_false] at hq; rcases hq with rfl | rfl | rfl | rfl <;> assumption) (by decide) ?_
          refine fx_ldcS 44 5 (by decide) dX2_textOf_44 ⟨rfl, rfl⟩ ?_
          obtain rfl := Option.some.inj h
          exact fx_aret 46 dX2_textOf_46 rfl ⟨rfl, rfl⟩
def mX2_sameSigns : fxM := (yX2_sameSigns, cX2_sameSigns, 3, (some .int), 9, 360)
theorem okvX2_sameSigns (f l : Nat) : fx_okV (yX2_sameSigns, cX2_sameSigns, 3, (some .int), f, l) 1 := ⟨⟨rin8 _ (List.mem_of_getElem? (i := 10) rfl), rin2 _ (List.mem_of_getElem? (i := 9) rfl), by show yX2_sameSigns.cls ≠ _; decide +kernel, by show yX2_sameSigns.cls ≠ _; decide +kernel, by show (parseMethodDescriptor yX2_sameSigns.desc).map _ = _; decide +kernel⟩, rin8 _ (List.mem_of_getElem? (i := 8) rfl), rin8 _ (List.mem_of_getElem? (i := 9) rfl)⟩
def CX2_sameSigns_L2 (x1 : Nat) : Nat → Int32 → fxMem → (Int32 → fxMem → Option (Int32 × fxMem)) → Option (Int32 × fxMem)
  | 0, _, _, _ => none
  | n + 1, x2, M, k => if fx_isS x1 = true then if kx_l x1 ≤ x2 then k x2 M else if M 1 9 ≤ (M 16 2) + x2 then k x2 M else if fx_in ((M 16 2) + x2) 120 = true then if fx_in x2 (kx_b (x1 - 1000)).length = true then if M 7 ((M 16 2) + x2).toNatClampNeg = kx_c x1 x2 then CX2_sameSigns_L2 x1 n (x2 + (1 : Int32)) M k else k x2 M else none else none else none
set_option maxRecDepth 100000 in
set_option maxHeartbeats 4000000 in
theorem vX2_sameSigns_L2 {x1 : Nat} {R : Int32 × fxMem} {k : Int32 → fxMem → Option (Int32 × fxMem)} (hk : ∀ (x2 : Int32) (M : fxMem), k x2 M = some R → fx_V gC mX2_sameSigns (fx_ri R) 54 [(0, .ref 16), (1, .ref x1), (2, .int x2)] [] M) : ∀ (n : Nat) (x2 : Int32) (M : fxMem), CX2_sameSigns_L2 x1 n x2 M k = some R → fx_V gC mX2_sameSigns (fx_ri R) 2 [(0, .ref 16), (1, .ref x1), (2, .int x2)] [] M := by
  intro n
  induction n with
  | zero => intro x2 M h; rw [CX2_sameSigns_L2] at h; cases h
  | succ n ih =>
    intro x2 M h
    rw [CX2_sameSigns_L2] at h
    refine fx_iload_n 2 dX2_sameSigns_2 rfl 2 rfl ?_
    refine fx_aload_n 3 dX2_sameSigns_3 rfl 1 rfl ?_
    obtain ⟨g4, h⟩ := fx_gt h
    refine fx_slen 4 g4 dX2_sameSigns_4 lmX2_71 (by decide) (Nat.le_of_ble_eq_true rfl) ?_
    refine fx_icmp_ge 7 54 dX2_sameSigns_7 (by decide) (fun c7 => ?_) (fun c7 => ?_)
    · replace h := fx_ip c7 h
      refine fx_sub [0, 1, 2] rfl ?_
      exact hk _ _ h
    · replace h := fx_ne c7 h
      refine fx_aload_n 10 dX2_sameSigns_10 rfl 0 rfl ?_
      refine fx_get 11 (j := 2) (v := .int (M 16 2)) okc16 dX2_sameSigns_11 lfX2_9 (by decide) (fun _ => rfl) ?_
      refine fx_iload_n 14 dX2_sameSigns_14 rfl 2 rfl ?_
      refine fx_iadd 15 dX2_sameSigns_15 ?_
      refine fx_aload_n 16 dX2_sameSigns_16 rfl 0 rfl ?_
      refine fx_get 17 (j := 0) (v := .ref 1) okc16 dX2_sameSigns_17 lfX2_15 (by decide) (fun _ => rfl) ?_
      refine fx_get 20 (j := 9) (v := .int (M 1 9)) okc1 dX2_sameSigns_20 lfX2_32 (by decide) (fun _ => rfl) ?_
      refine fx_icmp_ge 23 54 dX2_sameSigns_23 (by decide) (fun c23 => ?_) (fun c23 => ?_)
      · replace h := fx_ip c23 h
        refine fx_sub [0, 1, 2] rfl ?_
        exact hk _ _ h
      · replace h := fx_ne c23 h
        refine fx_aload_n 26 dX2_sameSigns_26 rfl 0 rfl ?_
        refine fx_get 27 (j := 0) (v := .ref 1) okc16 dX2_sameSigns_27 lfX2_15 (by decide) (fun _ => rfl) ?_
        refine fx_get 30 (j := 10) (v := .ref 7) okc1 dX2_sameSigns_30 lfX2_92 (by decide) (fun _ => rfl) ?_
        refine fx_aload_n 33 dX2_sameSigns_33 rfl 0 rfl ?_
        refine fx_get 34 (j := 2) (v := .int (M 16 2)) okc16 dX2_sameSigns_34 lfX2_9 (by decide) (fun _ => rfl) ?_
        refine fx_iload_n 37 dX2_sameSigns_37 rfl 2 rfl ?_
        refine fx_iadd 38 dX2_sameSigns_38 ?_
        obtain ⟨g39, h⟩ := fx_gt h
        refine fx_bald 39 oka7 dX2_sameSigns_39 g39 ?_
        refine fx_aload_n 40 dX2_sameSigns_40 rfl 1 rfl ?_
        refine fx_iload_n 41 dX2_sameSigns_41 rfl 2 rfl ?_
        obtain ⟨g42, h⟩ := fx_gt h
        refine fx_schar 42 g4 g42 dX2_sameSigns_42 lmX2_96 (by decide) (Nat.le_of_ble_eq_true rfl) ?_
        refine fx_icmp_ne 45 54 dX2_sameSigns_45 (by decide) (fun c45 => ?_) (fun c45 => ?_)
        · replace h := fx_ne c45 h
          refine fx_sub [0, 1, 2] rfl ?_
          exact hk _ _ h
        · replace h := fx_ip c45 h
          refine fx_iinc 48 (lv' := [(2, .int (x2 + (1 : Int32))), (0, .ref 16), (1, .ref x1)]) (y := x2 + (1 : Int32)) dX2_sameSigns_48 2 rfl (by rfl) (Nat.le_of_ble_eq_true rfl) rfl ?_
          refine fx_goto 51 2 dX2_sameSigns_51 (by decide) ?_
          refine fx_sub [1, 2, 0] rfl ?_
          exact ih _ _ h
def CX2_sameSigns (x1 : Nat) (M : fxMem) : Option (Int32 × fxMem) := CX2_sameSigns_L2 x1 1000 (0 : Int32) M (fun y2_2 M2 => some (y2_2, M2))
set_option maxRecDepth 100000 in
set_option maxHeartbeats 4000000 in
theorem tX2_sameSigns {x1 : Nat} {M : fxMem} {R : Int32 × fxMem} (h : CX2_sameSigns x1 M = some R) : fx_T gC mX2_sameSigns [.ref 16, .ref x1] M (fx_ri R) := by
  rw [CX2_sameSigns] at h
  refine fx_enter [(0, .ref 16), (1, .ref x1)] (by show plainName RX2 = true; decide) (fun _ => rfl) (fun _ => Nat.le_of_ble_eq_true rfl) ?_
  refine fx_iconst 0 (x := (0 : Int32)) dX2_sameSigns_0 (by decide) ?_
  refine fx_istore_n 1 (lv' := [(2, .int (0 : Int32)), (0, .ref 16), (1, .ref x1)]) dX2_sameSigns_1 rfl (Nat.le_of_ble_eq_true rfl) rfl ?_
  refine fx_sub [1, 2, 0] rfl ?_
  refine vX2_sameSigns_L2 (fun y2_2 M2 h => ?_) 1000 _ _ h
  refine fx_iload_n 54 dX2_sameSigns_54 rfl 2 rfl ?_
  obtain rfl := Option.some.inj h
  exact fx_iret 55 dX2_sameSigns_55 rfl rfl ⟨rfl, rfl⟩
def mX2_readWord : fxM := (yX2_readWord, cX2_readWord, 5, (some .int), 10, 400)
theorem okvX2_readWord (f l : Nat) : fx_okV (yX2_readWord, cX2_readWord, 5, (some .int), f, l) 0 := ⟨⟨rin7 _ (List.mem_of_getElem? (i := 23) rfl), rin2 _ (List.mem_of_getElem? (i := 9) rfl), by show yX2_readWord.cls ≠ _; decide +kernel, by show yX2_readWord.cls ≠ _; decide +kernel, by show (parseMethodDescriptor yX2_readWord.desc).map _ = _; decide +kernel⟩, rin7 _ (List.mem_of_getElem? (i := 21) rfl), rin7 _ (List.mem_of_getElem? (i := 22) rfl)⟩
def CX2_readWord_L4 : Nat → Int32 → Int32 → fxMem → (Int32 → Int32 → fxMem → Option (Int32 × fxMem)) → Option (Int32 × fxMem)
  | 0, _, _, _, _ => none
  | n + 1, x1, x2, M, k => if (5 : Int32) ≤ x2 then k x1 x2 M else Option.bind (CX2_textOf x2 M) fun q10 => Option.bind (CX2_sameSigns q10.1 q10.2) fun q16 => if fx_isS q10.1 = true then if q16.1 = kx_l q10.1 then some (x2, fx_st q16.2 16 2 ((q16.2 16 2) + q16.1)) else CX2_readWord_L4  n (if x1 < q16.1 then q16.1 else x1) (x2 + (1 : Int32)) q16.2 k else none
set_option maxRecDepth 100000 in
set_option maxHeartbeats 4000000 in
theorem vX2_readWord_L4 {R : Int32 × fxMem} {k : Int32 → Int32 → fxMem → Option (Int32 × fxMem)} (hk : ∀ (x1 : Int32) (x2 : Int32) (M : fxMem), k x1 x2 M = some R → fx_V gC mX2_readWord (fx_ri R) 56 [(0, .ref 16), (1, .int x1), (2, .int x2)] [] M) : ∀ (n : Nat) (x1 : Int32) (x2 : Int32) (M : fxMem), CX2_readWord_L4  n x1 x2 M k = some R → fx_V gC mX2_readWord (fx_ri R) 4 [(0, .ref 16), (1, .int x1), (2, .int x2)] [] M := by
  intro n
  induction n with
  | zero => intro x1 x2 M h; rw [CX2_readWord_L4] at h; cases h
  | succ n ih =>
    intro x1 x2 M h
    rw [CX2_readWord_L4] at h
    refine fx_iload_n 4 dX2_readWord_4 rfl 2 rfl ?_
    refine fx_iconst 5 (x := (5 : Int32)) dX2_readWord_5 (by decide) ?_
    refine fx_icmp_ge 6 56 dX2_readWord_6 (by decide) (fun c6 => ?_) (fun c6 => ?_)
    · replace h := fx_ip c6 h
      refine fx_sub [0, 1, 2] rfl ?_
      exact hk _ _ _ h
    · replace h := fx_ne c6 h
      refine fx_iload_n 9 dX2_readWord_9 rfl 2 rfl ?_
      obtain ⟨q10, e10, h⟩ := fx_bd h
      refine fx_callSq 10 (mt' := mX2_textOf) (As := [.int x2]) (oksX2_textOf _ _) lmX2_63 (by decide) rfl rfl (Nat.le_of_ble_eq_true rfl) dX2_readWord_10 (tX2_textOf e10) ?_
      refine fx_astore_n 13 (lv' := [(3, .ref q10.1), (0, .ref 16), (1, .int x1), (2, .int x2)]) dX2_readWord_13 rfl (Nat.le_of_ble_eq_true rfl) rfl ?_
      refine fx_aload_n 14 dX2_readWord_14 rfl 1 rfl ?_
      refine fx_aload_n 15 dX2_readWord_15 rfl 0 rfl ?_
      obtain ⟨q16, e16, h⟩ := fx_bd h
      refine fx_callVi 16 (mt' := mX2_sameSigns) (As := [.ref q10.1]) okc16 (okvX2_sameSigns _ _) lmX2_67 (by decide) rfl rfl (Nat.le_of_ble_eq_true rfl) dX2_readWord_16 (tX2_sameSigns e16) ?_
      refine fx_istore 19 (lv' := [(4, .int q16.1), (3, .ref q10.1), (0, .ref 16), (1, .int x1), (2, .int x2)]) dX2_readWord_19 (Nat.le_of_ble_eq_true rfl) rfl ?_
      refine fx_iload 21 dX2_readWord_21 0 rfl ?_
      refine fx_aload_n 23 dX2_readWord_23 rfl 1 rfl ?_
      obtain ⟨g24, h⟩ := fx_gt h
      refine fx_slen 24 g24 dX2_readWord_24 lmX2_71 (by decide) (Nat.le_of_ble_eq_true rfl) ?_
      refine fx_icmp_ne 27 43 dX2_readWord_27 (by decide) (fun c27 => ?_) (fun c27 => ?_)
      · replace h := fx_ne c27 h
        refine fx_iload_n 43 dX2_readWord_43 rfl 3 rfl ?_
        refine fx_iload 44 dX2_readWord_44 0 rfl ?_
        refine fx_mmax 46 dX2_readWord_46 lmX2_76 (by decide) (Nat.le_of_ble_eq_true rfl) ?_
        refine fx_istore_n 49 (lv' := [(1, .int (if x1 < q16.1 then q16.1 else x1)), (4, .int q16.1), (3, .ref q10.1), (0, .ref 16), (2, .int x2)]) dX2_readWord_49 rfl (Nat.le_of_ble_eq_true rfl) rfl ?_
        refine fx_iinc 50 (lv' := [(2, .int (x2 + (1 : Int32))), (1, .int (if x1 < q16.1 then q16.1 else x1)), (4, .int q16.1), (3, .ref q10.1), (0, .ref 16)]) (y := x2 + (1 : Int32)) dX2_readWord_50 4 rfl (by rfl) (Nat.le_of_ble_eq_true rfl) rfl ?_
        refine fx_goto 53 4 dX2_readWord_53 (by decide) ?_
        refine fx_sub [4, 1, 0] rfl ?_
        exact ih _ _ _ h
      · replace h := fx_ip c27 h
        refine fx_aload_n 30 dX2_readWord_30 rfl 2 rfl ?_
        refine fx_dup 31 dX2_readWord_31 rfl ?_
        refine fx_get 32 (j := 2) (v := .int (q16.2 16 2)) okc16 dX2_readWord_32 lfX2_9 (by decide) (fun _ => rfl) ?_
        refine fx_iload 35 dX2_readWord_35 0 rfl ?_
        refine fx_iadd 37 dX2_readWord_37 ?_
        refine fx_putI 38 (j := 2) okc16 dX2_readWord_38 lfX2_9 (by decide) rfl (by decide +kernel) (fun _ _ => Nat.le_of_ble_eq_true rfl) (fun _ _ _ => rfl) ?_
        refine fx_iload_n 41 dX2_readWord_41 rfl 4 rfl ?_
        obtain rfl := Option.some.inj h
        exact fx_iret 42 dX2_readWord_42 rfl rfl ⟨rfl, rfl⟩
def CX2_readWord  (M : fxMem) : Option (Int32 × fxMem) := CX2_readWord_L4  1000 (0 : Int32) (0 : Int32) M (fun y1_4 y2_4 M4 => some ((-1 : Int32), fx_st M4 16 2 ((M4 16 2) + y1_4)))
set_option maxRecDepth 100000 in
set_option maxHeartbeats 4000000 in
theorem tX2_readWord  {M : fxMem} {R : Int32 × fxMem} (h : CX2_readWord  M = some R) : fx_T gC mX2_readWord [.ref 16] M (fx_ri R) := by
  rw [CX2_readWord] at h
  refine fx_enter [(0, .ref 16)] (by show plainName RX2 = true; decide) (fun _ => rfl) (fun _ => Nat.le_of_ble_eq_true rfl) ?_
  refine fx_iconst 0 (x := (0 : Int32)) dX2_readWord_0 (by decide) ?_
  refine fx_istore_n 1 (lv' := [(1, .int (0 : Int32)), (0, .ref 16)]) dX2_readWord_1 rfl (Nat.le_of_ble_eq_true rfl) rfl ?_
  refine fx_iconst 2 (x := (0 : Int32)) dX2_readWord_2 (by decide) ?_
  refine fx_istore_n 3 (lv' := [(2, .int (0 : Int32)), (1, .int (0 : Int32)), (0, .ref 16)]) dX2_readWord_3 rfl (Nat.le_of_ble_eq_true rfl) rfl ?_
  refine fx_sub [2, 1, 0] rfl ?_
  refine vX2_readWord_L4 (fun y1_4 y2_4 M4 h => ?_) 1000 _ _ _ h
  refine fx_aload_n 56 dX2_readWord_56 rfl 0 rfl ?_
  refine fx_dup 57 dX2_readWord_57 rfl ?_
  refine fx_get 58 (j := 2) (v := .int (M4 16 2)) okc16 dX2_readWord_58 lfX2_9 (by decide) (fun _ => rfl) ?_
  refine fx_iload_n 61 dX2_readWord_61 rfl 1 rfl ?_
  refine fx_iadd 62 dX2_readWord_62 ?_
  refine fx_putI 63 (j := 2) okc16 dX2_readWord_63 lfX2_9 (by decide) rfl (by decide +kernel) (fun _ _ => Nat.le_of_ble_eq_true rfl) (fun _ _ _ => rfl) ?_
  refine fx_iconst 66 (x := (-1 : Int32)) dX2_readWord_66 (by decide) ?_
  obtain rfl := Option.some.inj h
  exact fx_iret 67 dX2_readWord_67 rfl rfl ⟨rfl, rfl⟩
def mX2_takeOneOf : fxM := (yX2_takeOneOf, cX2_takeOneOf, 3, (some .int), 9, 360)
theorem okvX2_takeOneOf (f l : Nat) : fx_okV (yX2_takeOneOf, cX2_takeOneOf, 3, (some .int), f, l) 1 := ⟨⟨rin10 _ (List.mem_of_getElem? (i := 9) rfl), rin2 _ (List.mem_of_getElem? (i := 9) rfl), by show yX2_takeOneOf.cls ≠ _; decide +kernel, by show yX2_takeOneOf.cls ≠ _; decide +kernel, by show (parseMethodDescriptor yX2_takeOneOf.desc).map _ = _; decide +kernel⟩, rin10 _ (List.mem_of_getElem? (i := 7) rfl), rin10 _ (List.mem_of_getElem? (i := 8) rfl)⟩
def CX2_takeOneOf (x1 : Nat) (M : fxMem) : Option (Int32 × fxMem) := if M 16 2 < M 1 9 then if fx_in (M 16 2) 120 = true then if fx_isS x1 = true then if (0 : Int32) ≤ kx_i x1 ((((M 7 (M 16 2).toNatClampNeg) &&& (255 : Int32)).toUInt32 % 65536).toInt32) then some (kx_i x1 ((((M 7 (M 16 2).toNatClampNeg) &&& (255 : Int32)).toUInt32 % 65536).toInt32), fx_st M 16 2 ((M 16 2) + (1 : Int32))) else some ((-1 : Int32), M) else none else none else some ((-1 : Int32), M)
set_option maxRecDepth 100000 in
set_option maxHeartbeats 4000000 in
theorem tX2_takeOneOf {x1 : Nat} {M : fxMem} {R : Int32 × fxMem} (h : CX2_takeOneOf x1 M = some R) : fx_T gC mX2_takeOneOf [.ref 16, .ref x1] M (fx_ri R) := by
  rw [CX2_takeOneOf] at h
  refine fx_enter [(0, .ref 16), (1, .ref x1)] (by show plainName RX2 = true; decide) (fun _ => rfl) (fun _ => Nat.le_of_ble_eq_true rfl) ?_
  refine fx_aload_n 0 dX2_takeOneOf_0 rfl 0 rfl ?_
  refine fx_get 1 (j := 2) (v := .int (M 16 2)) okc16 dX2_takeOneOf_1 lfX2_9 (by decide) (fun _ => rfl) ?_
  refine fx_aload_n 4 dX2_takeOneOf_4 rfl 0 rfl ?_
  refine fx_get 5 (j := 0) (v := .ref 1) okc16 dX2_takeOneOf_5 lfX2_15 (by decide) (fun _ => rfl) ?_
  refine fx_get 8 (j := 9) (v := .int (M 1 9)) okc1 dX2_takeOneOf_8 lfX2_32 (by decide) (fun _ => rfl) ?_
  refine fx_icmp_lt 11 16 dX2_takeOneOf_11 (by decide) (fun c11 => ?_) (fun c11 => ?_)
  · replace h := fx_ip c11 h
    refine fx_aload_n 16 dX2_takeOneOf_16 rfl 1 rfl ?_
    refine fx_aload_n 17 dX2_takeOneOf_17 rfl 0 rfl ?_
    refine fx_get 18 (j := 0) (v := .ref 1) okc16 dX2_takeOneOf_18 lfX2_15 (by decide) (fun _ => rfl) ?_
    refine fx_get 21 (j := 10) (v := .ref 7) okc1 dX2_takeOneOf_21 lfX2_92 (by decide) (fun _ => rfl) ?_
    refine fx_aload_n 24 dX2_takeOneOf_24 rfl 0 rfl ?_
    refine fx_get 25 (j := 2) (v := .int (M 16 2)) okc16 dX2_takeOneOf_25 lfX2_9 (by decide) (fun _ => rfl) ?_
    obtain ⟨g28, h⟩ := fx_gt h
    refine fx_bald 28 oka7 dX2_takeOneOf_28 g28 ?_
    refine fx_sipush 29 (x := (255 : Int32)) dX2_takeOneOf_29 (by decide) ?_
    refine fx_iand 32 dX2_takeOneOf_32 ?_
    refine fx_i2c 33 dX2_takeOneOf_33 ?_
    obtain ⟨g34, h⟩ := fx_gt h
    refine fx_sidx 34 g34 dX2_takeOneOf_34 lmX2_136 (by decide) (Nat.le_of_ble_eq_true rfl) ?_
    refine fx_istore_n 37 (lv' := [(2, .int (kx_i x1 ((((M 7 (M 16 2).toNatClampNeg) &&& (255 : Int32)).toUInt32 % 65536).toInt32))), (0, .ref 16), (1, .ref x1)]) dX2_takeOneOf_37 rfl (Nat.le_of_ble_eq_true rfl) rfl ?_
    refine fx_iload_n 38 dX2_takeOneOf_38 rfl 0 rfl ?_
    refine fx_if_ge 39 44 dX2_takeOneOf_39 (by decide) (fun c39 => ?_) (fun c39 => ?_)
    · replace h := fx_ip c39 h
      refine fx_aload_n 44 dX2_takeOneOf_44 rfl 1 rfl ?_
      refine fx_dup 45 dX2_takeOneOf_45 rfl ?_
      refine fx_get 46 (j := 2) (v := .int (M 16 2)) okc16 dX2_takeOneOf_46 lfX2_9 (by decide) (fun _ => rfl) ?_
      refine fx_iconst 49 (x := (1 : Int32)) dX2_takeOneOf_49 (by decide) ?_
      refine fx_iadd 50 dX2_takeOneOf_50 ?_
      refine fx_putI 51 (j := 2) okc16 dX2_takeOneOf_51 lfX2_9 (by decide) rfl (by decide +kernel) (fun _ _ => Nat.le_of_ble_eq_true rfl) (fun _ _ _ => rfl) ?_
      refine fx_iload_n 54 dX2_takeOneOf_54 rfl 0 rfl ?_
      obtain rfl := Option.some.inj h
      exact fx_iret 55 dX2_takeOneOf_55 rfl rfl ⟨rfl, rfl⟩
    · replace h := fx_ne c39 h
      refine fx_iconst 42 (x := (-1 : Int32)) dX2_takeOneOf_42 (by decide) ?_
      obtain rfl := Option.some.inj h
      exact fx_iret 43 dX2_takeOneOf_43 rfl rfl ⟨rfl, rfl⟩
  · replace h := fx_ne c11 h
    refine fx_iconst 14 (x := (-1 : Int32)) dX2_takeOneOf_14 (by decide) ?_
    obtain rfl := Option.some.inj h
    exact fx_iret 15 dX2_takeOneOf_15 rfl rfl ⟨rfl, rfl⟩
def mX2_take : fxM := (yX2_take, cX2_take, 2, (some .boolean), 10, 400)
theorem okvX2_take (f l : Nat) : fx_okV (yX2_take, cX2_take, 2, (some .boolean), f, l) 1 := ⟨⟨rin10 _ (List.mem_of_getElem? (i := 5) rfl), rin2 _ (List.mem_of_getElem? (i := 9) rfl), by show yX2_take.cls ≠ _; decide +kernel, by show yX2_take.cls ≠ _; decide +kernel, by show (parseMethodDescriptor yX2_take.desc).map _ = _; decide +kernel⟩, rin10 _ (List.mem_of_getElem? (i := 3) rfl), rin10 _ (List.mem_of_getElem? (i := 4) rfl)⟩
def CX2_take (x1 : Nat) (M : fxMem) : Option (Int32 × fxMem) := Option.bind (CX2_takeOneOf x1 M) fun q2 => some ((if q2.1 = (-1 : Int32) then (0 : Int32) else (1 : Int32)), q2.2)
set_option maxRecDepth 100000 in
set_option maxHeartbeats 4000000 in
theorem tX2_take {x1 : Nat} {M : fxMem} {R : Int32 × fxMem} (h : CX2_take x1 M = some R) : fx_T gC mX2_take [.ref 16, .ref x1] M (fx_ri R) := by
  rw [CX2_take] at h
  refine fx_enter [(0, .ref 16), (1, .ref x1)] (by show plainName RX2 = true; decide) (fun _ => rfl) (fun _ => Nat.le_of_ble_eq_true rfl) ?_
  refine fx_aload_n 0 dX2_take_0 rfl 0 rfl ?_
  refine fx_aload_n 1 dX2_take_1 rfl 1 rfl ?_
  obtain ⟨q2, e2, h⟩ := fx_bd h
  refine fx_callVi 2 (mt' := mX2_takeOneOf) (As := [.ref x1]) okc16 (okvX2_takeOneOf _ _) lmX2_125 (by decide) rfl rfl (Nat.le_of_ble_eq_true rfl) dX2_take_2 (tX2_takeOneOf e2) ?_
  refine fx_iconst 5 (x := (-1 : Int32)) dX2_take_5 (by decide) ?_
  have J : fx_V gC mX2_take (fx_ri R) 14 [(0, .ref 16), (1, .ref x1)] [.int (if q2.1 = (-1 : Int32) then (0 : Int32) else (1 : Int32))] q2.2 := by
    obtain rfl := Option.some.inj h
    exact fx_iret 14 dX2_take_14 rfl (by (repeat' split) <;> rfl) ⟨rfl, rfl⟩
  refine fx_icmp_eq 6 13 dX2_take_6 (by decide) (fun c6 => ?_) (fun c6 => ?_)
  · refine fx_iconst 13 (x := (0 : Int32)) dX2_take_13 (by decide) ?_
    refine fx_sub (lv' := [(0, .ref 16), (1, .ref x1)]) [0, 1] rfl ?_
    show fx_V gC mX2_take (fx_ri R) 14 [(0, .ref 16), (1, .ref x1)] [.int (0 : Int32)] q2.2
    simpa only [if_pos c6] using J
  · refine fx_iconst 9 (x := (1 : Int32)) dX2_take_9 (by decide) ?_
    refine fx_goto 10 14 dX2_take_10 (by decide) ?_
    refine fx_sub (lv' := [(0, .ref 16), (1, .ref x1)]) [0, 1] rfl ?_
    show fx_V gC mX2_take (fx_ri R) 14 [(0, .ref 16), (1, .ref x1)] [.int (1 : Int32)] q2.2
    simpa only [if_neg c6] using J
def mX2_readNumber : fxM := (yX2_readNumber, cX2_readNumber, 3, (some .int), 10, 400)
theorem okvX2_readNumber (f l : Nat) : fx_okV (yX2_readNumber, cX2_readNumber, 3, (some .int), f, l) 0 := ⟨⟨rin12 _ (List.mem_of_getElem? (i := 23) rfl), rin2 _ (List.mem_of_getElem? (i := 9) rfl), by show yX2_readNumber.cls ≠ _; decide +kernel, by show yX2_readNumber.cls ≠ _; decide +kernel, by show (parseMethodDescriptor yX2_readNumber.desc).map _ = _; decide +kernel⟩, rin12 _ (List.mem_of_getElem? (i := 21) rfl), rin12 _ (List.mem_of_getElem? (i := 22) rfl)⟩
def CX2_readNumber  (M : fxMem) : Option (Int32 × fxMem) := Option.bind (CX2_takeOneOf (1000 + 7) M) fun q3 => if q3.1 = (-1 : Int32) then some (q3.1, q3.2) else if q3.1 = (0 : Int32) then some (q3.1, q3.2) else Option.bind (CX2_takeOneOf (1000 + 7) q3.2) fun q21 => some ((if q21.1 = (-1 : Int32) then q3.1 else ((10 : Int32) * q3.1) + q21.1), q21.2)
set_option maxRecDepth 100000 in
set_option maxHeartbeats 4000000 in
theorem tX2_readNumber  {M : fxMem} {R : Int32 × fxMem} (h : CX2_readNumber  M = some R) : fx_T gC mX2_readNumber [.ref 16] M (fx_ri R) := by
  rw [CX2_readNumber] at h
  refine fx_enter [(0, .ref 16)] (by show plainName RX2 = true; decide) (fun _ => rfl) (fun _ => Nat.le_of_ble_eq_true rfl) ?_
  refine fx_aload_n 0 dX2_readNumber_0 rfl 0 rfl ?_
  refine fx_ldcS 1 7 (by decide) dX2_readNumber_1 ⟨rfl, rfl⟩ ?_
  obtain ⟨q3, e3, h⟩ := fx_bd h
  refine fx_callVi 3 (mt' := mX2_takeOneOf) (As := [.ref (1000 + 7)]) okc16 (okvX2_takeOneOf _ _) lmX2_125 (by decide) rfl rfl (Nat.le_of_ble_eq_true rfl) dX2_readNumber_3 (tX2_takeOneOf e3) ?_
  refine fx_istore_n 6 (lv' := [(1, .int q3.1), (0, .ref 16)]) dX2_readNumber_6 rfl (Nat.le_of_ble_eq_true rfl) rfl ?_
  refine fx_iload_n 7 dX2_readNumber_7 rfl 0 rfl ?_
  refine fx_iconst 8 (x := (-1 : Int32)) dX2_readNumber_8 (by decide) ?_
  refine fx_icmp_eq 9 16 dX2_readNumber_9 (by decide) (fun c9 => ?_) (fun c9 => ?_)
  · replace h := fx_ip c9 h
    refine fx_iload_n 16 dX2_readNumber_16 rfl 0 rfl ?_
    obtain rfl := Option.some.inj h
    exact fx_iret 17 dX2_readNumber_17 rfl rfl ⟨rfl, rfl⟩
  · replace h := fx_ne c9 h
    refine fx_iload_n 12 dX2_readNumber_12 rfl 0 rfl ?_
    refine fx_if_ne 13 18 dX2_readNumber_13 (by decide) (fun c13 => ?_) (fun c13 => ?_)
    · replace h := fx_ne c13 h
      refine fx_aload_n 18 dX2_readNumber_18 rfl 1 rfl ?_
      refine fx_ldcS 19 7 (by decide) dX2_readNumber_19 ⟨rfl, rfl⟩ ?_
      obtain ⟨q21, e21, h⟩ := fx_bd h
      refine fx_callVi 21 (mt' := mX2_takeOneOf) (As := [.ref (1000 + 7)]) okc16 (okvX2_takeOneOf _ _) lmX2_125 (by decide) rfl rfl (Nat.le_of_ble_eq_true rfl) dX2_readNumber_21 (tX2_takeOneOf e21) ?_
      refine fx_istore_n 24 (lv' := [(2, .int q21.1), (1, .int q3.1), (0, .ref 16)]) dX2_readNumber_24 rfl (Nat.le_of_ble_eq_true rfl) rfl ?_
      refine fx_iload_n 25 dX2_readNumber_25 rfl 0 rfl ?_
      refine fx_iconst 26 (x := (-1 : Int32)) dX2_readNumber_26 (by decide) ?_
      have J : fx_V gC mX2_readNumber (fx_ri R) 40 [(0, .ref 16), (1, .int q3.1), (2, .int q21.1)] [.int (if q21.1 = (-1 : Int32) then q3.1 else ((10 : Int32) * q3.1) + q21.1)] q21.2 := by
        obtain rfl := Option.some.inj h
        exact fx_iret 40 dX2_readNumber_40 rfl rfl ⟨rfl, rfl⟩
      refine fx_icmp_ne 27 34 dX2_readNumber_27 (by decide) (fun c27 => ?_) (fun c27 => ?_)
      · refine fx_bipush 34 (x := (10 : Int32)) dX2_readNumber_34 (by decide) ?_
        refine fx_iload_n 36 dX2_readNumber_36 rfl 1 rfl ?_
        refine fx_imul 37 dX2_readNumber_37 ?_
        refine fx_iload_n 38 dX2_readNumber_38 rfl 0 rfl ?_
        refine fx_iadd 39 dX2_readNumber_39 ?_
        refine fx_sub (lv' := [(0, .ref 16), (1, .int q3.1), (2, .int q21.1)]) [2, 1, 0] rfl ?_
        show fx_V gC mX2_readNumber (fx_ri R) 40 [(0, .ref 16), (1, .int q3.1), (2, .int q21.1)] [.int (((10 : Int32) * q3.1) + q21.1)] q21.2
        simpa only [if_neg c27] using J
      · refine fx_iload_n 30 dX2_readNumber_30 rfl 1 rfl ?_
        refine fx_goto 31 40 dX2_readNumber_31 (by decide) ?_
        refine fx_sub (lv' := [(0, .ref 16), (1, .int q3.1), (2, .int q21.1)]) [2, 1, 0] rfl ?_
        show fx_V gC mX2_readNumber (fx_ri R) 40 [(0, .ref 16), (1, .int q3.1), (2, .int q21.1)] [.int q3.1] q21.2
        simpa only [if_pos c27] using J
    · replace h := fx_ip c13 h
      refine fx_iload_n 16 dX2_readNumber_16 rfl 0 rfl ?_
      obtain rfl := Option.some.inj h
      exact fx_iret 17 dX2_readNumber_17 rfl rfl ⟨rfl, rfl⟩
def mX3_write : fxM := (yX3_write, cX3_write, 2, none, 2, 80)
theorem okvX3_write (f l : Nat) : fx_okV (yX3_write, cX3_write, 2, none, f, l) 1 := ⟨⟨rin13 _ (List.mem_of_getElem? (i := 10) rfl), rin2 _ (List.mem_of_getElem? (i := 6) rfl), by show yX3_write.cls ≠ _; decide +kernel, by show yX3_write.cls ≠ _; decide +kernel, by show (parseMethodDescriptor yX3_write.desc).map _ = _; decide +kernel⟩, rin13 _ (List.mem_of_getElem? (i := 8) rfl), rin13 _ (List.mem_of_getElem? (i := 9) rfl)⟩
def CX3_write (x0 : Nat) (x1 : Int32) (M : fxMem) : Option (fxMem) := if fx_isSh x0 = true then if (120 : Int32) ≤ M x0 8 then some M else if fx_in (M x0 8) 120 = true then fx_lt (fx_st M (x0 + 5) (M x0 8).toNatClampNeg x1) fun M21 => some (fx_st M21 x0 8 ((M21 x0 8) + (1 : Int32))) else none else none
set_option maxRecDepth 100000 in
set_option maxHeartbeats 4000000 in
theorem tX3_write {x0 : Nat} {x1 : Int32} {M : fxMem} {R : fxMem} (h : CX3_write x0 x1 M = some R) : fx_T gC mX3_write [.ref x0, .int x1] M (fx_rv R) := by
  rw [CX3_write] at h
  refine fx_enter [(0, .ref x0), (1, .int x1)] (by show plainName RX3 = true; decide) (fun _ => rfl) (fun _ => Nat.le_of_ble_eq_true rfl) ?_
  refine fx_aload_n 0 dX3_write_0 rfl 0 rfl ?_
  obtain ⟨g1, h⟩ := fx_gt h
  refine fx_get 1 (j := 8) (v := .int (M x0 8)) (okcS g1) dX3_write_1 lfX3_37 (by decide) (fun _ => rfl) ?_
  refine fx_bipush 4 (x := (120 : Int32)) dX3_write_4 (by decide) ?_
  refine fx_icmp_ge 6 29 dX3_write_6 (by decide) (fun c6 => ?_) (fun c6 => ?_)
  · replace h := fx_ip c6 h
    obtain rfl := Option.some.inj h
    exact fx_vret 29 dX3_write_29 rfl ⟨rfl, rfl⟩
  · replace h := fx_ne c6 h
    refine fx_aload_n 9 dX3_write_9 rfl 0 rfl ?_
    refine fx_get 10 (j := 9) (v := .ref (x0 + 5)) (okcS g1) dX3_write_10 lfX3_40 (by decide) (fun _ => rfl) ?_
    refine fx_aload_n 13 dX3_write_13 rfl 0 rfl ?_
    refine fx_get 14 (j := 8) (v := .int (M x0 8)) (okcS g1) dX3_write_14 lfX3_37 (by decide) (fun _ => rfl) ?_
    refine fx_iload_n 17 dX3_write_17 rfl 1 rfl ?_
    obtain ⟨g18, h⟩ := fx_gt h
    refine fx_iast 18 (okaS5 g1) dX3_write_18 g18 ?_
    refine fx_aload_n 19 dX3_write_19 rfl 0 rfl ?_
    refine fx_dup 20 dX3_write_20 rfl ?_
    replace h := fx_ltd h
    generalize fx_st M (x0 + 5) (M x0 8).toNatClampNeg x1 = M21 at h ⊢
    refine fx_get 21 (j := 8) (v := .int (M21 x0 8)) (okcS g1) dX3_write_21 lfX3_37 (by decide) (fun _ => rfl) ?_
    refine fx_iconst 24 (x := (1 : Int32)) dX3_write_24 (by decide) ?_
    refine fx_iadd 25 dX3_write_25 ?_
    refine fx_putI 26 (j := 8) (okcS g1) dX3_write_26 lfX3_37 (by decide) rfl (by decide +kernel) (fun _ _ => Nat.le_of_ble_eq_true rfl) (fun _ _ _ => rfl) ?_
    obtain rfl := Option.some.inj h
    exact fx_vret 29 dX3_write_29 rfl ⟨rfl, rfl⟩
def mX3_codeOfTest : fxM := (yX3_codeOfTest, cX3_codeOfTest, 3, (some .int), 2, 80)
theorem oksX3_codeOfTest (f l : Nat) : fx_okS (yX3_codeOfTest, cX3_codeOfTest, 3, (some .int), f, l) 3 := ⟨⟨rin13 _ (List.mem_of_getElem? (i := 22) rfl), rin2 _ (List.mem_of_getElem? (i := 6) rfl), by show yX3_codeOfTest.cls ≠ _; decide +kernel, by show yX3_codeOfTest.cls ≠ _; decide +kernel, by show (parseMethodDescriptor yX3_codeOfTest.desc).map _ = _; decide +kernel⟩, rin13 _ (List.mem_of_getElem? (i := 21) rfl)⟩
def CX3_codeOfTest (x0 : Int32) (x1 : Int32) (x2 : Int32) (M : fxMem) : Option (Int32 × fxMem) := some ((((x0 * (3 : Int32)) + x1) * (100 : Int32)) + x2, M)
set_option maxRecDepth 100000 in
set_option maxHeartbeats 4000000 in
theorem tX3_codeOfTest {x0 : Int32} {x1 : Int32} {x2 : Int32} {M : fxMem} {R : Int32 × fxMem} (h : CX3_codeOfTest x0 x1 x2 M = some R) : fx_T gC mX3_codeOfTest [.int x0, .int x1, .int x2] M (fx_ri R) := by
  rw [CX3_codeOfTest] at h
  refine fx_enter [(0, .int x0), (1, .int x1), (2, .int x2)] (by show plainName RX3 = true; decide) (fun _ => rfl) (fun _ => Nat.le_of_ble_eq_true rfl) ?_
  refine fx_iload_n 0 dX3_codeOfTest_0 rfl 0 rfl ?_
  refine fx_iconst 1 (x := (3 : Int32)) dX3_codeOfTest_1 (by decide) ?_
  refine fx_imul 2 dX3_codeOfTest_2 ?_
  refine fx_iload_n 3 dX3_codeOfTest_3 rfl 1 rfl ?_
  refine fx_iadd 4 dX3_codeOfTest_4 ?_
  refine fx_bipush 5 (x := (100 : Int32)) dX3_codeOfTest_5 (by decide) ?_
  refine fx_imul 7 dX3_codeOfTest_7 ?_
  refine fx_iload_n 8 dX3_codeOfTest_8 rfl 2 rfl ?_
  refine fx_iadd 9 dX3_codeOfTest_9 ?_
  obtain rfl := Option.some.inj h
  exact fx_iret 10 dX3_codeOfTest_10 rfl rfl ⟨rfl, rfl⟩
def mX2_readTest : fxM := (yX2_readTest, cX2_readTest, 4, (some .boolean), 11, 440)
theorem okvX2_readTest (f l : Nat) : fx_okV (yX2_readTest, cX2_readTest, 4, (some .boolean), f, l) 0 := ⟨⟨rin13 _ (List.mem_of_getElem? (i := 19) rfl), rin2 _ (List.mem_of_getElem? (i := 9) rfl), by show yX2_readTest.cls ≠ _; decide +kernel, by show yX2_readTest.cls ≠ _; decide +kernel, by show (parseMethodDescriptor yX2_readTest.desc).map _ = _; decide +kernel⟩, rin13 _ (List.mem_of_getElem? (i := 17) rfl), rin13 _ (List.mem_of_getElem? (i := 18) rfl)⟩
def CX2_readTest  (M : fxMem) : Option (Int32 × fxMem) := Option.bind (CX2_takeOneOf (1000 + 11) M) fun q3 => if q3.1 = (-1 : Int32) then some ((0 : Int32), q3.2) else Option.bind (CX2_takeOneOf (1000 + 12) q3.2) fun q17 => if q17.1 = (-1 : Int32) then some ((0 : Int32), q17.2) else Option.bind (CX2_readNumber q17.2) fun q29 => if q29.1 = (-1 : Int32) then some ((0 : Int32), q29.2) else Option.bind (CX3_codeOfTest q3.1 q17.1 q29.1 q29.2) fun q47 => if fx_isSh ((q29.2 16 1).toNatClampNeg) = true then Option.bind (CX3_write ((q29.2 16 1).toNatClampNeg) q47.1 q47.2) fun q50 => some ((1 : Int32), q50) else none
set_option maxRecDepth 100000 in
set_option maxHeartbeats 4000000 in
theorem tX2_readTest  {M : fxMem} {R : Int32 × fxMem} (h : CX2_readTest  M = some R) : fx_T gC mX2_readTest [.ref 16] M (fx_ri R) := by
  rw [CX2_readTest] at h
  refine fx_enter [(0, .ref 16)] (by show plainName RX2 = true; decide) (fun _ => rfl) (fun _ => Nat.le_of_ble_eq_true rfl) ?_
  refine fx_aload_n 0 dX2_readTest_0 rfl 0 rfl ?_
  refine fx_ldcS 1 11 (by decide) dX2_readTest_1 ⟨rfl, rfl⟩ ?_
  obtain ⟨q3, e3, h⟩ := fx_bd h
  refine fx_callVi 3 (mt' := mX2_takeOneOf) (As := [.ref (1000 + 11)]) okc16 (okvX2_takeOneOf _ _) lmX2_125 (by decide) rfl rfl (Nat.le_of_ble_eq_true rfl) dX2_readTest_3 (tX2_takeOneOf e3) ?_
  refine fx_istore_n 6 (lv' := [(1, .int q3.1), (0, .ref 16)]) dX2_readTest_6 rfl (Nat.le_of_ble_eq_true rfl) rfl ?_
  refine fx_iload_n 7 dX2_readTest_7 rfl 0 rfl ?_
  refine fx_iconst 8 (x := (-1 : Int32)) dX2_readTest_8 (by decide) ?_
  refine fx_icmp_ne 9 14 dX2_readTest_9 (by decide) (fun c9 => ?_) (fun c9 => ?_)
  · replace h := fx_ne c9 h
    refine fx_aload_n 14 dX2_readTest_14 rfl 1 rfl ?_
    refine fx_ldcS 15 12 (by decide) dX2_readTest_15 ⟨rfl, rfl⟩ ?_
    obtain ⟨q17, e17, h⟩ := fx_bd h
    refine fx_callVi 17 (mt' := mX2_takeOneOf) (As := [.ref (1000 + 12)]) okc16 (okvX2_takeOneOf _ _) lmX2_125 (by decide) rfl rfl (Nat.le_of_ble_eq_true rfl) dX2_readTest_17 (tX2_takeOneOf e17) ?_
    refine fx_istore_n 20 (lv' := [(2, .int q17.1), (1, .int q3.1), (0, .ref 16)]) dX2_readTest_20 rfl (Nat.le_of_ble_eq_true rfl) rfl ?_
    refine fx_iload_n 21 dX2_readTest_21 rfl 0 rfl ?_
    refine fx_iconst 22 (x := (-1 : Int32)) dX2_readTest_22 (by decide) ?_
    refine fx_icmp_ne 23 28 dX2_readTest_23 (by decide) (fun c23 => ?_) (fun c23 => ?_)
    · replace h := fx_ne c23 h
      refine fx_aload_n 28 dX2_readTest_28 rfl 2 rfl ?_
      obtain ⟨q29, e29, h⟩ := fx_bd h
      refine fx_callVi 29 (mt' := mX2_readNumber) (As := []) okc16 (okvX2_readNumber _ _) lmX2_49 (by decide) rfl rfl (Nat.le_of_ble_eq_true rfl) dX2_readTest_29 (tX2_readNumber e29) ?_
      refine fx_istore_n 32 (lv' := [(3, .int q29.1), (2, .int q17.1), (1, .int q3.1), (0, .ref 16)]) dX2_readTest_32 rfl (Nat.le_of_ble_eq_true rfl) rfl ?_
      refine fx_iload_n 33 dX2_readTest_33 rfl 0 rfl ?_
      refine fx_iconst 34 (x := (-1 : Int32)) dX2_readTest_34 (by decide) ?_
      refine fx_icmp_ne 35 40 dX2_readTest_35 (by decide) (fun c35 => ?_) (fun c35 => ?_)
      · replace h := fx_ne c35 h
        refine fx_aload_n 40 dX2_readTest_40 rfl 3 rfl ?_
        refine fx_get 41 (j := 1) (v := .ref ((q29.2 16 1).toNatClampNeg)) okc16 dX2_readTest_41 lfX2_19 (by decide) (fun _ => rfl) ?_
        refine fx_iload_n 44 dX2_readTest_44 rfl 2 rfl ?_
        refine fx_iload_n 45 dX2_readTest_45 rfl 1 rfl ?_
        refine fx_iload_n 46 dX2_readTest_46 rfl 0 rfl ?_
        obtain ⟨q47, e47, h⟩ := fx_bd h
        refine fx_callSi 47 (mt' := mX3_codeOfTest) (As := [.int q3.1, .int q17.1, .int q29.1]) (oksX3_codeOfTest _ _) lmX2_130 (by decide) rfl rfl (Nat.le_of_ble_eq_true rfl) dX2_readTest_47 (tX3_codeOfTest e47) ?_
        obtain ⟨g50, h⟩ := fx_gt h
        obtain ⟨q50, e50, h⟩ := fx_bd h
        refine fx_callVv 50 (mt' := mX3_write) (As := [.int q47.1]) (okcS g50) (okvX3_write _ _) lmX2_105 (by decide) rfl rfl (Nat.le_of_ble_eq_true rfl) dX2_readTest_50 (tX3_write e50) ?_
        refine fx_iconst 53 (x := (1 : Int32)) dX2_readTest_53 (by decide) ?_
        obtain rfl := Option.some.inj h
        exact fx_iret 54 dX2_readTest_54 rfl rfl ⟨rfl, rfl⟩
      · replace h := fx_ip c35 h
        refine fx_iconst 38 (x := (0 : Int32)) dX2_readTest_38 (by decide) ?_
        obtain rfl := Option.some.inj h
        exact fx_iret 39 dX2_readTest_39 rfl rfl ⟨rfl, rfl⟩
    · replace h := fx_ip c23 h
      refine fx_iconst 26 (x := (0 : Int32)) dX2_readTest_26 (by decide) ?_
      obtain rfl := Option.some.inj h
      exact fx_iret 27 dX2_readTest_27 rfl rfl ⟨rfl, rfl⟩
  · replace h := fx_ip c9 h
    refine fx_iconst 12 (x := (0 : Int32)) dX2_readTest_12 (by decide) ?_
    obtain rfl := Option.some.inj h
    exact fx_iret 13 dX2_readTest_13 rfl rfl ⟨rfl, rfl⟩
def mX2_readEither (d : Nat) : fxM := (yX2_readEither, cX2_readEither, 3, (some .boolean), 12 + d, 40 * (12 + d))
theorem okvX2_readEither (f l : Nat) : fx_okV (yX2_readEither, cX2_readEither, 3, (some .boolean), f, l) 1 := ⟨⟨rin13 _ (List.mem_of_getElem? (i := 3) rfl), rin2 _ (List.mem_of_getElem? (i := 9) rfl), by show yX2_readEither.cls ≠ _; decide +kernel, by show yX2_readEither.cls ≠ _; decide +kernel, by show (parseMethodDescriptor yX2_readEither.desc).map _ = _; decide +kernel⟩, rin13 _ (List.mem_of_getElem? (i := 1) rfl), rin13 _ (List.mem_of_getElem? (i := 2) rfl)⟩
def mX2_readBoth (d : Nat) : fxM := (yX2_readBoth, cX2_readBoth, 3, (some .boolean), 12 + d, 40 * (12 + d))
theorem okvX2_readBoth (f l : Nat) : fx_okV (yX2_readBoth, cX2_readBoth, 3, (some .boolean), f, l) 1 := ⟨⟨rin13 _ (List.mem_of_getElem? (i := 11) rfl), rin2 _ (List.mem_of_getElem? (i := 9) rfl), by show yX2_readBoth.cls ≠ _; decide +kernel, by show yX2_readBoth.cls ≠ _; decide +kernel, by show (parseMethodDescriptor yX2_readBoth.desc).map _ = _; decide +kernel⟩, rin13 _ (List.mem_of_getElem? (i := 5) rfl), rin13 _ (List.mem_of_getElem? (i := 6) rfl)⟩
def mX2_readFactor (d : Nat) : fxM := (yX2_readFactor, cX2_readFactor, 2, (some .boolean), 12 + d, 40 * (12 + d))
theorem okvX2_readFactor (f l : Nat) : fx_okV (yX2_readFactor, cX2_readFactor, 2, (some .boolean), f, l) 1 := ⟨⟨rin13 _ (List.mem_of_getElem? (i := 15) rfl), rin2 _ (List.mem_of_getElem? (i := 9) rfl), by show yX2_readFactor.cls ≠ _; decide +kernel, by show yX2_readFactor.cls ≠ _; decide +kernel, by show (parseMethodDescriptor yX2_readFactor.desc).map _ = _; decide +kernel⟩, rin13 _ (List.mem_of_getElem? (i := 13) rfl), rin13 _ (List.mem_of_getElem? (i := 14) rfl)⟩
def CX2_readEither_L12 (rec : Nat → Int32 → fxMem → Option (Int32 × fxMem)) (x1 : Int32) : Nat → Int32 → fxMem → (Int32 → fxMem → Option (Int32 × fxMem)) → Option (Int32 × fxMem)
  | 0, _, _, _ => none
  | n + 1, x2, M, k => if (120 : Int32) ≤ x2 then k x2 M else Option.bind (CX2_take (1000 + 14) M) fun q21 => if q21.1 = (0 : Int32) then k x2 q21.2 else Option.bind (rec 1 x1 q21.2) fun q29 => if q29.1 = (0 : Int32) then some ((0 : Int32), q29.2) else if fx_isSh ((q29.2 16 1).toNatClampNeg) = true then Option.bind (CX3_write ((q29.2 16 1).toNatClampNeg) (-3 : Int32) q29.2) fun q43 => CX2_readEither_L12 rec x1 n (x2 + (1 : Int32)) q43 k else none
set_option maxRecDepth 100000 in
set_option maxHeartbeats 4000000 in
theorem vX2_readEither_L12 {d : Nat} {rec : Nat → Int32 → fxMem → Option (Int32 × fxMem)} (H0 : ∀ {a1 : Int32} {M : fxMem} {R : Int32 × fxMem}, rec 0 a1 M = some R → fx_T gC (mX2_readEither d) [.ref 16, .int a1] M (fx_ri R)) (H1 : ∀ {a1 : Int32} {M : fxMem} {R : Int32 × fxMem}, rec 1 a1 M = some R → fx_T gC (mX2_readBoth d) [.ref 16, .int a1] M (fx_ri R)) (H2 : ∀ {a1 : Int32} {M : fxMem} {R : Int32 × fxMem}, rec 2 a1 M = some R → fx_T gC (mX2_readFactor d) [.ref 16, .int a1] M (fx_ri R)) {x1 : Int32} {R : Int32 × fxMem} {k : Int32 → fxMem → Option (Int32 × fxMem)} (hk : ∀ (x2 : Int32) (M : fxMem), k x2 M = some R → fx_V gC (mX2_readEither (d + 1)) (fx_ri R) 52 [(0, .ref 16), (1, .int x1), (2, .int x2)] [] M) : ∀ (n : Nat) (x2 : Int32) (M : fxMem), CX2_readEither_L12 rec x1 n x2 M k = some R → fx_V gC (mX2_readEither (d + 1)) (fx_ri R) 12 [(0, .ref 16), (1, .int x1), (2, .int x2)] [] M := by
  intro n
  induction n with
  | zero => intro x2 M h; rw [CX2_readEither_L12] at h; cases h
  | succ n ih =>
    intro x2 M h
    rw [CX2_readEither_L12] at h
    refine fx_iload_n 12 dX2_readEither_12 rfl 2 rfl ?_
    refine fx_bipush 13 (x := (120 : Int32)) dX2_readEither_13 (by decide) ?_
    refine fx_icmp_ge 15 52 dX2_readEither_15 (by decide) (fun c15 => ?_) (fun c15 => ?_)
    · replace h := fx_ip c15 h
      refine fx_sub [0, 1, 2] rfl ?_
      exact hk _ _ h
    · replace h := fx_ne c15 h
      refine fx_aload_n 18 dX2_readEither_18 rfl 0 rfl ?_
      refine fx_ldcS 19 14 (by decide) dX2_readEither_19 ⟨rfl, rfl⟩ ?_
      obtain ⟨q21, e21, h⟩ := fx_bd h
      refine fx_callVi 21 (mt' := mX2_take) (As := [.ref (1000 + 14)]) okc16 (okvX2_take _ _) lmX2_39 (by simp only [mX2_readEither, mX2_take]; omega) rfl rfl (Nat.le_of_ble_eq_true rfl) dX2_readEither_21 (tX2_take e21) ?_
      refine fx_if_eq 24 52 dX2_readEither_24 (by decide) (fun c24 => ?_) (fun c24 => ?_)
      · replace h := fx_ip c24 h
        refine fx_sub [0, 1, 2] rfl ?_
        exact hk _ _ h
      · replace h := fx_ne c24 h
        refine fx_aload_n 27 dX2_readEither_27 rfl 0 rfl ?_
        refine fx_iload_n 28 dX2_readEither_28 rfl 1 rfl ?_
        obtain ⟨q29, e29, h⟩ := fx_bd h
        refine fx_callVi 29 (mt' := (mX2_readBoth d)) (As := [.int x1]) okc16 (okvX2_readBoth _ _) lmX2_100 (by simp only [mX2_readEither, mX2_readBoth]; omega) rfl rfl (Nat.le_of_ble_eq_true rfl) dX2_readEither_29 (H1 e29) ?_
        refine fx_if_ne 32 37 dX2_readEither_32 (by decide) (fun c32 => ?_) (fun c32 => ?_)
        · replace h := fx_ne c32 h
          refine fx_aload_n 37 dX2_readEither_37 rfl 0 rfl ?_
          refine fx_get 38 (j := 1) (v := .ref ((q29.2 16 1).toNatClampNeg)) okc16 dX2_readEither_38 lfX2_19 (by decide) (fun _ => rfl) ?_
          refine fx_bipush 41 (x := (-3 : Int32)) dX2_readEither_41 (by decide) ?_
          obtain ⟨g43, h⟩ := fx_gt h
          obtain ⟨q43, e43, h⟩ := fx_bd h
          refine fx_callVv 43 (mt' := mX3_write) (As := [.int (-3 : Int32)]) (okcS g43) (okvX3_write _ _) lmX2_105 (by simp only [mX2_readEither, mX3_write]; omega) rfl rfl (Nat.le_of_ble_eq_true rfl) dX2_readEither_43 (tX3_write e43) ?_
          refine fx_iinc 46 (lv' := [(2, .int (x2 + (1 : Int32))), (0, .ref 16), (1, .int x1)]) (y := x2 + (1 : Int32)) dX2_readEither_46 2 rfl (by rfl) (Nat.le_of_ble_eq_true rfl) rfl ?_
          refine fx_goto 49 12 dX2_readEither_49 (by decide) ?_
          refine fx_sub [1, 2, 0] rfl ?_
          exact ih _ _ h
        · replace h := fx_ip c32 h
          refine fx_iconst 35 (x := (0 : Int32)) dX2_readEither_35 (by decide) ?_
          obtain rfl := Option.some.inj h
          exact fx_iret 36 dX2_readEither_36 rfl rfl ⟨rfl, rfl⟩
def BX2_readEither (rec : Nat → Int32 → fxMem → Option (Int32 × fxMem)) (x1 : Int32) (M : fxMem) : Option (Int32 × fxMem) := Option.bind (rec 1 x1 M) fun q2 => if q2.1 = (0 : Int32) then some ((0 : Int32), q2.2) else CX2_readEither_L12 rec x1 1000 (0 : Int32) q2.2 (fun y2_12 M12 => some ((1 : Int32), M12))
set_option maxRecDepth 100000 in
set_option maxHeartbeats 4000000 in
theorem bX2_readEither {d : Nat} {rec : Nat → Int32 → fxMem → Option (Int32 × fxMem)} (H0 : ∀ {a1 : Int32} {M : fxMem} {R : Int32 × fxMem}, rec 0 a1 M = some R → fx_T gC (mX2_readEither d) [.ref 16, .int a1] M (fx_ri R)) (H1 : ∀ {a1 : Int32} {M : fxMem} {R : Int32 × fxMem}, rec 1 a1 M = some R → fx_T gC (mX2_readBoth d) [.ref 16, .int a1] M (fx_ri R)) (H2 : ∀ {a1 : Int32} {M : fxMem} {R : Int32 × fxMem}, rec 2 a1 M = some R → fx_T gC (mX2_readFactor d) [.ref 16, .int a1] M (fx_ri R)) {x1 : Int32} {M : fxMem} {R : Int32 × fxMem} (h : BX2_readEither rec x1 M = some R) : fx_T gC (mX2_readEither (d + 1)) [.ref 16, .int x1] M (fx_ri R) := by
  rw [BX2_readEither] at h
  refine fx_enter [(0, .ref 16), (1, .int x1)] (by show plainName RX2 = true; decide) (fun _ => rfl) (fun _ => Nat.le_of_ble_eq_true rfl) ?_
  refine fx_aload_n 0 dX2_readEither_0 rfl 0 rfl ?_
  refine fx_iload_n 1 dX2_readEither_1 rfl 1 rfl ?_
  obtain ⟨q2, e2, h⟩ := fx_bd h
  refine fx_callVi 2 (mt' := (mX2_readBoth d)) (As := [.int x1]) okc16 (okvX2_readBoth _ _) lmX2_100 (by simp only [mX2_readEither, mX2_readBoth]; omega) rfl rfl (Nat.le_of_ble_eq_true rfl) dX2_readEither_2 (H1 e2) ?_
  refine fx_if_ne 5 10 dX2_readEither_5 (by decide) (fun c5 => ?_) (fun c5 => ?_)
  · replace h := fx_ne c5 h
    refine fx_iconst 10 (x := (0 : Int32)) dX2_readEither_10 (by decide) ?_
    refine fx_istore_n 11 (lv' := [(2, .int (0 : Int32)), (0, .ref 16), (1, .int x1)]) dX2_readEither_11 rfl (Nat.le_of_ble_eq_true rfl) rfl ?_
    refine fx_sub [1, 2, 0] rfl ?_
    refine vX2_readEither_L12 H0 H1 H2 (fun y2_12 M12 h => ?_) 1000 _ _ h
    refine fx_iconst 52 (x := (1 : Int32)) dX2_readEither_52 (by decide) ?_
    obtain rfl := Option.some.inj h
    exact fx_iret 53 dX2_readEither_53 rfl rfl ⟨rfl, rfl⟩
  · replace h := fx_ip c5 h
    refine fx_iconst 8 (x := (0 : Int32)) dX2_readEither_8 (by decide) ?_
    obtain rfl := Option.some.inj h
    exact fx_iret 9 dX2_readEither_9 rfl rfl ⟨rfl, rfl⟩
def CX2_readBoth_L12 (rec : Nat → Int32 → fxMem → Option (Int32 × fxMem)) (x1 : Int32) : Nat → Int32 → fxMem → (Int32 → fxMem → Option (Int32 × fxMem)) → Option (Int32 × fxMem)
  | 0, _, _, _ => none
  | n + 1, x2, M, k => if (120 : Int32) ≤ x2 then k x2 M else Option.bind (CX2_take (1000 + 13) M) fun q21 => if q21.1 = (0 : Int32) then k x2 q21.2 else Option.bind (rec 2 x1 q21.2) fun q29 => if q29.1 = (0 : Int32) then some ((0 : Int32), q29.2) else if fx_isSh ((q29.2 16 1).toNatClampNeg) = true then Option.bind (CX3_write ((q29.2 16 1).toNatClampNeg) (-2 : Int32) q29.2) fun q43 => CX2_readBoth_L12 rec x1 n (x2 + (1 : Int32)) q43 k else none
set_option maxRecDepth 100000 in
set_option maxHeartbeats 4000000 in
theorem vX2_readBoth_L12 {d : Nat} {rec : Nat → Int32 → fxMem → Option (Int32 × fxMem)} (H0 : ∀ {a1 : Int32} {M : fxMem} {R : Int32 × fxMem}, rec 0 a1 M = some R → fx_T gC (mX2_readEither d) [.ref 16, .int a1] M (fx_ri R)) (H1 : ∀ {a1 : Int32} {M : fxMem} {R : Int32 × fxMem}, rec 1 a1 M = some R → fx_T gC (mX2_readBoth d) [.ref 16, .int a1] M (fx_ri R)) (H2 : ∀ {a1 : Int32} {M : fxMem} {R : Int32 × fxMem}, rec 2 a1 M = some R → fx_T gC (mX2_readFactor d) [.ref 16, .int a1] M (fx_ri R)) {x1 : Int32} {R : Int32 × fxMem} {k : Int32 → fxMem → Option (Int32 × fxMem)} (hk : ∀ (x2 : Int32) (M : fxMem), k x2 M = some R → fx_V gC (mX2_readBoth (d + 1)) (fx_ri R) 52 [(0, .ref 16), (1, .int x1), (2, .int x2)] [] M) : ∀ (n : Nat) (x2 : Int32) (M : fxMem), CX2_readBoth_L12 rec x1 n x2 M k = some R → fx_V gC (mX2_readBoth (d + 1)) (fx_ri R) 12 [(0, .ref 16), (1, .int x1), (2, .int x2)] [] M := by
  intro n
  induction n with
  | zero => intro x2 M h; rw [CX2_readBoth_L12] at h; cases h
  | succ n ih =>
    intro x2 M h
    rw [CX2_readBoth_L12] at h
    refine fx_iload_n 12 dX2_readBoth_12 rfl 2 rfl ?_
    refine fx_bipush 13 (x := (120 : Int32)) dX2_readBoth_13 (by decide) ?_
    refine fx_icmp_ge 15 52 dX2_readBoth_15 (by decide) (fun c15 => ?_) (fun c15 => ?_)
    · replace h := fx_ip c15 h
      refine fx_sub [0, 1, 2] rfl ?_
      exact hk _ _ h
    · replace h := fx_ne c15 h
      refine fx_aload_n 18 dX2_readBoth_18 rfl 0 rfl ?_
      refine fx_ldcS 19 13 (by decide) dX2_readBoth_19 ⟨rfl, rfl⟩ ?_
      obtain ⟨q21, e21, h⟩ := fx_bd h
      refine fx_callVi 21 (mt' := mX2_take) (As := [.ref (1000 + 13)]) okc16 (okvX2_take _ _) lmX2_39 (by simp only [mX2_readBoth, mX2_take]; omega) rfl rfl (Nat.le_of_ble_eq_true rfl) dX2_readBoth_21 (tX2_take e21) ?_
      refine fx_if_eq 24 52 dX2_readBoth_24 (by decide) (fun c24 => ?_) (fun c24 => ?_)
      · replace h := fx_ip c24 h
        refine fx_sub [0, 1, 2] rfl ?_
        exact hk _ _ h
      · replace h := fx_ne c24 h
        refine fx_aload_n 27 dX2_readBoth_27 rfl 0 rfl ?_
        refine fx_iload_n 28 dX2_readBoth_28 rfl 1 rfl ?_
        obtain ⟨q29, e29, h⟩ := fx_bd h
        refine fx_callVi 29 (mt' := (mX2_readFactor d)) (As := [.int x1]) okc16 (okvX2_readFactor _ _) lmX2_109 (by simp only [mX2_readBoth, mX2_readFactor]; omega) rfl rfl (Nat.le_of_ble_eq_true rfl) dX2_readBoth_29 (H2 e29) ?_
        refine fx_if_ne 32 37 dX2_readBoth_32 (by decide) (fun c32 => ?_) (fun c32 => ?_)
        · replace h := fx_ne c32 h
          refine fx_aload_n 37 dX2_readBoth_37 rfl 0 rfl ?_
          refine fx_get 38 (j := 1) (v := .ref ((q29.2 16 1).toNatClampNeg)) okc16 dX2_readBoth_38 lfX2_19 (by decide) (fun _ => rfl) ?_
          refine fx_bipush 41 (x := (-2 : Int32)) dX2_readBoth_41 (by decide) ?_
          obtain ⟨g43, h⟩ := fx_gt h
          obtain ⟨q43, e43, h⟩ := fx_bd h
          refine fx_callVv 43 (mt' := mX3_write) (As := [.int (-2 : Int32)]) (okcS g43) (okvX3_write _ _) lmX2_105 (by simp only [mX2_readBoth, mX3_write]; omega) rfl rfl (Nat.le_of_ble_eq_true rfl) dX2_readBoth_43 (tX3_write e43) ?_
          refine fx_iinc 46 (lv' := [(2, .int (x2 + (1 : Int32))), (0, .ref 16), (1, .int x1)]) (y := x2 + (1 : Int32)) dX2_readBoth_46 2 rfl (by rfl) (Nat.le_of_ble_eq_true rfl) rfl ?_
          refine fx_goto 49 12 dX2_readBoth_49 (by decide) ?_
          refine fx_sub [1, 2, 0] rfl ?_
          exact ih _ _ h
        · replace h := fx_ip c32 h
          refine fx_iconst 35 (x := (0 : Int32)) dX2_readBoth_35 (by decide) ?_
          obtain rfl := Option.some.inj h
          exact fx_iret 36 dX2_readBoth_36 rfl rfl ⟨rfl, rfl⟩
def BX2_readBoth (rec : Nat → Int32 → fxMem → Option (Int32 × fxMem)) (x1 : Int32) (M : fxMem) : Option (Int32 × fxMem) := Option.bind (rec 2 x1 M) fun q2 => if q2.1 = (0 : Int32) then some ((0 : Int32), q2.2) else CX2_readBoth_L12 rec x1 1000 (0 : Int32) q2.2 (fun y2_12 M12 => some ((1 : Int32), M12))
set_option maxRecDepth 100000 in
set_option maxHeartbeats 4000000 in
theorem bX2_readBoth {d : Nat} {rec : Nat → Int32 → fxMem → Option (Int32 × fxMem)} (H0 : ∀ {a1 : Int32} {M : fxMem} {R : Int32 × fxMem}, rec 0 a1 M = some R → fx_T gC (mX2_readEither d) [.ref 16, .int a1] M (fx_ri R)) (H1 : ∀ {a1 : Int32} {M : fxMem} {R : Int32 × fxMem}, rec 1 a1 M = some R → fx_T gC (mX2_readBoth d) [.ref 16, .int a1] M (fx_ri R)) (H2 : ∀ {a1 : Int32} {M : fxMem} {R : Int32 × fxMem}, rec 2 a1 M = some R → fx_T gC (mX2_readFactor d) [.ref 16, .int a1] M (fx_ri R)) {x1 : Int32} {M : fxMem} {R : Int32 × fxMem} (h : BX2_readBoth rec x1 M = some R) : fx_T gC (mX2_readBoth (d + 1)) [.ref 16, .int x1] M (fx_ri R) := by
  rw [BX2_readBoth] at h
  refine fx_enter [(0, .ref 16), (1, .int x1)] (by show plainName RX2 = true; decide) (fun _ => rfl) (fun _ => Nat.le_of_ble_eq_true rfl) ?_
  refine fx_aload_n 0 dX2_readBoth_0 rfl 0 rfl ?_
  refine fx_iload_n 1 dX2_readBoth_1 rfl 1 rfl ?_
  obtain ⟨q2, e2, h⟩ := fx_bd h
  refine fx_callVi 2 (mt' := (mX2_readFactor d)) (As := [.int x1]) okc16 (okvX2_readFactor _ _) lmX2_109 (by simp only [mX2_readBoth, mX2_readFactor]; omega) rfl rfl (Nat.le_of_ble_eq_true rfl) dX2_readBoth_2 (H2 e2) ?_
  refine fx_if_ne 5 10 dX2_readBoth_5 (by decide) (fun c5 => ?_) (fun c5 => ?_)
  · replace h := fx_ne c5 h
    refine fx_iconst 10 (x := (0 : Int32)) dX2_readBoth_10 (by decide) ?_
    refine fx_istore_n 11 (lv' := [(2, .int (0 : Int32)), (0, .ref 16), (1, .int x1)]) dX2_readBoth_11 rfl (Nat.le_of_ble_eq_true rfl) rfl ?_
    refine fx_sub [1, 2, 0] rfl ?_
    refine vX2_readBoth_L12 H0 H1 H2 (fun y2_12 M12 h => ?_) 1000 _ _ h
    refine fx_iconst 52 (x := (1 : Int32)) dX2_readBoth_52 (by decide) ?_
    obtain rfl := Option.some.inj h
    exact fx_iret 53 dX2_readBoth_53 rfl rfl ⟨rfl, rfl⟩
  · replace h := fx_ip c5 h
    refine fx_iconst 8 (x := (0 : Int32)) dX2_readBoth_8 (by decide) ?_
    obtain rfl := Option.some.inj h
    exact fx_iret 9 dX2_readBoth_9 rfl rfl ⟨rfl, rfl⟩
def CX2_readFactor_J75 (rec : Nat → Int32 → fxMem → Option (Int32 × fxMem)) (x1 : Int32) (M : fxMem) : Option (Int32 × fxMem) := Option.bind (CX2_readTest M) fun q76 => if fx_01 q76.1 = true then some (q76.1, q76.2) else none
set_option maxRecDepth 100000 in
set_option maxHeartbeats 4000000 in
theorem vX2_readFactor_J75 {d : Nat} {rec : Nat → Int32 → fxMem → Option (Int32 × fxMem)} (H0 : ∀ {a1 : Int32} {M : fxMem} {R : Int32 × fxMem}, rec 0 a1 M = some R → fx_T gC (mX2_readEither d) [.ref 16, .int a1] M (fx_ri R)) (H1 : ∀ {a1 : Int32} {M : fxMem} {R : Int32 × fxMem}, rec 1 a1 M = some R → fx_T gC (mX2_readBoth d) [.ref 16, .int a1] M (fx_ri R)) (H2 : ∀ {a1 : Int32} {M : fxMem} {R : Int32 × fxMem}, rec 2 a1 M = some R → fx_T gC (mX2_readFactor d) [.ref 16, .int a1] M (fx_ri R))  {x1 : Int32} {R : Int32 × fxMem} {M : fxMem} (h : CX2_readFactor_J75 rec x1 M = some R) : fx_V gC (mX2_readFactor (d + 1)) (fx_ri R) 75 [(0, .ref 16), (1, .int x1)] [] M := by
  rw [CX2_readFactor_J75] at h
  refine fx_aload_n 75 dX2_readFactor_75 rfl 0 rfl ?_
  obtain ⟨q76, e76, h⟩ := fx_bd h
  refine fx_callVi 76 (mt' := mX2_readTest) (As := []) okc16 (okvX2_readTest _ _) lmX2_120 (by simp only [mX2_readFactor, mX2_readTest]; omega) rfl rfl (Nat.le_of_ble_eq_true rfl) dX2_readFactor_76 (tX2_readTest e76) ?_
  obtain ⟨gr, h⟩ := fx_gt h
  obtain rfl := Option.some.inj h
  exact fx_iret 79 dX2_readFactor_79 rfl (fx_01n gr).1 ⟨rfl, rfl⟩
def CX2_readFactor_J36 (rec : Nat → Int32 → fxMem → Option (Int32 × fxMem)) (x1 : Int32) (M : fxMem) : Option (Int32 × fxMem) := if (5 : Int32) ≤ x1 then CX2_readFactor_J75 rec x1 M else Option.bind (CX2_take (1000 + 9) M) fun q44 => if q44.1 = (0 : Int32) then CX2_readFactor_J75 rec x1 q44.2 else Option.bind (rec 0 (x1 + (1 : Int32)) q44.2) fun q54 => if q54.1 = (0 : Int32) then some ((0 : Int32), q54.2) else Option.bind (CX2_take (1000 + 10) q54.2) fun q63 => some ((if q63.1 = (0 : Int32) then (0 : Int32) else (1 : Int32)), q63.2)
set_option maxRecDepth 100000 in
set_option maxHeartbeats 4000000 in
theorem vX2_readFactor_J36 {d : Nat} {rec : Nat → Int32 → fxMem → Option (Int32 × fxMem)} (H0 : ∀ {a1 : Int32} {M : fxMem} {R : Int32 × fxMem}, rec 0 a1 M = some R → fx_T gC (mX2_readEither d) [.ref 16, .int a1] M (fx_ri R)) (H1 : ∀ {a1 : Int32} {M : fxMem} {R : Int32 × fxMem}, rec 1 a1 M = some R → fx_T gC (mX2_readBoth d) [.ref 16, .int a1] M (fx_ri R)) (H2 : ∀ {a1 : Int32} {M : fxMem} {R : Int32 × fxMem}, rec 2 a1 M = some R → fx_T gC (mX2_readFactor d) [.ref 16, .int a1] M (fx_ri R))  {x1 : Int32} {R : Int32 × fxMem} {M : fxMem} (h : CX2_readFactor_J36 rec x1 M = some R) : fx_V gC (mX2_readFactor (d + 1)) (fx_ri R) 36 [(0, .ref 16), (1, .int x1)] [] M := by
  rw [CX2_readFactor_J36] at h
  refine fx_iload_n 36 dX2_readFactor_36 rfl 1 rfl ?_
  refine fx_iconst 37 (x := (5 : Int32)) dX2_readFactor_37 (by decide) ?_
  refine fx_icmp_ge 38 75 dX2_readFactor_38 (by decide) (fun c38 => ?_) (fun c38 => ?_)
  · replace h := fx_ip c38 h
    refine fx_sub [0, 1] rfl ?_
    exact vX2_readFactor_J75 H0 H1 H2 h
  · replace h := fx_ne c38 h
    refine fx_aload_n 41 dX2_readFactor_41 rfl 0 rfl ?_
    refine fx_ldcS 42 9 (by decide) dX2_readFactor_42 ⟨rfl, rfl⟩ ?_
    obtain ⟨q44, e44, h⟩ := fx_bd h
    refine fx_callVi 44 (mt' := mX2_take) (As := [.ref (1000 + 9)]) okc16 (okvX2_take _ _) lmX2_39 (by simp only [mX2_readFactor, mX2_take]; omega) rfl rfl (Nat.le_of_ble_eq_true rfl) dX2_readFactor_44 (tX2_take e44) ?_
    refine fx_if_eq 47 75 dX2_readFactor_47 (by decide) (fun c47 => ?_) (fun c47 => ?_)
    · replace h := fx_ip c47 h
      refine fx_sub [0, 1] rfl ?_
      exact vX2_readFactor_J75 H0 H1 H2 h
    · replace h := fx_ne c47 h
      refine fx_aload_n 50 dX2_readFactor_50 rfl 0 rfl ?_
      refine fx_iload_n 51 dX2_readFactor_51 rfl 1 rfl ?_
      refine fx_iconst 52 (x := (1 : Int32)) dX2_readFactor_52 (by decide) ?_
      refine fx_iadd 53 dX2_readFactor_53 ?_
      obtain ⟨q54, e54, h⟩ := fx_bd h
      refine fx_callVi 54 (mt' := (mX2_readEither d)) (As := [.int (x1 + (1 : Int32))]) okc16 (okvX2_readEither _ _) lmX2_55 (by simp only [mX2_readFactor, mX2_readEither]; omega) rfl rfl (Nat.le_of_ble_eq_true rfl) dX2_readFactor_54 (H0 e54) ?_
      refine fx_if_eq 57 73 dX2_readFactor_57 (by decide) (fun c57 => ?_) (fun c57 => ?_)
      · replace h := fx_ip c57 h
        refine fx_iconst 73 (x := (0 : Int32)) dX2_readFactor_73 (by decide) ?_
        obtain rfl := Option.some.inj h
        exact fx_iret 74 dX2_readFactor_74 rfl rfl ⟨rfl, rfl⟩
      · replace h := fx_ne c57 h
        refine fx_aload_n 60 dX2_readFactor_60 rfl 0 rfl ?_
        refine fx_ldcS 61 10 (by decide) dX2_readFactor_61 ⟨rfl, rfl⟩ ?_
        obtain ⟨q63, e63, h⟩ := fx_bd h
        refine fx_callVi 63 (mt' := mX2_take) (As := [.ref (1000 + 10)]) okc16 (okvX2_take _ _) lmX2_39 (by simp only [mX2_readFactor, mX2_take]; omega) rfl rfl (Nat.le_of_ble_eq_true rfl) dX2_readFactor_63 (tX2_take e63) ?_
        have J : fx_V gC (mX2_readFactor (d + 1)) (fx_ri R) 74 [(0, .ref 16), (1, .int x1)] [.int (if q63.1 = (0 : Int32) then (0 : Int32) else (1 : Int32))] q63.2 := by
          obtain rfl := Option.some.inj h
          exact fx_iret 74 dX2_readFactor_74 rfl (by (repeat' split) <;> rfl) ⟨rfl, rfl⟩
        refine fx_if_eq 66 73 dX2_readFactor_66 (by decide) (fun c66 => ?_) (fun c66 => ?_)
        · refine fx_iconst 73 (x := (0 : Int32)) dX2_readFactor_73 (by decide) ?_
          refine fx_sub (lv' := [(0, .ref 16), (1, .int x1)]) [0, 1] rfl ?_
          show fx_V gC (mX2_readFactor (d + 1)) (fx_ri R) 74 [(0, .ref 16), (1, .int x1)] [.int (0 : Int32)] q63.2
          simpa only [if_pos c66] using J
        · refine fx_iconst 69 (x := (1 : Int32)) dX2_readFactor_69 (by decide) ?_
          refine fx_goto 70 74 dX2_readFactor_70 (by decide) ?_
          refine fx_sub (lv' := [(0, .ref 16), (1, .int x1)]) [0, 1] rfl ?_
          show fx_V gC (mX2_readFactor (d + 1)) (fx_ri R) 74 [(0, .ref 16), (1, .int x1)] [.int (1 : Int32)] q63.2
          simpa only [if_neg c66] using J
def BX2_readFactor (rec : Nat → Int32 → fxMem → Option (Int32 × fxMem)) (x1 : Int32) (M : fxMem) : Option (Int32 × fxMem) := if (5 : Int32) ≤ x1 then CX2_readFactor_J36 rec x1 M else Option.bind (CX2_take (1000 + 8) M) fun q8 => if q8.1 = (0 : Int32) then CX2_readFactor_J36 rec x1 q8.2 else Option.bind (rec 2 (x1 + (1 : Int32)) q8.2) fun q18 => if q18.1 = (0 : Int32) then some ((0 : Int32), q18.2) else if fx_isSh ((q18.2 16 1).toNatClampNeg) = true then Option.bind (CX3_write ((q18.2 16 1).toNatClampNeg) (-1 : Int32) q18.2) fun q31 => some ((1 : Int32), q31) else none
set_option maxRecDepth 100000 in
set_option maxHeartbeats 4000000 in
theorem bX2_readFactor {d : Nat} {rec : Nat → Int32 → fxMem → Option (Int32 × fxMem)} (H0 : ∀ {a1 : Int32} {M : fxMem} {R : Int32 × fxMem}, rec 0 a1 M = some R → fx_T gC (mX2_readEither d) [.ref 16, .int a1] M (fx_ri R)) (H1 : ∀ {a1 : Int32} {M : fxMem} {R : Int32 × fxMem}, rec 1 a1 M = some R → fx_T gC (mX2_readBoth d) [.ref 16, .int a1] M (fx_ri R)) (H2 : ∀ {a1 : Int32} {M : fxMem} {R : Int32 × fxMem}, rec 2 a1 M = some R → fx_T gC (mX2_readFactor d) [.ref 16, .int a1] M (fx_ri R)) {x1 : Int32} {M : fxMem} {R : Int32 × fxMem} (h : BX2_readFactor rec x1 M = some R) : fx_T gC (mX2_readFactor (d + 1)) [.ref 16, .int x1] M (fx_ri R) := by
  rw [BX2_readFactor] at h
  refine fx_enter [(0, .ref 16), (1, .int x1)] (by show plainName RX2 = true; decide) (fun _ => rfl) (fun _ => Nat.le_of_ble_eq_true rfl) ?_
  refine fx_iload_n 0 dX2_readFactor_0 rfl 1 rfl ?_
  refine fx_iconst 1 (x := (5 : Int32)) dX2_readFactor_1 (by decide) ?_
  refine fx_icmp_ge 2 36 dX2_readFactor_2 (by decide) (fun c2 => ?_) (fun c2 => ?_)
  · replace h := fx_ip c2 h
    refine fx_sub [0, 1] rfl ?_
    exact vX2_readFactor_J36 H0 H1 H2 h
  · replace h := fx_ne c2 h
    refine fx_aload_n 5 dX2_readFactor_5 rfl 0 rfl ?_
    refine fx_ldcS 6 8 (by decide) dX2_readFactor_6 ⟨rfl, rfl⟩ ?_
    obtain ⟨q8, e8, h⟩ := fx_bd h
    refine fx_callVi 8 (mt' := mX2_take) (As := [.ref (1000 + 8)]) okc16 (okvX2_take _ _) lmX2_39 (by simp only [mX2_readFactor, mX2_take]; omega) rfl rfl (Nat.le_of_ble_eq_true rfl) dX2_readFactor_8 (tX2_take e8) ?_
    refine fx_if_eq 11 36 dX2_readFactor_11 (by decide) (fun c11 => ?_) (fun c11 => ?_)
    · replace h := fx_ip c11 h
      refine fx_sub [0, 1] rfl ?_
      exact vX2_readFactor_J36 H0 H1 H2 h
    · replace h := fx_ne c11 h
      refine fx_aload_n 14 dX2_readFactor_14 rfl 0 rfl ?_
      refine fx_iload_n 15 dX2_readFactor_15 rfl 1 rfl ?_
      refine fx_iconst 16 (x := (1 : Int32)) dX2_readFactor_16 (by decide) ?_
      refine fx_iadd 17 dX2_readFactor_17 ?_
      obtain ⟨q18, e18, h⟩ := fx_bd h
      refine fx_callVi 18 (mt' := (mX2_readFactor d)) (As := [.int (x1 + (1 : Int32))]) okc16 (okvX2_readFactor _ _) lmX2_109 (by simp only [mX2_readFactor]; omega) rfl rfl (Nat.le_of_ble_eq_true rfl) dX2_readFactor_18 (H2 e18) ?_
      refine fx_if_ne 21 26 dX2_readFactor_21 (by decide) (fun c21 => ?_) (fun c21 => ?_)
      · replace h := fx_ne c21 h
        refine fx_aload_n 26 dX2_readFactor_26 rfl 0 rfl ?_
        refine fx_get 27 (j := 1) (v := .ref ((q18.2 16 1).toNatClampNeg)) okc16 dX2_readFactor_27 lfX2_19 (by decide) (fun _ => rfl) ?_
        refine fx_iconst 30 (x := (-1 : Int32)) dX2_readFactor_30 (by decide) ?_
        obtain ⟨g31, h⟩ := fx_gt h
        obtain ⟨q31, e31, h⟩ := fx_bd h
        refine fx_callVv 31 (mt' := mX3_write) (As := [.int (-1 : Int32)]) (okcS g31) (okvX3_write _ _) lmX2_105 (by simp only [mX2_readFactor, mX3_write]; omega) rfl rfl (Nat.le_of_ble_eq_true rfl) dX2_readFactor_31 (tX3_write e31) ?_
        refine fx_iconst 34 (x := (1 : Int32)) dX2_readFactor_34 (by decide) ?_
        obtain rfl := Option.some.inj h
        exact fx_iret 35 dX2_readFactor_35 rfl rfl ⟨rfl, rfl⟩
      · replace h := fx_ip c21 h
        refine fx_iconst 24 (x := (0 : Int32)) dX2_readFactor_24 (by decide) ?_
        obtain rfl := Option.some.inj h
        exact fx_iret 25 dX2_readFactor_25 rfl rfl ⟨rfl, rfl⟩
def gX2 : Nat → Nat → Int32 → fxMem → Option (Int32 × fxMem)
  | 0, _, _, _ => none
  | d + 1, t, a0, M => if t = 0 then BX2_readEither (fun t a0 M => gX2 d t a0 M) a0 M else if t = 1 then BX2_readBoth (fun t a0 M => gX2 d t a0 M) a0 M else BX2_readFactor (fun t a0 M => gX2 d t a0 M) a0 M
theorem tgX2 : ∀ d : Nat, (∀ {a1 : Int32} {M : fxMem} {R : Int32 × fxMem}, gX2 d 0 a1 M = some R → fx_T gC (mX2_readEither d) [.ref 16, .int a1] M (fx_ri R)) ∧ (∀ {a1 : Int32} {M : fxMem} {R : Int32 × fxMem}, gX2 d 1 a1 M = some R → fx_T gC (mX2_readBoth d) [.ref 16, .int a1] M (fx_ri R)) ∧ (∀ {a1 : Int32} {M : fxMem} {R : Int32 × fxMem}, gX2 d 2 a1 M = some R → fx_T gC (mX2_readFactor d) [.ref 16, .int a1] M (fx_ri R)) := by
  intro d
  induction d with
  | zero => exact ⟨(fun h => by rw [gX2] at h; cases h), (fun h => by rw [gX2] at h; cases h), (fun h => by rw [gX2] at h; cases h)⟩
  | succ d ih =>
    obtain ⟨i0, i1, i2⟩ := ih
    exact ⟨(fun h => by rw [gX2] at h; exact bX2_readEither i0 i1 i2 (by simpa using h)), (fun h => by rw [gX2] at h; exact bX2_readBoth i0 i1 i2 (by simpa using h)), (fun h => by rw [gX2] at h; exact bX2_readFactor i0 i1 i2 (by simpa using h))⟩
def CX2_readEither (x1 : Int32) (M : fxMem) : Option (Int32 × fxMem) := gX2 40 0 x1 M
theorem tX2_readEither {x1 : Int32} {M : fxMem} {R : Int32 × fxMem} (h : CX2_readEither x1 M = some R) : fx_T gC (mX2_readEither 40) [.ref 16, .int x1] M (fx_ri R) := (tgX2 40).1 h
def CX2_readBoth (x1 : Int32) (M : fxMem) : Option (Int32 × fxMem) := gX2 40 1 x1 M
theorem tX2_readBoth {x1 : Int32} {M : fxMem} {R : Int32 × fxMem} (h : CX2_readBoth x1 M = some R) : fx_T gC (mX2_readBoth 40) [.ref 16, .int x1] M (fx_ri R) := (tgX2 40).2.1 h
def CX2_readFactor (x1 : Int32) (M : fxMem) : Option (Int32 × fxMem) := gX2 40 2 x1 M
theorem tX2_readFactor {x1 : Int32} {M : fxMem} {R : Int32 × fxMem} (h : CX2_readFactor x1 M = some R) : fx_T gC (mX2_readFactor 40) [.ref 16, .int x1] M (fx_ri R) := (tgX2 40).2.2 h
def mX3_addClause : fxM := (yX3_addClause, cX3_addClause, 4, none, 3, 120)
theorem okvX3_addClause (f l : Nat) : fx_okV (yX3_addClause, cX3_addClause, 4, none, f, l) 3 := ⟨⟨rin14 _ (List.mem_of_getElem? (i := 2) rfl), rin2 _ (List.mem_of_getElem? (i := 6) rfl), by show yX3_addClause.cls ≠ _; decide +kernel, by show yX3_addClause.cls ≠ _; decide +kernel, by show (parseMethodDescriptor yX3_addClause.desc).map _ = _; decide +kernel⟩, rin14 _ (List.mem_of_getElem? (i := 0) rfl), rin14 _ (List.mem_of_getElem? (i := 1) rfl)⟩
def CX3_addClause_J60  (x0 : Nat) (x1 : Int32) (x2 : Int32) (x3 : Int32) (M : fxMem) : Option (fxMem) := if fx_isSh x0 = true then if (10 : Int32) ≤ M x0 3 then some M else if fx_in (M x0 3) 10 = true then fx_lt (fx_st M (x0 + 1) (M x0 3).toNatClampNeg x1) fun M84 => if fx_in (M84 x0 3) 10 = true then fx_lt (fx_st M84 (x0 + 2) (M84 x0 3).toNatClampNeg x2) fun M94 => if fx_in (M94 x0 3) 10 = true then fx_lt (fx_st M94 (x0 + 3) (M94 x0 3).toNatClampNeg x3) fun M104 => if fx_in (M104 x0 3) 10 = true then fx_lt (fx_st M104 (x0 + 4) (M104 x0 3).toNatClampNeg (M104 x0 8)) fun M114 => some (fx_st M114 x0 3 ((M114 x0 3) + (1 : Int32))) else none else none else none else none else none
set_option maxRecDepth 100000 in
set_option maxHeartbeats 4000000 in
theorem vX3_addClause_J60  {x0 : Nat} {x1 : Int32} {x2 : Int32} {x3 : Int32} {R : fxMem} {M : fxMem} (h : CX3_addClause_J60 x0 x1 x2 x3 M = some R) : fx_V gC mX3_addClause (fx_rv R) 60 [(0, .ref x0), (1, .int x1), (2, .int x2), (3, .int x3)] [] M := by
  rw [CX3_addClause_J60] at h
  refine fx_aload_n 60 dX3_addClause_60 rfl 0 rfl ?_
  obtain ⟨g61, h⟩ := fx_gt h
  refine fx_get 61 (j := 3) (v := .int (M x0 3)) (okcS g61) dX3_addClause_61 lfX3_21 (by decide) (fun _ => rfl) ?_
  refine fx_bipush 64 (x := (10 : Int32)) dX3_addClause_64 (by decide) ?_
  refine fx_icmp_ge 66 122 dX3_addClause_66 (by decide) (fun c66 => ?_) (fun c66 => ?_)
  · replace h := fx_ip c66 h
    obtain rfl := Option.some.inj h
    exact fx_vret 122 dX3_addClause_122 rfl ⟨rfl, rfl⟩
  · replace h := fx_ne c66 h
    refine fx_aload_n 69 dX3_addClause_69 rfl 0 rfl ?_
    refine fx_get 70 (j := 4) (v := .ref (x0 + 1)) (okcS g61) dX3_addClause_70 lfX3_24 (by decide) (fun _ => rfl) ?_
    refine fx_aload_n 73 dX3_addClause_73 rfl 0 rfl ?_
    refine fx_get 74 (j := 3) (v := .int (M x0 3)) (okcS g61) dX3_addClause_74 lfX3_21 (by decide) (fun _ => rfl) ?_
    refine fx_iload_n 77 dX3_addClause_77 rfl 1 rfl ?_
    obtain ⟨g78, h⟩ := fx_gt h
    refine fx_iast 78 (okaS1 g61) dX3_addClause_78 g78 ?_
    refine fx_aload_n 79 dX3_addClause_79 rfl 0 rfl ?_
    refine fx_get 80 (j := 5) (v := .ref (x0 + 2)) (okcS g61) dX3_addClause_80 lfX3_28 (by decide) (fun _ => rfl) ?_
    refine fx_aload_n 83 dX3_addClause_83 rfl 0 rfl ?_
    replace h := fx_ltd h
    generalize fx_st M (x0 + 1) (M x0 3).toNatClampNeg x1 = M84 at h ⊢
    refine fx_get 84 (j := 3) (v := .int (M84 x0 3)) (okcS g61) dX3_addClause_84 lfX3_21 (by decide) (fun _ => rfl) ?_
    refine fx_iload_n 87 dX3_addClause_87 rfl 2 rfl ?_
    obtain ⟨g88, h⟩ := fx_gt h
    refine fx_iast 88 (okaS2 g61) dX3_addClause_88 g88 ?_
    refine fx_aload_n 89 dX3_addClause_89 rfl 0 rfl ?_
    refine fx_get 90 (j := 6) (v := .ref (x0 + 3)) (okcS g61) dX3_addClause_90 lfX3_31 (by decide) (fun _ => rfl) ?_
    refine fx_aload_n 93 dX3_addClause_93 rfl 0 rfl ?_
    replace h := fx_ltd h
    generalize fx_st M84 (x0 + 2) (M84 x0 3).toNatClampNeg x2 = M94 at h ⊢
    refine fx_get 94 (j := 3) (v := .int (M94 x0 3)) (okcS g61) dX3_addClause_94 lfX3_21 (by decide) (fun _ => rfl) ?_
    refine fx_iload_n 97 dX3_addClause_97 rfl 3 rfl ?_
    obtain ⟨g98, h⟩ := fx_gt h
    refine fx_iast 98 (okaS3 g61) dX3_addClause_98 g98 ?_
    refine fx_aload_n 99 dX3_addClause_99 rfl 0 rfl ?_
    refine fx_get 100 (j := 7) (v := .ref (x0 + 4)) (okcS g61) dX3_addClause_100 lfX3_34 (by decide) (fun _ => rfl) ?_
    refine fx_aload_n 103 dX3_addClause_103 rfl 0 rfl ?_
    replace h := fx_ltd h
    generalize fx_st M94 (x0 + 3) (M94 x0 3).toNatClampNeg x3 = M104 at h ⊢
    refine fx_get 104 (j := 3) (v := .int (M104 x0 3)) (okcS g61) dX3_addClause_104 lfX3_21 (by decide) (fun _ => rfl) ?_
    refine fx_aload_n 107 dX3_addClause_107 rfl 0 rfl ?_
    refine fx_get 108 (j := 8) (v := .int (M104 x0 8)) (okcS g61) dX3_addClause_108 lfX3_37 (by decide) (fun _ => rfl) ?_
    obtain ⟨g111, h⟩ := fx_gt h
    refine fx_iast 111 (okaS4 g61) dX3_addClause_111 g111 ?_
    refine fx_aload_n 112 dX3_addClause_112 rfl 0 rfl ?_
    refine fx_dup 113 dX3_addClause_113 rfl ?_
    replace h := fx_ltd h
    generalize fx_st M104 (x0 + 4) (M104 x0 3).toNatClampNeg (M104 x0 8) = M114 at h ⊢
    refine fx_get 114 (j := 3) (v := .int (M114 x0 3)) (okcS g61) dX3_addClause_114 lfX3_21 (by decide) (fun _ => rfl) ?_
    refine fx_iconst 117 (x := (1 : Int32)) dX3_addClause_117 (by decide) ?_
    refine fx_iadd 118 dX3_addClause_118 ?_
    refine fx_putI 119 (j := 3) (okcS g61) dX3_addClause_119 lfX3_21 (by decide) rfl (by decide +kernel) (fun _ _ => Nat.le_of_ble_eq_true rfl) (fun _ _ _ => rfl) ?_
    obtain rfl := Option.some.inj h
    exact fx_vret 122 dX3_addClause_122 rfl ⟨rfl, rfl⟩
def CX3_addClause (x0 : Nat) (x1 : Int32) (x2 : Int32) (x3 : Int32) (M : fxMem) : Option (fxMem) := if x1 = (2 : Int32) then if fx_isSh x0 = true then CX3_addClause_J60 x0 x1 x2 x3 (fx_st M x0 0 x2) else none else if x1 = (3 : Int32) then if fx_isSh x0 = true then CX3_addClause_J60 x0 x1 x2 x3 (fx_st M x0 1 (if (1 : Int32) < x2 then x2 else (1 : Int32))) else none else if x1 = (4 : Int32) then if fx_isSh x0 = true then CX3_addClause_J60 x0 x1 x2 x3 (fx_st M x0 2 (if (1 : Int32) < x2 then x2 else (1 : Int32))) else none else CX3_addClause_J60 x0 x1 x2 x3 M
set_option maxRecDepth 100000 in
set_option maxHeartbeats 4000000 in
theorem tX3_addClause {x0 : Nat} {x1 : Int32} {x2 : Int32} {x3 : Int32} {M : fxMem} {R : fxMem} (h : CX3_addClause x0 x1 x2 x3 M = some R) : fx_T gC mX3_addClause [.ref x0, .int x1, .int x2, .int x3] M (fx_rv R) := by
  rw [CX3_addClause] at h
  refine fx_enter [(0, .ref x0), (1, .int x1), (2, .int x2), (3, .int x3)] (by show plainName RX3 = true; decide) (fun _ => rfl) (fun _ => Nat.le_of_ble_eq_true rfl) ?_
  refine fx_iload_n 0 dX3_addClause_0 rfl 1 rfl ?_
  by_cases s1_0 : x1 = (2 : Int32)
  · replace h := fx_ip s1_0 h
    refine fx_tsI 1 28 dX3_addClause_1 (by rw [s1_0]; decide) (by rw [s1_0]; decide) (by rw [s1_0]; try rfl) (by decide) ?_
    refine fx_aload_n 28 dX3_addClause_28 rfl 0 rfl ?_
    refine fx_iload_n 29 dX3_addClause_29 rfl 2 rfl ?_
    obtain ⟨g30, h⟩ := fx_gt h
    refine fx_putI 30 (j := 0) (okcS g30) dX3_addClause_30 lfX3_9 (by decide) rfl (by decide +kernel) (fun _ _ => Nat.le_of_ble_eq_true rfl) (fun _ _ _ => rfl) ?_
    refine fx_goto 33 60 dX3_addClause_33 (by decide) ?_
    refine fx_sub [0, 1, 2, 3] rfl ?_
    exact vX3_addClause_J60 h
  · replace h := fx_ne s1_0 h
    by_cases s1_1 : x1 = (3 : Int32)
    · replace h := fx_ip s1_1 h
      refine fx_tsI 1 36 dX3_addClause_1 (by rw [s1_1]; decide) (by rw [s1_1]; decide) (by rw [s1_1]; try rfl) (by decide) ?_
      refine fx_aload_n 36 dX3_addClause_36 rfl 0 rfl ?_
      refine fx_iconst 37 (x := (1 : Int32)) dX3_addClause_37 (by decide) ?_
      refine fx_iload_n 38 dX3_addClause_38 rfl 2 rfl ?_
      refine fx_mmax 39 dX3_addClause_39 lmX3_43 (by decide) (Nat.le_of_ble_eq_true rfl) ?_
      obtain ⟨g42, h⟩ := fx_gt h
      refine fx_putI 42 (j := 1) (okcS g42) dX3_addClause_42 lfX3_15 (by decide) rfl (by decide +kernel) (fun _ _ => Nat.le_of_ble_eq_true rfl) (fun _ _ _ => rfl) ?_
      refine fx_goto 45 60 dX3_addClause_45 (by decide) ?_
      refine fx_sub [0, 1, 2, 3] rfl ?_
      exact vX3_addClause_J60 h
    · replace h := fx_ne s1_1 h
      by_cases s1_2 : x1 = (4 : Int32)
      · replace h := fx_ip s1_2 h
        refine fx_tsI 1 48 dX3_addClause_1 (by rw [s1_2]; decide) (by rw [s1_2]; decide) (by rw [s1_2]; try rfl) (by decide) ?_
        refine fx_aload_n 48 dX3_addClause_48 rfl 0 rfl ?_
        refine fx_iconst 49 (x := (1 : Int32)) dX3_addClause_49 (by decide) ?_
        refine fx_iload_n 50 dX3_addClause_50 rfl 2 rfl ?_
        refine fx_mmax 51 dX3_addClause_51 lmX3_43 (by decide) (Nat.le_of_ble_eq_true rfl) ?_
        obtain ⟨g54, h⟩ := fx_gt h
        refine fx_putI 54 (j := 2) (okcS g54) dX3_addClause_54 lfX3_18 (by decide) rfl (by decide +kernel) (fun _ _ => Nat.le_of_ble_eq_true rfl) (fun _ _ _ => rfl) ?_
        refine fx_goto 57 60 dX3_addClause_57 (by decide) ?_
        refine fx_sub [0, 1, 2, 3] rfl ?_
        exact vX3_addClause_J60 h
      · replace h := fx_ne s1_2 h
        refine fx_tsD 1 60 [(2 : Int32), (3 : Int32), (4 : Int32)] dX3_addClause_1 (by decide) (by decide) (by intro q hq; simp only [List.mem_cons, List.not_mem_nil, or_false] at hq; rcases hq with rfl | rfl | rfl <;> assumption) (by decide) ?_
        refine fx_sub [0, 1, 2, 3] rfl ?_
        exact vX3_addClause_J60 h
def mX2_readClause : fxM := (yX2_readClause, cX2_readClause, 4, (some .boolean), 53, 2120)
theorem okvX2_readClause (f l : Nat) : fx_okV (yX2_readClause, cX2_readClause, 4, (some .boolean), f, l) 0 := ⟨⟨rin7 _ (List.mem_of_getElem? (i := 18) rfl), rin2 _ (List.mem_of_getElem? (i := 9) rfl), by show yX2_readClause.cls ≠ _; decide +kernel, by show yX2_readClause.cls ≠ _; decide +kernel, by show (parseMethodDescriptor yX2_readClause.desc).map _ = _; decide +kernel⟩, rin7 _ (List.mem_of_getElem? (i := 16) rfl), rin7 _ (List.mem_of_getElem? (i := 17) rfl)⟩
def CX2_readClause_J69  (x1 : Int32) (x2 : Int32) (x3 : Int32) (M : fxMem) : Option (Int32 × fxMem) := if fx_isSh ((M 16 1).toNatClampNeg) = true then Option.bind (CX3_addClause ((M 16 1).toNatClampNeg) x1 x2 x3 M) fun q76 => some ((1 : Int32), q76) else none
set_option maxRecDepth 100000 in
set_option maxHeartbeats 4000000 in
theorem vX2_readClause_J69  {x1 : Int32} {x2 : Int32} {x3 : Int32} {R : Int32 × fxMem} {M : fxMem} (h : CX2_readClause_J69 x1 x2 x3 M = some R) : fx_V gC mX2_readClause (fx_ri R) 69 [(0, .ref 16), (1, .int x1), (2, .int x2), (3, .int x3)] [] M := by
  rw [CX2_readClause_J69] at h
  refine fx_aload_n 69 dX2_readClause_69 rfl 0 rfl ?_
  refine fx_get 70 (j := 1) (v := .ref ((M 16 1).toNatClampNeg)) okc16 dX2_readClause_70 lfX2_19 (by decide) (fun _ => rfl) ?_
  refine fx_iload_n 73 dX2_readClause_73 rfl 1 rfl ?_
  refine fx_iload_n 74 dX2_readClause_74 rfl 2 rfl ?_
  refine fx_iload_n 75 dX2_readClause_75 rfl 3 rfl ?_
  obtain ⟨g76, h⟩ := fx_gt h
  obtain ⟨q76, e76, h⟩ := fx_bd h
  refine fx_callVv 76 (mt' := mX3_addClause) (As := [.int x1, .int x2, .int x3]) (okcS g76) (okvX3_addClause _ _) lmX2_59 (by decide) rfl rfl (Nat.le_of_ble_eq_true rfl) dX2_readClause_76 (tX3_addClause e76) ?_
  refine fx_iconst 79 (x := (1 : Int32)) dX2_readClause_79 (by decide) ?_
  obtain rfl := Option.some.inj h
  exact fx_iret 80 dX2_readClause_80 rfl rfl ⟨rfl, rfl⟩
def CX2_readClause_J50  (x1 : Int32) (x2 : Int32) (x3 : Int32) (M : fxMem) : Option (Int32 × fxMem) := Option.bind (CX2_take (1000 + 6) M) fun q53 => if q53.1 = (0 : Int32) then some ((0 : Int32), q53.2) else Option.bind (CX2_readEither (0 : Int32) q53.2) fun q61 => if q61.1 = (0 : Int32) then some ((0 : Int32), q61.2) else CX2_readClause_J69 x1 x2 x3 q61.2
set_option maxRecDepth 100000 in
set_option maxHeartbeats 4000000 in
theorem vX2_readClause_J50  {x1 : Int32} {x2 : Int32} {x3 : Int32} {R : Int32 × fxMem} {M : fxMem} (h : CX2_readClause_J50 x1 x2 x3 M = some R) : fx_V gC mX2_readClause (fx_ri R) 50 [(0, .ref 16), (1, .int x1), (2, .int x2), (3, .int x3)] [] M := by
  rw [CX2_readClause_J50] at h
  refine fx_aload_n 50 dX2_readClause_50 rfl 0 rfl ?_
  refine fx_ldcS 51 6 (by decide) dX2_readClause_51 ⟨rfl, rfl⟩ ?_
  obtain ⟨q53, e53, h⟩ := fx_bd h
  refine fx_callVi 53 (mt' := mX2_take) (As := [.ref (1000 + 6)]) okc16 (okvX2_take _ _) lmX2_39 (by decide) rfl rfl (Nat.le_of_ble_eq_true rfl) dX2_readClause_53 (tX2_take e53) ?_
  refine fx_if_eq 56 67 dX2_readClause_56 (by decide) (fun c56 => ?_) (fun c56 => ?_)
  · replace h := fx_ip c56 h
    refine fx_iconst 67 (x := (0 : Int32)) dX2_readClause_67 (by decide) ?_
    obtain rfl := Option.some.inj h
    exact fx_iret 68 dX2_readClause_68 rfl rfl ⟨rfl, rfl⟩
  · replace h := fx_ne c56 h
    refine fx_aload_n 59 dX2_readClause_59 rfl 0 rfl ?_
    refine fx_iconst 60 (x := (0 : Int32)) dX2_readClause_60 (by decide) ?_
    obtain ⟨q61, e61, h⟩ := fx_bd h
    refine fx_callVi 61 (mt' := (mX2_readEither 40)) (As := [.int (0 : Int32)]) okc16 (okvX2_readEither _ _) lmX2_55 (by decide) rfl rfl (Nat.le_of_ble_eq_true rfl) dX2_readClause_61 (tX2_readEither e61) ?_
    refine fx_if_ne 64 69 dX2_readClause_64 (by decide) (fun c64 => ?_) (fun c64 => ?_)
    · replace h := fx_ne c64 h
      refine fx_sub [0, 1, 2, 3] rfl ?_
      exact vX2_readClause_J69 h
    · replace h := fx_ip c64 h
      refine fx_iconst 67 (x := (0 : Int32)) dX2_readClause_67 (by decide) ?_
      obtain rfl := Option.some.inj h
      exact fx_iret 68 dX2_readClause_68 rfl rfl ⟨rfl, rfl⟩
def CX2_readClause  (M : fxMem) : Option (Int32 × fxMem) := Option.bind (CX2_readWord M) fun q1 => if q1.1 = (-1 : Int32) then some ((0 : Int32), q1.2) else Option.bind (CX2_take (1000 + 6) q1.2) fun q13 => if q13.1 = (0 : Int32) then some ((0 : Int32), q13.2) else Option.bind (CX2_readNumber q13.2) fun q22 => if q22.1 = (-1 : Int32) then some ((0 : Int32), q22.2) else if fx_isSh ((q22.2 16 1).toNatClampNeg) = true then if q1.1 = (0 : Int32) then CX2_readClause_J50 q1.1 q22.1 (q22.2 ((q22.2 16 1).toNatClampNeg) 8) q22.2 else if q1.1 = (1 : Int32) then CX2_readClause_J50 q1.1 q22.1 (q22.2 ((q22.2 16 1).toNatClampNeg) 8) q22.2 else CX2_readClause_J69 q1.1 q22.1 (q22.2 ((q22.2 16 1).toNatClampNeg) 8) q22.2 else none
set_option maxRecDepth 100000 in
set_option maxHeartbeats 4000000 in
theorem tX2_readClause  {M : fxMem} {R : Int32 × fxMem} (h : CX2_readClause  M = some R) : fx_T gC mX2_readClause [.ref 16] M (fx_ri R) := by
  rw [CX2_readClause] at h
  refine fx_enter [(0, .ref 16)] (by show plainName RX2 = true; decide) (fun _ => rfl) (fun _ => Nat.le_of_ble_eq_true rfl) ?_
  refine fx_aload_n 0 dX2_readClause_0 rfl 0 rfl ?_
  obtain ⟨q1, e1, h⟩ := fx_bd h
  refine fx_callVi 1 (mt' := mX2_readWord) (As := []) okc16 (okvX2_readWord _ _) lmX2_43 (by decide) rfl rfl (Nat.le_of_ble_eq_true rfl) dX2_readClause_1 (tX2_readWord e1) ?_
  refine fx_istore_n 4 (lv' := [(1, .int q1.1), (0, .ref 16)]) dX2_readClause_4 rfl (Nat.le_of_ble_eq_true rfl) rfl ?_
  refine fx_iload_n 5 dX2_readClause_5 rfl 0 rfl ?_
  refine fx_iconst 6 (x := (-1 : Int32)) dX2_readClause_6 (by decide) ?_
  refine fx_icmp_eq 7 19 dX2_readClause_7 (by decide) (fun c7 => ?_) (fun c7 => ?_)
  · replace h := fx_ip c7 h
    refine fx_iconst 19 (x := (0 : Int32)) dX2_readClause_19 (by decide) ?_
    obtain rfl := Option.some.inj h
    exact fx_iret 20 dX2_readClause_20 rfl rfl ⟨rfl, rfl⟩
  · replace h := fx_ne c7 h
    refine fx_aload_n 10 dX2_readClause_10 rfl 1 rfl ?_
    refine fx_ldcS 11 6 (by decide) dX2_readClause_11 ⟨rfl, rfl⟩ ?_
    obtain ⟨q13, e13, h⟩ := fx_bd h
    refine fx_callVi 13 (mt' := mX2_take) (As := [.ref (1000 + 6)]) okc16 (okvX2_take _ _) lmX2_39 (by decide) rfl rfl (Nat.le_of_ble_eq_true rfl) dX2_readClause_13 (tX2_take e13) ?_
    refine fx_if_ne 16 21 dX2_readClause_16 (by decide) (fun c16 => ?_) (fun c16 => ?_)
    · replace h := fx_ne c16 h
      refine fx_aload_n 21 dX2_readClause_21 rfl 1 rfl ?_
      obtain ⟨q22, e22, h⟩ := fx_bd h
      refine fx_callVi 22 (mt' := mX2_readNumber) (As := []) okc16 (okvX2_readNumber _ _) lmX2_49 (by decide) rfl rfl (Nat.le_of_ble_eq_true rfl) dX2_readClause_22 (tX2_readNumber e22) ?_
      refine fx_istore_n 25 (lv' := [(2, .int q22.1), (1, .int q1.1), (0, .ref 16)]) dX2_readClause_25 rfl (Nat.le_of_ble_eq_true rfl) rfl ?_
      refine fx_iload_n 26 dX2_readClause_26 rfl 0 rfl ?_
      refine fx_iconst 27 (x := (-1 : Int32)) dX2_readClause_27 (by decide) ?_
      refine fx_icmp_ne 28 33 dX2_readClause_28 (by decide) (fun c28 => ?_) (fun c28 => ?_)
      · replace h := fx_ne c28 h
        refine fx_aload_n 33 dX2_readClause_33 rfl 2 rfl ?_
        refine fx_get 34 (j := 1) (v := .ref ((q22.2 16 1).toNatClampNeg)) okc16 dX2_readClause_34 lfX2_19 (by decide) (fun _ => rfl) ?_
        obtain ⟨g37, h⟩ := fx_gt h
        refine fx_get 37 (j := 8) (v := .int (q22.2 ((q22.2 16 1).toNatClampNeg) 8)) (okcS g37) dX2_readClause_37 lfX2_52 (by decide) (fun _ => rfl) ?_
        refine fx_istore_n 40 (lv' := [(3, .int (q22.2 ((q22.2 16 1).toNatClampNeg) 8)), (2, .int q22.1), (1, .int q1.1), (0, .ref 16)]) dX2_readClause_40 rfl (Nat.le_of_ble_eq_true rfl) rfl ?_
        refine fx_iload_n 41 dX2_readClause_41 rfl 2 rfl ?_
        refine fx_if_eq 42 50 dX2_readClause_42 (by decide) (fun c42 => ?_) (fun c42 => ?_)
        · replace h := fx_ip c42 h
          refine fx_sub [3, 2, 1, 0] rfl ?_
          exact vX2_readClause_J50 h
        · replace h := fx_ne c42 h
          refine fx_iload_n 45 dX2_readClause_45 rfl 2 rfl ?_
          refine fx_iconst 46 (x := (1 : Int32)) dX2_readClause_46 (by decide) ?_
          refine fx_icmp_ne 47 69 dX2_readClause_47 (by decide) (fun c47 => ?_) (fun c47 => ?_)
          · replace h := fx_ne c47 h
            refine fx_sub [3, 2, 1, 0] rfl ?_
            exact vX2_readClause_J69 h
          · replace h := fx_ip c47 h
            refine fx_sub [3, 2, 1, 0] rfl ?_
            exact vX2_readClause_J50 h
      · replace h := fx_ip c28 h
        refine fx_iconst 31 (x := (0 : Int32)) dX2_readClause_31 (by decide) ?_
        obtain rfl := Option.some.inj h
        exact fx_iret 32 dX2_readClause_32 rfl rfl ⟨rfl, rfl⟩
    · replace h := fx_ip c16 h
      refine fx_iconst 19 (x := (0 : Int32)) dX2_readClause_19 (by decide) ?_
      obtain rfl := Option.some.inj h
      exact fx_iret 20 dX2_readClause_20 rfl rfl ⟨rfl, rfl⟩
def mX2_readInto : fxM := (yX2_readInto, cX2_readInto, 3, (some .int), 54, 2160)
theorem okvX2_readInto (f l : Nat) : fx_okV (yX2_readInto, cX2_readInto, 3, (some .int), f, l) 1 := ⟨⟨rin7 _ (List.mem_of_getElem? (i := 9) rfl), rin2 _ (List.mem_of_getElem? (i := 9) rfl), by show yX2_readInto.cls ≠ _; decide +kernel, by show yX2_readInto.cls ≠ _; decide +kernel, by show (parseMethodDescriptor yX2_readInto.desc).map _ = _; decide +kernel⟩, rin7 _ (List.mem_of_getElem? (i := 7) rfl), rin7 _ (List.mem_of_getElem? (i := 8) rfl)⟩
def CX2_readInto_L19 (x1 : Nat) : Nat → Int32 → fxMem → (Int32 → fxMem → Option (Int32 × fxMem)) → Option (Int32 × fxMem)
  | 0, _, _, _ => none
  | n + 1, x2, M, k => if (10 : Int32) < x2 then k x2 M else Option.bind (CX2_readClause M) fun q26 => if q26.1 = (0 : Int32) then some (q26.2 16 2, q26.2) else if q26.2 16 2 = q26.2 1 9 then some ((-1 : Int32), q26.2) else if x2 = (10 : Int32) then some (q26.2 16 2, q26.2) else Option.bind (CX2_take (1000 + 15) q26.2) fun q62 => if q62.1 = (0 : Int32) then some (q62.2 16 2, q62.2) else CX2_readInto_L19 x1 n (x2 + (1 : Int32)) q62.2 k
set_option maxRecDepth 100000 in
set_option maxHeartbeats 4000000 in
theorem vX2_readInto_L19 {x1 : Nat} {R : Int32 × fxMem} {k : Int32 → fxMem → Option (Int32 × fxMem)} (hk : ∀ (x2 : Int32) (M : fxMem), k x2 M = some R → fx_V gC mX2_readInto (fx_ri R) 79 [(0, .ref 16), (1, .ref x1), (2, .int x2)] [] M) : ∀ (n : Nat) (x2 : Int32) (M : fxMem), CX2_readInto_L19 x1 n x2 M k = some R → fx_V gC mX2_readInto (fx_ri R) 19 [(0, .ref 16), (1, .ref x1), (2, .int x2)] [] M := by
  intro n
  induction n with
  | zero => intro x2 M h; rw [CX2_readInto_L19] at h; cases h
  | succ n ih =>
    intro x2 M h
    rw [CX2_readInto_L19] at h
    refine fx_iload_n 19 dX2_readInto_19 rfl 2 rfl ?_
    refine fx_bipush 20 (x := (10 : Int32)) dX2_readInto_20 (by decide) ?_
    refine fx_icmp_gt 22 79 dX2_readInto_22 (by decide) (fun c22 => ?_) (fun c22 => ?_)
    · replace h := fx_ip c22 h
      refine fx_sub [0, 1, 2] rfl ?_
      exact hk _ _ h
    · replace h := fx_ne c22 h
      refine fx_aload_n 25 dX2_readInto_25 rfl 0 rfl ?_
      obtain ⟨q26, e26, h⟩ := fx_bd h
      refine fx_callVi 26 (mt' := mX2_readClause) (As := []) okc16 (okvX2_readClause _ _) lmX2_28 (by decide) rfl rfl (Nat.le_of_ble_eq_true rfl) dX2_readInto_26 (tX2_readClause e26) ?_
      refine fx_if_ne 29 37 dX2_readInto_29 (by decide) (fun c29 => ?_) (fun c29 => ?_)
      · replace h := fx_ne c29 h
        refine fx_aload_n 37 dX2_readInto_37 rfl 0 rfl ?_
        refine fx_get 38 (j := 2) (v := .int (q26.2 16 2)) okc16 dX2_readInto_38 lfX2_9 (by decide) (fun _ => rfl) ?_
        refine fx_aload_n 41 dX2_readInto_41 rfl 0 rfl ?_
        refine fx_get 42 (j := 0) (v := .ref 1) okc16 dX2_readInto_42 lfX2_15 (by decide) (fun _ => rfl) ?_
        refine fx_get 45 (j := 9) (v := .int (q26.2 1 9)) okc1 dX2_readInto_45 lfX2_32 (by decide) (fun _ => rfl) ?_
        refine fx_icmp_ne 48 53 dX2_readInto_48 (by decide) (fun c48 => ?_) (fun c48 => ?_)
        · replace h := fx_ne c48 h
          refine fx_iload_n 53 dX2_readInto_53 rfl 2 rfl ?_
          refine fx_bipush 54 (x := (10 : Int32)) dX2_readInto_54 (by decide) ?_
          refine fx_icmp_eq 56 68 dX2_readInto_56 (by decide) (fun c56 => ?_) (fun c56 => ?_)
          · replace h := fx_ip c56 h
            refine fx_aload_n 68 dX2_readInto_68 rfl 0 rfl ?_
            refine fx_get 69 (j := 2) (v := .int (q26.2 16 2)) okc16 dX2_readInto_69 lfX2_9 (by decide) (fun _ => rfl) ?_
            obtain rfl := Option.some.inj h
            exact fx_iret 72 dX2_readInto_72 rfl rfl ⟨rfl, rfl⟩
          · replace h := fx_ne c56 h
            refine fx_aload_n 59 dX2_readInto_59 rfl 0 rfl ?_
            refine fx_ldcS 60 15 (by decide) dX2_readInto_60 ⟨rfl, rfl⟩ ?_
            obtain ⟨q62, e62, h⟩ := fx_bd h
            refine fx_callVi 62 (mt' := mX2_take) (As := [.ref (1000 + 15)]) okc16 (okvX2_take _ _) lmX2_39 (by decide) rfl rfl (Nat.le_of_ble_eq_true rfl) dX2_readInto_62 (tX2_take e62) ?_
            refine fx_if_ne 65 73 dX2_readInto_65 (by decide) (fun c65 => ?_) (fun c65 => ?_)
            · replace h := fx_ne c65 h
              refine fx_iinc 73 (lv' := [(2, .int (x2 + (1 : Int32))), (0, .ref 16), (1, .ref x1)]) (y := x2 + (1 : Int32)) dX2_readInto_73 2 rfl (by rfl) (Nat.le_of_ble_eq_true rfl) rfl ?_
              refine fx_goto 76 19 dX2_readInto_76 (by decide) ?_
              refine fx_sub [1, 2, 0] rfl ?_
              exact ih _ _ h
            · replace h := fx_ip c65 h
              refine fx_aload_n 68 dX2_readInto_68 rfl 0 rfl ?_
              refine fx_get 69 (j := 2) (v := .int (q62.2 16 2)) okc16 dX2_readInto_69 lfX2_9 (by decide) (fun _ => rfl) ?_
              obtain rfl := Option.some.inj h
              exact fx_iret 72 dX2_readInto_72 rfl rfl ⟨rfl, rfl⟩
        · replace h := fx_ip c48 h
          refine fx_iconst 51 (x := (-1 : Int32)) dX2_readInto_51 (by decide) ?_
          obtain rfl := Option.some.inj h
          exact fx_iret 52 dX2_readInto_52 rfl rfl ⟨rfl, rfl⟩
      · replace h := fx_ip c29 h
        refine fx_aload_n 32 dX2_readInto_32 rfl 0 rfl ?_
        refine fx_get 33 (j := 2) (v := .int (q26.2 16 2)) okc16 dX2_readInto_33 lfX2_9 (by decide) (fun _ => rfl) ?_
        obtain rfl := Option.some.inj h
        exact fx_iret 36 dX2_readInto_36 rfl rfl ⟨rfl, rfl⟩
def CX2_readInto (x1 : Nat) (M : fxMem) : Option (Int32 × fxMem) := if fx_isSh x1 = true then fx_lt (fx_st M 16 1 (nI x1)) fun M6 => if fx_isSh ((M6 16 1).toNatClampNeg) = true then Option.bind (CX3_clear ((M6 16 1).toNatClampNeg) M6) fun q9 => CX2_readInto_L19 x1 1000 (1 : Int32) (fx_st q9 16 2 (0 : Int32)) (fun y2_19 M19 => some (M19 16 2, M19)) else none else none
set_option maxRecDepth 100000 in
set_option maxHeartbeats 4000000 in
theorem tX2_readInto {x1 : Nat} {M : fxMem} {R : Int32 × fxMem} (h : CX2_readInto x1 M = some R) : fx_T gC mX2_readInto [.ref 16, .ref x1] M (fx_ri R) := by
  rw [CX2_readInto] at h
  refine fx_enter [(0, .ref 16), (1, .ref x1)] (by show plainName RX2 = true; decide) (fun _ => rfl) (fun _ => Nat.le_of_ble_eq_true rfl) ?_
  refine fx_aload_n 0 dX2_readInto_0 rfl 0 rfl ?_
  refine fx_aload_n 1 dX2_readInto_1 rfl 1 rfl ?_
  obtain ⟨g2, h⟩ := fx_gt h
  refine fx_putSR 2 g2 dX2_readInto_2 lfX2_19 ?_
  refine fx_aload_n 5 dX2_readInto_5 rfl 0 rfl ?_
  replace h := fx_ltd h
  generalize fx_st M 16 1 (nI x1) = M6 at h ⊢
  refine fx_get 6 (j := 1) (v := .ref ((M6 16 1).toNatClampNeg)) okc16 dX2_readInto_6 lfX2_19 (by decide) (fun _ => rfl) ?_
  obtain ⟨g9, h⟩ := fx_gt h
  obtain ⟨q9, e9, h⟩ := fx_bd h
  refine fx_callVv 9 (mt' := mX3_clear) (As := []) (okcS g9) (okvX3_clear _ _) lmX2_23 (by decide) rfl rfl (Nat.le_of_ble_eq_true rfl) dX2_readInto_9 (tX3_clear e9) ?_
  refine fx_aload_n 12 dX2_readInto_12 rfl 0 rfl ?_
  refine fx_iconst 13 (x := (0 : Int32)) dX2_readInto_13 (by decide) ?_
  refine fx_putI 14 (j := 2) okc16 dX2_readInto_14 lfX2_9 (by decide) rfl (by decide +kernel) (fun _ _ => Nat.le_of_ble_eq_true rfl) (fun _ _ _ => rfl) ?_
  refine fx_iconst 17 (x := (1 : Int32)) dX2_readInto_17 (by decide) ?_
  refine fx_istore_n 18 (lv' := [(2, .int (1 : Int32)), (0, .ref 16), (1, .ref x1)]) dX2_readInto_18 rfl (Nat.le_of_ble_eq_true rfl) rfl ?_
  refine fx_sub [1, 2, 0] rfl ?_
  refine vX2_readInto_L19 (fun y2_19 M19 h => ?_) 1000 _ _ h
  refine fx_aload_n 79 dX2_readInto_79 rfl 0 rfl ?_
  refine fx_get 80 (j := 2) (v := .int (M19 16 2)) okc16 dX2_readInto_80 lfX2_9 (by decide) (fun _ => rfl) ?_
  obtain rfl := Option.some.inj h
  exact fx_iret 83 dX2_readInto_83 rfl rfl ⟨rfl, rfl⟩
def mX6_show : fxM := (yX6_show, cX6_show, 2, (some .int), 55, 2200)
theorem okvX6_show (f l : Nat) : fx_okV (yX6_show, cX6_show, 2, (some .int), f, l) 0 := ⟨⟨rin7 _ (List.mem_of_getElem? (i := 4) rfl), rin1 _ (List.mem_of_getElem? (i := 2) rfl), by show yX6_show.cls ≠ _; decide +kernel, by show yX6_show.cls ≠ _; decide +kernel, by show (parseMethodDescriptor yX6_show.desc).map _ = _; decide +kernel⟩, rin7 _ (List.mem_of_getElem? (i := 2) rfl), rin7 _ (List.mem_of_getElem? (i := 3) rfl)⟩
def CX6_show  (M : fxMem) : Option (Int32 × fxMem) := if M 1 11 < (5 : Int32) then if fx_in ((M 1 11) + (1 : Int32)) 6 = true then Option.bind (CX2_readInto (20 + 6 * ((M 1 11) + (1 : Int32)).toNatClampNeg) M) fun q32 => if q32.1 = (-1 : Int32) then fx_lt (fx_st q32.2 1 9 (0 : Int32)) fun M59 => fx_lt (fx_st M59 1 11 ((M59 1 11) + (1 : Int32))) fun M71 => some ((M71 1 11) - (1 : Int32), M71) else some ((-10 : Int32) - q32.1, fx_st q32.2 1 9 (0 : Int32)) else none else some ((-4 : Int32), M)
set_option maxRecDepth 100000 in
set_option maxHeartbeats 4000000 in
theorem tX6_show  {M : fxMem} {R : Int32 × fxMem} (h : CX6_show  M = some R) : fx_T gC mX6_show [.ref 0] M (fx_ri R) := by
  rw [CX6_show] at h
  refine fx_enter [(0, .ref 0)] (by show plainName RX6 = true; decide) (fun _ => rfl) (fun _ => Nat.le_of_ble_eq_true rfl) ?_
  refine fx_aload_n 0 dX6_show_0 rfl 0 rfl ?_
  refine fx_get 1 (j := 0) (v := .ref 1) okc0 dX6_show_1 lfX6_12 (by decide) (fun _ => rfl) ?_
  refine fx_get 4 (j := 11) (v := .int (M 1 11)) okc1 dX6_show_4 lfX6_70 (by decide) (fun _ => rfl) ?_
  refine fx_iconst 7 (x := (5 : Int32)) dX6_show_7 (by decide) ?_
  refine fx_icmp_lt 8 14 dX6_show_8 (by decide) (fun c8 => ?_) (fun c8 => ?_)
  · replace h := fx_ip c8 h
    refine fx_aload_n 14 dX6_show_14 rfl 0 rfl ?_
    refine fx_get 15 (j := 4) (v := .ref 16) okc0 dX6_show_15 lfX6_51 (by decide) (fun _ => rfl) ?_
    refine fx_aload_n 18 dX6_show_18 rfl 0 rfl ?_
    refine fx_get 19 (j := 3) (v := .ref 15) okc0 dX6_show_19 lfX6_25 (by decide) (fun _ => rfl) ?_
    refine fx_aload_n 22 dX6_show_22 rfl 0 rfl ?_
    refine fx_get 23 (j := 0) (v := .ref 1) okc0 dX6_show_23 lfX6_12 (by decide) (fun _ => rfl) ?_
    refine fx_get 26 (j := 11) (v := .int (M 1 11)) okc1 dX6_show_26 lfX6_70 (by decide) (fun _ => rfl) ?_
    refine fx_iconst 29 (x := (1 : Int32)) dX6_show_29 (by decide) ?_
    refine fx_iadd 30 dX6_show_30 ?_
    obtain ⟨g31, h⟩ := fx_gt h
    refine fx_aald 31 dX6_show_31 g31 ?_
    obtain ⟨q32, e32, h⟩ := fx_bd h
    refine fx_callVi 32 (mt' := mX2_readInto) (As := [.ref (20 + 6 * ((M 1 11) + (1 : Int32)).toNatClampNeg)]) okc16 (okvX2_readInto _ _) lmX6_72 (by decide) rfl rfl (Nat.le_of_ble_eq_true rfl) dX6_show_32 (tX2_readInto e32) ?_
    refine fx_istore_n 35 (lv' := [(1, .int q32.1), (0, .ref 0)]) dX6_show_35 rfl (Nat.le_of_ble_eq_true rfl) rfl ?_
    refine fx_aload_n 36 dX6_show_36 rfl 1 rfl ?_
    refine fx_get 37 (j := 0) (v := .ref 1) okc0 dX6_show_37 lfX6_12 (by decide) (fun _ => rfl) ?_
    refine fx_iconst 40 (x := (0 : Int32)) dX6_show_40 (by decide) ?_
    refine fx_putI 41 (j := 9) okc1 dX6_show_41 lfX6_62 (by decide) rfl (by decide +kernel) (fun _ _ => Nat.le_of_ble_eq_true rfl) (fun _ _ _ => rfl) ?_
    refine fx_iload_n 44 dX6_show_44 rfl 0 rfl ?_
    refine fx_iconst 45 (x := (-1 : Int32)) dX6_show_45 (by decide) ?_
    refine fx_icmp_eq 46 54 dX6_show_46 (by decide) (fun c46 => ?_) (fun c46 => ?_)
    · replace h := fx_ip c46 h
      refine fx_aload_n 54 dX6_show_54 rfl 1 rfl ?_
      refine fx_get 55 (j := 0) (v := .ref 1) okc0 dX6_show_55 lfX6_12 (by decide) (fun _ => rfl) ?_
      refine fx_dup 58 dX6_show_58 rfl ?_
      replace h := fx_ltd h
      generalize fx_st q32.2 1 9 (0 : Int32) = M59 at h ⊢
      refine fx_get 59 (j := 11) (v := .int (M59 1 11)) okc1 dX6_show_59 lfX6_70 (by decide) (fun _ => rfl) ?_
      refine fx_iconst 62 (x := (1 : Int32)) dX6_show_62 (by decide) ?_
      refine fx_iadd 63 dX6_show_63 ?_
      refine fx_putI 64 (j := 11) okc1 dX6_show_64 lfX6_70 (by decide) rfl (by decide +kernel) (fun _ _ => Nat.le_of_ble_eq_true rfl) (fun _ _ _ => rfl) ?_
      refine fx_aload_n 67 dX6_show_67 rfl 1 rfl ?_
      refine fx_get 68 (j := 0) (v := .ref 1) okc0 dX6_show_68 lfX6_12 (by decide) (fun _ => rfl) ?_
      replace h := fx_ltd h
      generalize fx_st M59 1 11 ((M59 1 11) + (1 : Int32)) = M71 at h ⊢
      refine fx_get 71 (j := 11) (v := .int (M71 1 11)) okc1 dX6_show_71 lfX6_70 (by decide) (fun _ => rfl) ?_
      refine fx_iconst 74 (x := (1 : Int32)) dX6_show_74 (by decide) ?_
      refine fx_isub 75 dX6_show_75 ?_
      obtain rfl := Option.some.inj h
      exact fx_iret 76 dX6_show_76 rfl rfl ⟨rfl, rfl⟩
    · replace h := fx_ne c46 h
      refine fx_bipush 49 (x := (-10 : Int32)) dX6_show_49 (by decide) ?_
      refine fx_iload_n 51 dX6_show_51 rfl 0 rfl ?_
      refine fx_isub 52 dX6_show_52 ?_
      obtain rfl := Option.some.inj h
      exact fx_iret 53 dX6_show_53 rfl rfl ⟨rfl, rfl⟩
  · replace h := fx_ne c8 h
    refine fx_bipush 11 (x := (-4 : Int32)) dX6_show_11 (by decide) ?_
    obtain rfl := Option.some.inj h
    exact fx_iret 13 dX6_show_13 rfl rfl ⟨rfl, rfl⟩
def mX6_held : fxM := (yX6_held, cX6_held, 1, (some (.object "FieldBand$Show")), 2, 80)
theorem okvX6_held (f l : Nat) : fx_okV (yX6_held, cX6_held, 1, (some (.object "FieldBand$Show")), f, l) 0 := ⟨⟨rin17 _ (List.mem_of_getElem? (i := 1) rfl), rin1 _ (List.mem_of_getElem? (i := 2) rfl), by show yX6_held.cls ≠ _; decide +kernel, by show yX6_held.cls ≠ _; decide +kernel, by show (parseMethodDescriptor yX6_held.desc).map _ = _; decide +kernel⟩, rin16 _ (List.mem_of_getElem? (i := 23) rfl), rin17 _ (List.mem_of_getElem? (i := 0) rfl)⟩
def CX6_held  (M : fxMem) : Option (Nat × fxMem) := if fx_in (M 1 11) 6 = true then some (20 + 6 * (M 1 11).toNatClampNeg, M) else none
set_option maxRecDepth 100000 in
set_option maxHeartbeats 4000000 in
theorem tX6_held  {M : fxMem} {R : Nat × fxMem} (h : CX6_held  M = some R) : fx_T gC mX6_held [.ref 0] M (fx_rr R) := by
  rw [CX6_held] at h
  refine fx_enter [(0, .ref 0)] (by show plainName RX6 = true; decide) (fun _ => rfl) (fun _ => Nat.le_of_ble_eq_true rfl) ?_
  refine fx_aload_n 0 dX6_held_0 rfl 0 rfl ?_
  refine fx_get 1 (j := 3) (v := .ref 15) okc0 dX6_held_1 lfX6_25 (by decide) (fun _ => rfl) ?_
  refine fx_aload_n 4 dX6_held_4 rfl 0 rfl ?_
  refine fx_get 5 (j := 0) (v := .ref 1) okc0 dX6_held_5 lfX6_12 (by decide) (fun _ => rfl) ?_
  refine fx_get 8 (j := 11) (v := .int (M 1 11)) okc1 dX6_held_8 lfX6_70 (by decide) (fun _ => rfl) ?_
  obtain ⟨g11, h⟩ := fx_gt h
  refine fx_aald 11 dX6_held_11 g11 ?_
  obtain rfl := Option.some.inj h
  exact fx_aret 12 dX6_held_12 rfl ⟨rfl, rfl⟩
