def mJ0_coder_7d493 : fxM := (yJ0_coder_7d493, cJ0_coder_7d493, 1, (some .byte), 1, 40)
theorem okvJ0_coder_7d493 : fx_okV mJ0_coder_7d493 0 := ⟨⟨rin5 _ (List.mem_of_getElem? (i := 19) rfl), rin5 _ (List.mem_of_getElem? (i := 13) rfl), by decide +kernel, by decide +kernel, by decide +kernel⟩, rin5 _ (List.mem_of_getElem? (i := 17) rfl), rin5 _ (List.mem_of_getElem? (i := 18) rfl)⟩
def mJ0_isLatin1_aae02 : fxM := (yJ0_isLatin1_aae02, cJ0_isLatin1_aae02, 1, (some .boolean), 1, 40)
theorem okvJ0_isLatin1_aae02 : fx_okV mJ0_isLatin1_aae02 0 := ⟨⟨rin8 _ (List.mem_of_getElem? (i := 20) rfl), rin5 _ (List.mem_of_getElem? (i := 13) rfl), by decide +kernel, by decide +kernel, by decide +kernel⟩, rin8 _ (List.mem_of_getElem? (i := 18) rfl), rin8 _ (List.mem_of_getElem? (i := 19) rfl)⟩
def mJ0_length_8abf5 : fxM := (yJ0_length_8abf5, cJ0_length_8abf5, 1, (some .int), 2, 80)
theorem okvJ0_length_8abf5 : fx_okV mJ0_length_8abf5 0 := ⟨⟨rin5 _ (List.mem_of_getElem? (i := 14) rfl), rin5 _ (List.mem_of_getElem? (i := 13) rfl), by decide +kernel, by decide +kernel, by decide +kernel⟩, rin5 _ (List.mem_of_getElem? (i := 11) rfl), rin5 _ (List.mem_of_getElem? (i := 12) rfl)⟩
def mJ3_checkIndex_8e157 : fxM := (yJ3_checkIndex_8e157, cJ3_checkIndex_8e157, 3, (some .int), 1, 40)
theorem oksJ3_checkIndex_8e157 : fx_okS mJ3_checkIndex_8e157 3 := ⟨⟨rin9 _ (List.mem_of_getElem? (i := 8) rfl), rin9 _ (List.mem_of_getElem? (i := 7) rfl), by decide +kernel, by decide +kernel, by decide +kernel⟩, rin9 _ (List.mem_of_getElem? (i := 6) rfl)⟩
def mJ0_checkIndex_df160 : fxM := (yJ0_checkIndex_df160, cJ0_checkIndex_df160, 2, none, 2, 80)
theorem oksJ0_checkIndex_df160 : fx_okS mJ0_checkIndex_df160 2 := ⟨⟨rin9 _ (List.mem_of_getElem? (i := 3) rfl), rin5 _ (List.mem_of_getElem? (i := 13) rfl), by decide +kernel, by decide +kernel, by decide +kernel⟩, rin9 _ (List.mem_of_getElem? (i := 2) rfl)⟩
def mJ1_charAt_3b067 : fxM := (yJ1_charAt_3b067, cJ1_charAt_3b067, 2, (some .char), 3, 120)
theorem oksJ1_charAt_3b067 : fx_okS mJ1_charAt_3b067 2 := ⟨⟨rin9 _ (List.mem_of_getElem? (i := 0) rfl), rin8 _ (List.mem_of_getElem? (i := 23) rfl), by decide +kernel, by decide +kernel, by decide +kernel⟩, rin8 _ (List.mem_of_getElem? (i := 22) rfl)⟩
def mJ0_charAt_5068e : fxM := (yJ0_charAt_5068e, cJ0_charAt_5068e, 2, (some .char), 4, 160)
theorem okvJ0_charAt_5068e : fx_okV mJ0_charAt_5068e 1 := ⟨⟨rin8 _ (List.mem_of_getElem? (i := 16) rfl), rin5 _ (List.mem_of_getElem? (i := 13) rfl), by decide +kernel, by decide +kernel, by decide +kernel⟩, rin8 _ (List.mem_of_getElem? (i := 14) rfl), rin8 _ (List.mem_of_getElem? (i := 15) rfl)⟩
def mJ1_canEncode_9a6ad : fxM := (yJ1_canEncode_9a6ad, cJ1_canEncode_9a6ad, 1, (some .boolean), 1, 40)
theorem oksJ1_canEncode_9a6ad : fx_okS mJ1_canEncode_9a6ad 1 := ⟨⟨rin11 _ (List.mem_of_getElem? (i := 4) rfl), rin8 _ (List.mem_of_getElem? (i := 23) rfl), by decide +kernel, by decide +kernel, by decide +kernel⟩, rin11 _ (List.mem_of_getElem? (i := 3) rfl)⟩
def mJ1_indexOfChar_4cfef : fxM := (yJ1_indexOfChar_4cfef, cJ1_indexOfChar_4cfef, 6, (some .int), 1, 40)
theorem oksJ1_indexOfChar_4cfef : fx_okS mJ1_indexOfChar_4cfef 4 := ⟨⟨rin11 _ (List.mem_of_getElem? (i := 7) rfl), rin8 _ (List.mem_of_getElem? (i := 23) rfl), by decide +kernel, by decide +kernel, by decide +kernel⟩, rin11 _ (List.mem_of_getElem? (i := 6) rfl)⟩
def mJ1_indexOf_4cfef : fxM := (yJ1_indexOf_4cfef, cJ1_indexOf_4cfef, 4, (some .int), 2, 80)
theorem oksJ1_indexOf_4cfef : fx_okS mJ1_indexOf_4cfef 4 := ⟨⟨rin10 _ (List.mem_of_getElem? (i := 21) rfl), rin8 _ (List.mem_of_getElem? (i := 23) rfl), by decide +kernel, by decide +kernel, by decide +kernel⟩, rin10 _ (List.mem_of_getElem? (i := 20) rfl)⟩
def mJ0_indexOf_7cf53 : fxM := (yJ0_indexOf_7cf53, cJ0_indexOf_7cf53, 3, (some .int), 3, 120)
theorem okvJ0_indexOf_7cf53 : fx_okV mJ0_indexOf_7cf53 2 := ⟨⟨rin10 _ (List.mem_of_getElem? (i := 17) rfl), rin5 _ (List.mem_of_getElem? (i := 13) rfl), by decide +kernel, by decide +kernel, by decide +kernel⟩, rin10 _ (List.mem_of_getElem? (i := 15) rfl), rin10 _ (List.mem_of_getElem? (i := 16) rfl)⟩
def mJ0_indexOf_0f7a4 : fxM := (yJ0_indexOf_0f7a4, cJ0_indexOf_0f7a4, 2, (some .int), 4, 160)
theorem okvJ0_indexOf_0f7a4 : fx_okV mJ0_indexOf_0f7a4 1 := ⟨⟨rin10 _ (List.mem_of_getElem? (i := 13) rfl), rin5 _ (List.mem_of_getElem? (i := 13) rfl), by decide +kernel, by decide +kernel, by decide +kernel⟩, rin10 _ (List.mem_of_getElem? (i := 11) rfl), rin10 _ (List.mem_of_getElem? (i := 12) rfl)⟩
/-! String constants: length, charAt, indexOf of the JDK's own code, over the literals; System.arraycopy whole -/
def fx_isS (k : Nat) : Bool := decide (1000 ≤ k) && decide (k < 1023)
def kx_l (k : Nat) : Int32 := nI (kx_b (k - 1000)).length
def kx_c (k : Nat) (i : Int32) : Int32 := (kx_b (k - 1000)).getD i.toNatClampNeg 0 &&& 255
def kx_ix (c : Int32) : List Int32 → Nat → Int32
  | [], _ => -1
  | b :: l, k => if b = c then nI k else kx_ix c l (k + 1)
/-- the place of c in the text, or -1 -/
def kx_i (k : Nat) (c : Int32) : Int32 := if c < 0 then -1 else if 255 < c then -1 else kx_ix (c.toInt8.toInt32) (kx_b (k - 1000)) 0
theorem fx_isS_ok {k : Nat} (h : fx_isS k = true) : ∃ i, i < 23 ∧ k = 1000 + i := by
  simp only [fx_isS, Bool.and_eq_true, decide_eq_true_eq] at h
  exact ⟨k - 1000, by omega, by omega⟩
theorem kx_len : ∀ i, i < 23 → (kx_b i).length ≤ 10 := by decide
section FXS
variable {G : fxG} {mt : fxM} {Q : Option Value → fxMem → Prop} {lv : List (Nat × Value)} {st : List Value} {M : fxMem} {idx : Nat}
theorem fx_getCS (pc : Nat) (hd : decode mt.2.1 pc = .ok (.getstatic idx, 3)) (hlink : Cond.fieldLink mt.1.cls idx "java/lang/String" "COMPACT_STRINGS" "Z" ∈ wsL_law) (kk : fx_V G mt Q (pc + 3) lv (.int 1 :: st) M) : fx_V G mt Q pc lv st M :=
  fun p l e s m args below meth c E X H locs ls hP hS hl => va_gets X.1 X.2.1 X.2.2.2.2.2.2.2.2.2.2.1 hS X.2.2.2.2.1 (X.2.2.2.2.2.1 _ hlink) (fun _ h => h) hd (kk p l e s m args below meth c E X H locs ls hP hS hl)
theorem fx_getFm (pc : Nat) (hd : decode mt.2.1 pc = .ok (.getstatic idx, 3)) (hlink : Cond.fieldLink mt.1.cls idx "jdk/internal/util/Preconditions" "SIOOBE_FORMATTER" "Ljava/util/function/BiFunction;" ∈ wsL_law) (kk : fx_V G mt Q (pc + 3) lv (.float 0 :: st) M) : fx_V G mt Q pc lv st M :=
  fun p l e s m args below meth c E X H locs ls hP hS hl => va_gets X.1 X.2.1 X.2.2.2.2.2.2.2.2.2.2.2.1 hS X.2.2.2.2.1 (X.2.2.2.2.2.1 _ hlink) (fun _ h => h) hd (kk p l e s m args below meth c E X H locs ls hP hS hl)
theorem fx_strv (pc : Nat) {i : Nat} (hi : i < 23) (hd : decode mt.2.1 pc = .ok (.getfield idx, 3)) (hlink : Cond.fieldLink mt.1.cls idx "java/lang/String" "value" "[B" ∈ wsL_law) (kk : fx_V G mt Q (pc + 3) lv (.ref (2000 + i) :: st) M) : fx_V G mt Q pc lv (.ref (1000 + i) :: st) M :=
  fun p l e s m args below meth c E X H locs ls hP hS hl => vk_getf X.1 X.2.1 (X.2.2.2.2.2.2.2.2.2.1 i hi).1.2.2.1 hS X.2.2.2.2.1 (X.2.2.2.2.2.1 _ hlink) (fun _ h => h) hd (kk p l e s m args below meth c E X H locs ls hP hS hl)
theorem fx_strc (pc : Nat) {i : Nat} (hi : i < 23) (hd : decode mt.2.1 pc = .ok (.getfield idx, 3)) (hlink : Cond.fieldLink mt.1.cls idx "java/lang/String" "coder" "B" ∈ wsL_law) (kk : fx_V G mt Q (pc + 3) lv (.int 0 :: st) M) : fx_V G mt Q pc lv (.ref (1000 + i) :: st) M :=
  fun p l e s m args below meth c E X H locs ls hP hS hl => vk_getf X.1 X.2.1 (X.2.2.2.2.2.2.2.2.2.1 i hi).1.2.1 hS X.2.2.2.2.1 (X.2.2.2.2.2.1 _ hlink) (fun _ h => h) hd (kk p l e s m args below meth c E X H locs ls hP hS hl)
theorem fx_stral (pc : Nat) {i : Nat} (hi : i < 23) (hd : decode mt.2.1 pc = .ok (.arraylength, 1)) (kk : fx_V G mt Q (pc + 1) lv (.int (nI (kx_b i).length) :: st) M) : fx_V G mt Q pc lv (.ref (2000 + i) :: st) M :=
  fun p l e s m args below meth c E X H locs ls hP hS hl => va_tlen X.1 X.2.1 (X.2.2.2.2.2.2.2.2.2.1 i hi).1.2.2.2 hS rfl hd (kk p l e s m args below meth c E X H locs ls hP hS hl)
theorem fx_strb (pc : Nat) {i : Nat} {j : Int32} (hi : i < 23) (hj : fx_in j (kx_b i).length = true) (hd : decode mt.2.1 pc = .ok (.baload, 1)) (kk : fx_V G mt Q (pc + 1) lv (.int ((kx_b i).getD j.toNatClampNeg 0) :: st) M) : fx_V G mt Q pc lv (.int j :: .ref (2000 + i) :: st) M :=
  fun p l e s m args below meth c E X H locs ls hP hS hl => va_tb X.1 X.2.1 (X.2.2.2.2.2.2.2.2.2.1 i hi).1.2.2.2 hS (fx_in_ok hj) rfl hd (kk p l e s m args below meth c E X H locs ls hP hS hl)
end FXS
theorem tJ_coder (G : fxG) {i : Nat} (hi : i < 23) (M : fxMem) : fx_T G mJ0_coder_7d493 [.ref (1000 + i)] M (fx_ri (0, M)) := by
  refine fx_enter [(0, .ref (1000 + i))] (by decide) (fun _ => rfl) (fun _ => Nat.le_of_ble_eq_true rfl) ?_
  refine fx_getCS 0 dJ0_coder_7d493_0 lfJ0_38 ?_
  refine fx_if_eq 3 13 dJ0_coder_7d493_3 (by decide) (fun c => absurd c (by decide)) (fun _ => ?_)
  refine fx_aload_n 6 dJ0_coder_7d493_6 rfl 0 rfl ?_
  refine fx_strc 7 hi dJ0_coder_7d493_7 lfJ0_15 ?_
  refine fx_goto 10 14 dJ0_coder_7d493_10 (by decide) ?_
  exact fx_iret 14 dJ0_coder_7d493_14 rfl rfl ⟨rfl, rfl⟩
theorem tJ_latin (G : fxG) {i : Nat} (hi : i < 23) (M : fxMem) : fx_T G mJ0_isLatin1_aae02 [.ref (1000 + i)] M (fx_ri (1, M)) := by
  refine fx_enter [(0, .ref (1000 + i))] (by decide) (fun _ => rfl) (fun _ => Nat.le_of_ble_eq_true rfl) ?_
  refine fx_getCS 0 dJ0_isLatin1_aae02_0 lfJ0_38 ?_
  refine fx_if_eq 3 17 dJ0_isLatin1_aae02_3 (by decide) (fun c => absurd c (by decide)) (fun _ => ?_)
  refine fx_aload_n 6 dJ0_isLatin1_aae02_6 rfl 0 rfl ?_
  refine fx_strc 7 hi dJ0_isLatin1_aae02_7 lfJ0_15 ?_
  refine fx_if_ne 10 17 dJ0_isLatin1_aae02_10 (by decide) (fun c => absurd rfl c) (fun _ => ?_)
  refine fx_iconst 13 (x := 1) dJ0_isLatin1_aae02_13 (by decide) ?_
  refine fx_goto 14 18 dJ0_isLatin1_aae02_14 (by decide) ?_
  exact fx_iret 18 dJ0_isLatin1_aae02_18 rfl rfl ⟨rfl, rfl⟩
theorem tJ_length (G : fxG) {i : Nat} (hi : i < 23) (M : fxMem) : fx_T G mJ0_length_8abf5 [.ref (1000 + i)] M (fx_ri (nI (kx_b i).length, M)) := by
  have hL := kx_len i hi
  refine fx_enter [(0, .ref (1000 + i))] (by decide) (fun _ => rfl) (fun _ => Nat.le_of_ble_eq_true rfl) ?_
  refine fx_aload_n 0 dJ0_length_8abf5_0 rfl 0 rfl ?_
  refine fx_strv 1 hi dJ0_length_8abf5_1 lfJ0_9 ?_
  refine fx_stral 4 hi dJ0_length_8abf5_4 ?_
  refine fx_aload_n 5 dJ0_length_8abf5_5 rfl 0 rfl ?_
  refine fx_callSti 6 (mt' := mJ0_coder_7d493) (As := []) hi rfl okvJ0_coder_7d493 lmJ0_335 (by decide) rfl rfl (Nat.le_of_ble_eq_true rfl) dJ0_length_8abf5_6 (tJ_coder G hi M) ?_
  refine fx_ishr 9 dJ0_length_8abf5_9 ?_
  rw [sc_shr0 (by omega)]
  exact fx_iret 10 dJ0_length_8abf5_10 rfl rfl ⟨rfl, rfl⟩
theorem tJ_check3 (G : fxG) {k n : Int32} (h0 : ¬ k < 0) (h1 : k < n) (M : fxMem) : fx_T G mJ3_checkIndex_8e157 [.int k, .int n, .float 0] M (fx_ri (k, M)) := by
  refine fx_enter [(0, .int k), (1, .int n), (2, .float 0)] (by decide) (fun _ => rfl) (fun E => by
    obtain ⟨a, b, c, d, f⟩ := E
    cases f <;> exact Nat.le_of_ble_eq_true rfl) ?_
  refine fx_iload_n 0 dJ3_checkIndex_8e157_0 rfl 0 rfl ?_
  refine fx_if_lt 1 9 dJ3_checkIndex_8e157_1 (by decide) (fun c => absurd c h0) (fun _ => ?_)
  refine fx_iload_n 4 dJ3_checkIndex_8e157_4 rfl 0 rfl ?_
  refine fx_iload_n 5 dJ3_checkIndex_8e157_5 rfl 1 rfl ?_
  refine fx_icmp_lt 6 16 dJ3_checkIndex_8e157_6 (by decide) (fun _ => ?_) (fun c => absurd h1 c)
  refine fx_iload_n 16 dJ3_checkIndex_8e157_16 rfl 0 rfl ?_
  exact fx_iret 17 dJ3_checkIndex_8e157_17 rfl rfl ⟨rfl, rfl⟩
theorem tJ_check0 (G : fxG) {k n : Int32} (h0 : ¬ k < 0) (h1 : k < n) (M : fxMem) : fx_T G mJ0_checkIndex_df160 [.int k, .int n] M (fx_rv M) := by
  refine fx_enter [(0, .int k), (1, .int n)] (by decide) (fun _ => rfl) (fun _ => Nat.le_of_ble_eq_true rfl) ?_
  refine fx_iload_n 0 dJ0_checkIndex_df160_0 rfl 0 rfl ?_
  refine fx_iload_n 1 dJ0_checkIndex_df160_1 rfl 1 rfl ?_
  refine fx_getFm 2 dJ0_checkIndex_df160_2 lfJ0_1053 ?_
  refine fx_callSi 5 (mt' := mJ3_checkIndex_8e157) (As := [.int k, .int n, .float 0]) oksJ3_checkIndex_8e157 lmJ0_1059 (by decide) rfl rfl (Nat.le_of_ble_eq_true rfl) dJ0_checkIndex_df160_5 (tJ_check3 G h0 h1 M) ?_
  refine fx_pop 8 dJ0_checkIndex_df160_8 rfl ?_
  exact fx_vret 9 dJ0_checkIndex_df160_9 rfl ⟨rfl, rfl⟩
theorem fx_in_lt {k : Int32} {n : Nat} (hn : n < 2 ^ 31) (h : fx_in k n = true) : ¬ k < 0 ∧ k < nI n := by
  simp only [fx_in, Bool.and_eq_true, decide_eq_true_eq] at h
  have h0 : ¬ k < 0 := Int32.not_lt.mpr h.1
  obtain ⟨j, hj, rfl⟩ := nI_of h0
  rw [nI_clamp hj] at h
  exact ⟨h0, nI_lt h.2 hn⟩
theorem tJ_charAt1 (G : fxG) {i : Nat} {k : Int32} (hi : i < 23) (hk : fx_in k (kx_b i).length = true) (M : fxMem) : fx_T G mJ1_charAt_3b067 [.ref (2000 + i), .int k] M (fx_ri ((kx_b i).getD k.toNatClampNeg 0 &&& 255, M)) := by
  have hL := kx_len i hi
  obtain ⟨h0, h1⟩ := fx_in_lt (by omega) hk
  refine fx_enter [(0, .ref (2000 + i)), (1, .int k)] (by decide) (fun _ => rfl) (fun _ => Nat.le_of_ble_eq_true rfl) ?_
  refine fx_iload_n 0 dJ1_charAt_3b067_0 rfl 1 rfl ?_
  refine fx_aload_n 1 dJ1_charAt_3b067_1 rfl 0 rfl ?_
  refine fx_stral 2 hi dJ1_charAt_3b067_2 ?_
  refine fx_callS 3 (mt' := mJ0_checkIndex_df160) (As := [.int k, .int (nI (kx_b i).length)]) oksJ0_checkIndex_df160 lmJ1_9 (by decide) rfl rfl (Nat.le_of_ble_eq_true rfl) dJ1_charAt_3b067_3 (tJ_check0 G h0 h1 M) (fun v M' q => ?_)
  obtain ⟨rfl, rfl⟩ := q
  show fx_V _ _ _ 6 _ [] _
  refine fx_aload_n 6 dJ1_charAt_3b067_6 rfl 0 rfl ?_
  refine fx_iload_n 7 dJ1_charAt_3b067_7 rfl 1 rfl ?_
  refine fx_strb 8 hi hk dJ1_charAt_3b067_8 ?_
  refine fx_sipush 9 (x := 255) dJ1_charAt_3b067_9 (by decide) ?_
  refine fx_iand 12 dJ1_charAt_3b067_12 ?_
  refine fx_i2c 13 dJ1_charAt_3b067_13 ?_
  rw [sc_c2]
  exact fx_iret 14 dJ1_charAt_3b067_14 rfl (sc_nar _) ⟨rfl, rfl⟩
theorem tJ_charAt (G : fxG) {i : Nat} {k : Int32} (hi : i < 23) (hk : fx_in k (kx_b i).length = true) (M : fxMem) : fx_T G mJ0_charAt_5068e [.ref (1000 + i), .int k] M (fx_ri ((kx_b i).getD k.toNatClampNeg 0 &&& 255, M)) := by
  refine fx_enter [(0, .ref (1000 + i)), (1, .int k)] (by decide) (fun _ => rfl) (fun _ => Nat.le_of_ble_eq_true rfl) ?_
  refine fx_aload_n 0 dJ0_charAt_5068e_0 rfl 0 rfl ?_
  refine fx_callSti 1 (mt' := mJ0_isLatin1_aae02) (As := []) hi rfl okvJ0_isLatin1_aae02 lmJ0_492 (by decide) rfl rfl (Nat.le_of_ble_eq_true rfl) dJ0_charAt_5068e_1 (tJ_latin G hi M) ?_
  refine fx_if_eq 4 16 dJ0_charAt_5068e_4 (by decide) (fun c => absurd c (show ¬ (1 : Int32) = 0 by decide)) (fun _ => ?_)
  refine fx_aload_n 7 dJ0_charAt_5068e_7 rfl 0 rfl ?_
  refine fx_strv 8 hi dJ0_charAt_5068e_8 lfJ0_9 ?_
  refine fx_iload_n 11 dJ0_charAt_5068e_11 rfl 1 rfl ?_
  refine fx_callSi 12 (mt' := mJ1_charAt_3b067) (As := [.ref (2000 + i), .int k]) oksJ1_charAt_3b067 lmJ0_495 (by decide) rfl rfl (Nat.le_of_ble_eq_true rfl) dJ0_charAt_5068e_12 (tJ_charAt1 G hi hk M) ?_
  exact fx_iret 15 dJ0_charAt_5068e_15 rfl (sc_nar _) ⟨rfl, rfl⟩
theorem tJ_canEnc (G : fxG) (c : Int32) (M : fxMem) : fx_T G mJ1_canEncode_9a6ad [.int c] M (fx_ri (if c < 0 then 0 else if 255 < c then 0 else 1, M)) := by
  refine fx_enter [(0, .int c)] (by decide) (fun _ => rfl) (fun _ => Nat.le_of_ble_eq_true rfl) ?_
  refine fx_iload_n 0 dJ1_canEncode_9a6ad_0 rfl 0 rfl ?_
  refine fx_if_lt 1 15 dJ1_canEncode_9a6ad_1 (by decide) (fun h => ?_) (fun h => ?_)
  · rw [if_pos h]
    refine fx_iconst 15 (x := 0) dJ1_canEncode_9a6ad_15 (by decide) ?_
    exact fx_iret 16 dJ1_canEncode_9a6ad_16 rfl rfl ⟨rfl, rfl⟩
  · rw [if_neg h]
    refine fx_iload_n 4 dJ1_canEncode_9a6ad_4 rfl 0 rfl ?_
    refine fx_sipush 5 (x := 255) dJ1_canEncode_9a6ad_5 (by decide) ?_
    refine fx_icmp_gt 8 15 dJ1_canEncode_9a6ad_8 (by decide) (fun h => ?_) (fun h => ?_)
    · rw [if_pos h]
      refine fx_iconst 15 (x := 0) dJ1_canEncode_9a6ad_15 (by decide) ?_
      exact fx_iret 16 dJ1_canEncode_9a6ad_16 rfl rfl ⟨rfl, rfl⟩
    · rw [if_neg h]
      refine fx_iconst 11 (x := 1) dJ1_canEncode_9a6ad_11 (by decide) ?_
      refine fx_goto 12 16 dJ1_canEncode_9a6ad_12 (by decide) ?_
      exact fx_iret 16 dJ1_canEncode_9a6ad_16 rfl rfl ⟨rfl, rfl⟩
theorem vJ_ixc (G : fxG) {i : Nat} {b c x2 : Int32} (hi : i < 23) (M : fxMem) : ∀ (l : List Int32) (k : Nat), (kx_b i).drop k = l → k ≤ (kx_b i).length → fx_V G mJ1_indexOfChar_4cfef (fx_ri (kx_ix b l k, M)) 7 [(5, .int (nI k)), (4, .int b), (0, .ref (2000 + i)), (1, .int c), (2, .int x2), (3, .int (nI (kx_b i).length))] [] M := by
  have hL := kx_len i hi
  intro l
  induction l with
  | nil =>
    intro k e hk
    have q : (kx_b i).length ≤ k := List.drop_eq_nil_iff.mp e
    refine fx_iload 7 dJ1_indexOfChar_4cfef_7 0 rfl ?_
    refine fx_iload_n 9 dJ1_indexOfChar_4cfef_9 rfl 5 rfl ?_
    refine fx_icmp_ge 10 31 dJ1_indexOfChar_4cfef_10 (by decide) (fun _ => ?_) (fun z => absurd (nI_le q (by omega)) z)
    refine fx_iconst 31 (x := -1) dJ1_indexOfChar_4cfef_31 (by decide) ?_
    exact fx_iret 32 dJ1_indexOfChar_4cfef_32 rfl rfl ⟨rfl, rfl⟩
  | cons a l ih =>
    intro k e hk
    obtain ⟨h1, h2, h3, -⟩ := sc_dropC e
    have hin : fx_in (nI k) (kx_b i).length = true := by
      simp only [fx_in, Bool.and_eq_true, decide_eq_true_eq]
      exact ⟨nI_pos' (by omega), by rw [nI_clamp (by omega)]; exact h1⟩
    refine fx_iload 7 dJ1_indexOfChar_4cfef_7 0 rfl ?_
    refine fx_iload_n 9 dJ1_indexOfChar_4cfef_9 rfl 5 rfl ?_
    refine fx_icmp_ge 10 31 dJ1_indexOfChar_4cfef_10 (by decide) (fun z => absurd z (nI_ge h1 (by omega))) (fun _ => ?_)
    refine fx_aload_n 13 dJ1_indexOfChar_4cfef_13 rfl 2 rfl ?_
    refine fx_iload 14 dJ1_indexOfChar_4cfef_14 0 rfl ?_
    refine fx_strb 16 hi hin dJ1_indexOfChar_4cfef_16 ?_
    rw [nI_clamp (by omega), h2]
    refine fx_iload 17 dJ1_indexOfChar_4cfef_17 1 rfl ?_
    refine fx_icmp_ne 19 25 dJ1_indexOfChar_4cfef_19 (by decide) (fun z => ?_) (fun z => ?_)
    · rw [kx_ix, if_neg z]
      refine fx_iinc 25 (lv' := [(5, .int (nI (k + 1))), (4, .int b), (0, .ref (2000 + i)), (1, .int c), (2, .int x2), (3, .int (nI (kx_b i).length))]) (y := nI (k + 1)) dJ1_indexOfChar_4cfef_25 0 rfl (by rw [nI_succ]; rfl) (by decide) rfl ?_
      refine fx_goto 28 7 dJ1_indexOfChar_4cfef_28 (by decide) ?_
      exact ih (k + 1) h3 (by omega)
    · rw [kx_ix, if_pos z]
      refine fx_iload 22 dJ1_indexOfChar_4cfef_22 0 rfl ?_
      exact fx_iret 24 dJ1_indexOfChar_4cfef_24 rfl rfl ⟨rfl, rfl⟩
theorem tJ_ixc (G : fxG) {i : Nat} {c : Int32} (hi : i < 23) (M : fxMem) : fx_T G mJ1_indexOfChar_4cfef [.ref (2000 + i), .int c, .int 0, .int (nI (kx_b i).length)] M (fx_ri (kx_ix c.toInt8.toInt32 (kx_b i) 0, M)) := by
  refine fx_enter [(0, .ref (2000 + i)), (1, .int c), (2, .int 0), (3, .int (nI (kx_b i).length))] (by decide) (fun _ => rfl) (fun _ => Nat.le_of_ble_eq_true rfl) ?_
  refine fx_iload_n 0 dJ1_indexOfChar_4cfef_0 rfl 1 rfl ?_
  refine fx_i2b 1 dJ1_indexOfChar_4cfef_1 ?_
  refine fx_istore 2 (lv' := [(4, .int c.toInt8.toInt32), (0, .ref (2000 + i)), (1, .int c), (2, .int 0), (3, .int (nI (kx_b i).length))]) dJ1_indexOfChar_4cfef_2 (by decide) rfl ?_
  refine fx_iload_n 4 dJ1_indexOfChar_4cfef_4 rfl 3 rfl ?_
  refine fx_istore 5 (lv' := [(5, .int 0), (4, .int c.toInt8.toInt32), (0, .ref (2000 + i)), (1, .int c), (2, .int 0), (3, .int (nI (kx_b i).length))]) dJ1_indexOfChar_4cfef_5 (by decide) rfl ?_
  exact vJ_ixc G hi M _ 0 rfl (Nat.zero_le _)
theorem tJ_ix1 (G : fxG) {i : Nat} {c : Int32} (hi : i < 23) (M : fxMem) : fx_T G mJ1_indexOf_4cfef [.ref (2000 + i), .int c, .int 0, .int (nI (kx_b i).length)] M (fx_ri (kx_i (1000 + i) c, M)) := by
  have hL := kx_len i hi
  have e0 : 1000 + i - 1000 = i := by omega
  refine fx_enter [(0, .ref (2000 + i)), (1, .int c), (2, .int 0), (3, .int (nI (kx_b i).length))] (by decide) (fun _ => rfl) (fun _ => Nat.le_of_ble_eq_true rfl) ?_
  refine fx_iload_n 0 dJ1_indexOf_4cfef_0 rfl 1 rfl ?_
  refine fx_callSi 1 (mt' := mJ1_canEncode_9a6ad) (As := [.int c]) oksJ1_canEncode_9a6ad lmJ1_88 (by decide) rfl rfl (Nat.le_of_ble_eq_true rfl) dJ1_indexOf_4cfef_1 (tJ_canEnc G c M) ?_
  rw [kx_i, e0]
  by_cases h0 : c < 0
  · rw [if_pos h0, if_pos h0]
    refine fx_if_ne 4 9 dJ1_indexOf_4cfef_4 (by decide) (fun z => absurd rfl z) (fun _ => ?_)
    refine fx_iconst 7 (x := -1) dJ1_indexOf_4cfef_7 (by decide) ?_
    exact fx_iret 8 dJ1_indexOf_4cfef_8 rfl rfl ⟨rfl, rfl⟩
  · rw [if_neg h0, if_neg h0]
    by_cases h1 : 255 < c
    · rw [if_pos h1, if_pos h1]
      refine fx_if_ne 4 9 dJ1_indexOf_4cfef_4 (by decide) (fun z => absurd rfl z) (fun _ => ?_)
      refine fx_iconst 7 (x := -1) dJ1_indexOf_4cfef_7 (by decide) ?_
      exact fx_iret 8 dJ1_indexOf_4cfef_8 rfl rfl ⟨rfl, rfl⟩
    · rw [if_neg h1, if_neg h1]
      refine fx_if_ne 4 9 dJ1_indexOf_4cfef_4 (by decide) (fun _ => ?_) (fun z => absurd z (show ¬ (1 : Int32) = 0 by decide))
      refine fx_iload_n 9 dJ1_indexOf_4cfef_9 rfl 2 rfl ?_
      refine fx_iconst 10 (x := 0) dJ1_indexOf_4cfef_10 (by decide) ?_
      refine fx_mmax 11 dJ1_indexOf_4cfef_11 lmJ1_92 (by decide) (Nat.le_of_ble_eq_true rfl) ?_
      rw [if_neg (by decide)]
      refine fx_istore_n 14 (lv' := [(2, .int 0), (0, .ref (2000 + i)), (1, .int c), (3, .int (nI (kx_b i).length))]) dJ1_indexOf_4cfef_14 rfl (by decide) rfl ?_
      refine fx_iload_n 15 dJ1_indexOf_4cfef_15 rfl 3 rfl ?_
      refine fx_aload_n 16 dJ1_indexOf_4cfef_16 rfl 1 rfl ?_
      refine fx_stral 17 hi dJ1_indexOf_4cfef_17 ?_
      refine fx_mmin 18 dJ1_indexOf_4cfef_18 lmJ1_38 (by decide) (Nat.le_of_ble_eq_true rfl) ?_
      rw [ite_self]
      refine fx_istore_n 21 (lv' := [(3, .int (nI (kx_b i).length)), (2, .int 0), (0, .ref (2000 + i)), (1, .int c)]) dJ1_indexOf_4cfef_21 rfl (by decide) rfl ?_
      refine fx_iload_n 22 dJ1_indexOf_4cfef_22 rfl 1 rfl ?_
      refine fx_iload_n 23 dJ1_indexOf_4cfef_23 rfl 0 rfl ?_
      refine fx_icmp_lt 24 29 dJ1_indexOf_4cfef_24 (by decide) (fun _ => ?_) (fun z => ?_)
      · refine fx_aload_n 29 dJ1_indexOf_4cfef_29 rfl 2 rfl ?_
        refine fx_iload_n 30 dJ1_indexOf_4cfef_30 rfl 3 rfl ?_
        refine fx_iload_n 31 dJ1_indexOf_4cfef_31 rfl 1 rfl ?_
        refine fx_iload_n 32 dJ1_indexOf_4cfef_32 rfl 0 rfl ?_
        refine fx_callSi 33 (mt' := mJ1_indexOfChar_4cfef) (As := [.ref (2000 + i), .int c, .int 0, .int (nI (kx_b i).length)]) oksJ1_indexOfChar_4cfef lmJ1_95 (by decide) rfl rfl (Nat.le_of_ble_eq_true rfl) dJ1_indexOf_4cfef_33 (tJ_ixc G hi M) ?_
        exact fx_iret 36 dJ1_indexOf_4cfef_36 rfl rfl ⟨rfl, rfl⟩
      · have e : kx_b i = [] := by
          cases hb : kx_b i with
          | nil => rfl
          | cons a l =>
            rw [hb] at z hL
            exact absurd (nI_lt (a := 0) (b := (a :: l).length) (by simp) (by omega)) z
        refine fx_iconst 27 (x := -1) dJ1_indexOf_4cfef_27 (by decide) ?_
        rw [e]
        exact fx_iret 28 dJ1_indexOf_4cfef_28 rfl rfl ⟨rfl, rfl⟩
theorem tJ_ix2 (G : fxG) {i : Nat} {c : Int32} (hi : i < 23) (M : fxMem) : fx_T G mJ0_indexOf_7cf53 [.ref (1000 + i), .int c, .int 0] M (fx_ri (kx_i (1000 + i) c, M)) := by
  refine fx_enter [(0, .ref (1000 + i)), (1, .int c), (2, .int 0)] (by decide) (fun _ => rfl) (fun _ => Nat.le_of_ble_eq_true rfl) ?_
  refine fx_aload_n 0 dJ0_indexOf_7cf53_0 rfl 0 rfl ?_
  refine fx_callSti 1 (mt' := mJ0_isLatin1_aae02) (As := []) hi rfl okvJ0_isLatin1_aae02 lmJ0_492 (by decide) rfl rfl (Nat.le_of_ble_eq_true rfl) dJ0_indexOf_7cf53_1 (tJ_latin G hi M) ?_
  refine fx_if_eq 4 23 dJ0_indexOf_7cf53_4 (by decide) (fun c => absurd c (show ¬ (1 : Int32) = 0 by decide)) (fun _ => ?_)
  refine fx_aload_n 7 dJ0_indexOf_7cf53_7 rfl 0 rfl ?_
  refine fx_strv 8 hi dJ0_indexOf_7cf53_8 lfJ0_9 ?_
  refine fx_iload_n 11 dJ0_indexOf_7cf53_11 rfl 1 rfl ?_
  refine fx_iload_n 12 dJ0_indexOf_7cf53_12 rfl 2 rfl ?_
  refine fx_aload_n 13 dJ0_indexOf_7cf53_13 rfl 0 rfl ?_
  refine fx_callSti 14 (mt' := mJ0_length_8abf5) (As := []) hi rfl okvJ0_length_8abf5 lmJ0_505 (by decide) rfl rfl (Nat.le_of_ble_eq_true rfl) dJ0_indexOf_7cf53_14 (tJ_length G hi M) ?_
  refine fx_callSi 17 (mt' := mJ1_indexOf_4cfef) (As := [.ref (2000 + i), .int c, .int 0, .int (nI (kx_b i).length)]) oksJ1_indexOf_4cfef lmJ0_637 (by decide) rfl rfl (Nat.le_of_ble_eq_true rfl) dJ0_indexOf_7cf53_17 (tJ_ix1 G hi M) ?_
  refine fx_goto 20 36 dJ0_indexOf_7cf53_20 (by decide) ?_
  exact fx_iret 36 dJ0_indexOf_7cf53_36 rfl rfl ⟨rfl, rfl⟩
theorem tJ_ix (G : fxG) {i : Nat} {c : Int32} (hi : i < 23) (M : fxMem) : fx_T G mJ0_indexOf_0f7a4 [.ref (1000 + i), .int c] M (fx_ri (kx_i (1000 + i) c, M)) := by
  refine fx_enter [(0, .ref (1000 + i)), (1, .int c)] (by decide) (fun _ => rfl) (fun _ => Nat.le_of_ble_eq_true rfl) ?_
  refine fx_aload_n 0 dJ0_indexOf_0f7a4_0 rfl 0 rfl ?_
  refine fx_iload_n 1 dJ0_indexOf_0f7a4_1 rfl 1 rfl ?_
  refine fx_iconst 2 (x := 0) dJ0_indexOf_0f7a4_2 (by decide) ?_
  refine fx_callSti 3 (mt' := mJ0_indexOf_7cf53) (As := [.int c, .int 0]) hi rfl okvJ0_indexOf_7cf53 lmJ0_633 (by decide) rfl rfl (Nat.le_of_ble_eq_true rfl) dJ0_indexOf_0f7a4_3 (tJ_ix2 G hi M) ?_
  exact fx_iret 6 dJ0_indexOf_0f7a4_6 rfl rfl ⟨rfl, rfl⟩
section FXT
variable {G : fxG} {mt : fxM} {Q : Option Value → fxMem → Prop} {lv : List (Nat × Value)} {st : List Value} {M : fxMem} {idx : Nat}
theorem fx_slen (pc : Nat) {k : Nat} (hk : fx_isS k = true) (hd : decode mt.2.1 pc = .ok (.invokevirtual idx, 3)) (hlink : Cond.methodLink mt.1.cls idx yJ0_length_8abf5 ∈ wsL_law) (hR : 3 ≤ mt.2.2.2.2.1 ∧ 100 ≤ mt.2.2.2.2.2) (hw : (st.map fun v => v.category).sum ≤ 8) (kk : fx_V G mt Q (pc + 3) lv (.int (kx_l k) :: st) M) : fx_V G mt Q pc lv (.ref k :: st) M := by
  obtain ⟨i, hi, rfl⟩ := fx_isS_ok hk
  have e0 : 1000 + i - 1000 = i := by omega
  refine fx_callSti pc (mt' := mJ0_length_8abf5) (As := []) hi rfl okvJ0_length_8abf5 hlink ⟨hR.1, by show 8 + (1 + 11) + 80 ≤ _; exact hR.2⟩ rfl rfl hw hd (tJ_length G hi M) ?_
  rw [kx_l, e0] at kk
  exact kk
theorem fx_schar (pc : Nat) {k : Nat} {x : Int32} (hk : fx_isS k = true) (hx : fx_in x (kx_b (k - 1000)).length = true) (hd : decode mt.2.1 pc = .ok (.invokevirtual idx, 3)) (hlink : Cond.methodLink mt.1.cls idx yJ0_charAt_5068e ∈ wsL_law) (hR : 5 ≤ mt.2.2.2.2.1 ∧ 181 ≤ mt.2.2.2.2.2) (hw : (st.map fun v => v.category).sum ≤ 8) (kk : fx_V G mt Q (pc + 3) lv (.int (kx_c k x) :: st) M) : fx_V G mt Q pc lv (.int x :: .ref k :: st) M := by
  obtain ⟨i, hi, rfl⟩ := fx_isS_ok hk
  have e0 : 1000 + i - 1000 = i := by omega
  rw [e0] at hx
  refine fx_callSti pc (mt' := mJ0_charAt_5068e) (As := [.int x]) hi rfl okvJ0_charAt_5068e hlink ⟨hR.1, by show 8 + (2 + 11) + 160 ≤ _; exact hR.2⟩ rfl rfl hw hd (tJ_charAt G hi hx M) ?_
  rw [kx_c, e0] at kk
  exact kk
theorem fx_sidx (pc : Nat) {k : Nat} {x : Int32} (hk : fx_isS k = true) (hd : decode mt.2.1 pc = .ok (.invokevirtual idx, 3)) (hlink : Cond.methodLink mt.1.cls idx yJ0_indexOf_0f7a4 ∈ wsL_law) (hR : 5 ≤ mt.2.2.2.2.1 ∧ 181 ≤ mt.2.2.2.2.2) (hw : (st.map fun v => v.category).sum ≤ 8) (kk : fx_V G mt Q (pc + 3) lv (.int (kx_i k x) :: st) M) : fx_V G mt Q pc lv (.int x :: .ref k :: st) M := by
  obtain ⟨i, hi, rfl⟩ := fx_isS_ok hk
  exact fx_callSti pc (mt' := mJ0_indexOf_0f7a4) (As := [.int x]) hi rfl okvJ0_indexOf_0f7a4 hlink ⟨hR.1, by show 8 + (2 + 11) + 160 ≤ _; exact hR.2⟩ rfl rfl hw hd (tJ_ix G hi M) kk
def fx_fit (M : fxMem) (k n : Nat) : Bool := (List.range n).all (fun i => fits .byte (.int (M k i)))
theorem fx_fit_ok {k n : Nat} (h : fx_fit M k n = true) : ∀ i, i < n → fits .byte (.int (M k i)) = true := fun i hi => List.all_eq_true.mp h i (List.mem_range.mpr hi)
theorem fx_copyz (pc nn : Nat) {k0 k1 t : Nat} {x : Int32} (ty : FieldType) (ok0 : fx_arr G k0 t nn) (ok1 : fx_arr G k1 t nn) (ht : ∀ E : fxE, (fx_tys E)[t]? = some (E.2.2.2.1 t, ty)) (hprim : refKind ty = false) (hx : x.toNatClampNeg = nn) (hx0 : ¬ x < 0) (h0 : ¬ (0 : Int32) < 0) (hfit : ∀ i, i < nn → fits ty (.int (M k0 i)) = true)
    (hd : decode mt.2.1 pc = .ok (.invokestatic idx, 3)) (hlink : Cond.methodLink mt.1.cls idx arraycopyName ∈ wsL_law) (hf : 1 ≤ mt.2.2.2.2.1) (hlo : (st.map fun v => v.category).sum + (nativeFrameWords "java/lang/System" "arraycopy" 5 + 11) ≤ mt.2.2.2.2.2)
    (kk : fx_V G mt Q (pc + 3) lv st (fx_cp M k0 k1 nn)) : fx_V G mt Q pc lv (.int x :: .int 0 :: .ref k1 :: .int 0 :: .ref k0 :: st) M := by
  have z0 : (0 : Int32).toNatClampNeg = 0 := rfl
  refine fx_copy pc ty ok0 ok1 ht hprim h0 h0 hx0 (by rw [z0, hx]; omega) (by rw [z0, hx]; omega) (fun i hi => by rw [z0, Nat.zero_add]; exact hfit i (by omega)) hd hlink hf hlo ?_
  rw [z0, hx]
  exact kk
end FXT
