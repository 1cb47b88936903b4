/-! ROWS over fx_V: an instruction each -/
theorem fx_tl_at {E : fxE} {lv : List (Nat × Value)} {j i : Nat} {v : Value} (h : lv[j]? = some (i, v)) : (fx_tl E lv)[j]? = some (i, fx_tr E v) := by
  simp [fx_tl, h]
theorem fx_tl_f (E : fxE) (lv : List (Nat × Value)) (i : Nat) : (fx_tl E lv).filter (fun q => !(q.1 == i) && !(q.1 + 1 == i && q.2.category == 2)) = fx_tl E (lv.filter (fun q => !(q.1 == i) && !(q.1 + 1 == i && q.2.category == 2))) := by
  simp only [fx_tl, List.filter_map]
  congr 1
  apply List.filter_congr
  intro q _
  simp [Function.comp, fx_cat]
theorem fx_tl_st {E : fxE} {lv lv' : List (Nat × Value)} {i : Nat} {v : Value} (h : (i, v) :: lv.filter (fun q => !(q.1 == i) && !(q.1 + 1 == i && q.2.category == 2)) = lv') : (i, fx_tr E v) :: (fx_tl E lv).filter (fun q => !(q.1 == i) && !(q.1 + 1 == i && q.2.category == 2)) = fx_tl E lv' := by
  rw [fx_tl_f, ← h]
  rfl
theorem fx_sum (E : fxE) (st : List Value) : ((st.map (fx_tr E)).map fun v => v.category).sum = (st.map fun v => v.category).sum := by
  rw [List.map_map]
  congr 1
  apply List.map_congr_left
  intro v _
  exact fx_cat E v
def fx_in (i : Int32) (n : Nat) : Bool := decide (0 ≤ i) && decide (i.toNatClampNeg < n)
theorem fx_in_ok {i : Int32} {n : Nat} (h : fx_in i n = true) : vp_in i n := by
  simp only [fx_in, Bool.and_eq_true, decide_eq_true_eq] at h
  intro q
  rcases q with q | q
  · exact (Int32.not_lt.mpr h.1) q
  · omega
section FXR
variable {G : fxG} {mt : fxM} {Q : Option Value → fxMem → Prop} {lv lv' : List (Nat × Value)} {st : List Value} {M : fxMem}
theorem fx_sub (ks : List Nat) {pc : Nat} (h : lv_pick lv ks = lv') (k : fx_V G mt Q pc lv' st M) : fx_V G mt Q pc lv st M := by
  intro p l e s m args below meth c E X H locs ls hP hS hl
  refine k p l e s m args below meth c E X H locs ls hP hS (lv_sub hl ks ?_)
  rw [← h]
  simp only [lv_pick, fx_tl, List.map_filterMap]
  congr 1
  funext j
  simp
theorem fx_iconst (pc : Nat) {n : Int} {x : Int32} (hd : decode mt.2.1 pc = .ok (.iconst n, 1)) (hv : Int32.ofInt n = x) (k : fx_V G mt Q (pc + 1) lv (.int x :: st) M) : fx_V G mt Q pc lv st M :=
  fun p l e s m args below meth c E X H locs ls hP hS hl => lv_iconst X.1 X.2.1 hd hv (k p l e s m args below meth c E X H locs ls hP hS hl)
theorem fx_bipush (pc : Nat) {n : Int} {x : Int32} (hd : decode mt.2.1 pc = .ok (.bipush n, 2)) (hv : (Int8.ofInt n).toInt32 = x) (k : fx_V G mt Q (pc + 2) lv (.int x :: st) M) : fx_V G mt Q pc lv st M :=
  fun p l e s m args below meth c E X H locs ls hP hS hl => lv_bipush X.1 X.2.1 hd hv (k p l e s m args below meth c E X H locs ls hP hS hl)
theorem fx_sipush (pc : Nat) {n : Int} {x : Int32} (hd : decode mt.2.1 pc = .ok (.sipush n, 3)) (hv : (Int16.ofInt n).toInt32 = x) (k : fx_V G mt Q (pc + 3) lv (.int x :: st) M) : fx_V G mt Q pc lv st M :=
  fun p l e s m args below meth c E X H locs ls hP hS hl => lv_sipush X.1 X.2.1 hd hv (k p l e s m args below meth c E X H locs ls hP hS hl)
theorem fx_ldc (pc : Nat) {idx : Nat} {x : Int32} (hd : decode mt.2.1 pc = .ok (.ldc idx, 2)) (hc : Cond.constant mt.1.cls idx x ∈ wsL_law) (k : fx_V G mt Q (pc + 2) lv (.int x :: st) M) : fx_V G mt Q pc lv st M :=
  fun p l e s m args below meth c E X H locs ls hP hS hl => lv_ldc X.1 X.2.1 X.2.2.2.2.1 (X.2.2.2.2.2.1 _ hc) hd (k p l e s m args below meth c E X H locs ls hP hS hl)
theorem fx_ldc2 (pc : Nat) {idx : Nat} {x : Int64} (hd : decode mt.2.1 pc = .ok (.ldc2_w idx, 3)) (hc : Cond.constantLong mt.1.cls idx x ∈ wsL_law) (k : fx_V G mt Q (pc + 3) lv (.long x :: st) M) : fx_V G mt Q pc lv st M :=
  fun p l e s m args below meth c E X H locs ls hP hS hl => lv_ldc2 X.1 X.2.1 X.2.2.2.2.1 (X.2.2.2.2.2.1 _ hc) hd (k p l e s m args below meth c E X H locs ls hP hS hl)
theorem fx_ldcS (pc : Nat) {idx : Nat} (i : Nat) (hi : i < 23) (hd : decode mt.2.1 pc = .ok (.ldc idx, 2)) (hc : (kx_at i).1 = mt.1.cls ∧ (kx_at i).2.1 = idx) (k : fx_V G mt Q (pc + 2) lv (.ref (1000 + i) :: st) M) : fx_V G mt Q pc lv st M := by
  intro p l e s m args below meth c E X H locs ls hP hS hl
  have h := (X.2.2.2.2.2.2.2.2.2.1 i hi).2
  rw [hc.1, hc.2] at h
  exact va_ldcS X.1 X.2.1 X.2.2.2.2.1 h hd (k p l e s m args below meth c E X H locs ls hP hS hl)
theorem fx_iload_n (pc : Nat) {kf : Fin 4} {i : Nat} {x : Int32} (hd : decode mt.2.1 pc = .ok (.iload_n kf, 1)) (hi : (kf : Nat) = i) (j : Nat) (hj : lv[j]? = some (i, .int x)) (k : fx_V G mt Q (pc + 1) lv (.int x :: st) M) : fx_V G mt Q pc lv st M :=
  fun p l e s m args below meth c E X H locs ls hP hS hl => lv_iload_n X.1 X.2.1 hd hi (lv_at hl j (fx_tl_at hj)) (k p l e s m args below meth c E X H locs ls hP hS hl)
theorem fx_iload (pc : Nat) {i : Nat} {x : Int32} (hd : decode mt.2.1 pc = .ok (.iload i, 2)) (j : Nat) (hj : lv[j]? = some (i, .int x)) (k : fx_V G mt Q (pc + 2) lv (.int x :: st) M) : fx_V G mt Q pc lv st M :=
  fun p l e s m args below meth c E X H locs ls hP hS hl => lv_iload X.1 X.2.1 hd (lv_at hl j (fx_tl_at hj)) (k p l e s m args below meth c E X H locs ls hP hS hl)
theorem fx_lload_n (pc : Nat) {kf : Fin 4} {i : Nat} {x : Int64} (hd : decode mt.2.1 pc = .ok (.lload_n kf, 1)) (hi : (kf : Nat) = i) (j : Nat) (hj : lv[j]? = some (i, .long x)) (k : fx_V G mt Q (pc + 1) lv (.long x :: st) M) : fx_V G mt Q pc lv st M :=
  fun p l e s m args below meth c E X H locs ls hP hS hl => lv_lload_n X.1 X.2.1 hd hi (lv_at hl j (fx_tl_at hj)) (k p l e s m args below meth c E X H locs ls hP hS hl)
theorem fx_aload_n (pc : Nat) {kf : Fin 4} {i x : Nat} (hd : decode mt.2.1 pc = .ok (.aload_n kf, 1)) (hi : (kf : Nat) = i) (j : Nat) (hj : lv[j]? = some (i, .ref x)) (k : fx_V G mt Q (pc + 1) lv (.ref x :: st) M) : fx_V G mt Q pc lv st M :=
  fun p l e s m args below meth c E X H locs ls hP hS hl => lv_aload_n X.1 X.2.1 hd hi (lv_at hl j (fx_tl_at hj)) (k p l e s m args below meth c E X H locs ls hP hS hl)
theorem fx_istore_n (pc : Nat) {kf : Fin 4} {i : Nat} {x : Int32} (hd : decode mt.2.1 pc = .ok (.istore_n kf, 1)) (hi : (kf : Nat) = i) (hn : i < mt.2.2.1) (hlv : (i, Value.int x) :: lv.filter (fun q => !(q.1 == i) && !(q.1 + 1 == i && q.2.category == 2)) = lv') (k : fx_V G mt Q (pc + 1) lv' st M) : fx_V G mt Q pc lv (.int x :: st) M :=
  fun p l e s m args below meth c E X H locs ls hP hS hl => lv_istore_n X.1 X.2.1 hd hi hl hn (fx_tl_st hlv) (fun ls' hl' => k p l e s m args below meth c E X H locs ls' hP hS hl')
theorem fx_istore (pc : Nat) {i : Nat} {x : Int32} (hd : decode mt.2.1 pc = .ok (.istore i, 2)) (hn : i < mt.2.2.1) (hlv : (i, Value.int x) :: lv.filter (fun q => !(q.1 == i) && !(q.1 + 1 == i && q.2.category == 2)) = lv') (k : fx_V G mt Q (pc + 2) lv' st M) : fx_V G mt Q pc lv (.int x :: st) M :=
  fun p l e s m args below meth c E X H locs ls hP hS hl => lv_istore X.1 X.2.1 hd hl hn (fx_tl_st hlv) (fun ls' hl' => k p l e s m args below meth c E X H locs ls' hP hS hl')
theorem fx_astore_n (pc : Nat) {kf : Fin 4} {i x : Nat} (hd : decode mt.2.1 pc = .ok (.astore_n kf, 1)) (hi : (kf : Nat) = i) (hn : i < mt.2.2.1) (hlv : (i, Value.ref x) :: lv.filter (fun q => !(q.1 == i) && !(q.1 + 1 == i && q.2.category == 2)) = lv') (k : fx_V G mt Q (pc + 1) lv' st M) : fx_V G mt Q pc lv (.ref x :: st) M :=
  fun p l e s m args below meth c E X H locs ls hP hS hl => lv_astore_n X.1 X.2.1 hd hi hl hn (fx_tl_st (v := .ref x) hlv) (fun ls' hl' => k p l e s m args below meth c E X H locs ls' hP hS hl')
theorem fx_iinc (pc : Nat) {i : Nat} {n : Int} {x y : Int32} (hd : decode mt.2.1 pc = .ok (.iinc i n, 3)) (j : Nat) (hj : lv[j]? = some (i, .int x)) (hv : x + Int32.ofInt n = y) (hn : i < mt.2.2.1) (hlv : (i, Value.int y) :: lv.filter (fun q => !(q.1 == i) && !(q.1 + 1 == i && q.2.category == 2)) = lv') (k : fx_V G mt Q (pc + 3) lv' st M) : fx_V G mt Q pc lv st M :=
  fun p l e s m args below meth c E X H locs ls hP hS hl => lv_iinc (k := j) X.1 X.2.1 hd hl (fx_tl_at hj) hv hn (fx_tl_st hlv) (fun ls' hl' => k p l e s m args below meth c E X H locs ls' hP hS hl')
theorem fx_iadd (pc : Nat) {x y : Int32} (hd : decode mt.2.1 pc = .ok (.iadd, 1)) (k : fx_V G mt Q (pc + 1) lv (.int (x + y) :: st) M) : fx_V G mt Q pc lv (.int y :: .int x :: st) M :=
  fun p l e s m args below meth c E X H locs ls hP hS hl => lv_iadd X.1 X.2.1 hd (k p l e s m args below meth c E X H locs ls hP hS hl)
theorem fx_isub (pc : Nat) {x y : Int32} (hd : decode mt.2.1 pc = .ok (.isub, 1)) (k : fx_V G mt Q (pc + 1) lv (.int (x - y) :: st) M) : fx_V G mt Q pc lv (.int y :: .int x :: st) M :=
  fun p l e s m args below meth c E X H locs ls hP hS hl => lv_isub X.1 X.2.1 hd (k p l e s m args below meth c E X H locs ls hP hS hl)
theorem fx_imul (pc : Nat) {x y : Int32} (hd : decode mt.2.1 pc = .ok (.imul, 1)) (k : fx_V G mt Q (pc + 1) lv (.int (x * y) :: st) M) : fx_V G mt Q pc lv (.int y :: .int x :: st) M :=
  fun p l e s m args below meth c E X H locs ls hP hS hl => lv_imul X.1 X.2.1 hd (k p l e s m args below meth c E X H locs ls hP hS hl)
theorem fx_iand (pc : Nat) {x y : Int32} (hd : decode mt.2.1 pc = .ok (.iand, 1)) (k : fx_V G mt Q (pc + 1) lv (.int (x &&& y) :: st) M) : fx_V G mt Q pc lv (.int y :: .int x :: st) M :=
  fun p l e s m args below meth c E X H locs ls hP hS hl => lv_iand X.1 X.2.1 hd (k p l e s m args below meth c E X H locs ls hP hS hl)
theorem fx_ior (pc : Nat) {x y : Int32} (hd : decode mt.2.1 pc = .ok (.ior, 1)) (k : fx_V G mt Q (pc + 1) lv (.int (x ||| y) :: st) M) : fx_V G mt Q pc lv (.int y :: .int x :: st) M :=
  fun p l e s m args below meth c E X H locs ls hP hS hl => lv_ior X.1 X.2.1 hd (k p l e s m args below meth c E X H locs ls hP hS hl)
theorem fx_ixor (pc : Nat) {x y : Int32} (hd : decode mt.2.1 pc = .ok (.ixor, 1)) (k : fx_V G mt Q (pc + 1) lv (.int (x ^^^ y) :: st) M) : fx_V G mt Q pc lv (.int y :: .int x :: st) M :=
  fun p l e s m args below meth c E X H locs ls hP hS hl => lv_ixor X.1 X.2.1 hd (k p l e s m args below meth c E X H locs ls hP hS hl)
theorem fx_ishl (pc : Nat) {x y : Int32} (hd : decode mt.2.1 pc = .ok (.ishl, 1)) (k : fx_V G mt Q (pc + 1) lv (.int (x <<< (y &&& 31)) :: st) M) : fx_V G mt Q pc lv (.int y :: .int x :: st) M :=
  fun p l e s m args below meth c E X H locs ls hP hS hl => lv_ishl X.1 X.2.1 hd (k p l e s m args below meth c E X H locs ls hP hS hl)
theorem fx_ishr (pc : Nat) {x y : Int32} (hd : decode mt.2.1 pc = .ok (.ishr, 1)) (k : fx_V G mt Q (pc + 1) lv (.int (x >>> (y &&& 31)) :: st) M) : fx_V G mt Q pc lv (.int y :: .int x :: st) M :=
  fun p l e s m args below meth c E X H locs ls hP hS hl => lv_ishr X.1 X.2.1 hd (k p l e s m args below meth c E X H locs ls hP hS hl)
theorem fx_iushr (pc : Nat) {x y : Int32} (hd : decode mt.2.1 pc = .ok (.iushr, 1)) (k : fx_V G mt Q (pc + 1) lv (.int (x.toUInt32 >>> (y.toUInt32 &&& Int32.toUInt32 31)).toInt32 :: st) M) : fx_V G mt Q pc lv (.int y :: .int x :: st) M :=
  fun p l e s m args below meth c E X H locs ls hP hS hl => lv_iushr X.1 X.2.1 hd rfl (k p l e s m args below meth c E X H locs ls hP hS hl)
theorem fx_ineg (pc : Nat) {x : Int32} (hd : decode mt.2.1 pc = .ok (.ineg, 1)) (k : fx_V G mt Q (pc + 1) lv (.int (-x) :: st) M) : fx_V G mt Q pc lv (.int x :: st) M :=
  fun p l e s m args below meth c E X H locs ls hP hS hl => lv_ineg X.1 X.2.1 hd (k p l e s m args below meth c E X H locs ls hP hS hl)
theorem fx_idiv (pc : Nat) {x y : Int32} (hd : decode mt.2.1 pc = .ok (.idiv, 1)) (hne : ¬ y = 0) (k : fx_V G mt Q (pc + 1) lv (.int (x / y) :: st) M) : fx_V G mt Q pc lv (.int y :: .int x :: st) M :=
  fun p l e s m args below meth c E X H locs ls hP hS hl => lv_idiv X.1 X.2.1 hd hne (k p l e s m args below meth c E X H locs ls hP hS hl)
theorem fx_irem (pc : Nat) {x y : Int32} (hd : decode mt.2.1 pc = .ok (.irem, 1)) (hne : ¬ y = 0) (k : fx_V G mt Q (pc + 1) lv (.int (x - x / y * y) :: st) M) : fx_V G mt Q pc lv (.int y :: .int x :: st) M :=
  fun p l e s m args below meth c E X H locs ls hP hS hl => lv_irem X.1 X.2.1 hd hne (k p l e s m args below meth c E X H locs ls hP hS hl)
theorem fx_land (pc : Nat) {x y : Int64} (hd : decode mt.2.1 pc = .ok (.land, 1)) (k : fx_V G mt Q (pc + 1) lv (.long (x &&& y) :: st) M) : fx_V G mt Q pc lv (.long y :: .long x :: st) M :=
  fun p l e s m args below meth c E X H locs ls hP hS hl => lv_land X.1 X.2.1 hd (k p l e s m args below meth c E X H locs ls hP hS hl)
theorem fx_lushr (pc : Nat) {x : Int64} {y : Int32} (hd : decode mt.2.1 pc = .ok (.lushr, 1)) (k : fx_V G mt Q (pc + 1) lv (.long (x.toUInt64 >>> (y.toInt64.toUInt64 &&& Int64.toUInt64 63)).toInt64 :: st) M) : fx_V G mt Q pc lv (.int y :: .long x :: st) M :=
  fun p l e s m args below meth c E X H locs ls hP hS hl => lv_lushr X.1 X.2.1 hd rfl (k p l e s m args below meth c E X H locs ls hP hS hl)
theorem fx_lshr (pc : Nat) {x : Int64} {y : Int32} (hd : decode mt.2.1 pc = .ok (.lshr, 1)) (k : fx_V G mt Q (pc + 1) lv (.long (x >>> (y.toInt64 &&& 63)) :: st) M) : fx_V G mt Q pc lv (.int y :: .long x :: st) M :=
  fun p l e s m args below meth c E X H locs ls hP hS hl => lv_lshr X.1 X.2.1 hd rfl (k p l e s m args below meth c E X H locs ls hP hS hl)
theorem fx_l2i (pc : Nat) {x : Int64} (hd : decode mt.2.1 pc = .ok (.l2i, 1)) (k : fx_V G mt Q (pc + 1) lv (.int x.toInt32 :: st) M) : fx_V G mt Q pc lv (.long x :: st) M :=
  fun p l e s m args below meth c E X H locs ls hP hS hl => lv_l2i X.1 X.2.1 hd rfl (k p l e s m args below meth c E X H locs ls hP hS hl)
theorem fx_i2b (pc : Nat) {x : Int32} (hd : decode mt.2.1 pc = .ok (.i2b, 1)) (k : fx_V G mt Q (pc + 1) lv (.int x.toInt8.toInt32 :: st) M) : fx_V G mt Q pc lv (.int x :: st) M :=
  fun p l e s m args below meth c E X H locs ls hP hS hl => lv_i2b X.1 X.2.1 hd rfl (k p l e s m args below meth c E X H locs ls hP hS hl)
theorem fx_i2c (pc : Nat) {x : Int32} (hd : decode mt.2.1 pc = .ok (.i2c, 1)) (k : fx_V G mt Q (pc + 1) lv (.int (x.toUInt32 % 65536).toInt32 :: st) M) : fx_V G mt Q pc lv (.int x :: st) M :=
  fun p l e s m args below meth c E X H locs ls hP hS hl => lv_i2c X.1 X.2.1 hd rfl (k p l e s m args below meth c E X H locs ls hP hS hl)
theorem fx_dup (pc : Nat) {v : Value} (hd : decode mt.2.1 pc = .ok (.dup, 1)) (hv : v.category = 1) (k : fx_V G mt Q (pc + 1) lv (v :: v :: st) M) : fx_V G mt Q pc lv (v :: st) M :=
  fun p l e s m args below meth c E X H locs ls hP hS hl => lv_dup X.1 X.2.1 hd ((fx_cat E v).trans hv) (k p l e s m args below meth c E X H locs ls hP hS hl)
theorem fx_dup2 (pc : Nat) {v w : Value} (hd : decode mt.2.1 pc = .ok (.dup2, 1)) (hv : v.category = 1) (hw : w.category = 1) (k : fx_V G mt Q (pc + 1) lv (v :: w :: v :: w :: st) M) : fx_V G mt Q pc lv (v :: w :: st) M :=
  fun p l e s m args below meth c E X H locs ls hP hS hl => lv_dup2_11 X.1 X.2.1 hd ((fx_cat E v).trans hv) ((fx_cat E w).trans hw) (k p l e s m args below meth c E X H locs ls hP hS hl)
theorem fx_pop (pc : Nat) {v : Value} (hd : decode mt.2.1 pc = .ok (.pop, 1)) (hv : v.category = 1) (k : fx_V G mt Q (pc + 1) lv st M) : fx_V G mt Q pc lv (v :: st) M :=
  fun p l e s m args below meth c E X H locs ls hP hS hl => lv_pop X.1 X.2.1 hd ((fx_cat E v).trans hv) (k p l e s m args below meth c E X H locs ls hP hS hl)
theorem fx_goto (pc tgt : Nat) {off : Int} (hd : decode mt.2.1 pc = .ok (.goto off, 3)) (ht : (pc : Int) + off = (tgt : Int)) (k : fx_V G mt Q tgt lv st M) : fx_V G mt Q pc lv st M :=
  fun p l e s m args below meth c E X H locs ls hP hS hl => lv_goto X.1 X.2.1 hd ht (k p l e s m args below meth c E X H locs ls hP hS hl)
theorem fx_if_eq (pc tgt : Nat) {off : Int} {x : Int32} (hd : decode mt.2.1 pc = .ok (.ifCond .eq off, 3)) (ht : (pc : Int) + off = (tgt : Int)) (kt : x = 0 → fx_V G mt Q tgt lv st M) (kf : ¬ x = 0 → fx_V G mt Q (pc + 3) lv st M) : fx_V G mt Q pc lv (.int x :: st) M :=
  fun p l e s m args below meth c E X H locs ls hP hS hl => lv_if_eq X.1 X.2.1 hd ht (fun z => kt z p l e s m args below meth c E X H locs ls hP hS hl) (fun z => kf z p l e s m args below meth c E X H locs ls hP hS hl)
theorem fx_if_ne (pc tgt : Nat) {off : Int} {x : Int32} (hd : decode mt.2.1 pc = .ok (.ifCond .ne off, 3)) (ht : (pc : Int) + off = (tgt : Int)) (kt : ¬ x = 0 → fx_V G mt Q tgt lv st M) (kf : x = 0 → fx_V G mt Q (pc + 3) lv st M) : fx_V G mt Q pc lv (.int x :: st) M :=
  fun p l e s m args below meth c E X H locs ls hP hS hl => lv_if_ne X.1 X.2.1 hd ht (fun z => kt z p l e s m args below meth c E X H locs ls hP hS hl) (fun z => kf z p l e s m args below meth c E X H locs ls hP hS hl)
theorem fx_if_lt (pc tgt : Nat) {off : Int} {x : Int32} (hd : decode mt.2.1 pc = .ok (.ifCond .lt off, 3)) (ht : (pc : Int) + off = (tgt : Int)) (kt : x < 0 → fx_V G mt Q tgt lv st M) (kf : ¬ x < 0 → fx_V G mt Q (pc + 3) lv st M) : fx_V G mt Q pc lv (.int x :: st) M :=
  fun p l e s m args below meth c E X H locs ls hP hS hl => lv_if_lt X.1 X.2.1 hd ht (fun z => kt z p l e s m args below meth c E X H locs ls hP hS hl) (fun z => kf z p l e s m args below meth c E X H locs ls hP hS hl)
theorem fx_if_ge (pc tgt : Nat) {off : Int} {x : Int32} (hd : decode mt.2.1 pc = .ok (.ifCond .ge off, 3)) (ht : (pc : Int) + off = (tgt : Int)) (kt : 0 ≤ x → fx_V G mt Q tgt lv st M) (kf : ¬ 0 ≤ x → fx_V G mt Q (pc + 3) lv st M) : fx_V G mt Q pc lv (.int x :: st) M :=
  fun p l e s m args below meth c E X H locs ls hP hS hl => lv_if_ge X.1 X.2.1 hd ht (fun z => kt z p l e s m args below meth c E X H locs ls hP hS hl) (fun z => kf z p l e s m args below meth c E X H locs ls hP hS hl)
theorem fx_if_gt (pc tgt : Nat) {off : Int} {x : Int32} (hd : decode mt.2.1 pc = .ok (.ifCond .gt off, 3)) (ht : (pc : Int) + off = (tgt : Int)) (kt : 0 < x → fx_V G mt Q tgt lv st M) (kf : ¬ 0 < x → fx_V G mt Q (pc + 3) lv st M) : fx_V G mt Q pc lv (.int x :: st) M :=
  fun p l e s m args below meth c E X H locs ls hP hS hl => lv_if_gt X.1 X.2.1 hd ht (fun z => kt z p l e s m args below meth c E X H locs ls hP hS hl) (fun z => kf z p l e s m args below meth c E X H locs ls hP hS hl)
theorem fx_if_le (pc tgt : Nat) {off : Int} {x : Int32} (hd : decode mt.2.1 pc = .ok (.ifCond .le off, 3)) (ht : (pc : Int) + off = (tgt : Int)) (kt : x ≤ 0 → fx_V G mt Q tgt lv st M) (kf : ¬ x ≤ 0 → fx_V G mt Q (pc + 3) lv st M) : fx_V G mt Q pc lv (.int x :: st) M :=
  fun p l e s m args below meth c E X H locs ls hP hS hl => lv_if_le X.1 X.2.1 hd ht (fun z => kt z p l e s m args below meth c E X H locs ls hP hS hl) (fun z => kf z p l e s m args below meth c E X H locs ls hP hS hl)
theorem fx_icmp_eq (pc tgt : Nat) {off : Int} {x y : Int32} (hd : decode mt.2.1 pc = .ok (.if_icmp .eq off, 3)) (ht : (pc : Int) + off = (tgt : Int)) (kt : x = y → fx_V G mt Q tgt lv st M) (kf : ¬ x = y → fx_V G mt Q (pc + 3) lv st M) : fx_V G mt Q pc lv (.int y :: .int x :: st) M :=
  fun p l e s m args below meth c E X H locs ls hP hS hl => lv_icmp_eq X.1 X.2.1 hd ht (fun z => kt z p l e s m args below meth c E X H locs ls hP hS hl) (fun z => kf z p l e s m args below meth c E X H locs ls hP hS hl)
theorem fx_icmp_ne (pc tgt : Nat) {off : Int} {x y : Int32} (hd : decode mt.2.1 pc = .ok (.if_icmp .ne off, 3)) (ht : (pc : Int) + off = (tgt : Int)) (kt : ¬ x = y → fx_V G mt Q tgt lv st M) (kf : x = y → fx_V G mt Q (pc + 3) lv st M) : fx_V G mt Q pc lv (.int y :: .int x :: st) M :=
  fun p l e s m args below meth c E X H locs ls hP hS hl => lv_icmp_ne X.1 X.2.1 hd ht (fun z => kt z p l e s m args below meth c E X H locs ls hP hS hl) (fun z => kf z p l e s m args below meth c E X H locs ls hP hS hl)
theorem fx_icmp_lt (pc tgt : Nat) {off : Int} {x y : Int32} (hd : decode mt.2.1 pc = .ok (.if_icmp .lt off, 3)) (ht : (pc : Int) + off = (tgt : Int)) (kt : x < y → fx_V G mt Q tgt lv st M) (kf : ¬ x < y → fx_V G mt Q (pc + 3) lv st M) : fx_V G mt Q pc lv (.int y :: .int x :: st) M :=
  fun p l e s m args below meth c E X H locs ls hP hS hl => lv_icmp_lt X.1 X.2.1 hd ht (fun z => kt z p l e s m args below meth c E X H locs ls hP hS hl) (fun z => kf z p l e s m args below meth c E X H locs ls hP hS hl)
theorem fx_icmp_ge (pc tgt : Nat) {off : Int} {x y : Int32} (hd : decode mt.2.1 pc = .ok (.if_icmp .ge off, 3)) (ht : (pc : Int) + off = (tgt : Int)) (kt : y ≤ x → fx_V G mt Q tgt lv st M) (kf : ¬ y ≤ x → fx_V G mt Q (pc + 3) lv st M) : fx_V G mt Q pc lv (.int y :: .int x :: st) M :=
  fun p l e s m args below meth c E X H locs ls hP hS hl => lv_icmp_ge X.1 X.2.1 hd ht (fun z => kt z p l e s m args below meth c E X H locs ls hP hS hl) (fun z => kf z p l e s m args below meth c E X H locs ls hP hS hl)
theorem fx_icmp_gt (pc tgt : Nat) {off : Int} {x y : Int32} (hd : decode mt.2.1 pc = .ok (.if_icmp .gt off, 3)) (ht : (pc : Int) + off = (tgt : Int)) (kt : y < x → fx_V G mt Q tgt lv st M) (kf : ¬ y < x → fx_V G mt Q (pc + 3) lv st M) : fx_V G mt Q pc lv (.int y :: .int x :: st) M :=
  fun p l e s m args below meth c E X H locs ls hP hS hl => lv_icmp_gt X.1 X.2.1 hd ht (fun z => kt z p l e s m args below meth c E X H locs ls hP hS hl) (fun z => kf z p l e s m args below meth c E X H locs ls hP hS hl)
theorem fx_icmp_le (pc tgt : Nat) {off : Int} {x y : Int32} (hd : decode mt.2.1 pc = .ok (.if_icmp .le off, 3)) (ht : (pc : Int) + off = (tgt : Int)) (kt : x ≤ y → fx_V G mt Q tgt lv st M) (kf : ¬ x ≤ y → fx_V G mt Q (pc + 3) lv st M) : fx_V G mt Q pc lv (.int y :: .int x :: st) M :=
  fun p l e s m args below meth c E X H locs ls hP hS hl => lv_icmp_le X.1 X.2.1 hd ht (fun z => kt z p l e s m args below meth c E X H locs ls hP hS hl) (fun z => kf z p l e s m args below meth c E X H locs ls hP hS hl)
/-! switches -/
theorem fx_tsI (pc tgt : Nat) {dflt lo hi : Int} {offs : Array Int} {len : Nat} {x : Int32} {off : Int} (hd : decode mt.2.1 pc = .ok (.tableswitch dflt lo hi offs, len)) (h1 : ¬ x.toInt < lo) (h2 : ¬ hi < x.toInt) (ho : offs[(x.toInt - lo).toNat]? = some off) (ht : (pc : Int) + off = (tgt : Int)) (k : fx_V G mt Q tgt lv st M) : fx_V G mt Q pc lv (.int x :: st) M :=
  fun p l e s m args below meth c E X H locs ls hP hS hl => lv_tableIn X.1 X.2.1 hd h1 h2 ho ht (k p l e s m args below meth c E X H locs ls hP hS hl)
theorem fx_tsD (pc tgt : Nat) (lst : List Int32) {dflt lo hi : Int} {offs : Array Int} {len : Nat} {x : Int32} (hd : decode mt.2.1 pc = .ok (.tableswitch dflt lo hi offs, len)) (hchk : ((List.range offs.size).all (fun j => offs[j]? == some dflt || lst.any (fun k => k.toInt == lo + (j : Int)))) = true) (hhi : hi = lo + (offs.size : Int) - 1) (hx : ∀ q ∈ lst, ¬ x = q) (ht : (pc : Int) + dflt = (tgt : Int)) (k : fx_V G mt Q tgt lv st M) : fx_V G mt Q pc lv (.int x :: st) M := by
  intro p l e s m args below meth c E X H locs ls hP hS hl
  have kk := k p l e s m args below meth c E X H locs ls hP hS hl
  by_cases h1 : x.toInt < lo
  · exact lv_tableOut X.1 X.2.1 hd (Or.inl h1) ht kk
  by_cases h2 : hi < x.toInt
  · exact lv_tableOut X.1 X.2.1 hd (Or.inr h2) ht kk
  have hj : (x.toInt - lo).toNat < offs.size := by omega
  have hc := List.all_eq_true.mp hchk (x.toInt - lo).toNat (List.mem_range.mpr hj)
  rw [Bool.or_eq_true] at hc
  rcases hc with hc | hc
  · exact lv_tableIn X.1 X.2.1 hd h1 h2 (by simpa using hc) ht kk
  · obtain ⟨q, hq, he⟩ := List.any_eq_true.mp hc
    have e1 : q.toInt = x.toInt := by
      have e2 : q.toInt = lo + ((x.toInt - lo).toNat : Int) := by simpa using he
      omega
    exact absurd (Int32.toInt_inj.mp e1).symm (hx q hq)
theorem fx_lsI (pc tgt : Nat) {dflt : Int} {ps : Array (Int × Int)} {len : Nat} {x : Int32} {off : Int} (hd : decode mt.2.1 pc = .ok (.lookupswitch dflt ps, len)) (hp : (ps.toList.zip (ps.toList.drop 1)).all (fun (a, next) => a.1 < next.1) = true) (ho : Op.lookupswitch.offset ps.toList dflt x.toInt = off) (ht : (pc : Int) + off = (tgt : Int)) (k : fx_V G mt Q tgt lv st M) : fx_V G mt Q pc lv (.int x :: st) M :=
  fun p l e s m args below meth c E X H locs ls hP hS hl => lv_lookup X.1 X.2.1 hd hp ho ht (k p l e s m args below meth c E X H locs ls hP hS hl)
theorem fx_lsO {d : Int} {x : Int32} (lst : List Int32) (hx : ∀ q ∈ lst, ¬ x = q) : ∀ r : List (Int × Int), r.all (fun q => lst.any (fun k => k.toInt == q.1)) = true → Op.lookupswitch.offset r d x.toInt = d := by
  intro r
  induction r with
  | nil => intro _; rfl
  | cons q r ih =>
    intro h
    rw [List.all_cons, Bool.and_eq_true] at h
    obtain ⟨k, hk, he⟩ := List.any_eq_true.mp h.1
    rw [lv_osw (hx k hk) (by simpa using he)]
    exact ih h.2
theorem fx_lsD (pc tgt : Nat) (lst : List Int32) {dflt : Int} {ps : Array (Int × Int)} {len : Nat} {x : Int32} (hd : decode mt.2.1 pc = .ok (.lookupswitch dflt ps, len)) (hp : (ps.toList.zip (ps.toList.drop 1)).all (fun (a, next) => a.1 < next.1) = true) (hc : ps.toList.all (fun q => lst.any (fun k => k.toInt == q.1)) = true) (hx : ∀ q ∈ lst, ¬ x = q) (ht : (pc : Int) + dflt = (tgt : Int)) (k : fx_V G mt Q tgt lv st M) : fx_V G mt Q pc lv (.int x :: st) M :=
  fun p l e s m args below meth c E X H locs ls hP hS hl => lv_lookup X.1 X.2.1 hd hp (fx_lsO lst hx _ hc) ht (k p l e s m args below meth c E X H locs ls hP hS hl)
/-! ends -/
theorem fx_iret (pc : Nat) {x : Int32} {ty : FieldType} (hd : decode mt.2.1 pc = .ok (.ireturn, 1)) (hr : mt.2.2.2.1 = some ty) (hn : narrow ty (.int x) = .int x) (hq : Q (some (.int x)) M) : fx_V G mt Q pc lv [.int x] M :=
  fun p l e s m args below meth c E X H locs ls hP hS hl => W.zret X.1 X.2.1 (X.2.2.1.trans hr) hn (fun t ht hW => ⟨⟨some (.int x), M, rfl, hq, by rw [ht]; exact hP⟩, hS.F ht⟩) hS.2.2 hd X.2.2.2.2.2.2.1
theorem fx_vret (pc : Nat) (hd : decode mt.2.1 pc = .ok (.return_, 1)) (hr : mt.2.2.2.1 = none) (hq : Q none M) : fx_V G mt Q pc lv [] M :=
  fun p l e s m args below meth c E X H locs ls hP hS hl => W.vret X.1 X.2.1 (X.2.2.1.trans hr) (fun t ht hW => ⟨⟨none, M, rfl, hq, by rw [ht]; exact hP⟩, hS.F ht⟩) hS.2.2 hd X.2.2.2.2.2.2.1
theorem fx_aret (pc : Nat) {k : Nat} {C : String} (hd : decode mt.2.1 pc = .ok (.areturn, 1)) (hr : mt.2.2.2.1 = some (.object C)) (hq : Q (some (.ref k)) M) : fx_V G mt Q pc lv [.ref k] M :=
  fun p l e s m args below meth c E X H locs ls hP hS hl => W.aret X.1 X.2.1 (X.2.2.1.trans hr) (Or.inl ⟨_, rfl⟩) (Or.inr ⟨_, rfl⟩) (fun t ht hW => ⟨⟨some (.ref k), M, rfl, hq, by rw [ht]; exact hP⟩, hS.F ht⟩) hS.2.2 hd X.2.2.2.2.2.2.1
/-! cells -/
def fx_cell (G : fxG) (k ci : Nat) (C : String) (T : u_T) (N : Nat) (fs : (Nat → Nat) → (Nat → Int32) → List Value) : Prop := k < G.1 ∧ (∀ ad aC row, G.2 ad aC k row = .inr (ci, fs ad row)) ∧ vwCl[ci]? = some (C, T, N) ∧ (∀ w ∈ u_ws C T N, w ∈ wsL_law) ∧ ∃ ty0 : Nat → FieldType, (∀ k, k < N → parseFieldDescriptor (T k).2.2.1 = some (ty0 k)) ∧ ∀ a, a < N → ∀ b, b < N → a ≠ b → (T a).2.1 ≠ (T b).2.1
def fx_arr (G : fxG) (k t n : Nat) : Prop := k < G.1 ∧ ∀ ad aC row, G.2 ad aC k row = .inl (aC t, n, .inl row)
theorem fx_get (pc : Nat) {k ci idx j N : Nat} {C : String} {T : u_T} {fs : (Nat → Nat) → (Nat → Int32) → List Value} {v : Value} (ok : fx_cell G k ci C T N fs) (hd : decode mt.2.1 pc = .ok (.getfield idx, 3)) (hlink : Cond.fieldLink mt.1.cls idx (T j).1 (T j).2.1 (T j).2.2.1 ∈ wsL_law) (hj : j < N) (hv : ∀ E : fxE, (fs E.1 (M k))[j]? = some (fx_tr E v)) (kk : fx_V G mt Q (pc + 3) lv (v :: st) M) : fx_V G mt Q pc lv (.ref k :: st) M := by
  intro p l e s m args below meth c E X H locs ls hP hS hl
  obtain ⟨hx, hb, hr, hml, hown, hts, hlk, hC⟩ := id X
  have he := fx_w_at (G := G) (E := E) (M := M) ok.1
  rw [ok.2.1] at he
  exact va_get hx hb hts ok.2.2.2.1 hown hC.1 hP k he ok.2.2.1 j hj (hts _ hlink) (fun _ h => h) (hv E) hd (kk p l e s m args below meth c E X H locs ls hP hS hl)
theorem fx_put (pc : Nat) {k ci idx j N : Nat} {C : String} {T : u_T} {fs : (Nat → Nat) → (Nat → Int32) → List Value} {v : Value} {x : Int32} {ty : FieldType} (ok : fx_cell G k ci C T N fs) (hd : decode mt.2.1 pc = .ok (.putfield idx, 3)) (hlink : Cond.fieldLink mt.1.cls idx (T j).1 (T j).2.1 (T j).2.2.1 ∈ wsL_law) (hj : j < N) (hfin : (T j).2.2.2 = false) (hty : parseFieldDescriptor (T j).2.2.1 = some ty) (hn : ∀ E : fxE, narrow ty (fx_tr E v) = fx_tr E v) (hf : ∀ E : fxE, fits ty (fx_tr E v) = true) (hl0 : ∀ ad row, j < (fs ad row).length) (hset : ∀ E : fxE, (fs E.1 (M k)).set j (fx_tr E v) = fs E.1 (upd (M k) j x)) (kk : fx_V G mt Q (pc + 3) lv st (fx_st M k j x)) : fx_V G mt Q pc lv (v :: .ref k :: st) M := by
  intro p l e s m args below meth c E X H locs ls hP hS hl
  obtain ⟨hx, hb, hr, hml, hown, hts, hlk, hC⟩ := id X
  obtain ⟨ok1, ok2, ok3, ok4, ty0, ok5, ok6⟩ := ok
  have he := fx_w_at (G := G) (E := E) (M := M) ok1
  rw [ok2] at he
  refine va_put hx hb hts ok4 ty0 ok5 ok6 hown hC.1 hP (fx_D hC.2.1 M s.heap.size) hS k he ok3 j hj (hts _ hlink) (fun _ h => h) hfin hty (hn E) (hf E) (hl0 _ _) hd (fun H1 locs1 hP1 _ hS1 => ?_)
  rw [hset, ← ok2 E.1 E.2.2.2.1, fx_w_set ok1] at hP1
  exact kk p l e s m args below meth c E X H1 locs1 ls hP1 hS1 hl
theorem fx_iald (pc : Nat) {k n : Nat} {i : Int32} (ok : fx_arr G k 0 n) (hd : decode mt.2.1 pc = .ok (.iaload, 1)) (hi : fx_in i n = true) (kk : fx_V G mt Q (pc + 1) lv (.int (M k i.toNatClampNeg) :: st) M) : fx_V G mt Q pc lv (.int i :: .ref k :: st) M := by
  intro p l e s m args below meth c E X H locs ls hP hS hl
  have he := fx_w_at (G := G) (E := E) (M := M) ok.1
  rw [ok.2] at he
  exact va_iald X.1 X.2.1 X.2.2.2.2.2.2.2.1 hP k 0 he rfl (fx_in_ok hi) hd (kk p l e s m args below meth c E X H locs ls hP hS hl)
theorem fx_bald (pc : Nat) {k n : Nat} {i : Int32} (ok : fx_arr G k 1 n) (hd : decode mt.2.1 pc = .ok (.baload, 1)) (hi : fx_in i n = true) (kk : fx_V G mt Q (pc + 1) lv (.int (M k i.toNatClampNeg) :: st) M) : fx_V G mt Q pc lv (.int i :: .ref k :: st) M := by
  intro p l e s m args below meth c E X H locs ls hP hS hl
  have he := fx_w_at (G := G) (E := E) (M := M) ok.1
  rw [ok.2] at he
  exact va_bald X.1 X.2.1 X.2.2.2.2.2.2.2.1 hP k 1 he rfl (fx_in_ok hi) hd (kk p l e s m args below meth c E X H locs ls hP hS hl)
theorem fx_zald (pc : Nat) {k n : Nat} {i : Int32} (ok : fx_arr G k 2 n) (hd : decode mt.2.1 pc = .ok (.baload, 1)) (hi : fx_in i n = true) (kk : fx_V G mt Q (pc + 1) lv (.int (M k i.toNatClampNeg) :: st) M) : fx_V G mt Q pc lv (.int i :: .ref k :: st) M := by
  intro p l e s m args below meth c E X H locs ls hP hS hl
  have he := fx_w_at (G := G) (E := E) (M := M) ok.1
  rw [ok.2] at he
  exact va_zald X.1 X.2.1 X.2.2.2.2.2.2.2.1 hP k 2 he rfl (fx_in_ok hi) hd (kk p l e s m args below meth c E X H locs ls hP hS hl)
theorem fx_iast (pc : Nat) {k n : Nat} {i x : Int32} (ok : fx_arr G k 0 n) (hd : decode mt.2.1 pc = .ok (.iastore, 1)) (hi : fx_in i n = true) (kk : fx_V G mt Q (pc + 1) lv st (fx_st M k i.toNatClampNeg x)) : fx_V G mt Q pc lv (.int x :: .int i :: .ref k :: st) M := by
  intro p l e s m args below meth c E X H locs ls hP hS hl
  obtain ⟨hx, hb, hr, hml, hown, hts, hlk, hC⟩ := id X
  have he := fx_w_at (G := G) (E := E) (M := M) ok.1
  rw [ok.2] at he
  refine va_iast hx hb hC.1 hP (fx_D hC.2.1 M s.heap.size) hS k 0 he rfl (fx_in_ok hi) hd (fun H1 locs1 hP1 _ hS1 => ?_)
  rw [← ok.2 E.1 E.2.2.2.1, fx_w_set ok.1] at hP1
  exact kk p l e s m args below meth c E X H1 locs1 ls hP1 hS1 hl
theorem fx_bast (pc : Nat) {k n : Nat} {i x : Int32} (ok : fx_arr G k 1 n) (hd : decode mt.2.1 pc = .ok (.bastore, 1)) (hi : fx_in i n = true) (kk : fx_V G mt Q (pc + 1) lv st (fx_st M k i.toNatClampNeg (vp_nar .byte x))) : fx_V G mt Q pc lv (.int x :: .int i :: .ref k :: st) M := by
  intro p l e s m args below meth c E X H locs ls hP hS hl
  obtain ⟨hx, hb, hr, hml, hown, hts, hlk, hC⟩ := id X
  have he := fx_w_at (G := G) (E := E) (M := M) ok.1
  rw [ok.2] at he
  refine va_bast hx hb hC.1 hP (fx_D hC.2.1 M s.heap.size) hS k 1 he rfl (fx_in_ok hi) hd (fun H1 locs1 hP1 _ hS1 => ?_)
  rw [← ok.2 E.1 E.2.2.2.1, fx_w_set ok.1] at hP1
  exact kk p l e s m args below meth c E X H1 locs1 ls hP1 hS1 hl
theorem fx_zast (pc : Nat) {k n : Nat} {i x : Int32} (ok : fx_arr G k 2 n) (hd : decode mt.2.1 pc = .ok (.bastore, 1)) (hi : fx_in i n = true) (kk : fx_V G mt Q (pc + 1) lv st (fx_st M k i.toNatClampNeg (vp_nar .boolean x))) : fx_V G mt Q pc lv (.int x :: .int i :: .ref k :: st) M := by
  intro p l e s m args below meth c E X H locs ls hP hS hl
  obtain ⟨hx, hb, hr, hml, hown, hts, hlk, hC⟩ := id X
  have he := fx_w_at (G := G) (E := E) (M := M) ok.1
  rw [ok.2] at he
  refine va_zast hx hb hC.1 hP (fx_D hC.2.1 M s.heap.size) hS k 2 he rfl (fx_in_ok hi) hd (fun H1 locs1 hP1 _ hS1 => ?_)
  rw [← ok.2 E.1 E.2.2.2.1, fx_w_set ok.1] at hP1
  exact kk p l e s m args below meth c E X H1 locs1 ls hP1 hS1 hl
theorem fx_alen (pc : Nat) {k n t : Nat} {x : Int32} (ok : fx_arr G k t n) (ht : t < 4) (hn : Int32.ofNat n = x) (hd : decode mt.2.1 pc = .ok (.arraylength, 1)) (kk : fx_V G mt Q (pc + 1) lv (.int x :: st) M) : fx_V G mt Q pc lv (.ref k :: st) M := by
  intro p l e s m args below meth c E X H locs ls hP hS hl
  have he := fx_w_at (G := G) (E := E) (M := M) ok.1
  rw [ok.2] at he
  have ht : ∃ ty, (fx_tys E)[t]? = some (E.2.2.2.1 t, ty) := by
    rcases (show t = 0 ∨ t = 1 ∨ t = 2 ∨ t = 3 by omega) with rfl | rfl | rfl | rfl
    · exact ⟨_, rfl⟩
    · exact ⟨_, rfl⟩
    · exact ⟨_, rfl⟩
    · exact ⟨_, rfl⟩
  obtain ⟨ty, ht⟩ := ht
  exact va_alen X.1 X.2.1 X.2.2.2.2.2.2.2.1 hP k t he ht hn hd (kk p l e s m args below meth c E X H locs ls hP hS hl)
/-! statics -/
theorem fx_gets (pc : Nat) {idx : Nat} (j : Nat) (hj : j < 4) (hd : decode mt.2.1 pc = .ok (.getstatic idx, 3)) (hlink : Cond.fieldLink mt.1.cls idx (kx_a j).1 (kx_a j).2.1 "[I" ∈ wsL_law) (kk : fx_V G mt Q (pc + 3) lv (.ref (3000 + j) :: st) M) : fx_V G mt Q pc lv st M :=
  fun p l e s m args below meth c E X H locs ls hP hS hl => va_gets X.1 X.2.1 (X.2.2.2.2.2.2.2.2.2.2.2.2.1 j hj).1 hS X.2.2.2.2.1 (X.2.2.2.2.2.1 _ hlink) (fun _ h => h) hd (kk p l e s m args below meth c E X H locs ls hP hS hl)
theorem fx_getsN (pc : Nat) (hown : mt.1.cls = "FieldBand$Deed") (hd : decode mt.2.1 pc = .ok (.getstatic 32, 3)) (kk : fx_V G mt Q (pc + 3) lv (.ref 3000 :: st) M) : fx_V G mt Q pc lv st M := by
  intro p l e s m args below meth c E X H locs ls hP hS hl
  obtain ⟨hx, hb, hr, hml, hw, hts, hlk, hC⟩ := id X
  rw [hown] at hw
  exact va_getsN hx hb (hC.2.2.2.2.2.1 0 (by decide)).1 hS hw (va_Nw.use rfl hC.2.2.2.2.2.2.2) (fun _ h => h) hd (kk p l e s m args below meth c E X H locs ls hP hS hl)
theorem fx_sald (pc : Nat) (j : Nat) {i : Int32} (hj : j < 4) (hd : decode mt.2.1 pc = .ok (.iaload, 1)) (hi : fx_in i 7 = true) (kk : fx_V G mt Q (pc + 1) lv (.int ((kx_a j).2.2.getD i.toNatClampNeg 0) :: st) M) : fx_V G mt Q pc lv (.int i :: .ref (3000 + j) :: st) M :=
  fun p l e s m args below meth c E X H locs ls hP hS hl => va_ti X.1 X.2.1 (X.2.2.2.2.2.2.2.2.2.2.2.2.1 j hj).2 hS (fx_in_ok hi) rfl hd (kk p l e s m args below meth c E X H locs ls hP hS hl)
end FXR
