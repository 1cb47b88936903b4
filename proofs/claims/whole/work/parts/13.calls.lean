/-! CALLS over fx_V -/
theorem fx_gi {w : Cond} (h : w ∈ wsL_law) : w ∈ wsL_law ∧ ((w.onTables && w.keeps) = true ∨ ∃ ty, w = .arrayClass ty) := ⟨h, good_of_word (fx_good w h)⟩
def fx_ok (mt : fxM) (n : Nat) : Prop := Cond.code mt.1 mt.2.1 mt.2.2.1 mt.2.2.2.1 ∈ wsL_law ∧ Cond.initialized mt.1.cls ∈ wsL_law ∧ mt.1.cls ≠ "java/lang/invoke/MethodHandle" ∧ mt.1.cls ≠ "java/lang/invoke/VarHandle" ∧ (parseMethodDescriptor mt.1.desc).map (fun d => d.parameters.length) = some n
def fx_okV (mt : fxM) (n : Nat) : Prop := fx_ok mt n ∧ Cond.instanceMethod mt.1 ∈ wsL_law ∧ Cond.selects mt.1.cls mt.1 mt.1 ∈ wsL_law
def fx_okS (mt : fxM) (n : Nat) : Prop := fx_ok mt n ∧ Cond.static mt.1 ∈ wsL_law
theorem fx_gd {mt : fxM} {n : Nat} (h : fx_ok mt n) : GoodIn wsL_law (fx_ws mt) := by
  intro w hw
  rcases List.mem_cons.mp hw with e | e
  · subst e
    exact fx_gi h.1
  · exact fx_gi e
theorem fx_Ale {G : fxG} {E : fxE} {a b : Nat} (h : a ≤ b) (q : Nat) (z : fx_A G E b q) : fx_A G E a q := by
  rcases z with z | z
  · exact Or.inl z
  · exact Or.inr (Nat.le_trans h z)
theorem fx_blind (G : fxG) (E : fxE) (as : List Value) (M : fxMem) (sz : Nat) : FrameBlind (fx_P G E as M sz) := by
  intro a U g mk q
  obtain ⟨q0, q1, qP, qC⟩ := q
  exact ⟨q0, q1, qP, fx_C.same (u := U) (U := U.calling g mk a) rfl rfl qC⟩
section FXC
variable {G : fxG} {mt mt' : fxM} {Q Qk : Option Value → fxMem → Prop} {lv : List (Nat × Value)} {st st0 As : List Value} {M : fxMem} {n idx : Nat}
theorem fx_go {p : Program} {l : Launch} {e : Env} {R : Room} {s : State} {m : MethodId} {args : Array Value} {below : List Frame} {meth : Method} {c : Code} {E : fxE} {H : Heap} {locs : List Loc} {pc : Nat} {ls : Array Slot} {s0 rest : List Value} {a : Array Value} {QQ : State → Prop}
    (hr : va_Run p l e R s m args below meth c H locs 0 0 0 0 (F0 m pc ls s0) rest (fx_Q G E Qk a) (fx_A G E H.size)) (hS : va_S (fx_A G E s.heap.size) s.heap H locs)
    (kk : ∀ (v : Option Value) (M' : fxMem) (H1 : Heap) (locs1 : List Loc), Qk v M' → va_P (E.2.1, E.2.2.1) vwCl (fx_w G E M') H1 → va_S (fx_A G E s.heap.size) s.heap H1 locs1 → W p l e R s m args below meth c H1 locs1 0 0 QQ (F0 m (pc + 3) ls ((v.map (fx_tr E)).toList ++ rest))) : W p l e R s m args below meth c H locs 0 0 QQ (F0 m pc ls s0) := by
  intro T hT X
  obtain ⟨v, st₀, t, T', L, h0, X', hL, e1, e2, ⟨⟨v', M', hv, hq, hp⟩, hz, hk⟩, stp⟩ := hr T hT X
  cases hv
  rw [h0] at hz hk
  obtain ⟨t2, a1, b1⟩ := kk v' M' T'.heap (locs ++ L) hq (by rw [e1]; exact hp)
    ⟨Nat.le_trans hS.1 (by rw [e1]; exact hz), fun q h1 h2 => by rw [e1, hk q (Nat.lt_of_lt_of_le h1 hS.1) (fun z => h2 (fx_Ale hS.1 q z))]; exact hS.2.1 q h1 h2, fun q hq => by
      rcases List.mem_append.mp hq with h | h
      · exact hS.2.2 q h
      · exact fx_Ale hS.1 _ (hL q h)⟩ T' rfl X'
  exact ⟨t2, stp t2 a1, b1⟩
theorem fx_callVr (pc : Nat) {k : Nat} (ok : fx_okV mt' n) (hrv : ∀ (s : State) (E : fxE) (H : Heap) (locs : List Loc), fx_C G E (fx_A G E s.heap.size) s s.heap → va_S (fx_A G E s.heap.size) s.heap H locs → va_P (E.2.1, E.2.2.1) vwCl (fx_w G E M) H → ∃ cell : Cell, H[E.1 k]? = some cell ∧ cell.vm.isStatics = false ∧ s.vm.findClass mt'.1.cls = some cell.cls)
    (hlink : Cond.methodLink mt.1.cls idx mt'.1 ∈ wsL_law) (hR : mt'.2.2.2.2.1 + 1 ≤ mt.2.2.2.2.1 ∧ 8 + (mt'.2.2.1 + 11) + mt'.2.2.2.2.2 ≤ mt.2.2.2.2.2) (hn : As.length = n) (hst : st0 = As.reverse ++ .ref k :: st) (hw : (st.map fun v => v.category).sum ≤ 8) (hd : decode mt.2.1 pc = .ok (.invokevirtual idx, 3))
    (hT : fx_T G mt' (.ref k :: As) M Qk) (kk : ∀ (v : Option Value) (M' : fxMem), Qk v M' → fx_V G mt Q (pc + 3) lv (v.toList ++ st) M') : fx_V G mt Q pc lv st0 M := by
  intro p l e s m args below meth c E X H locs ls hP hS hl
  obtain ⟨hx, hb, hr, hml, hown, hts, hlk, hC⟩ := id X
  obtain ⟨ok1, ok2, ok3⟩ := ok
  have cw := cwV (R := fx_rm mt) (s := s) (args := args) (own := mt.1.cls) (C := mt'.1.cls) (index := idx) (y := mt'.1) (bytes := mt'.2.1) (maxL := mt'.2.2.1) (ret := mt'.2.2.2.1) (ws := fx_ws mt') (rm := fx_rm mt') (mc := 0) (ms := 0) n hts (by
    intro w hw
    unfold wsV at hw
    rcases List.mem_append.mp hw with h | h
    · simp only [List.mem_cons, List.not_mem_nil, or_false] at h
      rcases h with h | h | h | h
      · subst h; exact fx_gi hlink
      · subst h; exact fx_gi ok2
      · subst h; exact fx_gi ok3
      · subst h; exact fx_gi ok1.2.1
    · exact fx_gd ok1 w h) rfl rfl rfl ⟨rfl, ok1.2.2⟩ hR
  have run := va_runV (e := e) (below := below) (meth := meth) (locs := locs) (cells := 0) (slots := 0) (b := E.1 k) (As := As.map (fx_tr E)) (rest := st.map (fx_tr E)) (g := F0 m pc ls (st0.map (fx_tr E))) ⟨hx, hb, hml, hown, hts⟩ (hT l E H.size) cw
    ⟨fx_blind _ _ _ _ _, hrv s E H locs hC hS hP, fun U hU hW => ⟨rfl, by rw [hU], by rw [hU]; exact hP, by
      have z := hC.call hS hU hW
      rw [hU] at z ⊢
      exact z⟩⟩ rfl (by rw [List.length_map]; exact hn) hl.1 (by rw [hst]; simp [fx_tr]) (lv_room (by rw [fx_sum]; exact hw)) hd ⟨Nat.le_refl 0, Nat.le_refl 0⟩
  refine fx_go run hS (fun v M' H1 locs1 hq hP1 hS1 => ?_)
  have z := kk v M' hq p l e s m args below meth c E X H1 locs1 ls hP1 hS1 hl
  cases v <;> exact z
theorem fx_callV (pc : Nat) {k ci N : Nat} {T : u_T} {fs : (Nat → Nat) → (Nat → Int32) → List Value} (okc : fx_cell G k ci mt'.1.cls T N fs) (ok : fx_okV mt' n)
    (hlink : Cond.methodLink mt.1.cls idx mt'.1 ∈ wsL_law) (hR : mt'.2.2.2.2.1 + 1 ≤ mt.2.2.2.2.1 ∧ 8 + (mt'.2.2.1 + 11) + mt'.2.2.2.2.2 ≤ mt.2.2.2.2.2) (hn : As.length = n) (hst : st0 = As.reverse ++ .ref k :: st) (hw : (st.map fun v => v.category).sum ≤ 8) (hd : decode mt.2.1 pc = .ok (.invokevirtual idx, 3))
    (hT : fx_T G mt' (.ref k :: As) M Qk) (kk : ∀ (v : Option Value) (M' : fxMem), Qk v M' → fx_V G mt Q (pc + 3) lv (v.toList ++ st) M') : fx_V G mt Q pc lv st0 M := by
  refine fx_callVr pc ok (fun s E H locs hC hS hP => ?_) hlink hR hn hst hw hd hT kk
  have he := fx_w_at (G := G) (E := E) (M := M) okc.1
  rw [okc.2.1] at he
  exact va_recv hC.1 hP okc.2.2.1 he
theorem fx_callStr (pc : Nat) {i : Nat} (hi : i < 23) (hy : mt'.1.cls = "java/lang/String") (ok : fx_okV mt' n)
    (hlink : Cond.methodLink mt.1.cls idx mt'.1 ∈ wsL_law) (hR : mt'.2.2.2.2.1 + 1 ≤ mt.2.2.2.2.1 ∧ 8 + (mt'.2.2.1 + 11) + mt'.2.2.2.2.2 ≤ mt.2.2.2.2.2) (hn : As.length = n) (hst : st0 = As.reverse ++ .ref (1000 + i) :: st) (hw : (st.map fun v => v.category).sum ≤ 8) (hd : decode mt.2.1 pc = .ok (.invokevirtual idx, 3))
    (hT : fx_T G mt' (.ref (1000 + i) :: As) M Qk) (kk : ∀ (v : Option Value) (M' : fxMem), Qk v M' → fx_V G mt Q (pc + 3) lv (v.toList ++ st) M') : fx_V G mt Q pc lv st0 M := by
  refine fx_callVr pc ok (fun s E H locs hC hS hP => ?_) hlink hR hn hst hw hd hT kk
  obtain ⟨cell, h1, h2, h3, -⟩ := (hC.2.2.1 i hi).1.1.kept hS.2.1
  exact ⟨cell, h1, h2, by rw [hy]; exact h3⟩
theorem fx_callS (pc : Nat) (ok : fx_okS mt' n)
    (hlink : Cond.methodLink mt.1.cls idx mt'.1 ∈ wsL_law) (hR : mt'.2.2.2.2.1 + 1 ≤ mt.2.2.2.2.1 ∧ 8 + (mt'.2.2.1 + 11) + mt'.2.2.2.2.2 ≤ mt.2.2.2.2.2) (hn : As.length = n) (hst : st0 = As.reverse ++ st) (hw : (st.map fun v => v.category).sum ≤ 8) (hd : decode mt.2.1 pc = .ok (.invokestatic idx, 3))
    (hT : fx_T G mt' As M Qk) (kk : ∀ (v : Option Value) (M' : fxMem), Qk v M' → fx_V G mt Q (pc + 3) lv (v.toList ++ st) M') : fx_V G mt Q pc lv st0 M := by
  intro p l e s m args below meth c E X H locs ls hP hS hl
  obtain ⟨hx, hb, hr, hml, hown, hts, hlk, hC⟩ := id X
  obtain ⟨ok1, ok2⟩ := ok
  have cw : CallB (fx_rm mt) s args mt.1.cls idx mt'.1 mt'.2.1 mt'.2.2.1 mt'.2.2.2.1 (fx_ws mt') (fx_rm mt') 0 0 n ∧ (Cond.static mt'.1).before args s = true := ⟨callB_of n hts (fx_gd ok1) rfl rfl rfl (hts _ ok1.2.1) (hts _ hlink) ok1.2.2 hR, hts _ ok2⟩
  have run := va_runS (e := e) (below := below) (meth := meth) (locs := locs) (cells := 0) (slots := 0) (As := As.map (fx_tr E)) (rest := st.map (fx_tr E)) (g := F0 m pc ls (st0.map (fx_tr E))) ⟨hx, hb, hml, hown, hts⟩ (hT l E H.size) cw
    ⟨fx_blind _ _ _ _ _, fun U hU hW => ⟨rfl, by rw [hU], by rw [hU]; exact hP, by
      have z := hC.call hS hU hW
      rw [hU] at z ⊢
      exact z⟩⟩ rfl (by rw [List.length_map]; exact hn) hl.1 (by rw [hst]; simp) (lv_room (by rw [fx_sum]; exact hw)) hd ⟨Nat.le_refl 0, Nat.le_refl 0⟩
  refine fx_go run hS (fun v M' H1 locs1 hq hP1 hS1 => ?_)
  have z := kk v M' hq p l e s m args below meth c E X H1 locs1 ls hP1 hS1 hl
  cases v <;> exact z
theorem fx_callVN (pc : Nat) {k ci N : Nat} {T : u_T} {fs : (Nat → Nat) → (Nat → Int32) → List Value} {host : String} (okc : fx_cell G k ci mt'.1.cls T N fs) (ok : fx_okV mt' n)
    (hlink : (mt.1.cls, idx, mt'.1, host) ∈ kxN) (hR : mt'.2.2.2.2.1 + 1 ≤ mt.2.2.2.2.1 ∧ 8 + (mt'.2.2.1 + 11) + mt'.2.2.2.2.2 ≤ mt.2.2.2.2.2) (hn : As.length = n) (hst : st0 = As.reverse ++ .ref k :: st) (hw : (st.map fun v => v.category).sum ≤ 8) (hd : decode mt.2.1 pc = .ok (.invokevirtual idx, 3))
    (hT : fx_T G mt' (.ref k :: As) M Qk) (kk : ∀ (v : Option Value) (M' : fxMem), Qk v M' → fx_V G mt Q (pc + 3) lv (v.toList ++ st) M') : fx_V G mt Q pc lv st0 M := by
  intro p l e s m args below meth c E X H locs ls hP hS hl
  obtain ⟨hx, hb, hr, hml, hown, hts, hlk, hC⟩ := id X
  obtain ⟨ok1, ok2, ok3⟩ := ok
  have he := fx_w_at (G := G) (E := E) (M := M) okc.1
  rw [okc.2.1] at he
  have cw : va_CN (fx_rm mt) s args mt.1.cls idx mt'.1 host mt'.2.1 mt'.2.2.1 mt'.2.2.2.1 (fx_ws mt') (fx_rm mt') 0 0 n ∧ (Cond.instanceMethod mt'.1).before args s = true ∧ (Cond.selects mt'.1.cls mt'.1 mt'.1).before args s = true := ⟨va_cnB n hts (fx_gd ok1) rfl rfl rfl (hC.2.2.2.2.2.2.1 _ hlink) (hts _ ok1.2.1) ok1.2.2 hR, hts _ ok2, hts _ ok3⟩
  have run := va_runVN (e := e) (below := below) (meth := meth) (locs := locs) (cells := 0) (slots := 0) (b := E.1 k) (As := As.map (fx_tr E)) (rest := st.map (fx_tr E)) (g := F0 m pc ls (st0.map (fx_tr E))) ⟨hx, hb, hml, hown, hts⟩ (hT l E H.size) cw
    ⟨fx_blind _ _ _ _ _, va_recv hC.1 hP okc.2.2.1 he, fun U hU hW => ⟨rfl, by rw [hU], by rw [hU]; exact hP, by
      have z := hC.call hS hU hW
      rw [hU] at z ⊢
      exact z⟩⟩ rfl (by rw [List.length_map]; exact hn) hl.1 (by rw [hst]; simp [fx_tr]) (lv_room (by rw [fx_sum]; exact hw)) hd ⟨Nat.le_refl 0, Nat.le_refl 0⟩
  refine fx_go run hS (fun v M' H1 locs1 hq hP1 hS1 => ?_)
  have z := kk v M' hq p l e s m args below meth c E X H1 locs1 ls hP1 hS1 hl
  cases v <;> exact z
theorem fx_callN (pc : Nat) {host : String} (ok : fx_okS mt' n)
    (hlink : (mt.1.cls, idx, mt'.1, host) ∈ kxN) (hR : mt'.2.2.2.2.1 + 1 ≤ mt.2.2.2.2.1 ∧ 8 + (mt'.2.2.1 + 11) + mt'.2.2.2.2.2 ≤ mt.2.2.2.2.2) (hn : As.length = n) (hst : st0 = As.reverse ++ st) (hw : (st.map fun v => v.category).sum ≤ 8) (hd : decode mt.2.1 pc = .ok (.invokestatic idx, 3))
    (hT : fx_T G mt' As M Qk) (kk : ∀ (v : Option Value) (M' : fxMem), Qk v M' → fx_V G mt Q (pc + 3) lv (v.toList ++ st) M') : fx_V G mt Q pc lv st0 M := by
  intro p l e s m args below meth c E X H locs ls hP hS hl
  obtain ⟨hx, hb, hr, hml, hown, hts, hlk, hC⟩ := id X
  obtain ⟨ok1, ok2⟩ := ok
  have cw : va_CN (fx_rm mt) s args mt.1.cls idx mt'.1 host mt'.2.1 mt'.2.2.1 mt'.2.2.2.1 (fx_ws mt') (fx_rm mt') 0 0 n ∧ (Cond.static mt'.1).before args s = true ∧ True := ⟨va_cnB n hts (fx_gd ok1) rfl rfl rfl (hC.2.2.2.2.2.2.1 _ hlink) (hts _ ok1.2.1) ok1.2.2 hR, hts _ ok2, trivial⟩
  have run := va_runSN (e := e) (below := below) (meth := meth) (locs := locs) (cells := 0) (slots := 0) (As := As.map (fx_tr E)) (rest := st.map (fx_tr E)) (g := F0 m pc ls (st0.map (fx_tr E))) ⟨hx, hb, hml, hown, hts⟩ (hT l E H.size) cw
    ⟨fx_blind _ _ _ _ _, fun U hU hW => ⟨rfl, by rw [hU], by rw [hU]; exact hP, by
      have z := hC.call hS hU hW
      rw [hU] at z ⊢
      exact z⟩⟩ rfl (by rw [List.length_map]; exact hn) hl.1 (by rw [hst]; simp) (lv_room (by rw [fx_sum]; exact hw)) hd ⟨Nat.le_refl 0, Nat.le_refl 0⟩
  refine fx_go run hS (fun v M' H1 locs1 hq hP1 hS1 => ?_)
  have z := kk v M' hq p l e s m args below meth c E X H1 locs1 ls hP1 hS1 hl
  cases v <;> exact z
theorem fx_mmax (pc : Nat) {x y : Int32} (hd : decode mt.2.1 pc = .ok (.invokestatic idx, 3)) (hlink : Cond.methodLink mt.1.cls idx Lib.Math.max.name ∈ wsL_law) (hf : 1 ≤ mt.2.2.2.2.1) (hlo : (st.map fun v => v.category).sum + 13 ≤ mt.2.2.2.2.2) (k : fx_V G mt Q (pc + 3) lv (.int (if x < y then y else x) :: st) M) : fx_V G mt Q pc lv (.int y :: .int x :: st) M :=
  fun p l e s m args below meth c E X H locs ls hP hS hl => va_mmax X.1 X.2.1 (X.2.2.2.1.trans hl.1.symm) X.2.2.2.2.1 (X.2.2.2.2.2.1 _ hlink) (X.2.2.2.2.2.1 _ wi_max_s) (X.2.2.2.2.2.1 _ wi_math) (X.2.2.2.2.2.1 _ wi_max_c) hf (by rw [fx_sum]; exact hlo) (Nat.le_refl 0) (Nat.le_refl 0) hd (k p l e s m args below meth c E X H locs ls hP hS hl)
theorem fx_mmin (pc : Nat) {x y : Int32} (hd : decode mt.2.1 pc = .ok (.invokestatic idx, 3)) (hlink : Cond.methodLink mt.1.cls idx Lib.Math.min.name ∈ wsL_law) (hf : 1 ≤ mt.2.2.2.2.1) (hlo : (st.map fun v => v.category).sum + 13 ≤ mt.2.2.2.2.2) (k : fx_V G mt Q (pc + 3) lv (.int (if y < x then y else x) :: st) M) : fx_V G mt Q pc lv (.int y :: .int x :: st) M :=
  fun p l e s m args below meth c E X H locs ls hP hS hl => va_mmin X.1 X.2.1 (X.2.2.2.1.trans hl.1.symm) X.2.2.2.2.1 (X.2.2.2.2.2.1 _ hlink) (X.2.2.2.2.2.1 _ wi_min_s) (X.2.2.2.2.2.1 _ wi_math) (X.2.2.2.2.2.1 _ wi_min_c) hf (by rw [fx_sum]; exact hlo) (Nat.le_refl 0) (Nat.le_refl 0) hd (k p l e s m args below meth c E X H locs ls hP hS hl)
theorem fx_mabs (pc : Nat) {x : Int32} (hd : decode mt.2.1 pc = .ok (.invokestatic idx, 3)) (hlink : Cond.methodLink mt.1.cls idx Lib.Math.abs.name ∈ wsL_law) (hf : 1 ≤ mt.2.2.2.2.1) (hlo : (st.map fun v => v.category).sum + 13 ≤ mt.2.2.2.2.2) (k : fx_V G mt Q (pc + 3) lv (.int (if 0 ≤ x then x else 0 - x) :: st) M) : fx_V G mt Q pc lv (.int x :: st) M :=
  fun p l e s m args below meth c E X H locs ls hP hS hl => va_mabs X.1 X.2.1 (X.2.2.2.1.trans hl.1.symm) X.2.2.2.2.1 (X.2.2.2.2.2.1 _ hlink) (X.2.2.2.2.2.1 _ wi_abs_s) (X.2.2.2.2.2.1 _ wi_math) (X.2.2.2.2.2.1 _ wi_abs_c) hf (by rw [fx_sum]; exact hlo) (Nat.le_refl 0) (Nat.le_refl 0) hd (k p l e s m args below meth c E X H locs ls hP hS hl)
theorem fx_copy (pc : Nat) {k0 k1 t n0 n1 : Nat} {sp dp nn : Int32} (ty : FieldType) (ok0 : fx_arr G k0 t n0) (ok1 : fx_arr G k1 t n1) (ht : ∀ E : fxE, (fx_tys E)[t]? = some (E.2.2.2.1 t, ty)) (hprim : refKind ty = false) (h1 : ¬ sp < 0) (h2 : ¬ dp < 0) (h3 : ¬ nn < 0) (h4 : sp.toNatClampNeg + nn.toNatClampNeg ≤ n0) (h5 : dp.toNatClampNeg + nn.toNatClampNeg ≤ n1) (hfit : ∀ i, i < nn.toNatClampNeg → fits ty (.int (M k0 (sp.toNatClampNeg + i))) = true)
    (hd : decode mt.2.1 pc = .ok (.invokestatic idx, 3)) (hlink : Cond.methodLink mt.1.cls idx arraycopyName ∈ wsL_law) (hf : 1 ≤ mt.2.2.2.2.1) (hlo : (st.map fun v => v.category).sum + (nativeFrameWords "java/lang/System" "arraycopy" 5 + 11) ≤ mt.2.2.2.2.2)
    (kk : fx_V G mt Q (pc + 3) lv st (fx_up M k1 (va_cpy (M k0) (M k1) sp.toNatClampNeg dp.toNatClampNeg nn.toNatClampNeg))) : fx_V G mt Q pc lv (.int nn :: .int dp :: .ref k1 :: .int sp :: .ref k0 :: st) M := by
  intro p l e s m args below meth c E X H locs ls hP hS hl
  obtain ⟨hx, hb, hr, hml, hown, hts, hlk, hC⟩ := id X
  have he0 := fx_w_at (G := G) (E := E) (M := M) ok0.1
  rw [ok0.2] at he0
  have he1 := fx_w_at (G := G) (E := E) (M := M) ok1.1
  rw [ok1.2] at he1
  refine va_copyi hx hb (hml.trans hl.1.symm) hown (hts _ hlink) (hts _ wi_copy_n) (hts _ wi_copy_s) (hts _ wi_sys) hC.1 hP (fx_D hC.2.1 M s.heap.size) hS k0 k1 t t he0 he1 (ht E) (ht E) hprim h1 h2 h3 h4 h5 hfit hf (by rw [fx_sum]; exact hlo) hd (fun H1 locs1 hP1 _ hS1 => ?_)
  rw [← ok1.2 E.1 E.2.2.2.1, fx_w_set ok1.1] at hP1
  exact kk p l e s m args below meth c E X H1 locs1 ls hP1 hS1 hl
end FXC
