/-! CONSTRUCTORS: a walk over the kit's worlds, the machine's context hidden -/
abbrev rxM : Type := MethodName × ByteArray × Nat × Nat × Nat × Nat × Nat
def rx_rm (mt : rxM) : Room := { frames := mt.2.2.2.1, cells := mt.2.2.2.2.2.1, slots := mt.2.2.2.2.2.2, locals := mt.2.2.2.2.1 }
def rx_ws (mt : rxM) : List Cond := Cond.code mt.1 mt.2.1 mt.2.2.1 none :: wsL_law
def rx_Q (E : fxE) (A : Nat → Prop) (Q : va_W → Prop) : Array Value → State → Outcome → State → Prop := fun _ st oc t => (oc = .returned none ∧ ∃ ws : va_W, Q ws ∧ va_P (E.2.1, E.2.2.1) vwCl ws t.heap ∧ va_D A ws) ∧ va_F A st t
def rx_P (E : fxE) (as : List Value) (ws : va_W) (sz : Nat) : Array Value → State → Prop := fun a U => a = as.toArray ∧ U.heap.size = sz ∧ va_P (E.2.1, E.2.2.1) vwCl ws U.heap ∧ va_D (fun _ => True) ws ∧ va_K (E.2.1, E.2.2.1) vwCl (fx_tys E) U ∧ va_AO RX3 U ∧ fx_K E (va_A ws sz) U U.heap
def rx_T (mt : rxM) (E : fxE) (as : List Value) (ws : va_W) (Q : va_W → Prop) : Prop := ∀ (l : Launch) (sz : Nat), Met l mt.1 (rx_ws mt) (rx_rm mt) (rx_P E as ws sz) (rx_Q E (va_A ws sz) Q) mt.2.2.2.2.2.1 mt.2.2.2.2.2.2 (va_A ws sz)
def rx_X (mt : rxM) (E : fxE) (A : Nat → Prop) (p : Program) (s : State) (m : MethodId) (args : Array Value) (meth : Method) (c : Code) : Prop := p.tables.exec = Jvm.exec ∧ c.code = mt.2.1 ∧ meth.sig.returnType = none ∧ c.maxLocals = mt.2.2.1 ∧ s.vm.findClass mt.1.cls = some m.cls ∧ (∀ w ∈ wsL_law, w.before args s = true) ∧ meth.locks = false ∧ meth.name = mt.1.name ∧ va_K (E.2.1, E.2.2.1) vwCl (fx_tys E) s ∧ va_AO RX3 s ∧ fx_K E A s s.heap ∧ ∀ q, s.heap.size ≤ q → A q
def rx_V (mt : rxM) (E : fxE) (A : Nat → Prop) (Q : va_W → Prop) (pc : Nat) (lv : List (Nat × Value)) (st : List Value) (ws : va_W) (cells slots : Nat) : Prop :=
  ∀ (p : Program) (l : Launch) (e : Env) (s : State) (m : MethodId) (args : Array Value) (below : List Frame) (meth : Method) (c : Code), rx_X mt E A p s m args meth c → ∀ (H : Heap) (locs : List Loc) (ls : Array Slot), va_P (E.2.1, E.2.2.1) vwCl ws H → va_D A ws → va_S A s.heap H locs → lv_has ls mt.2.2.1 lv →
    W p l e (rx_rm mt) s m args below meth c H locs cells slots (MQ below (rx_Q E A Q) args s mt.2.2.2.2.2.1 mt.2.2.2.2.2.2 A) (F0 m pc ls st)
theorem rx_enter {mt : rxM} {E : fxE} {as : List Value} {ws : va_W} {Q : va_W → Prop} (hy : plainName mt.1.cls = true) (hlen : (lg_sl as).length ≤ mt.2.2.1) (h : ∀ A, rx_V mt E A Q 0 (lv_args 0 as) [] ws 0 0) : rx_T mt E as ws Q := by
  intro l sz
  refine Met.ofW (cc := mt.2.1) (maxL := mt.2.2.1) (ret := none) hy rfl ?_
  intro p e s m args below meth c s₁ B hml hv
  obtain ⟨rfl, rfl, hP, hD, hK, hO, hC⟩ := hv
  have hts := atoms_spec (ws := rx_ws mt) B.pre
  have hown : s.vm.findClass mt.1.cls = some m.cls := findClass_of_methodNamed B.named
  have hnm : meth.name = mt.1.name := (name_of_methodNamed B.named B.method).1
  have hl := lv_entry as hlen
  rw [lg_entry_eq]
  generalize (lg_sl as ++ List.replicate (mt.2.2.1 - (lg_sl as).length) Slot.unset).toArray = ls at hl ⊢
  exact h _ p l e s m _ below meth c ⟨B.exec, B.bytes, B.returns, hml, hown, fun w hw => hts w (List.mem_cons_of_mem _ hw), B.notSynchronized, hnm, hK, hO, hC, fun q hq => Or.inr hq⟩ s.heap [] ls hP (hD.self (sz := s.heap.size)) va_S.rf hl
theorem rx_blind (E : fxE) (as : List Value) (ws : va_W) (sz : Nat) : FrameBlind (rx_P E as ws sz) := by
  intro a U g mk q
  obtain ⟨q0, q1, qP, qD, qK, qO, qC⟩ := q
  exact ⟨q0, q1, qP, qD, va_K.moved (u := U) (U := U.calling g mk a) (Vm.Alike.refl U.vm) qK, va_AO.moved (u := U) (U := U.calling g mk a) (Vm.Alike.refl U.vm) qO, qC.go (U := U.calling g mk a) (Vm.Alike.refl U.vm) (fun _ _ _ _ z => vk_R.same rfl z) (fun _ _ _ _ z => va_Nw.same rfl rfl z) (fun _ _ _ _ _ _ z => va_Nw.same rfl rfl z) (fun _ _ _ => rfl) (fun _ z => z)⟩
/-- of two array classes of one type -/
theorem rx_one {E : fxE} {s : State} {cA : ClassId} {t : Nat} {ty : FieldType} (ht : (fx_tys E)[t]? = some (E.2.2.2.1 t, ty)) (h : va_K (E.2.1, E.2.2.1) vwCl (fx_tys E ++ [(cA, ty)]) s) : cA = E.2.2.2.1 t := by
  have hlt : t < (fx_tys E).length := (List.getElem?_eq_some_iff.mp ht).1
  have h1 := (h.2 t (E.2.2.2.1 t, ty) (by rw [List.getElem?_append_left hlt]; exact ht)).2
  have h2 := (h.2 (fx_tys E).length (cA, ty) (by rw [List.getElem?_append_right (Nat.le_refl _), Nat.sub_self]; rfl)).2
  cases ty with
  | object C =>
    obtain ⟨_, _, _, _, _, a4⟩ := h1
    obtain ⟨_, _, _, _, _, b4⟩ := h2
    exact Option.some.inj (b4.symm.trans a4)
  | _ => exact Option.some.inj ((show s.vm.findClass _ = some cA from h2).symm.trans h1)
section RXV
variable {mt : rxM} {E : fxE} {A : Nat → Prop} {Q : va_W → Prop} {lv lv' : List (Nat × Value)} {st : List Value} {ws : va_W} {cells slots idx : Nat}
theorem rx_iconst (pc : Nat) {n : Int} {x : Int32} (hd : decode mt.2.1 pc = .ok (.iconst n, 1)) (hv : Int32.ofInt n = x) (k : rx_V mt E A Q (pc + 1) lv (.int x :: st) ws cells slots) : rx_V mt E A Q pc lv st ws cells slots :=
  fun p l e s m args below meth c X H locs ls hP hD hS hl => lv_iconst X.1 X.2.1 hd hv (k p l e s m args below meth c X H locs ls hP hD hS hl)
theorem rx_bipush (pc : Nat) {n : Int} {x : Int32} (hd : decode mt.2.1 pc = .ok (.bipush n, 2)) (hv : (Int8.ofInt n).toInt32 = x) (k : rx_V mt E A Q (pc + 2) lv (.int x :: st) ws cells slots) : rx_V mt E A Q pc lv st ws cells slots :=
  fun p l e s m args below meth c X H locs ls hP hD hS hl => lv_bipush X.1 X.2.1 hd hv (k p l e s m args below meth c X H locs ls hP hD hS hl)
theorem rx_sipush (pc : Nat) {n : Int} {x : Int32} (hd : decode mt.2.1 pc = .ok (.sipush n, 3)) (hv : (Int16.ofInt n).toInt32 = x) (k : rx_V mt E A Q (pc + 3) lv (.int x :: st) ws cells slots) : rx_V mt E A Q pc lv st ws cells slots :=
  fun p l e s m args below meth c X H locs ls hP hD hS hl => lv_sipush X.1 X.2.1 hd hv (k p l e s m args below meth c X H locs ls hP hD hS hl)
theorem rx_aload_n (pc : Nat) {kf : Fin 4} {i x : Nat} (hd : decode mt.2.1 pc = .ok (.aload_n kf, 1)) (hi : (kf : Nat) = i) (j : Nat) (hj : lv[j]? = some (i, .ref x)) (k : rx_V mt E A Q (pc + 1) lv (.ref x :: st) ws cells slots) : rx_V mt E A Q pc lv st ws cells slots :=
  fun p l e s m args below meth c X H locs ls hP hD hS hl => lv_aload_n X.1 X.2.1 hd hi (lv_at hl j hj) (k p l e s m args below meth c X H locs ls hP hD hS hl)
theorem rx_iload_n (pc : Nat) {kf : Fin 4} {i : Nat} {x : Int32} (hd : decode mt.2.1 pc = .ok (.iload_n kf, 1)) (hi : (kf : Nat) = i) (j : Nat) (hj : lv[j]? = some (i, .int x)) (k : rx_V mt E A Q (pc + 1) lv (.int x :: st) ws cells slots) : rx_V mt E A Q pc lv st ws cells slots :=
  fun p l e s m args below meth c X H locs ls hP hD hS hl => lv_iload_n X.1 X.2.1 hd hi (lv_at hl j hj) (k p l e s m args below meth c X H locs ls hP hD hS hl)
theorem rx_istore_n (pc : Nat) {kf : Fin 4} {i : Nat} {x : Int32} (hd : decode mt.2.1 pc = .ok (.istore_n kf, 1)) (hi : (kf : Nat) = i) (hn : i < mt.2.2.1) (hlv : (i, Value.int x) :: lv.filter (fun q => !(q.1 == i) && !(q.1 + 1 == i && q.2.category == 2)) = lv') (k : rx_V mt E A Q (pc + 1) lv' st ws cells slots) : rx_V mt E A Q pc lv (.int x :: st) ws cells slots :=
  fun p l e s m args below meth c X H locs ls hP hD hS hl => lv_istore_n X.1 X.2.1 hd hi hl hn hlv (fun ls' hl' => k p l e s m args below meth c X H locs ls' hP hD hS hl')
theorem rx_iinc (pc : Nat) {i : Nat} {n : Int} {x y : Int32} (hd : decode mt.2.1 pc = .ok (.iinc i n, 3)) (j : Nat) (hj : lv[j]? = some (i, .int x)) (hv : x + Int32.ofInt n = y) (hn : i < mt.2.2.1) (hlv : (i, Value.int y) :: lv.filter (fun q => !(q.1 == i) && !(q.1 + 1 == i && q.2.category == 2)) = lv') (k : rx_V mt E A Q (pc + 3) lv' st ws cells slots) : rx_V mt E A Q pc lv st ws cells slots :=
  fun p l e s m args below meth c X H locs ls hP hD hS hl => lv_iinc (k := j) X.1 X.2.1 hd hl hj hv hn hlv (fun ls' hl' => k p l e s m args below meth c X H locs ls' hP hD hS hl')
theorem rx_dup (pc : Nat) {v : Value} (hd : decode mt.2.1 pc = .ok (.dup, 1)) (hv : v.category = 1) (k : rx_V mt E A Q (pc + 1) lv (v :: v :: st) ws cells slots) : rx_V mt E A Q pc lv (v :: st) ws cells slots :=
  fun p l e s m args below meth c X H locs ls hP hD hS hl => lv_dup X.1 X.2.1 hd hv (k p l e s m args below meth c X H locs ls hP hD hS hl)
theorem rx_goto (pc tgt : Nat) {off : Int} (hd : decode mt.2.1 pc = .ok (.goto off, 3)) (ht : (pc : Int) + off = (tgt : Int)) (k : rx_V mt E A Q tgt lv st ws cells slots) : rx_V mt E A Q pc lv st ws cells slots :=
  fun p l e s m args below meth c X H locs ls hP hD hS hl => lv_goto X.1 X.2.1 hd ht (k p l e s m args below meth c X H locs ls hP hD hS hl)
theorem rx_geT (pc tgt : Nat) {off : Int} {x y : Int32} (hd : decode mt.2.1 pc = .ok (.if_icmp .ge off, 3)) (ht : (pc : Int) + off = (tgt : Int)) (h : y ≤ x) (k : rx_V mt E A Q tgt lv st ws cells slots) : rx_V mt E A Q pc lv (.int y :: .int x :: st) ws cells slots :=
  fun p l e s m args below meth c X H locs ls hP hD hS hl => lv_icmp_ge X.1 X.2.1 hd ht (fun _ => k p l e s m args below meth c X H locs ls hP hD hS hl) (fun z => absurd h z)
theorem rx_geF (pc tgt : Nat) {off : Int} {x y : Int32} (hd : decode mt.2.1 pc = .ok (.if_icmp .ge off, 3)) (ht : (pc : Int) + off = (tgt : Int)) (h : ¬ y ≤ x) (k : rx_V mt E A Q (pc + 3) lv st ws cells slots) : rx_V mt E A Q pc lv (.int y :: .int x :: st) ws cells slots :=
  fun p l e s m args below meth c X H locs ls hP hD hS hl => lv_icmp_ge X.1 X.2.1 hd ht (fun z => absurd z h) (fun _ => k p l e s m args below meth c X H locs ls hP hD hS hl)
theorem rx_obj (pc : Nat) {a : Nat} (hd : decode mt.2.1 pc = .ok (.invokespecial idx, 3)) (hlink : Cond.methodLink mt.1.cls idx objectInit ∈ wsL_law) (hi : Cond.instanceMethod objectInit ∈ wsL_law) (hc : Cond.code objectInit ⟨#[0xb1]⟩ 1 none ∈ wsL_law) (hf : 1 ≤ mt.2.2.2.1) (hlo : 2 * 0 + (st.map fun v => v.category).sum + 12 ≤ mt.2.2.2.2.1) (k : rx_V mt E A Q (pc + 3) lv st ws cells slots) : rx_V mt E A Q pc lv (.ref a :: st) ws cells slots := by
  intro p l e s m args below meth c X H locs ls hP hD hS hl
  refine W.objInit X.1 X.2.1 X.2.2.2.2.1 (X.2.2.2.2.2.1 _ hlink) (X.2.2.2.2.2.1 _ hi) (X.2.2.2.2.2.1 _ hc) (g := F0 m pc ls (.ref a :: st)) rfl (hl.1.trans X.2.2.2.1.symm) rfl hd hf hlo ?_
  exact k p l e s m args below meth c X H locs ls hP hD hS hl
theorem rx_new (pc : Nat) {ci N : Nat} {C : String} {T : u_T} (ty : Nat → FieldType) (hd : decode mt.2.1 pc = .ok (.new idx, 3)) (hin : ∀ w ∈ u_ws C T N, w ∈ wsL_law) (hty : ∀ k, k < N → parseFieldDescriptor (T k).2.2.1 = some (ty k)) (hcl : Cond.classLink mt.1.cls idx C ∈ wsL_law) (hinst : Cond.instantiable C N ∈ wsL_law) (hini : Cond.initialized C ∈ wsL_law) (hc : vwCl[ci]? = some (C, T, N)) {fs : List Value} (hfs : ∀ j, j < N → defaultValue (ty j) = vp_V fs j) (hcells : cells + 1 ≤ mt.2.2.2.2.2.1) (hslots : slots + N ≤ mt.2.2.2.2.2.2) (k : ∀ q : Nat, rx_V mt E A Q (pc + 3) lv (.ref q :: st) (ws ++ [(q, .inr (ci, fs))]) (cells + 1) (slots + N)) : rx_V mt E A Q pc lv st ws cells slots := by
  intro p l e s m args below meth c X H locs ls hP hD hS hl
  obtain ⟨hx, hb, hr, hml, hown, hts, hlk, hnm, hK, hO, hC, hA⟩ := id X
  exact va_new hx hb hts hin ty hty hown (hts _ hcl) (hts _ hinst) (hts _ hini) hK hP hD hS hA hc hfs hcells hslots hd (fun q H1 hP1 hD1 hS1 => k q p l e s m args below meth c X H1 locs ls hP1 hD1 hS1 hl)
theorem rx_newa (pc t : Nat) {atype : ArrayType} {n : Int32} {N : Nat} (hd : decode mt.2.1 pc = .ok (.newarray atype, 2)) (harr : Cond.arrayClass (newarray.typeOf atype) ∈ wsL_law) (ht : (fx_tys E)[t]? = some (E.2.2.2.1 t, newarray.typeOf atype)) (ha : ∀ cA : ClassId, vp_cell cA (N, .inl (fun _ => 0)) = arrV cA N (fun _ => defaultValue (newarray.typeOf atype))) (hn : ¬ n < 0) (hN : n.toNatClampNeg = N) (hbytes : N * componentBytes (newarray.typeOf atype) ≤ 536870912) (hcells : cells + 1 ≤ mt.2.2.2.2.2.1) (hslots : slots + N ≤ mt.2.2.2.2.2.2) (k : ∀ q : Nat, rx_V mt E A Q (pc + 2) lv (.ref q :: st) (ws ++ [(q, .inl (E.2.2.2.1 t, N, .inl (fun _ => 0)))]) (cells + 1) (slots + N)) : rx_V mt E A Q pc lv (.int n :: st) ws cells slots := by
  intro p l e s m args below meth c X H locs ls hP hD hS hl
  obtain ⟨hx, hb, hr, hml, hown, hts, hlk, hnm, hK, hO, hC, hA⟩ := id X
  refine va_newa hx hb (hts _ harr) rfl hK hP hD hS hA ha hn hN hbytes hcells hslots hd (fun q cA H1 hK1 hP1 hD1 hS1 => ?_)
  obtain rfl := rx_one ht hK1
  exact k q p l e s m args below meth c X H1 locs ls hP1 hD1 hS1 hl
theorem rx_newq (pc : Nat) {n : Int32} {N : Nat} (hd : decode mt.2.1 pc = .ok (.anewarray idx, 3)) (hcl : Cond.classLink mt.1.cls idx RX3 ∈ wsL_law) (hn : ¬ n < 0) (hN : n.toNatClampNeg = N) (hbytes : N * 4 ≤ 536870912) (hcells : cells + 1 ≤ mt.2.2.2.2.2.1) (hslots : slots + N ≤ mt.2.2.2.2.2.2) (k : ∀ q : Nat, rx_V mt E A Q (pc + 3) lv (.ref q :: st) (ws ++ [(q, .inl (E.2.2.2.1 3, N, .inr (.inr (.inr (.inr (fun _ => none))))))]) (cells + 1) (slots + N)) : rx_V mt E A Q pc lv (.int n :: st) ws cells slots := by
  intro p l e s m args below meth c X H locs ls hP hD hS hl
  obtain ⟨hx, hb, hr, hml, hown, hts, hlk, hnm, hK, hO, hC, hA⟩ := id X
  refine va_newq hx hb hown (hts _ hcl) hO hK hP hD hS hA hn hN hbytes hcells hslots hd (fun q cA H1 hK1 hP1 hD1 hS1 => ?_)
  obtain rfl := rx_one (t := 3) rfl hK1
  exact k q p l e s m args below meth c X H1 locs ls hP1 hD1 hS1 hl
theorem rx_get (pc q0 j : Nat) {a ci N : Nat} {C : String} {T : u_T} {fs : List Value} {v : Value} (hd : decode mt.2.1 pc = .ok (.getfield idx, 3)) (hin : ∀ w ∈ u_ws C T N, w ∈ wsL_law) (hlink : Cond.fieldLink mt.1.cls idx (T j).1 (T j).2.1 (T j).2.2.1 ∈ wsL_law) (he : ws[q0]? = some (a, .inr (ci, fs))) (hc : vwCl[ci]? = some (C, T, N)) (hj : j < N) (hv : fs[j]? = some v) (k : rx_V mt E A Q (pc + 3) lv (v :: st) ws cells slots) : rx_V mt E A Q pc lv (.ref a :: st) ws cells slots := by
  intro p l e s m args below meth c X H locs ls hP hD hS hl
  obtain ⟨hx, hb, hr, hml, hown, hts, hlk, hnm, hK, hO, hC, hA⟩ := id X
  exact va_get hx hb hts hin hown hK hP q0 he hc j hj (hts _ hlink) (fun _ h => h) hv hd (k p l e s m args below meth c X H locs ls hP hD hS hl)
theorem rx_put (pc q0 j : Nat) {a ci N : Nat} {C : String} {T : u_T} {fs : List Value} {v : Value} (ty0 : Nat → FieldType) {ty : FieldType} (hd : decode mt.2.1 pc = .ok (.putfield idx, 3)) (hin : ∀ w ∈ u_ws C T N, w ∈ wsL_law) (hty : ∀ k, k < N → parseFieldDescriptor (T k).2.2.1 = some (ty0 k)) (hnm0 : ∀ a, a < N → ∀ b, b < N → a ≠ b → (T a).2.1 ≠ (T b).2.1) (hlink : Cond.fieldLink mt.1.cls idx (T j).1 (T j).2.1 (T j).2.2.1 ∈ wsL_law) (he : ws[q0]? = some (a, .inr (ci, fs))) (hc : vwCl[ci]? = some (C, T, N)) (hj : j < N) (hfin : (T j).2.2.2 = false) (hd2 : parseFieldDescriptor (T j).2.2.1 = some ty) (hn : narrow ty v = v) (hf : fits ty v = true) (hl0 : j < fs.length) (k : rx_V mt E A Q (pc + 3) lv st (ws.set q0 (a, .inr (ci, fs.set j v))) cells slots) : rx_V mt E A Q pc lv (v :: .ref a :: st) ws cells slots := by
  intro p l e s m args below meth c X H locs ls hP hD hS hl
  obtain ⟨hx, hb, hr, hml, hown, hts, hlk, hnm, hK, hO, hC, hA⟩ := id X
  exact va_put hx hb hts hin ty0 hty hnm0 hown hK hP hD hS q0 he hc j hj (hts _ hlink) (fun _ h => h) hfin hd2 hn hf hl0 hd (fun H1 locs1 hP1 hD1 hS1 => k p l e s m args below meth c X H1 locs1 ls hP1 hD1 hS1 hl)
theorem rx_putF (pc q0 j : Nat) {a ci N : Nat} {C : String} {T : u_T} {fs : List Value} {v : Value} (ty0 : Nat → FieldType) {ty : FieldType} (hd : decode mt.2.1 pc = .ok (.putfield idx, 3)) (hin : ∀ w ∈ u_ws C T N, w ∈ wsL_law) (hty : ∀ k, k < N → parseFieldDescriptor (T k).2.2.1 = some (ty0 k)) (hnm0 : ∀ a, a < N → ∀ b, b < N → a ≠ b → (T a).2.1 ≠ (T b).2.1) (hlink : Cond.fieldLink mt.1.cls idx (T j).1 (T j).2.1 (T j).2.2.1 ∈ wsL_law) (he : ws[q0]? = some (a, .inr (ci, fs))) (hc : vwCl[ci]? = some (C, T, N)) (hj : j < N) (hfin : (T j).2.2.2 = true) (hi : mt.1.name = "<init>") (hdecl : (T j).1 = mt.1.cls) (hd2 : parseFieldDescriptor (T j).2.2.1 = some ty) (hn : narrow ty v = v) (hf : fits ty v = true) (hl0 : j < fs.length) (k : rx_V mt E A Q (pc + 3) lv st (ws.set q0 (a, .inr (ci, fs.set j v))) cells slots) : rx_V mt E A Q pc lv (v :: .ref a :: st) ws cells slots := by
  intro p l e s m args below meth c X H locs ls hP hD hS hl
  obtain ⟨hx, hb, hr, hml, hown, hts, hlk, hnm, hK, hO, hC, hA⟩ := id X
  exact va_putF hx hb hts hin ty0 hty hnm0 hown hK hP hD hS q0 he hc j hj (hts _ hlink) (fun _ h => h) hfin (hnm.trans hi) hdecl hd2 hn hf hl0 hd (fun H1 locs1 hP1 hD1 hS1 => k p l e s m args below meth c X H1 locs1 ls hP1 hD1 hS1 hl)
theorem rx_alen (pc q0 : Nat) {a n : Nat} {x : Int32} {f : Nat → Option Nat} (hd : decode mt.2.1 pc = .ok (.arraylength, 1)) (he : ws[q0]? = some (a, .inl (E.2.2.2.1 3, n, .inr (.inr (.inr (.inr f)))))) (hn : Int32.ofNat n = x) (k : rx_V mt E A Q (pc + 1) lv (.int x :: st) ws cells slots) : rx_V mt E A Q pc lv (.ref a :: st) ws cells slots := by
  intro p l e s m args below meth c X H locs ls hP hD hS hl
  obtain ⟨hx, hb, hr, hml, hown, hts, hlk, hnm, hK, hO, hC, hA⟩ := id X
  exact va_alen (ty := .object RX3) hx hb hK hP q0 3 he rfl hn hd (k p l e s m args below meth c X H locs ls hP hD hS hl)
theorem rx_aast (pc q0 qk : Nat) {a v n : Nat} {i : Int32} {vs : List Value} {f : Nat → Option Nat} (hd : decode mt.2.1 pc = .ok (.aastore, 1)) (he : ws[q0]? = some (a, .inl (E.2.2.2.1 3, n, .inr (.inr (.inr (.inr f)))))) (hv : ws[qk]? = some (v, .inr (3, vs))) (hi : fx_in i n = true) (k : rx_V mt E A Q (pc + 1) lv st (ws.set q0 (a, .inl (E.2.2.2.1 3, n, .inr (.inr (.inr (.inr (va_up f i.toNatClampNeg (some v)))))))) cells slots) : rx_V mt E A Q pc lv (.ref v :: .int i :: .ref a :: st) ws cells slots := by
  intro p l e s m args below meth c X H locs ls hP hD hS hl
  obtain ⟨hx, hb, hr, hml, hown, hts, hlk, hnm, hK, hO, hC, hA⟩ := id X
  exact va_astq hx hb hK hP hD hS q0 3 qk 3 (r := (RX3, TX3, 10)) he rfl hv rfl (fx_in_ok hi) hd (fun H1 locs1 hP1 hD1 hS1 => k p l e s m args below meth c X H1 locs1 ls hP1 hD1 hS1 hl)
theorem rx_aald (pc q0 : Nat) {a n v : Nat} {i : Int32} {f : Nat → Option Nat} (hd : decode mt.2.1 pc = .ok (.aaload, 1)) (he : ws[q0]? = some (a, .inl (E.2.2.2.1 3, n, .inr (.inr (.inr (.inr f)))))) (hi : fx_in i n = true) (hv : f i.toNatClampNeg = some v) (k : rx_V mt E A Q (pc + 1) lv (.ref v :: st) ws cells slots) : rx_V mt E A Q pc lv (.int i :: .ref a :: st) ws cells slots := by
  intro p l e s m args below meth c X H locs ls hP hD hS hl
  obtain ⟨hx, hb, hr, hml, hown, hts, hlk, hnm, hK, hO, hC, hA⟩ := id X
  refine va_aldq hx hb hK hP q0 3 (C := RX3) he rfl (fx_in_ok hi) hd ?_
  rw [hv]
  exact k p l e s m args below meth c X H locs ls hP hD hS hl
theorem rx_vret (pc : Nat) (hd : decode mt.2.1 pc = .ok (.return_, 1)) (hc : cells = mt.2.2.2.2.2.1) (hs : slots = mt.2.2.2.2.2.2) (hq : Q ws) : rx_V mt E A Q pc lv [] ws cells slots := by
  intro p l e s m args below meth c X H locs ls hP hD hS hl
  subst hc; subst hs
  exact W.vret X.1 X.2.1 X.2.2.1 (fun t ht hW => ⟨⟨rfl, ws, hq, by rw [ht]; exact hP, hD⟩, hS.F ht⟩) hS.2.2 hd X.2.2.2.2.2.2.1
/-- a constructor's call: the callee's cells cut out, what comes back put beside the rest -/
theorem rx_after {p : Program} {l : Launch} {e : Env} {s : State} {m : MethodId} {args : Array Value} {below : List Frame} {meth : Method} {c : Code} {H : Heap} {locs : List Loc} {ls : Array Slot} {pc : Nat} {st0 : List Value} {a : Array Value} {QQ : State → Prop} {wc wr : va_W} {Qk : va_W → Prop} {mc ms : Nat}
    (isC isR : List Nat) (hC : isC.map (fun i => ws[i]?) = wc.map some) (hR : isR.map (fun i => ws[i]?) = wr.map some) (hn : va_nd isR = true) (hdis : ∀ i ∈ isR, i ∉ isC)
    (hr : va_Run p l e (rx_rm mt) s m args below meth c H locs cells slots mc ms (F0 m pc ls st0) st (rx_Q E (va_A wc H.size) Qk a) (va_A wc H.size)) (hP : va_P (E.2.1, E.2.2.1) vwCl ws H) (hD : va_D A ws) (hS : va_S A s.heap H locs) (hA : ∀ q, s.heap.size ≤ q → A q)
    (kk : ∀ (w1 : va_W) (H1 : Heap) (locs1 : List Loc), Qk w1 → va_P (E.2.1, E.2.2.1) vwCl (wr ++ w1) H1 → va_D A (wr ++ w1) → va_S A s.heap H1 locs1 → W p l e (rx_rm mt) s m args below meth c H1 locs1 (cells + mc) (slots + ms) QQ (F0 m (pc + 3) ls st)) : W p l e (rx_rm mt) s m args below meth c H locs cells slots QQ (F0 m pc ls st0) := by
  have hF := va_free (wc := wc) hD hS hA isC hC
  intro T hT X
  obtain ⟨v, st₀, t, T', L, h0, X', hL, e1, e2, ⟨⟨hv, w1, hq, hP1, hD1⟩, hz, hk⟩, stp⟩ := hr T hT X
  cases hv
  rw [h0] at hz hk
  obtain ⟨hPj, hDj⟩ := va_join (wr := wr) (w1 := w1) hP hD isC isR hC hR hn hdis hk hF hP1 hD1
  obtain ⟨t2, a1, b1⟩ := kk w1 T'.heap (locs ++ L) hq (by rw [e1]; exact hPj) hDj
    ⟨Nat.le_trans hS.1 (by rw [e1]; exact hz), fun q h1 h2 => by rw [e1, hk q (Nat.lt_of_lt_of_le h1 hS.1) (fun z => h2 (hF q z))]; exact hS.2.1 q h1 h2, fun q hq => by
      rcases List.mem_append.mp hq with h | h
      · exact hS.2.2 q h
      · exact hF _ (hL q h)⟩ T' rfl X'
  exact ⟨t2, stp t2 a1, b1⟩
def rx_ok (mt : rxM) (n : Nat) : Prop := Cond.code mt.1 mt.2.1 mt.2.2.1 none ∈ wsL_law ∧ Cond.initialized mt.1.cls ∈ wsL_law ∧ (mt.1.cls ≠ "java/lang/invoke/MethodHandle" ∧ mt.1.cls ≠ "java/lang/invoke/VarHandle" ∧ (parseMethodDescriptor mt.1.desc).map (fun d => d.parameters.length) = some n) ∧ Cond.instanceMethod mt.1 ∈ wsL_law ∧ mt.1.name = "<init>"
theorem rx_gd {mt : rxM} {n : Nat} (h : rx_ok mt n) : GoodIn wsL_law (rx_ws mt) := by
  intro w hw
  rcases List.mem_cons.mp hw with e | e
  · subst e
    exact fx_gi h.1
  · exact fx_gi e
theorem rx_pre {s : State} {H : Heap} {locs : List Loc} {as : List Value} {wc : va_W} (isC : List Nat) (hC : isC.map (fun i => ws[i]?) = wc.map some) (hnC : va_nd isC = true) (hP : va_P (E.2.1, E.2.2.1) vwCl ws H) (hD : va_D A ws) (hS : va_S A s.heap H locs) (hA : ∀ q, s.heap.size ≤ q → A q) (hK : va_K (E.2.1, E.2.2.1) vwCl (fx_tys E) s) (hO : va_AO RX3 s) (hF : fx_K E A s s.heap) : PreS s H (rx_P E as wc H.size) as := by
  refine ⟨rx_blind _ _ _ _, fun U hU hW => ⟨rfl, by rw [hU], ?_, ?_, va_K.moved hW.alike hK, va_AO.moved hW.alike hO, ?_⟩⟩
  · rw [hU]
    intro k q hq
    have h1 : (wc.map some)[k]? = some (some q) := by rw [List.getElem?_map, hq]; rfl
    rw [← hC, List.getElem?_map] at h1
    cases hi : isC[k]? with
    | none => rw [hi] at h1; cases h1
    | some i =>
      rw [hi] at h1
      exact hP i q (Option.some.inj h1)
  · exact (hD.sub isC hnC hC).weaken (fun _ _ _ _ => trivial)
  · exact hF.go hW.alike (fun _ _ _ _ z => z.warm hW) (fun _ _ _ _ z => va_Nw.warmM hW z) (fun _ _ _ _ _ _ z => va_Nw.warmF hW z) (fun a ha hn => by rw [hU]; exact hS.2.1 a ha hn) (fun q hq => va_free (wc := wc) hD hS hA isC hC q hq)
theorem rx_callI (pc : Nat) {mt' : rxM} {n b : Nat} {As st0 : List Value} {wc wr : va_W} {Qk : va_W → Prop} (isC isR : List Nat) (ok : rx_ok mt' n) (hlink : Cond.methodLink mt.1.cls idx mt'.1 ∈ wsL_law) (hd : decode mt.2.1 pc = .ok (.invokespecial idx, 3)) (hT : rx_T mt' E (.ref b :: As) wc Qk) (hC : isC.map (fun i => ws[i]?) = wc.map some) (hR : isR.map (fun i => ws[i]?) = wr.map some) (hnC : va_nd isC = true) (hn : va_nd isR = true) (hdis : ∀ i ∈ isR, i ∉ isC) (hRm : mt'.2.2.2.1 + 1 ≤ mt.2.2.2.1 ∧ 8 + (mt'.2.2.1 + 11) + mt'.2.2.2.2.1 ≤ mt.2.2.2.2.1) (hcs : cells + mt'.2.2.2.2.2.1 ≤ mt.2.2.2.2.2.1 ∧ slots + mt'.2.2.2.2.2.2 ≤ mt.2.2.2.2.2.2) (hln : As.length = n) (hst : st0 = As.reverse ++ .ref b :: st) (hw : (st.map fun v => v.category).sum ≤ 8)
    (kk : ∀ w1, Qk w1 → rx_V mt E A Q (pc + 3) lv st (wr ++ w1) (cells + mt'.2.2.2.2.2.1) (slots + mt'.2.2.2.2.2.2)) : rx_V mt E A Q pc lv st0 ws cells slots := by
  intro p l e s m args below meth c X H locs ls hP hD hS hl
  obtain ⟨hx, hb, hr, hml, hown, hts, hlk, hnm, hK, hO, hF, hA⟩ := id X
  have cw : CallB (rx_rm mt) s args mt.1.cls idx mt'.1 mt'.2.1 mt'.2.2.1 none (rx_ws mt') (rx_rm mt') mt'.2.2.2.2.2.1 mt'.2.2.2.2.2.2 n ∧ mt'.1.name = "<init>" ∧ (Cond.instanceMethod mt'.1).before args s = true := ⟨callB_of n hts (rx_gd ok) rfl rfl rfl (hts _ ok.2.1) (hts _ hlink) ok.2.2.1 hRm, ok.2.2.2.2, hts _ ok.2.2.2.1⟩
  have run := va_runI (e := e) (below := below) (meth := meth) (locs := locs) (cells := cells) (slots := slots) (b := b) (As := As) (rest := st) (g := F0 m pc ls st0) ⟨hx, hb, hml, hown, hts⟩ (hT l H.size) cw (rx_pre isC hC hnC hP hD hS hA hK hO hF) rfl hln hl.1 hst (lv_room hw) hd hcs
  exact rx_after isC isR hC hR hn hdis run hP hD hS hA (fun w1 H1 locs1 hq hP1 hD1 hS1 => kk w1 hq p l e s m args below meth c X H1 locs1 ls hP1 hD1 hS1 hl)
theorem rx_callN (pc : Nat) {mt' : rxM} {n b : Nat} {host : String} {As st0 : List Value} {wc wr : va_W} {Qk : va_W → Prop} (isC isR : List Nat) (ok : rx_ok mt' n) (hlink : (mt.1.cls, idx, mt'.1, host) ∈ kxN) (hd : decode mt.2.1 pc = .ok (.invokespecial idx, 3)) (hT : rx_T mt' E (.ref b :: As) wc Qk) (hC : isC.map (fun i => ws[i]?) = wc.map some) (hR : isR.map (fun i => ws[i]?) = wr.map some) (hnC : va_nd isC = true) (hn : va_nd isR = true) (hdis : ∀ i ∈ isR, i ∉ isC) (hRm : mt'.2.2.2.1 + 1 ≤ mt.2.2.2.1 ∧ 8 + (mt'.2.2.1 + 11) + mt'.2.2.2.2.1 ≤ mt.2.2.2.2.1) (hcs : cells + mt'.2.2.2.2.2.1 ≤ mt.2.2.2.2.2.1 ∧ slots + mt'.2.2.2.2.2.2 ≤ mt.2.2.2.2.2.2) (hln : As.length = n) (hst : st0 = As.reverse ++ .ref b :: st) (hw : (st.map fun v => v.category).sum ≤ 8)
    (kk : ∀ w1, Qk w1 → rx_V mt E A Q (pc + 3) lv st (wr ++ w1) (cells + mt'.2.2.2.2.2.1) (slots + mt'.2.2.2.2.2.2)) : rx_V mt E A Q pc lv st0 ws cells slots := by
  intro p l e s m args below meth c X H locs ls hP hD hS hl
  obtain ⟨hx, hb, hr, hml, hown, hts, hlk, hnm, hK, hO, hF, hA⟩ := id X
  have cw : va_CN (rx_rm mt) s args mt.1.cls idx mt'.1 host mt'.2.1 mt'.2.2.1 none (rx_ws mt') (rx_rm mt') mt'.2.2.2.2.2.1 mt'.2.2.2.2.2.2 n ∧ mt'.1.name = "<init>" ∧ (Cond.instanceMethod mt'.1).before args s = true := ⟨va_cnB n hts (rx_gd ok) rfl rfl rfl (hF.2.2.2.2.1 _ hlink) (hts _ ok.2.1) ok.2.2.1 hRm, ok.2.2.2.2, hts _ ok.2.2.2.1⟩
  have run := va_runIN (e := e) (below := below) (meth := meth) (locs := locs) (cells := cells) (slots := slots) (b := b) (As := As) (rest := st) (g := F0 m pc ls st0) ⟨hx, hb, hml, hown, hts⟩ (hT l H.size) cw (rx_pre isC hC hnC hP hD hS hA hK hO hF) rfl hln hl.1 hst (lv_room hw) hd hcs
  exact rx_after isC isR hC hR hn hdis run hP hD hS hA (fun w1 H1 locs1 hq hP1 hD1 hS1 => kk w1 hq p l e s m args below meth c X H1 locs1 ls hP1 hD1 hS1 hl)
end RXV
