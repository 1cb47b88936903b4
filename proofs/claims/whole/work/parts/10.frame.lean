/-! THE FRAME. Pure memory M : handle → place → Int32; an environment E: addresses of handles, class ids, slots, array classes, the formatter; a group G: how many handles, and what cell each is. fx_V: a method's walk, said over pure memory alone; fx_T: its contract. -/
abbrev fxMem : Type := Nat → Nat → Int32
abbrev fxE : Type := (Nat → Nat) × (Nat → ClassId) × (Nat → Nat → Nat) × (Nat → ClassId) × Option Nat
abbrev fxG : Type := Nat × ((Nat → Nat) → (Nat → ClassId) → Nat → (Nat → Int32) → va_E)
abbrev fxM : Type := MethodName × ByteArray × Nat × Option FieldType × Nat × Nat
def fx_tr (E : fxE) (v : Value) : Value := match v with
  | .ref k => .ref (E.1 k)
  | .float _ => va_rf E.2.2.2.2
  | v => v
theorem fx_cat (E : fxE) (v : Value) : (fx_tr E v).category = v.category := by
  cases v with
  | float x =>
    show (va_rf E.2.2.2.2).category = _
    cases E.2.2.2.2 <;> rfl
  | _ => rfl
def fx_tl (E : fxE) (lv : List (Nat × Value)) : List (Nat × Value) := lv.map (fun q => (q.1, fx_tr E q.2))
def fx_w (G : fxG) (E : fxE) (M : fxMem) : va_W := (List.range G.1).map (fun k => (E.1 k, G.2 E.1 E.2.2.2.1 k (M k)))
def fx_up (M : fxMem) (k : Nat) (f : Nat → Int32) : fxMem := fun j => if j = k then f else M j
def fx_st (M : fxMem) (k j : Nat) (x : Int32) : fxMem := fx_up M k (upd (M k) j x)
def fx_A (G : fxG) (E : fxE) (sz : Nat) : Nat → Prop := fun q => (∃ k, k < G.1 ∧ q = E.1 k) ∨ sz ≤ q
def fx_tys (E : fxE) : List (ClassId × FieldType) := [(E.2.2.2.1 0, .int), (E.2.2.2.1 1, .byte), (E.2.2.2.1 2, .boolean), (E.2.2.2.1 3, .object RX3)]
theorem fx_w_at {G : fxG} {E : fxE} {M : fxMem} {k : Nat} (hk : k < G.1) : (fx_w G E M)[k]? = some (E.1 k, G.2 E.1 E.2.2.2.1 k (M k)) := by
  simp [fx_w, hk]
theorem fx_w_set {G : fxG} {E : fxE} {M : fxMem} {k : Nat} (hk : k < G.1) (f : Nat → Int32) : (fx_w G E M).set k (E.1 k, G.2 E.1 E.2.2.2.1 k f) = fx_w G E (fx_up M k f) := by
  apply List.ext_getElem?
  intro i
  rw [List.getElem?_set]
  by_cases hi : k = i
  · subst hi
    rw [if_pos rfl, if_pos (by simp [fx_w, hk]), fx_w_at hk]
    simp [fx_up]
  · rw [if_neg hi]
    by_cases hl : i < G.1
    · rw [fx_w_at hl, fx_w_at hl]
      simp [fx_up, Ne.symm hi]
    · simp [fx_w, hl]
theorem fx_D {G : fxG} {E : fxE} (h : ∀ i j, i < G.1 → j < G.1 → E.1 i = E.1 j → i = j) (M : fxMem) (sz : Nat) : va_D (fx_A G E sz) (fx_w G E M) := by
  have key : ∀ (i : Nat) (q : Nat × va_E), (fx_w G E M)[i]? = some q → i < G.1 ∧ q.1 = E.1 i := by
    intro i q hq
    by_cases hl : i < G.1
    · rw [fx_w_at hl] at hq
      cases hq
      exact ⟨hl, rfl⟩
    · simp [fx_w, hl] at hq
  refine ⟨fun i j a b ha hb e => ?_, fun k q hq => ?_⟩
  · obtain ⟨h1, h2⟩ := key i a ha
    obtain ⟨h3, h4⟩ := key j b hb
    exact h i j h1 h3 (by rw [← h2, ← h4]; exact e)
  · obtain ⟨h1, h2⟩ := key k q hq
    exact Or.inl ⟨k, h1, h2⟩
/-! what stands outside and never changes: String constants, static arrays, nest words -/
def kxS : List (String × Nat × String × List Int32) := [
  ("FieldBand$Sound", 31, "prckv", [112, 114, 99, 107, 118]),
  ("FieldBand$Reader", 82, "loud", [108, 111, 117, 100]),
  ("FieldBand$Reader", 84, "late", [108, 97, 116, 101]),
  ("FieldBand$Reader", 86, "speed", [115, 112, 101, 101, 100]),
  ("FieldBand$Reader", 88, "beat", [98, 101, 97, 116]),
  ("FieldBand$Reader", 90, "step", [115, 116, 101, 112]),
  ("FieldBand$Reader", 47, " ", [32]),
  ("FieldBand$Reader", 134, "0123456789", [48, 49, 50, 51, 52, 53, 54, 55, 56, 57]),
  ("FieldBand$Reader", 114, "!", [33]),
  ("FieldBand$Reader", 116, "(", [40]),
  ("FieldBand$Reader", 118, ")", [41]),
  ("FieldBand$Reader", 123, "prckv", [112, 114, 99, 107, 118]),
  ("FieldBand$Reader", 128, "<=>", [60, 61, 62]),
  ("FieldBand$Reader", 112, "&", [38]),
  ("FieldBand$Reader", 103, "|", [124]),
  ("FieldBand$Reader", 37, ";", [59]),
  ("FieldBandModel", 109, "oud ", [111, 117, 100, 32]),
  ("FieldBandModel", 91, "prckv", [112, 114, 99, 107, 118]),
  ("FieldBandModel", 97, "<=>", [60, 61, 62]),
  ("FieldBandModel", 115, "ate ", [97, 116, 101, 32]),
  ("FieldBandModel", 117, "peed ", [112, 101, 101, 100, 32]),
  ("FieldBandModel", 122, "tep ", [116, 101, 112, 32]),
  ("FieldBandModel", 124, "beat ", [98, 101, 97, 116, 32])]
def kx_at (i : Nat) : String × Nat × String × List Int32 := kxS.getD i ("", 0, "", [])
def kx_b (i : Nat) : List Int32 := (kx_at i).2.2.2
def kxA : List (String × String × List Int32) := [("FieldBand", "ABOVE", [-1, 0, 0, 0, 1, 2, 3]), ("FieldBand$Deed", "GOES_BODIES", [1, 11, -1, -1, -1, 51, -1]), ("FieldBand$Deed", "PLAYS_BODIES", [2, -1, 21, -1, -1, -1, 61]), ("FieldBand$Deed", "FITS_BODIES", [3, -1, -1, 31, 41, -1, -1])]
def kx_a (j : Nat) : String × String × List Int32 := kxA.getD j ("", "", [])
def kxN : List (String × Nat × MethodName × String) := [("FieldBand", 11, yX1_init, "FieldBand"), ("FieldBand", 40, yX0_init, "FieldBand"), ("FieldBand", 45, yX3_init, "FieldBand"), ("FieldBand$Sound", 86, yX6_rowOf, "FieldBand"), ("FieldBand$Sound", 89, yX6_columnOf, "FieldBand"), ("FieldBand$Sound", 104, yX6_isUnder, "FieldBand"), ("FieldBand$Sound", 114, yX6_far, "FieldBand"), ("FieldBand$Sound", 117, yX6_placeOfSeat, "FieldBand"), ("FieldBand$Ways", 57, yX6_far, "FieldBand"), ("FieldBand$Field", 56, yX6_rowOf, "FieldBand"), ("FieldBand$Field", 60, yX6_columnOf, "FieldBand"), ("FieldBand", 209, yX0_runFrom, "FieldBand")]
def fx_str (E : fxE) (A : Nat → Prop) (U : State) (H : Heap) (i : Nat) : Prop := va_O "java/lang/String" (E.1 (1000 + i)) A U H ∧ va_OF "java/lang/String" "coder" "B" (.int 0) (E.1 (1000 + i)) A U H ∧ va_OF "java/lang/String" "value" "[B" (.ref (E.1 (2000 + i))) (E.1 (1000 + i)) A U H ∧ va_T .byte (E.1 (2000 + i)) (kx_b i).length (fun j => .int ((kx_b i).getD j 0)) A U H
def fx_K (E : fxE) (A : Nat → Prop) (U : State) (H : Heap) : Prop :=
  (∀ i, i < 23 → fx_str E A U H i ∧ vk_R (kx_at i).1 (kx_at i).2.1 (kx_at i).2.2.1 (E.1 (1000 + i)) U) ∧ va_Z "java/lang/String" "COMPACT_STRINGS" "Z" (.int 1) A U H ∧ va_Z "jdk/internal/util/Preconditions" "SIOOBE_FORMATTER" "Ljava/util/function/BiFunction;" (va_rf E.2.2.2.2) A U H ∧ (∀ j, j < 4 → va_Z (kx_a j).1 (kx_a j).2.1 "[I" (.ref (E.1 (3000 + j))) A U H ∧ va_T .int (E.1 (3000 + j)) 7 (fun i => .int ((kx_a j).2.2.getD i 0)) A U H) ∧ (∀ q ∈ kxN, va_Nw (.methodLinkNest q.1 q.2.1 q.2.2.1 q.2.2.2) U) ∧ va_Nw (.fieldLinkNest "FieldBand$Deed" 32 "FieldBand" "ABOVE" "[I" "FieldBand") U
theorem fx_K.go {E : fxE} {A B : Nat → Prop} {s U : State} (h : fx_K E A s s.heap) (hal : s.vm.Alike U.vm) (hR : ∀ (own tx : String) (k a : Nat), vk_R own k tx a s → vk_R own k tx a U) (hM : ∀ (a : String) (i : Nat) (x : MethodName) (b : String), va_Nw (.methodLinkNest a i x b) s → va_Nw (.methodLinkNest a i x b) U) (hF : ∀ (a : String) (i : Nat) (b n d h : String), va_Nw (.fieldLinkNest a i b n d h) s → va_Nw (.fieldLinkNest a i b n d h) U) (hq : ∀ a : Nat, a < s.heap.size → ¬ A a → U.heap[a]? = s.heap[a]?) (hAB : ∀ q, B q → A q) : fx_K E B U U.heap := by
  obtain ⟨h1, h2, h3, h4, h5, h6⟩ := h
  refine ⟨fun i hi => ?_, ((va_Z.moved hal h2).kept hq).narrow hAB, ((va_Z.moved hal h3).kept hq).narrow hAB, fun j hj => ?_, fun q hq => hM _ _ _ _ (h5 q hq), hF _ _ _ _ _ _ h6⟩
  · obtain ⟨⟨a1, a2, a3, a4⟩, a5⟩ := h1 i hi
    exact ⟨⟨((va_O.moved hal a1).kept hq).narrow hAB, ((va_OF.moved hal a2).kept hq).narrow hAB, ((va_OF.moved hal a3).kept hq).narrow hAB, ((va_T.moved hal a4).kept hq).narrow hAB⟩, hR _ _ _ _ a5⟩
  · obtain ⟨a1, a2⟩ := h4 j hj
    exact ⟨((va_Z.moved hal a1).kept hq).narrow hAB, ((va_T.moved hal a2).kept hq).narrow hAB⟩
def fx_C (G : fxG) (E : fxE) (A : Nat → Prop) (U : State) (H : Heap) : Prop := va_K (E.2.1, E.2.2.1) vwCl (fx_tys E) U ∧ (∀ i j, i < G.1 → j < G.1 → E.1 i = E.1 j → i = j) ∧ fx_K E A U H
theorem fx_C.call {G : fxG} {E : fxE} {s U : State} {H : Heap} {locs : List Loc} (h : fx_C G E (fx_A G E s.heap.size) s s.heap) (hS : va_S (fx_A G E s.heap.size) s.heap H locs) (hU : U.heap = H) (hW : s.WarmedH U.vm) : fx_C G E (fx_A G E U.heap.size) U U.heap := by
  obtain ⟨h1, h2, h3⟩ := h
  refine ⟨va_K.moved hW.alike h1, h2, h3.go hW.alike (fun _ _ _ _ z => z.warm hW) (fun _ _ _ _ z => va_Nw.warmM hW z) (fun _ _ _ _ _ _ z => va_Nw.warmF hW z) (fun a ha hn => by rw [hU]; exact hS.2.1 a ha hn) (fun q hq => ?_)⟩
  rcases hq with z | z
  · exact Or.inl z
  · exact Or.inr (Nat.le_trans (by rw [hU]; exact hS.1) z)
theorem fx_C.same {G : fxG} {E : fxE} {A : Nat → Prop} {u U : State} (hv : U.vm = u.vm) (hh : U.heap = u.heap) (h : fx_C G E A u u.heap) : fx_C G E A U U.heap := by
  obtain ⟨h1, h2, h3⟩ := h
  have hal : u.vm.Alike U.vm := by rw [hv]; exact Vm.Alike.refl u.vm
  exact ⟨va_K.moved hal h1, h2, h3.go hal (fun _ _ _ _ z => vk_R.same hv z) (fun _ _ _ _ z => va_Nw.same rfl hv.symm z) (fun _ _ _ _ _ _ z => va_Nw.same rfl hv.symm z) (fun a _ _ => by rw [hh]) (fun _ z => z)⟩
/-! contracts -/
def fx_P (G : fxG) (E : fxE) (as : List Value) (M : fxMem) (sz : Nat) : Array Value → State → Prop := fun a U => a = (as.map (fx_tr E)).toArray ∧ U.heap.size = sz ∧ va_P (E.2.1, E.2.2.1) vwCl (fx_w G E M) U.heap ∧ fx_C G E (fx_A G E sz) U U.heap
def fx_Q (G : fxG) (E : fxE) (Q : Option Value → fxMem → Prop) : Array Value → State → Outcome → State → Prop := fun _ st oc t => (∃ (v : Option Value) (M : fxMem), oc = .returned (v.map (fx_tr E)) ∧ Q v M ∧ va_P (E.2.1, E.2.2.1) vwCl (fx_w G E M) t.heap) ∧ va_F (fx_A G E st.heap.size) st t
def fx_ws (mt : fxM) : List Cond := Cond.code mt.1 mt.2.1 mt.2.2.1 mt.2.2.2.1 :: wsL_law
def fx_rm (mt : fxM) : Room := { frames := mt.2.2.2.2.1, cells := 0, slots := 0, locals := mt.2.2.2.2.2 }
def fx_T (G : fxG) (mt : fxM) (as : List Value) (M : fxMem) (Q : Option Value → fxMem → Prop) : Prop := ∀ (l : Launch) (E : fxE) (sz : Nat), Met l mt.1 (fx_ws mt) (fx_rm mt) (fx_P G E as M sz) (fx_Q G E Q) 0 0 (fx_A G E sz)
/-! the judgement -/
def fx_X (G : fxG) (mt : fxM) (p : Program) (s : State) (m : MethodId) (args : Array Value) (meth : Method) (c : Code) (E : fxE) : Prop := p.tables.exec = Jvm.exec ∧ c.code = mt.2.1 ∧ meth.sig.returnType = mt.2.2.2.1 ∧ c.maxLocals = mt.2.2.1 ∧ s.vm.findClass mt.1.cls = some m.cls ∧ (∀ w ∈ wsL_law, w.before args s = true) ∧ meth.locks = false ∧ fx_C G E (fx_A G E s.heap.size) s s.heap
def fx_V (G : fxG) (mt : fxM) (Q : Option Value → fxMem → Prop) (pc : Nat) (lv : List (Nat × Value)) (st : List Value) (M : fxMem) : Prop :=
  ∀ (p : Program) (l : Launch) (e : Env) (s : State) (m : MethodId) (args : Array Value) (below : List Frame) (meth : Method) (c : Code) (E : fxE), fx_X G mt p s m args meth c E → ∀ (H : Heap) (locs : List Loc) (ls : Array Slot), va_P (E.2.1, E.2.2.1) vwCl (fx_w G E M) H → va_S (fx_A G E s.heap.size) s.heap H locs → lv_has ls mt.2.2.1 (fx_tl E lv) →
    W p l e (fx_rm mt) s m args below meth c H locs 0 0 (MQ below (fx_Q G E Q) args s 0 0 (fx_A G E s.heap.size)) (F0 m pc ls (st.map (fx_tr E)))
theorem fx_enter {G : fxG} {mt : fxM} {as : List Value} {M : fxMem} {Q : Option Value → fxMem → Prop} (lv : List (Nat × Value)) (hy : plainName mt.1.cls = true) (hlv : ∀ E : fxE, lv_args 0 (as.map (fx_tr E)) = fx_tl E lv) (hlen : ∀ E : fxE, (lg_sl (as.map (fx_tr E))).length ≤ mt.2.2.1) (h : fx_V G mt Q 0 lv [] M) : fx_T G mt as M Q := by
  intro l E sz
  refine Met.ofW (cc := mt.2.1) (maxL := mt.2.2.1) (ret := mt.2.2.2.1) hy rfl ?_
  intro p e s m args below meth c s₁ B hml hv
  obtain ⟨rfl, rfl, hP, hC⟩ := hv
  have hts := atoms_spec (ws := fx_ws mt) B.pre
  have hown : s.vm.findClass mt.1.cls = some m.cls := findClass_of_methodNamed B.named
  have hl := lv_entry (as.map (fx_tr E)) (hlen E)
  rw [lg_entry_eq]
  generalize (lg_sl (as.map (fx_tr E)) ++ List.replicate (mt.2.2.1 - (lg_sl (as.map (fx_tr E))).length) Slot.unset).toArray = ls at hl ⊢
  rw [hlv] at hl
  exact h p l e s m _ below meth c E ⟨B.exec, B.bytes, B.returns, hml, hown, fun w hw => hts w (List.mem_cons_of_mem _ hw), B.notSynchronized, hC⟩ s.heap [] ls hP va_S.rf hl
