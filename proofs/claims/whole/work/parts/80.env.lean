theorem cL9 {a b : Cond} {args : Array Value} {s : State} (h : (Jvm.Cond.and a b).before args s = true) : a.before args s = true := by
  rw [Cond.before_and, Bool.and_eq_true] at h
  exact h.1
theorem cR9 {a b : Cond} {args : Array Value} {s : State} (h : (Jvm.Cond.and a b).before args s = true) : b.before args s = true := by
  rw [Cond.before_and, Bool.and_eq_true] at h
  exact h.2
theorem fx_strOf {args : Array Value} {s : State} {tm : Term} {b : List Int32} {A : Nat → Prop} (hb : b.length < 2 ^ 31) (hex : (Cond.exactly tm "java/lang/String").before args s = true) (hco : (Cond.eq (.field tm "java/lang/String" "coder" "B") (.int 0)).before args s = true) (har : (Cond.arrayOf (.field tm "java/lang/String" "value" "[B") .byte).before args s = true) (hle : (Cond.eq (.length (.field tm "java/lang/String" "value" "[B")) (.int (Int32.ofNat b.length))).before args s = true) (hel : ∀ j : Nat, j < b.length → (Cond.eq (.elem (.field tm "java/lang/String" "value" "[B") (.int (Int32.ofNat j))) (.int (b.getD j 0))).before args s = true) (hA : ∀ a : Nat, a < s.heap.size → ¬ A a) : ∃ q : Nat × Nat, tm.eval args s none [] s = some (.ref q.1) ∧ va_O "java/lang/String" q.1 A s s.heap ∧ va_OF "java/lang/String" "coder" "B" (.int 0) q.1 A s s.heap ∧ va_OF "java/lang/String" "value" "[B" (.ref q.2) q.1 A s s.heap ∧ va_T .byte q.2 b.length (fun j => .int (b.getD j 0)) A s s.heap := by
  obtain ⟨a, c, cA, kA, q1, q2, q3, q4, q5, q6, -⟩ := Cond.exactly_spec (args := args) (first := s) (o := none) (s := s) (idx := []) (t := tm) (cls := "java/lang/String") hex
  obtain ⟨t, ht, hT⟩ := va_Tof (f := fun j => .int (b.getD j 0)) (A := A) hb har (va_eqt hle) (fun j hj => va_eqt (hel j hj)) hA
  exact ⟨(a, t), q1, ⟨cA, q3, q5, by rw [q6]; exact q2, hA a (Array.getElem?_eq_some_iff.mp q3).1⟩, vk_OFof q1 (va_eqt hco) hA, vk_OFof q1 ht hA, hT⟩
theorem fx_stAr {args : Array Value} {s : State} {C n : String} {b : List Int32} {A : Nat → Prop} (hb : b.length < 2 ^ 31) (har : (Cond.arrayOf (.static C n "[I") .int).before args s = true) (hle : (Cond.eq (.length (.static C n "[I")) (.int (Int32.ofNat b.length))).before args s = true) (hel : ∀ j : Nat, j < b.length → (Cond.eq (.elem (.static C n "[I") (.int (Int32.ofNat j))) (.int (b.getD j 0))).before args s = true) (hl : (Cond.laysStatic C n "[I").before args s = true) (hini : (Cond.initialized C).before args s = true) (hA : ∀ a : Nat, a < s.heap.size → ¬ A a) : ∃ t : Nat, va_Z C n "[I" (.ref t) A s s.heap ∧ va_T .int t b.length (fun j => .int (b.getD j 0)) A s s.heap := by
  obtain ⟨t, ht, hT⟩ := va_Tof (f := fun j => .int (b.getD j 0)) (A := A) hb har (va_eqt hle) (fun j hj => va_eqt (hel j hj)) hA
  exact ⟨t, va_Zref hl hini ht hA, hT⟩
def R_law : String := "FieldBandLaw"
def lw_P (b : Addr) (xs : List Int32) (args : Array Value) (s : State) : Prop := args = #[.ref b] ∧ s.IntsAt b xs ∧ xs.length ≤ 2048 ∧ (Jvm.Cond.and given_1 narrow_1).before args s = true
def lw_Q (_ : Array Value) (s : State) (o : Outcome) (t : State) : Prop := o = .returned (some (.int 1)) ∧ Framed s o t [] 600000 7302250
def lw_Z (below : List Frame) (a : Array Value) (s : State) : State → Prop := fun t => ∃ o, t.status = .running ∧ Ended t below o ∧ lw_Q a s o t
/-- the law's own end, with 1 on the stack, nothing written that was there before, its room as the claim has it -/
theorem lw_ret {p : Program} {l : Launch} {e : Env} {s : State} {m : MethodId} {below : List Frame} {meth : Method} {c : Code} {b : Nat} (hx : p.tables.exec = Jvm.exec) (hb : c.code = code) (hr : meth.sig.returnType = ret) (hlocks : meth.locks = false) {pc : Nat} {H : Heap} {ls : Array Slot} (hdg : decode code pc = .ok (.ireturn, 1)) : W p l e room_1 s m #[Value.ref b] below meth c H [] 600000 7302250 (lw_Z below #[Value.ref b] s) (F0 m pc ls [.int 1]) := by
  intro T hT X
  obtain ⟨fs, hret, hrun, hended, hW, hframe⟩ := X.leave (v := some (.int 1)) (hlocks := hlocks) (fun h => by rw [hr] at h; cases h)
  have hmeth' : T.vm.method? m = some meth := X.method'
  refine ⟨T.setFrames fs, ?_, .returned (some (.int 1)), hrun, hended, rfl, ⟨_, rfl⟩, hW, hframe⟩
  jvm_step X.here [X.here.top, hx, hb, hdg, hmeth', hr, ret, narrow_b1]
  (try refine ⟨rfl, ?_⟩); (try refine ⟨rfl, ?_⟩)
  first | (intro acts; rw [hret _ acts rfl rfl rfl]) | rw [hret _ _ rfl rfl rfl]
  exact Steps.refl _
/-- what holds at the law's entry: the machine, the code, the tables' words (any of lw_tbl by 'hts w (by decide +kernel)'), the script of L ints xs at the cell b, what the Statement gives of the start (any of its parts by flat_of_before) -/
def lw_At (p : Program) (s : State) (m : MethodId) (meth : Method) (c : Code) (b L : Nat) (xs : Nat → Int32) : Prop :=
  p.tables.exec = Jvm.exec ∧ c.code = code ∧ meth.sig.returnType = ret ∧ c.maxLocals = 4 ∧ s.vm.findClass R_law = some m.cls ∧ (∀ w ∈ lw_tbl, w.before #[Value.ref b] s = true) ∧ va_X b L xs s s.heap ∧ b < s.heap.size ∧ meth.locks = false ∧ (Jvm.Cond.and given_1 narrow_1).before #[Value.ref b] s = true
set_option maxRecDepth 100000 in
theorem fx_s0 {p : Program} {s : State} {m : MethodId} {meth : Method} {c : Code} {b L : Nat} {xs : Nat → Int32} (C0 : lw_At p s m meth c b L xs) : ∃ q : Nat × Nat, (Term.string "FieldBand$Sound" 31).eval #[Value.ref b] s none [] s = some (.ref q.1) ∧ va_O "java/lang/String" q.1 (fun q => s.heap.size ≤ q) s s.heap ∧ va_OF "java/lang/String" "coder" "B" (.int 0) q.1 (fun q => s.heap.size ≤ q) s s.heap ∧ va_OF "java/lang/String" "value" "[B" (.ref q.2) q.1 (fun q => s.heap.size ≤ q) s s.heap ∧ va_T .byte q.2 (kx_b 0).length (fun j => .int ((kx_b 0).getD j 0)) (fun q => s.heap.size ≤ q) s s.heap := by
  have hg := C0.2.2.2.2.2.2.2.2.2
  exact fx_strOf (b := [112, 114, 99, 107, 118]) (by decide) (cL9 (cL9 (cR9 (cL9 (cR9 (cR9 (cL9 (cL9 (cL9 (cR9 hg)))))))))) (cR9 (cL9 (cR9 (cL9 (cR9 (cR9 (cL9 (cL9 (cL9 (cR9 hg)))))))))) (cL9 (cR9 (cR9 (cL9 (cR9 (cR9 (cL9 (cL9 (cL9 (cR9 hg)))))))))) (cR9 (cR9 (cR9 (cL9 (cR9 (cR9 (cL9 (cL9 (cL9 (cR9 hg)))))))))) (fun j hj => match j, hj with | 0, _ => (cL9 (cL9 (cL9 (cR9 (cR9 (cR9 (cL9 (cL9 (cL9 (cR9 hg)))))))))) | 1, _ => (cR9 (cL9 (cL9 (cR9 (cR9 (cR9 (cL9 (cL9 (cL9 (cR9 hg)))))))))) | 2, _ => (cL9 (cR9 (cL9 (cR9 (cR9 (cR9 (cL9 (cL9 (cL9 (cR9 hg)))))))))) | 3, _ => (cR9 (cR9 (cL9 (cR9 (cR9 (cR9 (cL9 (cL9 (cL9 (cR9 hg)))))))))) | 4, _ => (cL9 (cL9 (cR9 (cR9 (cR9 (cR9 (cL9 (cL9 (cL9 (cR9 hg)))))))))) | n + 5, h => absurd h (by simp)) (fun a ha => Nat.not_le.mpr ha)
set_option maxRecDepth 100000 in
theorem fx_s1 {p : Program} {s : State} {m : MethodId} {meth : Method} {c : Code} {b L : Nat} {xs : Nat → Int32} (C0 : lw_At p s m meth c b L xs) : ∃ q : Nat × Nat, (Term.string "FieldBand$Reader" 82).eval #[Value.ref b] s none [] s = some (.ref q.1) ∧ va_O "java/lang/String" q.1 (fun q => s.heap.size ≤ q) s s.heap ∧ va_OF "java/lang/String" "coder" "B" (.int 0) q.1 (fun q => s.heap.size ≤ q) s s.heap ∧ va_OF "java/lang/String" "value" "[B" (.ref q.2) q.1 (fun q => s.heap.size ≤ q) s s.heap ∧ va_T .byte q.2 (kx_b 1).length (fun j => .int ((kx_b 1).getD j 0)) (fun q => s.heap.size ≤ q) s s.heap := by
  have hg := C0.2.2.2.2.2.2.2.2.2
  exact fx_strOf (b := [108, 111, 117, 100]) (by decide) (cR9 (cL9 (cR9 (cR9 (cR9 (cR9 (cL9 (cL9 (cL9 (cR9 hg)))))))))) (cL9 (cR9 (cR9 (cR9 (cR9 (cR9 (cL9 (cL9 (cL9 (cR9 hg)))))))))) (cR9 (cR9 (cR9 (cR9 (cR9 (cR9 (cL9 (cL9 (cL9 (cR9 hg)))))))))) (cL9 (cL9 (cL9 (cL9 (cL9 (cR9 (cL9 (cL9 (cR9 hg))))))))) (fun j hj => match j, hj with | 0, _ => (cL9 (cR9 (cL9 (cL9 (cL9 (cL9 (cR9 (cL9 (cL9 (cR9 hg)))))))))) | 1, _ => (cR9 (cR9 (cL9 (cL9 (cL9 (cL9 (cR9 (cL9 (cL9 (cR9 hg)))))))))) | 2, _ => (cL9 (cL9 (cR9 (cL9 (cL9 (cL9 (cR9 (cL9 (cL9 (cR9 hg)))))))))) | 3, _ => (cR9 (cL9 (cR9 (cL9 (cL9 (cL9 (cR9 (cL9 (cL9 (cR9 hg)))))))))) | n + 4, h => absurd h (by simp)) (fun a ha => Nat.not_le.mpr ha)
set_option maxRecDepth 100000 in
theorem fx_s2 {p : Program} {s : State} {m : MethodId} {meth : Method} {c : Code} {b L : Nat} {xs : Nat → Int32} (C0 : lw_At p s m meth c b L xs) : ∃ q : Nat × Nat, (Term.string "FieldBand$Reader" 84).eval #[Value.ref b] s none [] s = some (.ref q.1) ∧ va_O "java/lang/String" q.1 (fun q => s.heap.size ≤ q) s s.heap ∧ va_OF "java/lang/String" "coder" "B" (.int 0) q.1 (fun q => s.heap.size ≤ q) s s.heap ∧ va_OF "java/lang/String" "value" "[B" (.ref q.2) q.1 (fun q => s.heap.size ≤ q) s s.heap ∧ va_T .byte q.2 (kx_b 2).length (fun j => .int ((kx_b 2).getD j 0)) (fun q => s.heap.size ≤ q) s s.heap := by
  have hg := C0.2.2.2.2.2.2.2.2.2
  exact fx_strOf (b := [108, 97, 116, 101]) (by decide) (cR9 (cR9 (cR9 (cL9 (cL9 (cL9 (cR9 (cL9 (cL9 (cR9 hg)))))))))) (cL9 (cL9 (cL9 (cR9 (cL9 (cL9 (cR9 (cL9 (cL9 (cR9 hg)))))))))) (cR9 (cL9 (cL9 (cR9 (cL9 (cL9 (cR9 (cL9 (cL9 (cR9 hg)))))))))) (cL9 (cR9 (cL9 (cR9 (cL9 (cL9 (cR9 (cL9 (cL9 (cR9 hg)))))))))) (fun j hj => match j, hj with | 0, _ => (cR9 (cR9 (cL9 (cR9 (cL9 (cL9 (cR9 (cL9 (cL9 (cR9 hg)))))))))) | 1, _ => (cL9 (cL9 (cR9 (cR9 (cL9 (cL9 (cR9 (cL9 (cL9 (cR9 hg)))))))))) | 2, _ => (cR9 (cL9 (cR9 (cR9 (cL9 (cL9 (cR9 (cL9 (cL9 (cR9 hg)))))))))) | 3, _ => (cL9 (cR9 (cR9 (cR9 (cL9 (cL9 (cR9 (cL9 (cL9 (cR9 hg)))))))))) | n + 4, h => absurd h (by simp)) (fun a ha => Nat.not_le.mpr ha)
set_option maxRecDepth 100000 in
theorem fx_s3 {p : Program} {s : State} {m : MethodId} {meth : Method} {c : Code} {b L : Nat} {xs : Nat → Int32} (C0 : lw_At p s m meth c b L xs) : ∃ q : Nat × Nat, (Term.string "FieldBand$Reader" 86).eval #[Value.ref b] s none [] s = some (.ref q.1) ∧ va_O "java/lang/String" q.1 (fun q => s.heap.size ≤ q) s s.heap ∧ va_OF "java/lang/String" "coder" "B" (.int 0) q.1 (fun q => s.heap.size ≤ q) s s.heap ∧ va_OF "java/lang/String" "value" "[B" (.ref q.2) q.1 (fun q => s.heap.size ≤ q) s s.heap ∧ va_T .byte q.2 (kx_b 3).length (fun j => .int ((kx_b 3).getD j 0)) (fun q => s.heap.size ≤ q) s s.heap := by
  have hg := C0.2.2.2.2.2.2.2.2.2
  exact fx_strOf (b := [115, 112, 101, 101, 100]) (by decide) (cL9 (cR9 (cL9 (cL9 (cR9 (cL9 (cR9 (cL9 (cL9 (cR9 hg)))))))))) (cR9 (cR9 (cL9 (cL9 (cR9 (cL9 (cR9 (cL9 (cL9 (cR9 hg)))))))))) (cL9 (cL9 (cR9 (cL9 (cR9 (cL9 (cR9 (cL9 (cL9 (cR9 hg)))))))))) (cR9 (cL9 (cR9 (cL9 (cR9 (cL9 (cR9 (cL9 (cL9 (cR9 hg)))))))))) (fun j hj => match j, hj with | 0, _ => (cL9 (cR9 (cR9 (cL9 (cR9 (cL9 (cR9 (cL9 (cL9 (cR9 hg)))))))))) | 1, _ => (cR9 (cR9 (cR9 (cL9 (cR9 (cL9 (cR9 (cL9 (cL9 (cR9 hg)))))))))) | 2, _ => (cL9 (cL9 (cL9 (cR9 (cR9 (cL9 (cR9 (cL9 (cL9 (cR9 hg)))))))))) | 3, _ => (cR9 (cL9 (cL9 (cR9 (cR9 (cL9 (cR9 (cL9 (cL9 (cR9 hg)))))))))) | 4, _ => (cL9 (cR9 (cL9 (cR9 (cR9 (cL9 (cR9 (cL9 (cL9 (cR9 hg)))))))))) | n + 5, h => absurd h (by simp)) (fun a ha => Nat.not_le.mpr ha)
set_option maxRecDepth 100000 in
theorem fx_s4 {p : Program} {s : State} {m : MethodId} {meth : Method} {c : Code} {b L : Nat} {xs : Nat → Int32} (C0 : lw_At p s m meth c b L xs) : ∃ q : Nat × Nat, (Term.string "FieldBand$Reader" 88).eval #[Value.ref b] s none [] s = some (.ref q.1) ∧ va_O "java/lang/String" q.1 (fun q => s.heap.size ≤ q) s s.heap ∧ va_OF "java/lang/String" "coder" "B" (.int 0) q.1 (fun q => s.heap.size ≤ q) s s.heap ∧ va_OF "java/lang/String" "value" "[B" (.ref q.2) q.1 (fun q => s.heap.size ≤ q) s s.heap ∧ va_T .byte q.2 (kx_b 4).length (fun j => .int ((kx_b 4).getD j 0)) (fun q => s.heap.size ≤ q) s s.heap := by
  have hg := C0.2.2.2.2.2.2.2.2.2
  exact fx_strOf (b := [98, 101, 97, 116]) (by decide) (cL9 (cR9 (cR9 (cR9 (cR9 (cL9 (cR9 (cL9 (cL9 (cR9 hg)))))))))) (cR9 (cR9 (cR9 (cR9 (cR9 (cL9 (cR9 (cL9 (cL9 (cR9 hg)))))))))) (cL9 (cL9 (cL9 (cL9 (cR9 (cR9 (cL9 (cL9 (cR9 hg))))))))) (cL9 (cR9 (cL9 (cL9 (cL9 (cR9 (cR9 (cL9 (cL9 (cR9 hg)))))))))) (fun j hj => match j, hj with | 0, _ => (cR9 (cR9 (cL9 (cL9 (cL9 (cR9 (cR9 (cL9 (cL9 (cR9 hg)))))))))) | 1, _ => (cL9 (cL9 (cR9 (cL9 (cL9 (cR9 (cR9 (cL9 (cL9 (cR9 hg)))))))))) | 2, _ => (cR9 (cL9 (cR9 (cL9 (cL9 (cR9 (cR9 (cL9 (cL9 (cR9 hg)))))))))) | 3, _ => (cL9 (cR9 (cR9 (cL9 (cL9 (cR9 (cR9 (cL9 (cL9 (cR9 hg)))))))))) | n + 4, h => absurd h (by simp)) (fun a ha => Nat.not_le.mpr ha)
set_option maxRecDepth 100000 in
theorem fx_s5 {p : Program} {s : State} {m : MethodId} {meth : Method} {c : Code} {b L : Nat} {xs : Nat → Int32} (C0 : lw_At p s m meth c b L xs) : ∃ q : Nat × Nat, (Term.string "FieldBand$Reader" 90).eval #[Value.ref b] s none [] s = some (.ref q.1) ∧ va_O "java/lang/String" q.1 (fun q => s.heap.size ≤ q) s s.heap ∧ va_OF "java/lang/String" "coder" "B" (.int 0) q.1 (fun q => s.heap.size ≤ q) s s.heap ∧ va_OF "java/lang/String" "value" "[B" (.ref q.2) q.1 (fun q => s.heap.size ≤ q) s s.heap ∧ va_T .byte q.2 (kx_b 5).length (fun j => .int ((kx_b 5).getD j 0)) (fun q => s.heap.size ≤ q) s s.heap := by
  have hg := C0.2.2.2.2.2.2.2.2.2
  exact fx_strOf (b := [115, 116, 101, 112]) (by decide) (cR9 (cR9 (cL9 (cR9 (cL9 (cR9 (cR9 (cL9 (cL9 (cR9 hg)))))))))) (cL9 (cL9 (cR9 (cR9 (cL9 (cR9 (cR9 (cL9 (cL9 (cR9 hg)))))))))) (cR9 (cL9 (cR9 (cR9 (cL9 (cR9 (cR9 (cL9 (cL9 (cR9 hg)))))))))) (cL9 (cR9 (cR9 (cR9 (cL9 (cR9 (cR9 (cL9 (cL9 (cR9 hg)))))))))) (fun j hj => match j, hj with | 0, _ => (cR9 (cR9 (cR9 (cR9 (cL9 (cR9 (cR9 (cL9 (cL9 (cR9 hg)))))))))) | 1, _ => (cL9 (cL9 (cL9 (cR9 (cR9 (cR9 (cL9 (cL9 (cR9 hg))))))))) | 2, _ => (cL9 (cR9 (cL9 (cL9 (cR9 (cR9 (cR9 (cL9 (cL9 (cR9 hg)))))))))) | 3, _ => (cR9 (cR9 (cL9 (cL9 (cR9 (cR9 (cR9 (cL9 (cL9 (cR9 hg)))))))))) | n + 4, h => absurd h (by simp)) (fun a ha => Nat.not_le.mpr ha)
set_option maxRecDepth 100000 in
theorem fx_s6 {p : Program} {s : State} {m : MethodId} {meth : Method} {c : Code} {b L : Nat} {xs : Nat → Int32} (C0 : lw_At p s m meth c b L xs) : ∃ q : Nat × Nat, (Term.string "FieldBand$Reader" 47).eval #[Value.ref b] s none [] s = some (.ref q.1) ∧ va_O "java/lang/String" q.1 (fun q => s.heap.size ≤ q) s s.heap ∧ va_OF "java/lang/String" "coder" "B" (.int 0) q.1 (fun q => s.heap.size ≤ q) s s.heap ∧ va_OF "java/lang/String" "value" "[B" (.ref q.2) q.1 (fun q => s.heap.size ≤ q) s s.heap ∧ va_T .byte q.2 (kx_b 6).length (fun j => .int ((kx_b 6).getD j 0)) (fun q => s.heap.size ≤ q) s s.heap := by
  have hg := C0.2.2.2.2.2.2.2.2.2
  exact fx_strOf (b := [32]) (by decide) (cR9 (cL9 (cL9 (cR9 (cR9 (cR9 (cR9 (cL9 (cL9 (cR9 hg)))))))))) (cL9 (cR9 (cL9 (cR9 (cR9 (cR9 (cR9 (cL9 (cL9 (cR9 hg)))))))))) (cR9 (cR9 (cL9 (cR9 (cR9 (cR9 (cR9 (cL9 (cL9 (cR9 hg)))))))))) (cL9 (cL9 (cR9 (cR9 (cR9 (cR9 (cR9 (cL9 (cL9 (cR9 hg)))))))))) (fun j hj => match j, hj with | 0, _ => (cR9 (cL9 (cR9 (cR9 (cR9 (cR9 (cR9 (cL9 (cL9 (cR9 hg)))))))))) | n + 1, h => absurd h (by simp)) (fun a ha => Nat.not_le.mpr ha)
set_option maxRecDepth 100000 in
theorem fx_s7 {p : Program} {s : State} {m : MethodId} {meth : Method} {c : Code} {b L : Nat} {xs : Nat → Int32} (C0 : lw_At p s m meth c b L xs) : ∃ q : Nat × Nat, (Term.string "FieldBand$Reader" 134).eval #[Value.ref b] s none [] s = some (.ref q.1) ∧ va_O "java/lang/String" q.1 (fun q => s.heap.size ≤ q) s s.heap ∧ va_OF "java/lang/String" "coder" "B" (.int 0) q.1 (fun q => s.heap.size ≤ q) s s.heap ∧ va_OF "java/lang/String" "value" "[B" (.ref q.2) q.1 (fun q => s.heap.size ≤ q) s s.heap ∧ va_T .byte q.2 (kx_b 7).length (fun j => .int ((kx_b 7).getD j 0)) (fun q => s.heap.size ≤ q) s s.heap := by
  have hg := C0.2.2.2.2.2.2.2.2.2
  exact fx_strOf (b := [48, 49, 50, 51, 52, 53, 54, 55, 56, 57]) (by decide) (cR9 (cL9 (cR9 (cL9 (cL9 (cL9 (cL9 (cR9 (cL9 (cR9 hg)))))))))) (cL9 (cR9 (cR9 (cL9 (cL9 (cL9 (cL9 (cR9 (cL9 (cR9 hg)))))))))) (cR9 (cR9 (cR9 (cL9 (cL9 (cL9 (cL9 (cR9 (cL9 (cR9 hg)))))))))) (cL9 (cL9 (cR9 (cL9 (cL9 (cL9 (cR9 (cL9 (cR9 hg))))))))) (fun j hj => match j, hj with | 0, _ => (cL9 (cR9 (cL9 (cR9 (cL9 (cL9 (cL9 (cR9 (cL9 (cR9 hg)))))))))) | 1, _ => (cR9 (cR9 (cL9 (cR9 (cL9 (cL9 (cL9 (cR9 (cL9 (cR9 hg)))))))))) | 2, _ => (cL9 (cL9 (cR9 (cR9 (cL9 (cL9 (cL9 (cR9 (cL9 (cR9 hg)))))))))) | 3, _ => (cR9 (cL9 (cR9 (cR9 (cL9 (cL9 (cL9 (cR9 (cL9 (cR9 hg)))))))))) | 4, _ => (cL9 (cR9 (cR9 (cR9 (cL9 (cL9 (cL9 (cR9 (cL9 (cR9 hg)))))))))) | 5, _ => (cR9 (cR9 (cR9 (cR9 (cL9 (cL9 (cL9 (cR9 (cL9 (cR9 hg)))))))))) | 6, _ => (cL9 (cL9 (cL9 (cR9 (cL9 (cL9 (cR9 (cL9 (cR9 hg))))))))) | 7, _ => (cL9 (cR9 (cL9 (cL9 (cR9 (cL9 (cL9 (cR9 (cL9 (cR9 hg)))))))))) | 8, _ => (cR9 (cR9 (cL9 (cL9 (cR9 (cL9 (cL9 (cR9 (cL9 (cR9 hg)))))))))) | 9, _ => (cL9 (cL9 (cR9 (cL9 (cR9 (cL9 (cL9 (cR9 (cL9 (cR9 hg)))))))))) | n + 10, h => absurd h (by simp)) (fun a ha => Nat.not_le.mpr ha)
set_option maxRecDepth 100000 in
theorem fx_s8 {p : Program} {s : State} {m : MethodId} {meth : Method} {c : Code} {b L : Nat} {xs : Nat → Int32} (C0 : lw_At p s m meth c b L xs) : ∃ q : Nat × Nat, (Term.string "FieldBand$Reader" 114).eval #[Value.ref b] s none [] s = some (.ref q.1) ∧ va_O "java/lang/String" q.1 (fun q => s.heap.size ≤ q) s s.heap ∧ va_OF "java/lang/String" "coder" "B" (.int 0) q.1 (fun q => s.heap.size ≤ q) s s.heap ∧ va_OF "java/lang/String" "value" "[B" (.ref q.2) q.1 (fun q => s.heap.size ≤ q) s s.heap ∧ va_T .byte q.2 (kx_b 8).length (fun j => .int ((kx_b 8).getD j 0)) (fun q => s.heap.size ≤ q) s s.heap := by
  have hg := C0.2.2.2.2.2.2.2.2.2
  exact fx_strOf (b := [33]) (by decide) (cL9 (cL9 (cR9 (cR9 (cR9 (cL9 (cL9 (cR9 (cL9 (cR9 hg)))))))))) (cR9 (cL9 (cR9 (cR9 (cR9 (cL9 (cL9 (cR9 (cL9 (cR9 hg)))))))))) (cL9 (cR9 (cR9 (cR9 (cR9 (cL9 (cL9 (cR9 (cL9 (cR9 hg)))))))))) (cR9 (cR9 (cR9 (cR9 (cR9 (cL9 (cL9 (cR9 (cL9 (cR9 hg)))))))))) (fun j hj => match j, hj with | 0, _ => (cL9 (cL9 (cL9 (cL9 (cR9 (cL9 (cR9 (cL9 (cR9 hg))))))))) | n + 1, h => absurd h (by simp)) (fun a ha => Nat.not_le.mpr ha)
set_option maxRecDepth 100000 in
theorem fx_s9 {p : Program} {s : State} {m : MethodId} {meth : Method} {c : Code} {b L : Nat} {xs : Nat → Int32} (C0 : lw_At p s m meth c b L xs) : ∃ q : Nat × Nat, (Term.string "FieldBand$Reader" 116).eval #[Value.ref b] s none [] s = some (.ref q.1) ∧ va_O "java/lang/String" q.1 (fun q => s.heap.size ≤ q) s s.heap ∧ va_OF "java/lang/String" "coder" "B" (.int 0) q.1 (fun q => s.heap.size ≤ q) s s.heap ∧ va_OF "java/lang/String" "value" "[B" (.ref q.2) q.1 (fun q => s.heap.size ≤ q) s s.heap ∧ va_T .byte q.2 (kx_b 9).length (fun j => .int ((kx_b 9).getD j 0)) (fun q => s.heap.size ≤ q) s s.heap := by
  have hg := C0.2.2.2.2.2.2.2.2.2
  exact fx_strOf (b := [40]) (by decide) (cL9 (cR9 (cL9 (cR9 (cL9 (cR9 (cL9 (cR9 (cL9 (cR9 hg)))))))))) (cR9 (cR9 (cL9 (cR9 (cL9 (cR9 (cL9 (cR9 (cL9 (cR9 hg)))))))))) (cL9 (cL9 (cR9 (cR9 (cL9 (cR9 (cL9 (cR9 (cL9 (cR9 hg)))))))))) (cR9 (cL9 (cR9 (cR9 (cL9 (cR9 (cL9 (cR9 (cL9 (cR9 hg)))))))))) (fun j hj => match j, hj with | 0, _ => (cL9 (cR9 (cR9 (cR9 (cL9 (cR9 (cL9 (cR9 (cL9 (cR9 hg)))))))))) | n + 1, h => absurd h (by simp)) (fun a ha => Nat.not_le.mpr ha)
set_option maxRecDepth 100000 in
theorem fx_s10 {p : Program} {s : State} {m : MethodId} {meth : Method} {c : Code} {b L : Nat} {xs : Nat → Int32} (C0 : lw_At p s m meth c b L xs) : ∃ q : Nat × Nat, (Term.string "FieldBand$Reader" 118).eval #[Value.ref b] s none [] s = some (.ref q.1) ∧ va_O "java/lang/String" q.1 (fun q => s.heap.size ≤ q) s s.heap ∧ va_OF "java/lang/String" "coder" "B" (.int 0) q.1 (fun q => s.heap.size ≤ q) s s.heap ∧ va_OF "java/lang/String" "value" "[B" (.ref q.2) q.1 (fun q => s.heap.size ≤ q) s s.heap ∧ va_T .byte q.2 (kx_b 10).length (fun j => .int ((kx_b 10).getD j 0)) (fun q => s.heap.size ≤ q) s s.heap := by
  have hg := C0.2.2.2.2.2.2.2.2.2
  exact fx_strOf (b := [41]) (by decide) (cR9 (cL9 (cL9 (cR9 (cR9 (cR9 (cL9 (cR9 (cL9 (cR9 hg)))))))))) (cL9 (cR9 (cL9 (cR9 (cR9 (cR9 (cL9 (cR9 (cL9 (cR9 hg)))))))))) (cR9 (cR9 (cL9 (cR9 (cR9 (cR9 (cL9 (cR9 (cL9 (cR9 hg)))))))))) (cL9 (cL9 (cR9 (cR9 (cR9 (cR9 (cL9 (cR9 (cL9 (cR9 hg)))))))))) (fun j hj => match j, hj with | 0, _ => (cR9 (cL9 (cR9 (cR9 (cR9 (cR9 (cL9 (cR9 (cL9 (cR9 hg)))))))))) | n + 1, h => absurd h (by simp)) (fun a ha => Nat.not_le.mpr ha)
set_option maxRecDepth 100000 in
theorem fx_s11 {p : Program} {s : State} {m : MethodId} {meth : Method} {c : Code} {b L : Nat} {xs : Nat → Int32} (C0 : lw_At p s m meth c b L xs) : ∃ q : Nat × Nat, (Term.string "FieldBand$Reader" 123).eval #[Value.ref b] s none [] s = some (.ref q.1) ∧ va_O "java/lang/String" q.1 (fun q => s.heap.size ≤ q) s s.heap ∧ va_OF "java/lang/String" "coder" "B" (.int 0) q.1 (fun q => s.heap.size ≤ q) s s.heap ∧ va_OF "java/lang/String" "value" "[B" (.ref q.2) q.1 (fun q => s.heap.size ≤ q) s s.heap ∧ va_T .byte q.2 (kx_b 11).length (fun j => .int ((kx_b 11).getD j 0)) (fun q => s.heap.size ≤ q) s s.heap := by
  have hg := C0.2.2.2.2.2.2.2.2.2
  exact fx_strOf (b := [112, 114, 99, 107, 118]) (by decide) (cR9 (cL9 (cL9 (cR9 (cL9 (cL9 (cR9 (cR9 (cL9 (cR9 hg)))))))))) (cL9 (cR9 (cL9 (cR9 (cL9 (cL9 (cR9 (cR9 (cL9 (cR9 hg)))))))))) (cR9 (cR9 (cL9 (cR9 (cL9 (cL9 (cR9 (cR9 (cL9 (cR9 hg)))))))))) (cL9 (cL9 (cR9 (cR9 (cL9 (cL9 (cR9 (cR9 (cL9 (cR9 hg)))))))))) (fun j hj => match j, hj with | 0, _ => (cR9 (cL9 (cR9 (cR9 (cL9 (cL9 (cR9 (cR9 (cL9 (cR9 hg)))))))))) | 1, _ => (cL9 (cR9 (cR9 (cR9 (cL9 (cL9 (cR9 (cR9 (cL9 (cR9 hg)))))))))) | 2, _ => (cR9 (cR9 (cR9 (cR9 (cL9 (cL9 (cR9 (cR9 (cL9 (cR9 hg)))))))))) | 3, _ => (cL9 (cL9 (cL9 (cR9 (cL9 (cR9 (cR9 (cL9 (cR9 hg))))))))) | 4, _ => (cL9 (cR9 (cL9 (cL9 (cR9 (cL9 (cR9 (cR9 (cL9 (cR9 hg)))))))))) | n + 5, h => absurd h (by simp)) (fun a ha => Nat.not_le.mpr ha)
set_option maxRecDepth 100000 in
theorem fx_s12 {p : Program} {s : State} {m : MethodId} {meth : Method} {c : Code} {b L : Nat} {xs : Nat → Int32} (C0 : lw_At p s m meth c b L xs) : ∃ q : Nat × Nat, (Term.string "FieldBand$Reader" 128).eval #[Value.ref b] s none [] s = some (.ref q.1) ∧ va_O "java/lang/String" q.1 (fun q => s.heap.size ≤ q) s s.heap ∧ va_OF "java/lang/String" "coder" "B" (.int 0) q.1 (fun q => s.heap.size ≤ q) s s.heap ∧ va_OF "java/lang/String" "value" "[B" (.ref q.2) q.1 (fun q => s.heap.size ≤ q) s s.heap ∧ va_T .byte q.2 (kx_b 12).length (fun j => .int ((kx_b 12).getD j 0)) (fun q => s.heap.size ≤ q) s s.heap := by
  have hg := C0.2.2.2.2.2.2.2.2.2
  exact fx_strOf (b := [60, 61, 62]) (by decide) (cL9 (cR9 (cR9 (cR9 (cR9 (cL9 (cR9 (cR9 (cL9 (cR9 hg)))))))))) (cR9 (cR9 (cR9 (cR9 (cR9 (cL9 (cR9 (cR9 (cL9 (cR9 hg)))))))))) (cL9 (cL9 (cL9 (cL9 (cR9 (cR9 (cR9 (cL9 (cR9 hg))))))))) (cL9 (cR9 (cL9 (cL9 (cL9 (cR9 (cR9 (cR9 (cL9 (cR9 hg)))))))))) (fun j hj => match j, hj with | 0, _ => (cR9 (cR9 (cL9 (cL9 (cL9 (cR9 (cR9 (cR9 (cL9 (cR9 hg)))))))))) | 1, _ => (cL9 (cL9 (cR9 (cL9 (cL9 (cR9 (cR9 (cR9 (cL9 (cR9 hg)))))))))) | 2, _ => (cR9 (cL9 (cR9 (cL9 (cL9 (cR9 (cR9 (cR9 (cL9 (cR9 hg)))))))))) | n + 3, h => absurd h (by simp)) (fun a ha => Nat.not_le.mpr ha)
set_option maxRecDepth 100000 in
theorem fx_s13 {p : Program} {s : State} {m : MethodId} {meth : Method} {c : Code} {b L : Nat} {xs : Nat → Int32} (C0 : lw_At p s m meth c b L xs) : ∃ q : Nat × Nat, (Term.string "FieldBand$Reader" 112).eval #[Value.ref b] s none [] s = some (.ref q.1) ∧ va_O "java/lang/String" q.1 (fun q => s.heap.size ≤ q) s s.heap ∧ va_OF "java/lang/String" "coder" "B" (.int 0) q.1 (fun q => s.heap.size ≤ q) s s.heap ∧ va_OF "java/lang/String" "value" "[B" (.ref q.2) q.1 (fun q => s.heap.size ≤ q) s s.heap ∧ va_T .byte q.2 (kx_b 13).length (fun j => .int ((kx_b 13).getD j 0)) (fun q => s.heap.size ≤ q) s s.heap := by
  have hg := C0.2.2.2.2.2.2.2.2.2
  exact fx_strOf (b := [38]) (by decide) (cR9 (cR9 (cL9 (cL9 (cR9 (cR9 (cR9 (cR9 (cL9 (cR9 hg)))))))))) (cL9 (cL9 (cR9 (cL9 (cR9 (cR9 (cR9 (cR9 (cL9 (cR9 hg)))))))))) (cR9 (cL9 (cR9 (cL9 (cR9 (cR9 (cR9 (cR9 (cL9 (cR9 hg)))))))))) (cL9 (cR9 (cR9 (cL9 (cR9 (cR9 (cR9 (cR9 (cL9 (cR9 hg)))))))))) (fun j hj => match j, hj with | 0, _ => (cR9 (cR9 (cR9 (cL9 (cR9 (cR9 (cR9 (cR9 (cL9 (cR9 hg)))))))))) | n + 1, h => absurd h (by simp)) (fun a ha => Nat.not_le.mpr ha)
set_option maxRecDepth 100000 in
theorem fx_s14 {p : Program} {s : State} {m : MethodId} {meth : Method} {c : Code} {b L : Nat} {xs : Nat → Int32} (C0 : lw_At p s m meth c b L xs) : ∃ q : Nat × Nat, (Term.string "FieldBand$Reader" 103).eval #[Value.ref b] s none [] s = some (.ref q.1) ∧ va_O "java/lang/String" q.1 (fun q => s.heap.size ≤ q) s s.heap ∧ va_OF "java/lang/String" "coder" "B" (.int 0) q.1 (fun q => s.heap.size ≤ q) s s.heap ∧ va_OF "java/lang/String" "value" "[B" (.ref q.2) q.1 (fun q => s.heap.size ≤ q) s s.heap ∧ va_T .byte q.2 (kx_b 14).length (fun j => .int ((kx_b 14).getD j 0)) (fun q => s.heap.size ≤ q) s s.heap := by
  have hg := C0.2.2.2.2.2.2.2.2.2
  exact fx_strOf (b := [124]) (by decide) (cL9 (cR9 (cR9 (cL9 (cL9 (cL9 (cL9 (cL9 (cR9 (cR9 hg)))))))))) (cR9 (cR9 (cR9 (cL9 (cL9 (cL9 (cL9 (cL9 (cR9 (cR9 hg)))))))))) (cL9 (cL9 (cR9 (cL9 (cL9 (cL9 (cL9 (cR9 (cR9 hg))))))))) (cL9 (cR9 (cL9 (cR9 (cL9 (cL9 (cL9 (cL9 (cR9 (cR9 hg)))))))))) (fun j hj => match j, hj with | 0, _ => (cR9 (cR9 (cL9 (cR9 (cL9 (cL9 (cL9 (cL9 (cR9 (cR9 hg)))))))))) | n + 1, h => absurd h (by simp)) (fun a ha => Nat.not_le.mpr ha)
set_option maxRecDepth 100000 in
theorem fx_s15 {p : Program} {s : State} {m : MethodId} {meth : Method} {c : Code} {b L : Nat} {xs : Nat → Int32} (C0 : lw_At p s m meth c b L xs) : ∃ q : Nat × Nat, (Term.string "FieldBand$Reader" 37).eval #[Value.ref b] s none [] s = some (.ref q.1) ∧ va_O "java/lang/String" q.1 (fun q => s.heap.size ≤ q) s s.heap ∧ va_OF "java/lang/String" "coder" "B" (.int 0) q.1 (fun q => s.heap.size ≤ q) s s.heap ∧ va_OF "java/lang/String" "value" "[B" (.ref q.2) q.1 (fun q => s.heap.size ≤ q) s s.heap ∧ va_T .byte q.2 (kx_b 15).length (fun j => .int ((kx_b 15).getD j 0)) (fun q => s.heap.size ≤ q) s s.heap := by
  have hg := C0.2.2.2.2.2.2.2.2.2
  exact fx_strOf (b := [59]) (by decide) (cR9 (cR9 (cL9 (cR9 (cR9 (cL9 (cL9 (cL9 (cR9 (cR9 hg)))))))))) (cL9 (cL9 (cR9 (cR9 (cR9 (cL9 (cL9 (cL9 (cR9 (cR9 hg)))))))))) (cR9 (cL9 (cR9 (cR9 (cR9 (cL9 (cL9 (cL9 (cR9 (cR9 hg)))))))))) (cL9 (cR9 (cR9 (cR9 (cR9 (cL9 (cL9 (cL9 (cR9 (cR9 hg)))))))))) (fun j hj => match j, hj with | 0, _ => (cR9 (cR9 (cR9 (cR9 (cR9 (cL9 (cL9 (cL9 (cR9 (cR9 hg)))))))))) | n + 1, h => absurd h (by simp)) (fun a ha => Nat.not_le.mpr ha)
set_option maxRecDepth 100000 in
theorem fx_s16 {p : Program} {s : State} {m : MethodId} {meth : Method} {c : Code} {b L : Nat} {xs : Nat → Int32} (C0 : lw_At p s m meth c b L xs) : ∃ q : Nat × Nat, (Term.string "FieldBandModel" 109).eval #[Value.ref b] s none [] s = some (.ref q.1) ∧ va_O "java/lang/String" q.1 (fun q => s.heap.size ≤ q) s s.heap ∧ va_OF "java/lang/String" "coder" "B" (.int 0) q.1 (fun q => s.heap.size ≤ q) s s.heap ∧ va_OF "java/lang/String" "value" "[B" (.ref q.2) q.1 (fun q => s.heap.size ≤ q) s s.heap ∧ va_T .byte q.2 (kx_b 16).length (fun j => .int ((kx_b 16).getD j 0)) (fun q => s.heap.size ≤ q) s s.heap := by
  have hg := C0.2.2.2.2.2.2.2.2.2
  exact fx_strOf (b := [111, 117, 100, 32]) (by decide) (cL9 (cL9 (cL9 (cR9 (cR9 (cL9 (cL9 (cR9 (cR9 hg))))))))) (cL9 (cR9 (cL9 (cL9 (cR9 (cR9 (cL9 (cL9 (cR9 (cR9 hg)))))))))) (cR9 (cR9 (cL9 (cL9 (cR9 (cR9 (cL9 (cL9 (cR9 (cR9 hg)))))))))) (cL9 (cL9 (cR9 (cL9 (cR9 (cR9 (cL9 (cL9 (cR9 (cR9 hg)))))))))) (fun j hj => match j, hj with | 0, _ => (cR9 (cL9 (cR9 (cL9 (cR9 (cR9 (cL9 (cL9 (cR9 (cR9 hg)))))))))) | 1, _ => (cL9 (cR9 (cR9 (cL9 (cR9 (cR9 (cL9 (cL9 (cR9 (cR9 hg)))))))))) | 2, _ => (cR9 (cR9 (cR9 (cL9 (cR9 (cR9 (cL9 (cL9 (cR9 (cR9 hg)))))))))) | 3, _ => (cL9 (cL9 (cL9 (cR9 (cR9 (cR9 (cL9 (cL9 (cR9 (cR9 hg)))))))))) | n + 4, h => absurd h (by simp)) (fun a ha => Nat.not_le.mpr ha)
set_option maxRecDepth 100000 in
theorem fx_s17 {p : Program} {s : State} {m : MethodId} {meth : Method} {c : Code} {b L : Nat} {xs : Nat → Int32} (C0 : lw_At p s m meth c b L xs) : ∃ q : Nat × Nat, (Term.string "FieldBandModel" 91).eval #[Value.ref b] s none [] s = some (.ref q.1) ∧ va_O "java/lang/String" q.1 (fun q => s.heap.size ≤ q) s s.heap ∧ va_OF "java/lang/String" "coder" "B" (.int 0) q.1 (fun q => s.heap.size ≤ q) s s.heap ∧ va_OF "java/lang/String" "value" "[B" (.ref q.2) q.1 (fun q => s.heap.size ≤ q) s s.heap ∧ va_T .byte q.2 (kx_b 17).length (fun j => .int ((kx_b 17).getD j 0)) (fun q => s.heap.size ≤ q) s s.heap := by
  have hg := C0.2.2.2.2.2.2.2.2.2
  exact fx_strOf (b := [112, 114, 99, 107, 118]) (by decide) (cL9 (cR9 (cL9 (cR9 (cL9 (cL9 (cR9 (cL9 (cR9 (cR9 hg)))))))))) (cR9 (cR9 (cL9 (cR9 (cL9 (cL9 (cR9 (cL9 (cR9 (cR9 hg)))))))))) (cL9 (cL9 (cR9 (cR9 (cL9 (cL9 (cR9 (cL9 (cR9 (cR9 hg)))))))))) (cR9 (cL9 (cR9 (cR9 (cL9 (cL9 (cR9 (cL9 (cR9 (cR9 hg)))))))))) (fun j hj => match j, hj with | 0, _ => (cL9 (cR9 (cR9 (cR9 (cL9 (cL9 (cR9 (cL9 (cR9 (cR9 hg)))))))))) | 1, _ => (cR9 (cR9 (cR9 (cR9 (cL9 (cL9 (cR9 (cL9 (cR9 (cR9 hg)))))))))) | 2, _ => (cL9 (cL9 (cL9 (cR9 (cL9 (cR9 (cL9 (cR9 (cR9 hg))))))))) | 3, _ => (cL9 (cR9 (cL9 (cL9 (cR9 (cL9 (cR9 (cL9 (cR9 (cR9 hg)))))))))) | 4, _ => (cR9 (cR9 (cL9 (cL9 (cR9 (cL9 (cR9 (cL9 (cR9 (cR9 hg)))))))))) | n + 5, h => absurd h (by simp)) (fun a ha => Nat.not_le.mpr ha)
set_option maxRecDepth 100000 in
theorem fx_s18 {p : Program} {s : State} {m : MethodId} {meth : Method} {c : Code} {b L : Nat} {xs : Nat → Int32} (C0 : lw_At p s m meth c b L xs) : ∃ q : Nat × Nat, (Term.string "FieldBandModel" 97).eval #[Value.ref b] s none [] s = some (.ref q.1) ∧ va_O "java/lang/String" q.1 (fun q => s.heap.size ≤ q) s s.heap ∧ va_OF "java/lang/String" "coder" "B" (.int 0) q.1 (fun q => s.heap.size ≤ q) s s.heap ∧ va_OF "java/lang/String" "value" "[B" (.ref q.2) q.1 (fun q => s.heap.size ≤ q) s s.heap ∧ va_T .byte q.2 (kx_b 18).length (fun j => .int ((kx_b 18).getD j 0)) (fun q => s.heap.size ≤ q) s s.heap := by
  have hg := C0.2.2.2.2.2.2.2.2.2
  exact fx_strOf (b := [60, 61, 62]) (by decide) (cL9 (cR9 (cR9 (cL9 (cL9 (cR9 (cR9 (cL9 (cR9 (cR9 hg)))))))))) (cR9 (cR9 (cR9 (cL9 (cL9 (cR9 (cR9 (cL9 (cR9 (cR9 hg)))))))))) (cL9 (cL9 (cL9 (cR9 (cL9 (cR9 (cR9 (cL9 (cR9 (cR9 hg)))))))))) (cR9 (cL9 (cL9 (cR9 (cL9 (cR9 (cR9 (cL9 (cR9 (cR9 hg)))))))))) (fun j hj => match j, hj with | 0, _ => (cL9 (cR9 (cL9 (cR9 (cL9 (cR9 (cR9 (cL9 (cR9 (cR9 hg)))))))))) | 1, _ => (cR9 (cR9 (cL9 (cR9 (cL9 (cR9 (cR9 (cL9 (cR9 (cR9 hg)))))))))) | 2, _ => (cL9 (cL9 (cR9 (cR9 (cL9 (cR9 (cR9 (cL9 (cR9 (cR9 hg)))))))))) | n + 3, h => absurd h (by simp)) (fun a ha => Nat.not_le.mpr ha)
set_option maxRecDepth 100000 in
theorem fx_s19 {p : Program} {s : State} {m : MethodId} {meth : Method} {c : Code} {b L : Nat} {xs : Nat → Int32} (C0 : lw_At p s m meth c b L xs) : ∃ q : Nat × Nat, (Term.string "FieldBandModel" 115).eval #[Value.ref b] s none [] s = some (.ref q.1) ∧ va_O "java/lang/String" q.1 (fun q => s.heap.size ≤ q) s s.heap ∧ va_OF "java/lang/String" "coder" "B" (.int 0) q.1 (fun q => s.heap.size ≤ q) s s.heap ∧ va_OF "java/lang/String" "value" "[B" (.ref q.2) q.1 (fun q => s.heap.size ≤ q) s s.heap ∧ va_T .byte q.2 (kx_b 19).length (fun j => .int ((kx_b 19).getD j 0)) (fun q => s.heap.size ≤ q) s s.heap := by
  have hg := C0.2.2.2.2.2.2.2.2.2
  exact fx_strOf (b := [97, 116, 101, 32]) (by decide) (cL9 (cL9 (cL9 (cL9 (cL9 (cL9 (cR9 (cR9 (cR9 hg))))))))) (cL9 (cR9 (cL9 (cL9 (cL9 (cL9 (cL9 (cR9 (cR9 (cR9 hg)))))))))) (cR9 (cR9 (cL9 (cL9 (cL9 (cL9 (cL9 (cR9 (cR9 (cR9 hg)))))))))) (cL9 (cL9 (cR9 (cL9 (cL9 (cL9 (cL9 (cR9 (cR9 (cR9 hg)))))))))) (fun j hj => match j, hj with | 0, _ => (cR9 (cL9 (cR9 (cL9 (cL9 (cL9 (cL9 (cR9 (cR9 (cR9 hg)))))))))) | 1, _ => (cL9 (cR9 (cR9 (cL9 (cL9 (cL9 (cL9 (cR9 (cR9 (cR9 hg)))))))))) | 2, _ => (cR9 (cR9 (cR9 (cL9 (cL9 (cL9 (cL9 (cR9 (cR9 (cR9 hg)))))))))) | 3, _ => (cL9 (cL9 (cL9 (cR9 (cL9 (cL9 (cL9 (cR9 (cR9 (cR9 hg)))))))))) | n + 4, h => absurd h (by simp)) (fun a ha => Nat.not_le.mpr ha)
set_option maxRecDepth 100000 in
theorem fx_s20 {p : Program} {s : State} {m : MethodId} {meth : Method} {c : Code} {b L : Nat} {xs : Nat → Int32} (C0 : lw_At p s m meth c b L xs) : ∃ q : Nat × Nat, (Term.string "FieldBandModel" 117).eval #[Value.ref b] s none [] s = some (.ref q.1) ∧ va_O "java/lang/String" q.1 (fun q => s.heap.size ≤ q) s s.heap ∧ va_OF "java/lang/String" "coder" "B" (.int 0) q.1 (fun q => s.heap.size ≤ q) s s.heap ∧ va_OF "java/lang/String" "value" "[B" (.ref q.2) q.1 (fun q => s.heap.size ≤ q) s s.heap ∧ va_T .byte q.2 (kx_b 20).length (fun j => .int ((kx_b 20).getD j 0)) (fun q => s.heap.size ≤ q) s s.heap := by
  have hg := C0.2.2.2.2.2.2.2.2.2
  exact fx_strOf (b := [112, 101, 101, 100, 32]) (by decide) (cR9 (cL9 (cR9 (cR9 (cR9 (cL9 (cL9 (cR9 (cR9 (cR9 hg)))))))))) (cL9 (cR9 (cR9 (cR9 (cR9 (cL9 (cL9 (cR9 (cR9 (cR9 hg)))))))))) (cR9 (cR9 (cR9 (cR9 (cR9 (cL9 (cL9 (cR9 (cR9 (cR9 hg)))))))))) (cL9 (cL9 (cL9 (cL9 (cR9 (cL9 (cR9 (cR9 (cR9 hg))))))))) (fun j hj => match j, hj with | 0, _ => (cL9 (cR9 (cL9 (cL9 (cL9 (cR9 (cL9 (cR9 (cR9 (cR9 hg)))))))))) | 1, _ => (cR9 (cR9 (cL9 (cL9 (cL9 (cR9 (cL9 (cR9 (cR9 (cR9 hg)))))))))) | 2, _ => (cL9 (cL9 (cR9 (cL9 (cL9 (cR9 (cL9 (cR9 (cR9 (cR9 hg)))))))))) | 3, _ => (cR9 (cL9 (cR9 (cL9 (cL9 (cR9 (cL9 (cR9 (cR9 (cR9 hg)))))))))) | 4, _ => (cL9 (cR9 (cR9 (cL9 (cL9 (cR9 (cL9 (cR9 (cR9 (cR9 hg)))))))))) | n + 5, h => absurd h (by simp)) (fun a ha => Nat.not_le.mpr ha)
set_option maxRecDepth 100000 in
theorem fx_s21 {p : Program} {s : State} {m : MethodId} {meth : Method} {c : Code} {b L : Nat} {xs : Nat → Int32} (C0 : lw_At p s m meth c b L xs) : ∃ q : Nat × Nat, (Term.string "FieldBandModel" 122).eval #[Value.ref b] s none [] s = some (.ref q.1) ∧ va_O "java/lang/String" q.1 (fun q => s.heap.size ≤ q) s s.heap ∧ va_OF "java/lang/String" "coder" "B" (.int 0) q.1 (fun q => s.heap.size ≤ q) s s.heap ∧ va_OF "java/lang/String" "value" "[B" (.ref q.2) q.1 (fun q => s.heap.size ≤ q) s s.heap ∧ va_T .byte q.2 (kx_b 21).length (fun j => .int ((kx_b 21).getD j 0)) (fun q => s.heap.size ≤ q) s s.heap := by
  have hg := C0.2.2.2.2.2.2.2.2.2
  exact fx_strOf (b := [116, 101, 112, 32]) (by decide) (cL9 (cL9 (cR9 (cR9 (cR9 (cR9 (cL9 (cR9 (cR9 (cR9 hg)))))))))) (cR9 (cL9 (cR9 (cR9 (cR9 (cR9 (cL9 (cR9 (cR9 (cR9 hg)))))))))) (cL9 (cR9 (cR9 (cR9 (cR9 (cR9 (cL9 (cR9 (cR9 (cR9 hg)))))))))) (cR9 (cR9 (cR9 (cR9 (cR9 (cR9 (cL9 (cR9 (cR9 (cR9 hg)))))))))) (fun j hj => match j, hj with | 0, _ => (cL9 (cL9 (cL9 (cL9 (cL9 (cR9 (cR9 (cR9 (cR9 hg))))))))) | 1, _ => (cL9 (cR9 (cL9 (cL9 (cL9 (cL9 (cR9 (cR9 (cR9 (cR9 hg)))))))))) | 2, _ => (cR9 (cR9 (cL9 (cL9 (cL9 (cL9 (cR9 (cR9 (cR9 (cR9 hg)))))))))) | 3, _ => (cL9 (cL9 (cR9 (cL9 (cL9 (cL9 (cR9 (cR9 (cR9 (cR9 hg)))))))))) | n + 4, h => absurd h (by simp)) (fun a ha => Nat.not_le.mpr ha)
set_option maxRecDepth 100000 in
theorem fx_s22 {p : Program} {s : State} {m : MethodId} {meth : Method} {c : Code} {b L : Nat} {xs : Nat → Int32} (C0 : lw_At p s m meth c b L xs) : ∃ q : Nat × Nat, (Term.string "FieldBandModel" 124).eval #[Value.ref b] s none [] s = some (.ref q.1) ∧ va_O "java/lang/String" q.1 (fun q => s.heap.size ≤ q) s s.heap ∧ va_OF "java/lang/String" "coder" "B" (.int 0) q.1 (fun q => s.heap.size ≤ q) s s.heap ∧ va_OF "java/lang/String" "value" "[B" (.ref q.2) q.1 (fun q => s.heap.size ≤ q) s s.heap ∧ va_T .byte q.2 (kx_b 22).length (fun j => .int ((kx_b 22).getD j 0)) (fun q => s.heap.size ≤ q) s s.heap := by
  have hg := C0.2.2.2.2.2.2.2.2.2
  exact fx_strOf (b := [98, 101, 97, 116, 32]) (by decide) (cR9 (cR9 (cL9 (cR9 (cR9 (cL9 (cR9 (cR9 (cR9 (cR9 hg)))))))))) (cL9 (cL9 (cR9 (cR9 (cR9 (cL9 (cR9 (cR9 (cR9 (cR9 hg)))))))))) (cR9 (cL9 (cR9 (cR9 (cR9 (cL9 (cR9 (cR9 (cR9 (cR9 hg)))))))))) (cL9 (cR9 (cR9 (cR9 (cR9 (cL9 (cR9 (cR9 (cR9 (cR9 hg)))))))))) (fun j hj => match j, hj with | 0, _ => (cR9 (cR9 (cR9 (cR9 (cR9 (cL9 (cR9 (cR9 (cR9 (cR9 hg)))))))))) | 1, _ => (cL9 (cL9 (cL9 (cL9 (cR9 (cR9 (cR9 (cR9 (cR9 hg))))))))) | 2, _ => (cL9 (cR9 (cL9 (cL9 (cL9 (cR9 (cR9 (cR9 (cR9 (cR9 hg)))))))))) | 3, _ => (cR9 (cR9 (cL9 (cL9 (cL9 (cR9 (cR9 (cR9 (cR9 (cR9 hg)))))))))) | 4, _ => (cL9 (cL9 (cR9 (cL9 (cL9 (cR9 (cR9 (cR9 (cR9 (cR9 hg)))))))))) | n + 5, h => absurd h (by simp)) (fun a ha => Nat.not_le.mpr ha)
set_option maxRecDepth 100000 in
theorem fx_a0 {p : Program} {s : State} {m : MethodId} {meth : Method} {c : Code} {b L : Nat} {xs : Nat → Int32} (C0 : lw_At p s m meth c b L xs) : ∃ t : Nat, va_Z (kx_a 0).1 (kx_a 0).2.1 "[I" (.ref t) (fun q => s.heap.size ≤ q) s s.heap ∧ va_T .int t 7 (fun i => .int ((kx_a 0).2.2.getD i 0)) (fun q => s.heap.size ≤ q) s s.heap := by
  have hg := C0.2.2.2.2.2.2.2.2.2
  have hts := C0.2.2.2.2.2.1
  exact fx_stAr (C := "FieldBand") (n := "ABOVE") (b := [-1, 0, 0, 0, 1, 2, 3]) (by decide) (cL9 (cR9 (cL9 (cR9 (cL9 (cL9 (cL9 (cL9 (cL9 (cR9 hg)))))))))) (cR9 (cR9 (cL9 (cR9 (cL9 (cL9 (cL9 (cL9 (cL9 (cR9 hg)))))))))) (fun j hj => match j, hj with | 0, _ => (cL9 (cL9 (cR9 (cR9 (cL9 (cL9 (cL9 (cL9 (cL9 (cR9 hg)))))))))) | 1, _ => (cR9 (cL9 (cR9 (cR9 (cL9 (cL9 (cL9 (cL9 (cL9 (cR9 hg)))))))))) | 2, _ => (cL9 (cR9 (cR9 (cR9 (cL9 (cL9 (cL9 (cL9 (cL9 (cR9 hg)))))))))) | 3, _ => (cR9 (cR9 (cR9 (cR9 (cL9 (cL9 (cL9 (cL9 (cL9 (cR9 hg)))))))))) | 4, _ => (cL9 (cL9 (cL9 (cR9 (cL9 (cL9 (cL9 (cL9 (cR9 hg))))))))) | 5, _ => (cL9 (cR9 (cL9 (cL9 (cR9 (cL9 (cL9 (cL9 (cL9 (cR9 hg)))))))))) | 6, _ => (cR9 (cR9 (cL9 (cL9 (cR9 (cL9 (cL9 (cL9 (cL9 (cR9 hg)))))))))) | n + 7, h => absurd h (by simp)) (hts _ (tin3 _ (List.mem_of_getElem? (i := 58) rfl))) (hts _ (tin1 _ (List.mem_of_getElem? (i := 1) rfl))) (fun a ha => Nat.not_le.mpr ha)
set_option maxRecDepth 100000 in
theorem fx_a1 {p : Program} {s : State} {m : MethodId} {meth : Method} {c : Code} {b L : Nat} {xs : Nat → Int32} (C0 : lw_At p s m meth c b L xs) : ∃ t : Nat, va_Z (kx_a 1).1 (kx_a 1).2.1 "[I" (.ref t) (fun q => s.heap.size ≤ q) s s.heap ∧ va_T .int t 7 (fun i => .int ((kx_a 1).2.2.getD i 0)) (fun q => s.heap.size ≤ q) s s.heap := by
  have hg := C0.2.2.2.2.2.2.2.2.2
  have hts := C0.2.2.2.2.2.1
  exact fx_stAr (C := "FieldBand$Deed") (n := "GOES_BODIES") (b := [1, 11, -1, -1, -1, 51, -1]) (by decide) (cR9 (cL9 (cR9 (cL9 (cR9 (cL9 (cL9 (cL9 (cL9 (cR9 hg)))))))))) (cL9 (cR9 (cR9 (cL9 (cR9 (cL9 (cL9 (cL9 (cL9 (cR9 hg)))))))))) (fun j hj => match j, hj with | 0, _ => (cR9 (cR9 (cR9 (cL9 (cR9 (cL9 (cL9 (cL9 (cL9 (cR9 hg)))))))))) | 1, _ => (cL9 (cL9 (cL9 (cR9 (cR9 (cL9 (cL9 (cL9 (cL9 (cR9 hg)))))))))) | 2, _ => (cR9 (cL9 (cL9 (cR9 (cR9 (cL9 (cL9 (cL9 (cL9 (cR9 hg)))))))))) | 3, _ => (cL9 (cR9 (cL9 (cR9 (cR9 (cL9 (cL9 (cL9 (cL9 (cR9 hg)))))))))) | 4, _ => (cR9 (cR9 (cL9 (cR9 (cR9 (cL9 (cL9 (cL9 (cL9 (cR9 hg)))))))))) | 5, _ => (cL9 (cL9 (cR9 (cR9 (cR9 (cL9 (cL9 (cL9 (cL9 (cR9 hg)))))))))) | 6, _ => (cR9 (cL9 (cR9 (cR9 (cR9 (cL9 (cL9 (cL9 (cL9 (cR9 hg)))))))))) | n + 7, h => absurd h (by simp)) (hts _ (tin4 _ (List.mem_of_getElem? (i := 10) rfl))) (hts _ (tin1 _ (List.mem_of_getElem? (i := 4) rfl))) (fun a ha => Nat.not_le.mpr ha)
set_option maxRecDepth 100000 in
theorem fx_a2 {p : Program} {s : State} {m : MethodId} {meth : Method} {c : Code} {b L : Nat} {xs : Nat → Int32} (C0 : lw_At p s m meth c b L xs) : ∃ t : Nat, va_Z (kx_a 2).1 (kx_a 2).2.1 "[I" (.ref t) (fun q => s.heap.size ≤ q) s s.heap ∧ va_T .int t 7 (fun i => .int ((kx_a 2).2.2.getD i 0)) (fun q => s.heap.size ≤ q) s s.heap := by
  have hg := C0.2.2.2.2.2.2.2.2.2
  have hts := C0.2.2.2.2.2.1
  exact fx_stAr (C := "FieldBand$Deed") (n := "PLAYS_BODIES") (b := [2, -1, 21, -1, -1, -1, 61]) (by decide) (cR9 (cR9 (cR9 (cR9 (cR9 (cL9 (cL9 (cL9 (cL9 (cR9 hg)))))))))) (cL9 (cL9 (cL9 (cL9 (cR9 (cL9 (cL9 (cL9 (cR9 hg))))))))) (fun j hj => match j, hj with | 0, _ => (cL9 (cR9 (cL9 (cL9 (cL9 (cR9 (cL9 (cL9 (cL9 (cR9 hg)))))))))) | 1, _ => (cR9 (cR9 (cL9 (cL9 (cL9 (cR9 (cL9 (cL9 (cL9 (cR9 hg)))))))))) | 2, _ => (cL9 (cL9 (cR9 (cL9 (cL9 (cR9 (cL9 (cL9 (cL9 (cR9 hg)))))))))) | 3, _ => (cR9 (cL9 (cR9 (cL9 (cL9 (cR9 (cL9 (cL9 (cL9 (cR9 hg)))))))))) | 4, _ => (cL9 (cR9 (cR9 (cL9 (cL9 (cR9 (cL9 (cL9 (cL9 (cR9 hg)))))))))) | 5, _ => (cR9 (cR9 (cR9 (cL9 (cL9 (cR9 (cL9 (cL9 (cL9 (cR9 hg)))))))))) | 6, _ => (cL9 (cL9 (cL9 (cR9 (cL9 (cR9 (cL9 (cL9 (cL9 (cR9 hg)))))))))) | n + 7, h => absurd h (by simp)) (hts _ (tin4 _ (List.mem_of_getElem? (i := 12) rfl))) (hts _ (tin1 _ (List.mem_of_getElem? (i := 4) rfl))) (fun a ha => Nat.not_le.mpr ha)
set_option maxRecDepth 100000 in
theorem fx_a3 {p : Program} {s : State} {m : MethodId} {meth : Method} {c : Code} {b L : Nat} {xs : Nat → Int32} (C0 : lw_At p s m meth c b L xs) : ∃ t : Nat, va_Z (kx_a 3).1 (kx_a 3).2.1 "[I" (.ref t) (fun q => s.heap.size ≤ q) s s.heap ∧ va_T .int t 7 (fun i => .int ((kx_a 3).2.2.getD i 0)) (fun q => s.heap.size ≤ q) s s.heap := by
  have hg := C0.2.2.2.2.2.2.2.2.2
  have hts := C0.2.2.2.2.2.1
  exact fx_stAr (C := "FieldBand$Deed") (n := "FITS_BODIES") (b := [3, -1, -1, 31, 41, -1, -1]) (by decide) (cL9 (cR9 (cL9 (cR9 (cL9 (cR9 (cL9 (cL9 (cL9 (cR9 hg)))))))))) (cR9 (cR9 (cL9 (cR9 (cL9 (cR9 (cL9 (cL9 (cL9 (cR9 hg)))))))))) (fun j hj => match j, hj with | 0, _ => (cL9 (cL9 (cR9 (cR9 (cL9 (cR9 (cL9 (cL9 (cL9 (cR9 hg)))))))))) | 1, _ => (cR9 (cL9 (cR9 (cR9 (cL9 (cR9 (cL9 (cL9 (cL9 (cR9 hg)))))))))) | 2, _ => (cL9 (cR9 (cR9 (cR9 (cL9 (cR9 (cL9 (cL9 (cL9 (cR9 hg)))))))))) | 3, _ => (cR9 (cR9 (cR9 (cR9 (cL9 (cR9 (cL9 (cL9 (cL9 (cR9 hg)))))))))) | 4, _ => (cL9 (cL9 (cL9 (cR9 (cR9 (cL9 (cL9 (cL9 (cR9 hg))))))))) | 5, _ => (cL9 (cR9 (cL9 (cL9 (cR9 (cR9 (cL9 (cL9 (cL9 (cR9 hg)))))))))) | 6, _ => (cR9 (cR9 (cL9 (cL9 (cR9 (cR9 (cL9 (cL9 (cL9 (cR9 hg)))))))))) | n + 7, h => absurd h (by simp)) (hts _ (tin4 _ (List.mem_of_getElem? (i := 14) rfl))) (hts _ (tin1 _ (List.mem_of_getElem? (i := 4) rfl))) (fun a ha => Nat.not_le.mpr ha)
theorem fx_aty {s : State} {args : Array Value} {ty : FieldType} (h : (Cond.arrayClass ty).before args s = true) (hty : ∀ C, ty ≠ .object C) : ∃ cA : ClassId, ArrOfT s cA ty ∧ va_RA s cA ty := by
  obtain ⟨cA, kA, comp, h1, h2, h3⟩ := Cond.arrayClass_spec h
  refine ⟨cA, fun n z => ⟨(fun k h => by cases h), kA, h2, comp, h3⟩, ?_⟩
  cases ty with
  | object C => exact absurd rfl (hty C)
  | _ => exact h1
theorem fx_atq {s : State} {C : String} (h : va_AO C s) : ∃ cA : ClassId, ArrOfT s cA (.object C) ∧ va_RA s cA (.object C) := by
  obtain ⟨comp, cA, kA, h1, h2, h3, h4, h5⟩ := Cond.arrayOver_spec h
  exact ⟨cA, fun n z => ⟨(fun k h => by cases h), kA, h3, comp, h4⟩, kA, comp, h3, h4, h1, h5⟩
set_option maxRecDepth 100000 in
set_option maxHeartbeats 4000000 in
/-- the environment at the law's entry -/
theorem lw_env {p : Program} {s : State} {m : MethodId} {meth : Method} {c : Code} {b L : Nat} {xs : Nat → Int32} (C0 : lw_At p s m meth c b L xs) : ∃ E : fxE, va_K (E.2.1, E.2.2.1) vwCl (fx_tys E) s ∧ va_AO RX3 s ∧ fx_K E (fun q => s.heap.size ≤ q) s s.heap := by
  have hg := C0.2.2.2.2.2.2.2.2.2
  have hts := C0.2.2.2.2.2.1
  have hts2 : ∀ w ∈ wsL_law, w.before #[Value.ref b] s = true := fun w h => hts w (wsL_in w h)
  obtain ⟨k0, iS0, hKn0⟩ := u_known (C := RX0) (T := TX0) (N := 5) (n := 5) hts2 inlX0 (hts2 _ (rin2 _ (List.mem_of_getElem? (i := 2) rfl)))
  obtain ⟨k1, iS1, hKn1⟩ := u_known (C := RX1) (T := TX1) (N := 12) (n := 12) hts2 inlX1 (hts2 _ (rin1 _ (List.mem_of_getElem? (i := 14) rfl)))
  obtain ⟨k2, iS2, hKn2⟩ := u_known (C := RX2) (T := TX2) (N := 3) (n := 3) hts2 inlX2 (hts2 _ (rin2 _ (List.mem_of_getElem? (i := 8) rfl)))
  obtain ⟨k3, iS3, hKn3⟩ := u_known (C := RX3) (T := TX3) (N := 10) (n := 10) hts2 inlX3 (hts2 _ (rin2 _ (List.mem_of_getElem? (i := 5) rfl)))
  obtain ⟨k4, iS4, hKn4⟩ := u_known (C := RX4) (T := TX4) (N := 9) (n := 9) hts2 inlX4 (hts2 _ (rin2 _ (List.mem_of_getElem? (i := 12) rfl)))
  obtain ⟨k5, iS5, hKn5⟩ := u_known (C := RX5) (T := TX5) (N := 5) (n := 5) hts2 inlX5 (hts2 _ (rin1 _ (List.mem_of_getElem? (i := 22) rfl)))
  obtain ⟨k6, iS6, hKn6⟩ := u_known (C := RX6) (T := TX6) (N := 8) (n := 8) hts2 inlX6 (hts2 _ (rin1 _ (List.mem_of_getElem? (i := 1) rfl)))
  obtain ⟨k7, iS7, hKn7⟩ := u_known (C := RX7) (T := TX7) (N := 24) (n := 24) hts2 inlX7 (hts2 _ (rin1 _ (List.mem_of_getElem? (i := 4) rfl)))
  have hO : va_AO RX3 s := va_AO.of (hts _ (tin1 _ (List.mem_of_getElem? (i := 92) rfl)))
  obtain ⟨y0, hy0⟩ := fx_aty (ty := .int) (hts2 _ (rin2 _ (List.mem_of_getElem? (i := 19) rfl))) (fun C h => by cases h)
  obtain ⟨y1, hy1⟩ := fx_aty (ty := .byte) (hts2 _ (rin3 _ (List.mem_of_getElem? (i := 5) rfl))) (fun C h => by cases h)
  obtain ⟨y2, hy2⟩ := fx_aty (ty := .boolean) (hts2 _ (rin6 _ (List.mem_of_getElem? (i := 5) rfl))) (fun C h => by cases h)
  obtain ⟨y3, hy3⟩ := fx_atq hO
  obtain ⟨⟨u0, v0⟩, e0, s0⟩ := fx_s0 C0
  obtain ⟨⟨u1, v1⟩, e1, s1⟩ := fx_s1 C0
  obtain ⟨⟨u2, v2⟩, e2, s2⟩ := fx_s2 C0
  obtain ⟨⟨u3, v3⟩, e3, s3⟩ := fx_s3 C0
  obtain ⟨⟨u4, v4⟩, e4, s4⟩ := fx_s4 C0
  obtain ⟨⟨u5, v5⟩, e5, s5⟩ := fx_s5 C0
  obtain ⟨⟨u6, v6⟩, e6, s6⟩ := fx_s6 C0
  obtain ⟨⟨u7, v7⟩, e7, s7⟩ := fx_s7 C0
  obtain ⟨⟨u8, v8⟩, e8, s8⟩ := fx_s8 C0
  obtain ⟨⟨u9, v9⟩, e9, s9⟩ := fx_s9 C0
  obtain ⟨⟨u10, v10⟩, e10, s10⟩ := fx_s10 C0
  obtain ⟨⟨u11, v11⟩, e11, s11⟩ := fx_s11 C0
  obtain ⟨⟨u12, v12⟩, e12, s12⟩ := fx_s12 C0
  obtain ⟨⟨u13, v13⟩, e13, s13⟩ := fx_s13 C0
  obtain ⟨⟨u14, v14⟩, e14, s14⟩ := fx_s14 C0
  obtain ⟨⟨u15, v15⟩, e15, s15⟩ := fx_s15 C0
  obtain ⟨⟨u16, v16⟩, e16, s16⟩ := fx_s16 C0
  obtain ⟨⟨u17, v17⟩, e17, s17⟩ := fx_s17 C0
  obtain ⟨⟨u18, v18⟩, e18, s18⟩ := fx_s18 C0
  obtain ⟨⟨u19, v19⟩, e19, s19⟩ := fx_s19 C0
  obtain ⟨⟨u20, v20⟩, e20, s20⟩ := fx_s20 C0
  obtain ⟨⟨u21, v21⟩, e21, s21⟩ := fx_s21 C0
  obtain ⟨⟨u22, v22⟩, e22, s22⟩ := fx_s22 C0
  obtain ⟨w0, z0⟩ := fx_a0 C0
  obtain ⟨w1, z1⟩ := fx_a1 C0
  obtain ⟨w2, z2⟩ := fx_a2 C0
  obtain ⟨w3, z3⟩ := fx_a3 C0
  have hfm : ∃ f : Option Nat, va_Z "jdk/internal/util/Preconditions" "SIOOBE_FORMATTER" "Ljava/util/function/BiFunction;" (va_rf f) (fun q => s.heap.size ≤ q) s s.heap := by
    rcases va_Zqof (A := fun q => s.heap.size ≤ q) (hts _ (tin2 _ (List.mem_of_getElem? (i := 86) rfl))) (hts _ (tin1 _ (List.mem_of_getElem? (i := 11) rfl))) (cL9 (cL9 (cR9 (cL9 (cL9 (cL9 (cL9 (cL9 (cL9 (cR9 hg)))))))))) (fun a ha => Nat.not_le.mpr ha) with h | ⟨t, h⟩
    · exact ⟨none, h⟩
    · exact ⟨some t, h⟩
  obtain ⟨fm, hfm⟩ := hfm
  have hcs : va_Z "java/lang/String" "COMPACT_STRINGS" "Z" (.int 1) (fun q => s.heap.size ≤ q) s s.heap := va_Zof (hts _ (tin1 _ (List.mem_of_getElem? (i := 218) rfl))) (hts _ (tin1 _ (List.mem_of_getElem? (i := 8) rfl))) (va_eqt (cR9 (cR9 (cL9 (cL9 (cL9 (cL9 (cL9 (cL9 (cL9 (cR9 hg))))))))))) (fun a ha => Nat.not_le.mpr ha)
  refine ⟨(fun k => if k < 2000 then ([u0, u1, u2, u3, u4, u5, u6, u7, u8, u9, u10, u11, u12, u13, u14, u15, u16, u17, u18, u19, u20, u21, u22] : List Nat).getD (k - 1000) 0 else if k < 3000 then ([v0, v1, v2, v3, v4, v5, v6, v7, v8, v9, v10, v11, v12, v13, v14, v15, v16, v17, v18, v19, v20, v21, v22] : List Nat).getD (k - 2000) 0 else ([w0, w1, w2, w3] : List Nat).getD (k - 3000) 0, fun k => ([k0, k1, k2, k3, k4, k5, k6, k7] : List ClassId).getD k 0, fun k => ([iS0, iS1, iS2, iS3, iS4, iS5, iS6, iS7] : List (Nat → Nat)).getD k (fun _ => 0), fun k => ([y0, y1, y2, y3] : List ClassId).getD k 0, fm), ⟨?_, ?_⟩, hO, ?_⟩
  · intro k q hq
    match k, hq with
    | 0, hq => cases hq; exact hKn0
    | 1, hq => cases hq; exact hKn1
    | 2, hq => cases hq; exact hKn2
    | 3, hq => cases hq; exact hKn3
    | 4, hq => cases hq; exact hKn4
    | 5, hq => cases hq; exact hKn5
    | 6, hq => cases hq; exact hKn6
    | 7, hq => cases hq; exact hKn7
    | k + 8, hq => simp [vwCl] at hq
  · intro k q hq
    match k, hq with
    | 0, hq => cases hq; exact hy0
    | 1, hq => cases hq; exact hy1
    | 2, hq => cases hq; exact hy2
    | 3, hq => cases hq; exact hy3
    | k + 4, hq => simp [fx_tys] at hq
  · refine ⟨fun i hi => ?_, hcs, hfm, fun j hj => ?_, ?_, ?_⟩
    · match i, hi with
      | 0, _ => exact ⟨s0, vk_R.of (hts _ (tin1 _ (List.mem_of_getElem? (i := 208) rfl))) e0⟩
      | 1, _ => exact ⟨s1, vk_R.of (hts _ (tin2 _ (List.mem_of_getElem? (i := 61) rfl))) e1⟩
      | 2, _ => exact ⟨s2, vk_R.of (hts _ (tin2 _ (List.mem_of_getElem? (i := 62) rfl))) e2⟩
      | 3, _ => exact ⟨s3, vk_R.of (hts _ (tin2 _ (List.mem_of_getElem? (i := 63) rfl))) e3⟩
      | 4, _ => exact ⟨s4, vk_R.of (hts _ (tin2 _ (List.mem_of_getElem? (i := 64) rfl))) e4⟩
      | 5, _ => exact ⟨s5, vk_R.of (hts _ (tin2 _ (List.mem_of_getElem? (i := 65) rfl))) e5⟩
      | 6, _ => exact ⟨s6, vk_R.of (hts _ (tin2 _ (List.mem_of_getElem? (i := 112) rfl))) e6⟩
      | 7, _ => exact ⟨s7, vk_R.of (hts _ (tin2 _ (List.mem_of_getElem? (i := 182) rfl))) e7⟩
      | 8, _ => exact ⟨s8, vk_R.of (hts _ (tin2 _ (List.mem_of_getElem? (i := 195) rfl))) e8⟩
      | 9, _ => exact ⟨s9, vk_R.of (hts _ (tin2 _ (List.mem_of_getElem? (i := 200) rfl))) e9⟩
      | 10, _ => exact ⟨s10, vk_R.of (hts _ (tin2 _ (List.mem_of_getElem? (i := 201) rfl))) e10⟩
      | 11, _ => exact ⟨s11, vk_R.of (hts _ (tin2 _ (List.mem_of_getElem? (i := 206) rfl))) e11⟩
      | 12, _ => exact ⟨s12, vk_R.of (hts _ (tin2 _ (List.mem_of_getElem? (i := 207) rfl))) e12⟩
      | 13, _ => exact ⟨s13, vk_R.of (hts _ (tin2 _ (List.mem_of_getElem? (i := 211) rfl))) e13⟩
      | 14, _ => exact ⟨s14, vk_R.of (hts _ (tin2 _ (List.mem_of_getElem? (i := 212) rfl))) e14⟩
      | 15, _ => exact ⟨s15, vk_R.of (hts _ (tin2 _ (List.mem_of_getElem? (i := 218) rfl))) e15⟩
      | 16, _ => exact ⟨s16, vk_R.of (hts _ (tin4 _ (List.mem_of_getElem? (i := 154) rfl))) e16⟩
      | 17, _ => exact ⟨s17, vk_R.of (hts _ (tin4 _ (List.mem_of_getElem? (i := 185) rfl))) e17⟩
      | 18, _ => exact ⟨s18, vk_R.of (hts _ (tin4 _ (List.mem_of_getElem? (i := 190) rfl))) e18⟩
      | 19, _ => exact ⟨s19, vk_R.of (hts _ (tin4 _ (List.mem_of_getElem? (i := 191) rfl))) e19⟩
      | 20, _ => exact ⟨s20, vk_R.of (hts _ (tin4 _ (List.mem_of_getElem? (i := 192) rfl))) e20⟩
      | 21, _ => exact ⟨s21, vk_R.of (hts _ (tin4 _ (List.mem_of_getElem? (i := 197) rfl))) e21⟩
      | 22, _ => exact ⟨s22, vk_R.of (hts _ (tin4 _ (List.mem_of_getElem? (i := 198) rfl))) e22⟩
      | i + 23, hi => exact absurd hi (by omega)
    · match j, hj with
      | 0, _ => exact z0
      | 1, _ => exact z1
      | 2, _ => exact z2
      | 3, _ => exact z3
      | j + 4, hj => exact absurd hj (by omega)
    · exact List.forall_mem_cons.mpr ⟨va_Nw.of rfl (hts _ (tin1 _ (List.mem_of_getElem? (i := 26) rfl))), List.forall_mem_cons.mpr ⟨va_Nw.of rfl (hts _ (tin1 _ (List.mem_of_getElem? (i := 120) rfl))), List.forall_mem_cons.mpr ⟨va_Nw.of rfl (hts _ (tin1 _ (List.mem_of_getElem? (i := 146) rfl))), List.forall_mem_cons.mpr ⟨va_Nw.of rfl (hts _ (tin3 _ (List.mem_of_getElem? (i := 25) rfl))), List.forall_mem_cons.mpr ⟨va_Nw.of rfl (hts _ (tin3 _ (List.mem_of_getElem? (i := 28) rfl))), List.forall_mem_cons.mpr ⟨va_Nw.of rfl (hts _ (tin3 _ (List.mem_of_getElem? (i := 54) rfl))), List.forall_mem_cons.mpr ⟨va_Nw.of rfl (hts _ (tin3 _ (List.mem_of_getElem? (i := 71) rfl))), List.forall_mem_cons.mpr ⟨va_Nw.of rfl (hts _ (tin3 _ (List.mem_of_getElem? (i := 100) rfl))), List.forall_mem_cons.mpr ⟨va_Nw.of rfl (hts _ (tin3 _ (List.mem_of_getElem? (i := 189) rfl))), List.forall_mem_cons.mpr ⟨va_Nw.of rfl (hts _ (tin3 _ (List.mem_of_getElem? (i := 203) rfl))), List.forall_mem_cons.mpr ⟨va_Nw.of rfl (hts _ (tin3 _ (List.mem_of_getElem? (i := 204) rfl))), List.forall_mem_cons.mpr ⟨va_Nw.of rfl (hts _ (tin4 _ (List.mem_of_getElem? (i := 2) rfl))), fun _ h => absurd h List.not_mem_nil⟩⟩⟩⟩⟩⟩⟩⟩⟩⟩⟩⟩
    · exact va_Nw.of rfl (hts _ (tin4 _ (List.mem_of_getElem? (i := 15) rfl)))
