/-! THE LAW'S LOOP over both groups -/
def lx_X (p : Program) (s : State) (m : MethodId) (meth : Method) (c : Code) (b L : Nat) (xs : Nat → Int32) (EC EM : fxE) : Prop := lw_At p s m meth c b L xs ∧ EC.2 = EM.2 ∧ va_K (EC.2.1, EC.2.2.1) vwCl (fx_tys EC) s ∧ fx_K EC (fun q => s.heap.size ≤ q) s s.heap ∧ fx_K EM (fun q => s.heap.size ≤ q) s s.heap ∧ (∀ i j, i < 64 → j < 64 → EC.1 i = EC.1 j → i = j) ∧ (∀ i j, i < 8 → j < 8 → EM.1 i = EM.1 j → i = j) ∧ (∀ i j, i < 64 → j < 8 → EC.1 i ≠ EM.1 j) ∧ (∀ i, i < 64 → s.heap.size ≤ EC.1 i) ∧ (∀ i, i < 8 → s.heap.size ≤ EM.1 i)
def lx_V (p : Program) (l : Launch) (e : Env) (s : State) (m : MethodId) (below : List Frame) (meth : Method) (c : Code) (b : Nat) (EC EM : fxE) (pc : Nat) (lv : List (Nat × Value)) (st : List Value) (Mc Mm : fxMem) : Prop := ∀ (H : Heap) (locs : List Loc) (ls : Array Slot), va_P (EC.2.1, EC.2.2.1) vwCl (fx_w gC EC Mc) H → va_P (EM.2.1, EM.2.2.1) vwCl (fx_w gM EM Mm) H → va_S (fun q => s.heap.size ≤ q) s.heap H locs → lv_has ls 4 lv → W p l e room_1 s m #[Value.ref b] below meth c H locs 72 3430 (lw_Z below #[Value.ref b] s) (F0 m pc ls st)
section LX
variable {p : Program} {l : Launch} {e : Env} {s : State} {m : MethodId} {below : List Frame} {meth : Method} {c : Code} {b L : Nat} {xs : Nat → Int32} {EC EM : fxE} {lv : List (Nat × Value)} {st : List Value} {Mc Mm : fxMem}
theorem lx_iconst (X : lx_X p s m meth c b L xs EC EM) (pc : Nat) {n : Int} {x : Int32} (hd : decode code pc = .ok (.iconst n, 1)) (hv : Int32.ofInt n = x) (k : lx_V p l e s m below meth c b EC EM (pc + 1) lv (.int x :: st) Mc Mm) : lx_V p l e s m below meth c b EC EM pc lv st Mc Mm :=
  fun H locs ls hC hM hS hl => lv_iconst X.1.1 X.1.2.1 hd hv (k H locs ls hC hM hS hl)
theorem lx_bipush (X : lx_X p s m meth c b L xs EC EM) (pc : Nat) {n : Int} {x : Int32} (hd : decode code pc = .ok (.bipush n, 2)) (hv : (Int8.ofInt n).toInt32 = x) (k : lx_V p l e s m below meth c b EC EM (pc + 2) lv (.int x :: st) Mc Mm) : lx_V p l e s m below meth c b EC EM pc lv st Mc Mm :=
  fun H locs ls hC hM hS hl => lv_bipush X.1.1 X.1.2.1 hd hv (k H locs ls hC hM hS hl)
theorem lx_iload_n (X : lx_X p s m meth c b L xs EC EM) (pc : Nat) {kf : Fin 4} {i : Nat} {x : Int32} (hd : decode code pc = .ok (.iload_n kf, 1)) (hi : (kf : Nat) = i) (j : Nat) (hj : lv[j]? = some (i, .int x)) (k : lx_V p l e s m below meth c b EC EM (pc + 1) lv (.int x :: st) Mc Mm) : lx_V p l e s m below meth c b EC EM pc lv st Mc Mm :=
  fun H locs ls hC hM hS hl => lv_iload_n X.1.1 X.1.2.1 hd hi (lv_at hl j hj) (k H locs ls hC hM hS hl)
theorem lx_aload_n (X : lx_X p s m meth c b L xs EC EM) (pc : Nat) {kf : Fin 4} {i x : Nat} (hd : decode code pc = .ok (.aload_n kf, 1)) (hi : (kf : Nat) = i) (j : Nat) (hj : lv[j]? = some (i, .ref x)) (k : lx_V p l e s m below meth c b EC EM (pc + 1) lv (.ref x :: st) Mc Mm) : lx_V p l e s m below meth c b EC EM pc lv st Mc Mm :=
  fun H locs ls hC hM hS hl => lv_aload_n X.1.1 X.1.2.1 hd hi (lv_at hl j hj) (k H locs ls hC hM hS hl)
theorem lx_iadd (X : lx_X p s m meth c b L xs EC EM) (pc : Nat) {x y : Int32} (hd : decode code pc = .ok (.iadd, 1)) (k : lx_V p l e s m below meth c b EC EM (pc + 1) lv (.int (x + y) :: st) Mc Mm) : lx_V p l e s m below meth c b EC EM pc lv (.int y :: .int x :: st) Mc Mm :=
  fun H locs ls hC hM hS hl => lv_iadd X.1.1 X.1.2.1 hd (k H locs ls hC hM hS hl)
theorem lx_isub (X : lx_X p s m meth c b L xs EC EM) (pc : Nat) {x y : Int32} (hd : decode code pc = .ok (.isub, 1)) (k : lx_V p l e s m below meth c b EC EM (pc + 1) lv (.int (x - y) :: st) Mc Mm) : lx_V p l e s m below meth c b EC EM pc lv (.int y :: .int x :: st) Mc Mm :=
  fun H locs ls hC hM hS hl => lv_isub X.1.1 X.1.2.1 hd (k H locs ls hC hM hS hl)
theorem lx_iand (X : lx_X p s m meth c b L xs EC EM) (pc : Nat) {x y : Int32} (hd : decode code pc = .ok (.iand, 1)) (k : lx_V p l e s m below meth c b EC EM (pc + 1) lv (.int (x &&& y) :: st) Mc Mm) : lx_V p l e s m below meth c b EC EM pc lv (.int y :: .int x :: st) Mc Mm :=
  fun H locs ls hC hM hS hl => lv_iand X.1.1 X.1.2.1 hd (k H locs ls hC hM hS hl)
theorem lx_i2l (X : lx_X p s m meth c b L xs EC EM) (pc : Nat) {x : Int32} (hd : decode code pc = .ok (.i2l, 1)) (k : lx_V p l e s m below meth c b EC EM (pc + 1) lv (.long x.toInt64 :: st) Mc Mm) : lx_V p l e s m below meth c b EC EM pc lv (.int x :: st) Mc Mm :=
  fun H locs ls hC hM hS hl => lv_i2l X.1.1 X.1.2.1 hd rfl (k H locs ls hC hM hS hl)
theorem lx_lshl (X : lx_X p s m meth c b L xs EC EM) (pc : Nat) {x : Int64} {y : Int32} (hd : decode code pc = .ok (.lshl, 1)) (k : lx_V p l e s m below meth c b EC EM (pc + 1) lv (.long (x <<< (y.toInt64 &&& 63)) :: st) Mc Mm) : lx_V p l e s m below meth c b EC EM pc lv (.int y :: .long x :: st) Mc Mm :=
  fun H locs ls hC hM hS hl => lv_lshl X.1.1 X.1.2.1 hd rfl (k H locs ls hC hM hS hl)
theorem lx_land (X : lx_X p s m meth c b L xs EC EM) (pc : Nat) {x y : Int64} (hd : decode code pc = .ok (.land, 1)) (k : lx_V p l e s m below meth c b EC EM (pc + 1) lv (.long (x &&& y) :: st) Mc Mm) : lx_V p l e s m below meth c b EC EM pc lv (.long y :: .long x :: st) Mc Mm :=
  fun H locs ls hC hM hS hl => lv_land X.1.1 X.1.2.1 hd (k H locs ls hC hM hS hl)
theorem lx_lor (X : lx_X p s m meth c b L xs EC EM) (pc : Nat) {x y : Int64} (hd : decode code pc = .ok (.lor, 1)) (k : lx_V p l e s m below meth c b EC EM (pc + 1) lv (.long (x ||| y) :: st) Mc Mm) : lx_V p l e s m below meth c b EC EM pc lv (.long y :: .long x :: st) Mc Mm :=
  fun H locs ls hC hM hS hl => lv_lor X.1.1 X.1.2.1 hd (k H locs ls hC hM hS hl)
theorem lx_ldc2 (X : lx_X p s m meth c b L xs EC EM) (pc : Nat) (hd : decode code pc = .ok (.ldc2_w 13, 3)) (k : lx_V p l e s m below meth c b EC EM (pc + 3) lv (.long 4294967295 :: st) Mc Mm) : lx_V p l e s m below meth c b EC EM pc lv st Mc Mm :=
  fun H locs ls hC hM hS hl => lv_ldc2 X.1.1 X.1.2.1 X.1.2.2.2.2.1 (X.1.2.2.2.2.2.1 _ (wsL_in _ lcL_13)) hd (k H locs ls hC hM hS hl)
theorem lx_sld (X : lx_X p s m meth c b L xs EC EM) (pc : Nat) {x : Int32} (hd : decode code pc = .ok (.iaload, 1)) (hi : vp_in x L) (k : lx_V p l e s m below meth c b EC EM (pc + 1) lv (.int (xs x.toNatClampNeg) :: st) Mc Mm) : lx_V p l e s m below meth c b EC EM pc lv (.int x :: .ref b :: st) Mc Mm :=
  fun H locs ls hC hM hS hl => va_sld X.1.1 X.1.2.1 X.1.2.2.2.2.2.2.1 X.1.2.2.2.2.2.2.2.1 (Nat.not_le.mpr X.1.2.2.2.2.2.2.2.1) hS hi hd (k H locs ls hC hM hS hl)
theorem lx_slen (X : lx_X p s m meth c b L xs EC EM) (pc : Nat) (hd : decode code pc = .ok (.arraylength, 1)) (k : lx_V p l e s m below meth c b EC EM (pc + 1) lv (.int (Int32.ofNat L) :: st) Mc Mm) : lx_V p l e s m below meth c b EC EM pc lv (.ref b :: st) Mc Mm :=
  fun H locs ls hC hM hS hl => va_slen X.1.1 X.1.2.1 X.1.2.2.2.2.2.2.1 X.1.2.2.2.2.2.2.2.1 (Nat.not_le.mpr X.1.2.2.2.2.2.2.2.1) hS hd (k H locs ls hC hM hS hl)
theorem lx_goto (X : lx_X p s m meth c b L xs EC EM) (pc : Nat) (tgt : Nat) {off : Int} (hd : decode code pc = .ok (.goto off, 3)) (ht : (pc : Int) + off = (tgt : Int)) (k : lx_V p l e s m below meth c b EC EM tgt lv st Mc Mm) : lx_V p l e s m below meth c b EC EM pc lv st Mc Mm :=
  fun H locs ls hC hM hS hl => lv_goto X.1.1 X.1.2.1 hd ht (k H locs ls hC hM hS hl)
theorem lx_tsI (X : lx_X p s m meth c b L xs EC EM) (pc : Nat) (tgt : Nat) {dflt lo hi : Int} {offs : Array Int} {len : Nat} {x : Int32} {off : Int} (hd : decode code pc = .ok (.tableswitch dflt lo hi offs, len)) (h1 : ¬ x.toInt < lo) (h2 : ¬ hi < x.toInt) (ho : offs[(x.toInt - lo).toNat]? = some off) (ht : (pc : Int) + off = (tgt : Int)) (k : lx_V p l e s m below meth c b EC EM tgt lv st Mc Mm) : lx_V p l e s m below meth c b EC EM pc lv (.int x :: st) Mc Mm :=
  fun H locs ls hC hM hS hl => lv_tableIn X.1.1 X.1.2.1 hd h1 h2 ho ht (k H locs ls hC hM hS hl)
theorem lx_tsD (X : lx_X p s m meth c b L xs EC EM) (pc : Nat) (tgt : Nat) {dflt lo hi : Int} {offs : Array Int} {len : Nat} {x : Int32} (hd : decode code pc = .ok (.tableswitch dflt lo hi offs, len)) (h : x.toInt < lo ∨ hi < x.toInt) (ht : (pc : Int) + dflt = (tgt : Int)) (k : lx_V p l e s m below meth c b EC EM tgt lv st Mc Mm) : lx_V p l e s m below meth c b EC EM pc lv (.int x :: st) Mc Mm :=
  fun H locs ls hC hM hS hl => lv_tableOut X.1.1 X.1.2.1 hd h ht (k H locs ls hC hM hS hl)
theorem lx_iinc (X : lx_X p s m meth c b L xs EC EM) (pc : Nat) {i : Nat} {n : Int} {x y : Int32} {lv' : List (Nat × Value)} (hd : decode code pc = .ok (.iinc i n, 3)) (j : Nat) (hj : lv[j]? = some (i, .int x)) (hv : x + Int32.ofInt n = y) (hn : i < 4) (hlv : (i, Value.int y) :: lv.filter (fun q => !(q.1 == i) && !(q.1 + 1 == i && q.2.category == 2)) = lv') (k : lx_V p l e s m below meth c b EC EM (pc + 3) lv' st Mc Mm) : lx_V p l e s m below meth c b EC EM pc lv st Mc Mm :=
  fun H locs ls hC hM hS hl => lv_iinc (k := j) X.1.1 X.1.2.1 hd hl hj hv hn hlv (fun ls' hl' => k H locs ls' hC hM hS hl')
theorem lx_sub {lv' : List (Nat × Value)} (ks : List Nat) {pc : Nat} (h : lv_pick lv ks = lv') (k : lx_V p l e s m below meth c b EC EM pc lv' st Mc Mm) : lx_V p l e s m below meth c b EC EM pc lv st Mc Mm :=
  fun H locs ls hC hM hS hl => k H locs ls hC hM hS (lv_sub hl ks h)
theorem lx_gt (X : lx_X p s m meth c b L xs EC EM) (pc tgt : Nat) {off : Int} {x y : Int32} (hd : decode code pc = .ok (.if_icmp .gt off, 3)) (ht : (pc : Int) + off = (tgt : Int)) (kt : y < x → lx_V p l e s m below meth c b EC EM tgt lv st Mc Mm) (kf : ¬ y < x → lx_V p l e s m below meth c b EC EM (pc + 3) lv st Mc Mm) : lx_V p l e s m below meth c b EC EM pc lv (.int y :: .int x :: st) Mc Mm :=
  fun H locs ls hC hM hS hl => lv_icmp_gt X.1.1 X.1.2.1 hd ht (fun z => kt z H locs ls hC hM hS hl) (fun z => kf z H locs ls hC hM hS hl)
theorem lx_eq (X : lx_X p s m meth c b L xs EC EM) (pc tgt : Nat) {off : Int} {x : Int32} (hd : decode code pc = .ok (.if_icmp .eq off, 3)) (ht : (pc : Int) + off = (tgt : Int)) (k : lx_V p l e s m below meth c b EC EM tgt lv st Mc Mm) : lx_V p l e s m below meth c b EC EM pc lv (.int x :: .int x :: st) Mc Mm :=
  fun H locs ls hC hM hS hl => lv_icmp_eq X.1.1 X.1.2.1 hd ht (fun _ => k H locs ls hC hM hS hl) (fun z => absurd rfl z)
theorem lx_ret (X : lx_X p s m meth c b L xs EC EM) (pc : Nat) (hd : decode code pc = .ok (.ireturn, 1)) : lx_V p l e s m below meth c b EC EM pc lv [.int 1] Mc Mm := by
  intro H locs ls hC hM hS hl
  refine va_forget (fun q hq => hS.2.2 q hq) ?_
  refine W.widen (k := 600000) (n := 7302250) (Nat.le_of_ble_eq_true rfl) (Nat.le_of_ble_eq_true rfl) ?_
  exact lw_ret X.1.1 X.1.2.1 X.1.2.2.1 X.1.2.2.2.2.2.2.2.2.1 hd
theorem lx_run {G : fxG} {E : fxE} {mt' : fxM} {n idx ci N : Nat} {T : u_T} {fs : (Nat → Nat) → (Nat → Int32) → List Value} {As st0 : List Value} {q : Int32 × fxMem} {M : fxMem} {H : Heap} {locs : List Loc} {ls : Array Slot} {Q : State → Prop} (C0 : lw_At p s m meth c b L xs) (hK : va_K (E.2.1, E.2.2.1) vwCl (fx_tys E) s) (hF : fx_K E (fun q => s.heap.size ≤ q) s s.heap) (hinj : ∀ i j, i < G.1 → j < G.1 → E.1 i = E.1 j → i = j) (hlow : ∀ i, i < G.1 → s.heap.size ≤ E.1 i) (pc : Nat) (okc : fx_cell G 0 ci mt'.1.cls T N fs) (ok : fx_okV mt' n) (hlink : Cond.methodLink RL idx mt'.1 ∈ wsL_law) (hR : mt'.2.2.2.2.1 + 1 ≤ 2048 ∧ 8 + (mt'.2.2.1 + 11) + mt'.2.2.2.2.2 ≤ 84000) (hn : As.length = n) (hAs : As.map (fx_tr E) = As) (hst : st0 = As.reverse ++ .ref (E.1 0) :: st) (hw : (st.map fun v => v.category).sum ≤ 8) (hd : decode code pc = .ok (.invokevirtual idx, 3)) (hT : fx_T G mt' (.ref 0 :: As) M (fx_ri q)) (hP : va_P (E.2.1, E.2.2.1) vwCl (fx_w G E M) H) (hS : va_S (fun q => s.heap.size ≤ q) s.heap H locs) (hsz : ls.size = 4)
    (kk : ∀ (H1 : Heap) (locs1 : List Loc), va_P (E.2.1, E.2.2.1) vwCl (fx_w G E q.2) H1 → (∀ a : Nat, a < H.size → ¬ fx_A G E H.size a → H1[a]? = H[a]?) → va_S (fun q => s.heap.size ≤ q) s.heap H1 locs1 → W p l e room_1 s m #[Value.ref b] below meth c H1 locs1 72 3430 Q (F0 m (pc + 3) ls (.int q.1 :: st))) : W p l e room_1 s m #[Value.ref b] below meth c H locs 72 3430 Q (F0 m pc ls st0) := by
  obtain ⟨hx, hb, hr, hml, hown, hts0, hX, hbl, hlk, hgv⟩ := C0
  have hts : ∀ w ∈ wsL_law, w.before #[Value.ref b] s = true := fun w h => hts0 w (wsL_in w h)
  obtain ⟨ok1, ok2, ok3⟩ := ok
  have hAA : ∀ q, fx_A G E H.size q → s.heap.size ≤ q := by
    intro q hq
    rcases hq with ⟨k, hk, rfl⟩ | hq
    · exact hlow k hk
    · exact Nat.le_trans hS.1 hq
  have cw := cwV (R := room_1) (s := s) (args := #[Value.ref b]) (own := RL) (C := mt'.1.cls) (index := idx) (y := mt'.1) (bytes := mt'.2.1) (maxL := mt'.2.2.1) (ret := mt'.2.2.2.1) (ws := fx_ws mt') (rm := fx_rm mt') (mc := 0) (ms := 0) n hts (by
    intro w hw
    unfold wsV at hw
    rcases List.mem_append.mp hw with h | h
    · simp only [List.mem_cons, List.not_mem_nil, or_false] at h
      rcases h with h | h | h | h
      · subst h; exact fx_gi hlink
      · subst h; exact fx_gi ok2
      · subst h; exact fx_gi ok3
      · subst h; exact fx_gi ok1.2.1
    · exact fx_gd ok1 w h) rfl rfl rfl ⟨rfl, ok1.2.2⟩ hR
  have he := fx_w_at (G := G) (E := E) (M := M) okc.1
  rw [okc.2.1] at he
  have run := va_runV (l := l) (e := e) (below := below) (meth := meth) (locs := locs) (cells := 72) (slots := 3430) (b := E.1 0) (As := As) (rest := st) (g := F0 m pc ls st0) ⟨hx, hb, hml, hown, hts⟩ (hT l E H.size) cw
    ⟨fx_blind _ _ _ _ _, va_recv hK hP okc.2.2.1 he, fun U hU hW => ⟨by rw [List.map_cons, hAs]; rfl, by rw [hU], by rw [hU]; exact hP, va_K.moved hW.alike hK, hinj, hF.go hW.alike (fun _ _ _ _ z => z.warm hW) (fun _ _ _ _ z => va_Nw.warmM hW z) (fun _ _ _ _ _ _ z => va_Nw.warmF hW z) (fun a ha hn => by rw [hU]; exact hS.2.1 a ha hn) hAA⟩⟩ rfl hn hsz hst (lv_room hw) hd ⟨Nat.le_of_ble_eq_true rfl, Nat.le_of_ble_eq_true rfl⟩
  intro T hT XX
  obtain ⟨v, st₀, t, T', Ll, h0, X', hL, e1, e2, ⟨⟨v', M', hv, ⟨rfl, rfl⟩, hp⟩, hz, hk⟩, stp⟩ := run T hT XX
  cases hv
  rw [h0] at hz hk
  obtain ⟨t2, a1, b1⟩ := kk T'.heap (locs ++ Ll) (by rw [e1]; exact hp) (fun a ha hn => by rw [e1]; exact hk a ha hn)
    ⟨Nat.le_trans hS.1 (by rw [e1]; exact hz), fun q h1 h2 => by rw [e1, hk q (Nat.lt_of_lt_of_le h1 hS.1) (fun z => h2 (hAA q z))]; exact hS.2.1 q h1 h2, fun q hq => by
      rcases List.mem_append.mp hq with h | h
      · exact hS.2.2 q h
      · exact hAA _ (hL q h)⟩ T' rfl X'
  exact ⟨t2, stp t2 a1, b1⟩
theorem lx_keep {G G' : fxG} {E E' : fxE} {M : fxMem} {H H1 : Heap} (hP : va_P (E'.2.1, E'.2.2.1) vwCl (fx_w G' E' M) H) (hdis : ∀ i j, i < G.1 → j < G'.1 → E.1 i ≠ E'.1 j) (hk : ∀ a : Nat, a < H.size → ¬ fx_A G E H.size a → H1[a]? = H[a]?) : va_P (E'.2.1, E'.2.2.1) vwCl (fx_w G' E' M) H1 := by
  refine hP.kept (fun j q hq => ?_)
  have hlt := (hP j q hq).lt
  refine hk q.1 hlt (fun z => ?_)
  have hj : j < G'.1 := by
    have := (List.getElem?_eq_some_iff.mp hq).1
    simpa [fx_w] using this
  rw [fx_w_at hj] at hq
  cases hq
  rcases z with ⟨k, hk1, hk2⟩ | z
  · exact hdis k j hk1 hj hk2.symm
  · exact absurd z (Nat.not_le.mpr hlt)
theorem lx_callC (X : lx_X p s m meth c b L xs EC EM) (pc : Nat) {mt' : fxM} {n idx : Nat} {As st0 : List Value} {q : Int32 × fxMem} (hcls : mt'.1.cls = RX6) (ok : fx_okV mt' n) (hlink : Cond.methodLink RL idx mt'.1 ∈ wsL_law) (hR : mt'.2.2.2.2.1 + 1 ≤ 2048 ∧ 8 + (mt'.2.2.1 + 11) + mt'.2.2.2.2.2 ≤ 84000) (hn : As.length = n) (hAs : As.map (fx_tr EC) = As) (hst : st0 = As.reverse ++ .ref (EC.1 0) :: st) (hw : (st.map fun v => v.category).sum ≤ 8) (hd : decode code pc = .ok (.invokevirtual idx, 3)) (hT : fx_T gC mt' (.ref 0 :: As) Mc (fx_ri q)) (k : lx_V p l e s m below meth c b EC EM (pc + 3) lv (.int q.1 :: st) q.2 Mm) : lx_V p l e s m below meth c b EC EM pc lv st0 Mc Mm := by
  intro H locs ls hC hM hS hl
  obtain ⟨C0, h2, hK, hF1, hF2, hi1, hi2, hdis, hl1, hl2⟩ := X
  refine lx_run C0 hK hF1 hi1 hl1 pc (by rw [hcls]; exact okc0) ok hlink hR hn hAs hst hw hd hT hC hS hl.1 (fun H1 locs1 hP1 hk1 hS1 => ?_)
  exact k H1 locs1 ls hP1 (lx_keep hM hdis hk1) hS1 hl
theorem lx_callM (X : lx_X p s m meth c b L xs EC EM) (pc : Nat) {mt' : fxM} {n idx : Nat} {As st0 : List Value} {q : Int32 × fxMem} (hcls : mt'.1.cls = RX7) (ok : fx_okV mt' n) (hlink : Cond.methodLink RL idx mt'.1 ∈ wsL_law) (hR : mt'.2.2.2.2.1 + 1 ≤ 2048 ∧ 8 + (mt'.2.2.1 + 11) + mt'.2.2.2.2.2 ≤ 84000) (hn : As.length = n) (hAs : As.map (fx_tr EM) = As) (hst : st0 = As.reverse ++ .ref (EM.1 0) :: st) (hw : (st.map fun v => v.category).sum ≤ 8) (hd : decode code pc = .ok (.invokevirtual idx, 3)) (hT : fx_T gM mt' (.ref 0 :: As) Mm (fx_ri q)) (k : lx_V p l e s m below meth c b EC EM (pc + 3) lv (.int q.1 :: st) Mc q.2) : lx_V p l e s m below meth c b EC EM pc lv st0 Mc Mm := by
  intro H locs ls hC hM hS hl
  obtain ⟨C0, h2, hK, hF1, hF2, hi1, hi2, hdis, hl1, hl2⟩ := X
  have hKM : va_K (EM.2.1, EM.2.2.1) vwCl (fx_tys EM) s := by
    have e : fx_tys EM = fx_tys EC := by simp only [fx_tys, h2]
    rw [e, ← h2]
    exact hK
  refine lx_run C0 hKM hF2 hi2 hl2 pc (by rw [hcls]; exact okm0) ok hlink hR hn hAs hst hw hd hT hM hS hl.1 (fun H1 locs1 hP1 hk1 hS1 => ?_)
  exact k H1 locs1 ls (lx_keep hC (fun i j hi hj z => hdis j i hj hi z.symm) hk1) hP1 hS1 hl
end LX
def lw_steps (PX : fxMem → fxMem → Prop) : Prop := (∀ W0 : Int64, ∀ a3 : Int32, st2 PX (CX6_feed W0 a3) (CX7_feed W0 a3)) ∧ (st2 PX (CX6_show ) (CX7_show )) ∧ (∀ a1 : Int32, st2 PX (CX6_told a1) (CX7_told a1)) ∧ (∀ a1 : Int32, ∀ a2 : Int32, ∀ a3 : Int32, st2 PX (CX6_player a1 a2 a3) (CX7_player a1 a2 a3)) ∧ (∀ a1 : Int32, ∀ a2 : Int32, st2 PX (CX6_of a1 a2) (CX7_of a1 a2)) ∧ (∀ a1 : Int32, st2 PX (CX6_drum a1) (CX7_drum a1)) ∧ (∀ a1 : Int32, ∀ a2 : Int32, st2 PX (CX6_put a1 a2) (CX7_put a1 a2)) ∧ (∀ a1 : Int32, ∀ a2 : Int32, st2 PX (CX6_heard a1 a2) (CX7_heard a1 a2)) ∧ (∀ a1 : Int32, ∀ a2 : Int32, st2 PX (CX6_spread a1 a2) (CX7_spread a1 a2)) ∧ (∀ a1 : Int32, ∀ a2 : Int32, st2 PX (CX6_back a1 a2) (CX7_back a1 a2)) ∧ (∀ a1 : Int32, st2 PX (CX6_best a1) (CX7_best a1)) ∧ (∀ a1 : Int32, ∀ a2 : Int32, st2 PX (CX6_early a1 a2) (CX7_early a1 a2)) ∧ (∀ a1 : Int32, st2 PX (CX6_beats a1) (CX7_beats a1)) ∧ (∀ a1 : Int32, st2 PX (CX6_form a1) (CX7_form a1)) ∧ (∀ a1 : Int32, st2 PX (CX6_way a1) (CX7_way a1)) ∧ (st2 PX (CX6_counts ) (CX7_counts )) ∧ (st2 PX (CX6_meet ) (CX7_meet )) ∧ (∀ a1 : Int32, st2 PX (CX6_hard a1) (CX7_hard a1)) ∧ (st2 PX (CX6_march ) (CX7_march )) ∧ (∀ a1 : Int32, st2 PX (CX6_seen a1) (CX7_seen a1)) ∧ (∀ a1 : Int32, st2 PX (CX6_off a1) (CX7_off a1)) ∧ (∀ a1 : Int32, ∀ a2 : Int32, ∀ a3 : Int32, st2 PX (CX6_whom a1 a2 a3) (CX7_whom a1 a2 a3)) ∧ (st2 PX (CX6_out ) (CX7_out )) ∧ (∀ a1 : Int32, ∀ a2 : Int32, ∀ a3 : Int32, st2 PX (CX6_act a1 a2 a3) (CX7_act a1 a2 a3)) ∧ (∀ a1 : Int32, st2 PX (CX6_trace a1) (CX7_trace a1)) ∧ (∀ a1 : Int32, ∀ a2 : Int32, st2 PX (CX6_as a1 a2) (CX7_as a1 a2)) ∧ (st2 PX (CX6_image ) (CX7_image )) ∧ (st2 PX (CX6_undo ) (CX7_undo )) ∧ (∀ a1 : Int32, st2 PX (CX6_count a1) (CX7_count a1))
set_option maxRecDepth 100000 in
set_option maxHeartbeats 4000000 in
theorem lx_case0 {p : Program} {l : Launch} {e : Env} {s : State} {m : MethodId} {below : List Frame} {meth : Method} {c : Code} {b L : Nat} {xs : Nat → Int32} {EC EM : fxE} {Mc Mm : fxMem} {PX : fxMem → fxMem → Prop} (X : lx_X p s m meth c b L xs EC EM) (hp : lw_steps PX) (hx : PX Mc Mm) {z : Int32} (h1 : vp_in (z + (1 : Int32)) L) (h2 : vp_in (z + (2 : Int32)) L) (h3 : vp_in (z + (3 : Int32)) L) (k : ∀ Mc Mm, PX Mc Mm → lx_V p l e s m below meth c b EC EM 931 [(0, .ref b), (1, .ref (EC.1 0)), (2, .ref (EM.1 0)), (3, .int z)] [] Mc Mm) : lx_V p l e s m below meth c b EC EM 164 [(0, .ref b), (1, .ref (EC.1 0)), (2, .ref (EM.1 0)), (3, .int z)] [] Mc Mm := by
  have hq := hp.1 ((xs (z + (1 : Int32)).toNatClampNeg).toInt64 <<< ((32 : Int32).toInt64 &&& 63) ||| ((xs (z + (2 : Int32)).toNatClampNeg).toInt64 &&& 4294967295)) (xs (z + (3 : Int32)).toNatClampNeg) Mc Mm hx
  obtain ⟨r, Mc2, Mm2, e1, e2, hx2⟩ := hq
  refine lx_aload_n X 164 dL_law_164 rfl 1 rfl ?_
  refine lx_aload_n X 165 dL_law_165 rfl 0 rfl ?_
  refine lx_iload_n X 166 dL_law_166 rfl 3 rfl ?_
  refine lx_iconst X 167 (x := (1 : Int32)) dL_law_167 (by decide) ?_
  refine lx_iadd X 168 dL_law_168 ?_
  refine lx_sld X 169 dL_law_169 h1 ?_
  refine lx_i2l X 170 dL_law_170 ?_
  refine lx_bipush X 171 (x := (32 : Int32)) dL_law_171 (by decide) ?_
  refine lx_lshl X 173 dL_law_173 ?_
  refine lx_aload_n X 174 dL_law_174 rfl 0 rfl ?_
  refine lx_iload_n X 175 dL_law_175 rfl 3 rfl ?_
  refine lx_iconst X 176 (x := (2 : Int32)) dL_law_176 (by decide) ?_
  refine lx_iadd X 177 dL_law_177 ?_
  refine lx_sld X 178 dL_law_178 h2 ?_
  refine lx_i2l X 179 dL_law_179 ?_
  refine lx_ldc2 X 180 dL_law_180 ?_
  refine lx_land X 183 dL_law_183 ?_
  refine lx_lor X 184 dL_law_184 ?_
  refine lx_aload_n X 185 dL_law_185 rfl 0 rfl ?_
  refine lx_iload_n X 186 dL_law_186 rfl 3 rfl ?_
  refine lx_iconst X 187 (x := (3 : Int32)) dL_law_187 (by decide) ?_
  refine lx_iadd X 188 dL_law_188 ?_
  refine lx_sld X 189 dL_law_189 h3 ?_
  refine lx_callC X 190 (mt' := mX6_feed) (As := [.long ((xs (z + (1 : Int32)).toNatClampNeg).toInt64 <<< ((32 : Int32).toInt64 &&& 63) ||| ((xs (z + (2 : Int32)).toNatClampNeg).toInt64 &&& 4294967295)), .int (xs (z + (3 : Int32)).toNatClampNeg)]) rfl (okvX6_feed _ _) lmL_15 (by decide) rfl rfl rfl (Nat.le_of_ble_eq_true rfl) dL_law_190 (tX6_feed e1) ?_
  refine lx_aload_n X 193 dL_law_193 rfl 2 rfl ?_
  refine lx_aload_n X 194 dL_law_194 rfl 0 rfl ?_
  refine lx_iload_n X 195 dL_law_195 rfl 3 rfl ?_
  refine lx_iconst X 196 (x := (1 : Int32)) dL_law_196 (by decide) ?_
  refine lx_iadd X 197 dL_law_197 ?_
  refine lx_sld X 198 dL_law_198 h1 ?_
  refine lx_i2l X 199 dL_law_199 ?_
  refine lx_bipush X 200 (x := (32 : Int32)) dL_law_200 (by decide) ?_
  refine lx_lshl X 202 dL_law_202 ?_
  refine lx_aload_n X 203 dL_law_203 rfl 0 rfl ?_
  refine lx_iload_n X 204 dL_law_204 rfl 3 rfl ?_
  refine lx_iconst X 205 (x := (2 : Int32)) dL_law_205 (by decide) ?_
  refine lx_iadd X 206 dL_law_206 ?_
  refine lx_sld X 207 dL_law_207 h2 ?_
  refine lx_i2l X 208 dL_law_208 ?_
  refine lx_ldc2 X 209 dL_law_209 ?_
  refine lx_land X 212 dL_law_212 ?_
  refine lx_lor X 213 dL_law_213 ?_
  refine lx_aload_n X 214 dL_law_214 rfl 0 rfl ?_
  refine lx_iload_n X 215 dL_law_215 rfl 3 rfl ?_
  refine lx_iconst X 216 (x := (3 : Int32)) dL_law_216 (by decide) ?_
  refine lx_iadd X 217 dL_law_217 ?_
  refine lx_sld X 218 dL_law_218 h3 ?_
  refine lx_callM X 219 (mt' := mX7_feed) (As := [.long ((xs (z + (1 : Int32)).toNatClampNeg).toInt64 <<< ((32 : Int32).toInt64 &&& 63) ||| ((xs (z + (2 : Int32)).toNatClampNeg).toInt64 &&& 4294967295)), .int (xs (z + (3 : Int32)).toNatClampNeg)]) rfl (okvX7_feed _ _) lmL_19 (by decide) rfl rfl rfl (Nat.le_of_ble_eq_true rfl) dL_law_219 (tX7_feed e2) ?_
  refine lx_eq X 222 931 dL_law_222 (by decide) ?_
  exact k Mc2 Mm2 hx2
set_option maxRecDepth 100000 in
set_option maxHeartbeats 4000000 in
theorem lx_case1 {p : Program} {l : Launch} {e : Env} {s : State} {m : MethodId} {below : List Frame} {meth : Method} {c : Code} {b L : Nat} {xs : Nat → Int32} {EC EM : fxE} {Mc Mm : fxMem} {PX : fxMem → fxMem → Prop} (X : lx_X p s m meth c b L xs EC EM) (hp : lw_steps PX) (hx : PX Mc Mm) {z : Int32} (h1 : vp_in (z + (1 : Int32)) L) (h2 : vp_in (z + (2 : Int32)) L) (h3 : vp_in (z + (3 : Int32)) L) (k : ∀ Mc Mm, PX Mc Mm → lx_V p l e s m below meth c b EC EM 931 [(0, .ref b), (1, .ref (EC.1 0)), (2, .ref (EM.1 0)), (3, .int z)] [] Mc Mm) : lx_V p l e s m below meth c b EC EM 227 [(0, .ref b), (1, .ref (EC.1 0)), (2, .ref (EM.1 0)), (3, .int z)] [] Mc Mm := by
  have hq := hp.2.1  Mc Mm hx
  obtain ⟨r, Mc2, Mm2, e1, e2, hx2⟩ := hq
  refine lx_aload_n X 227 dL_law_227 rfl 1 rfl ?_
  refine lx_callC X 228 (mt' := mX6_show) (As := []) rfl (okvX6_show _ _) lmL_20 (by decide) rfl rfl rfl (Nat.le_of_ble_eq_true rfl) dL_law_228 (tX6_show e1) ?_
  refine lx_aload_n X 231 dL_law_231 rfl 2 rfl ?_
  refine lx_callM X 232 (mt' := mX7_show) (As := []) rfl (okvX7_show _ _) lmL_24 (by decide) rfl rfl rfl (Nat.le_of_ble_eq_true rfl) dL_law_232 (tX7_show e2) ?_
  refine lx_eq X 235 931 dL_law_235 (by decide) ?_
  exact k Mc2 Mm2 hx2
set_option maxRecDepth 100000 in
set_option maxHeartbeats 4000000 in
theorem lx_case2 {p : Program} {l : Launch} {e : Env} {s : State} {m : MethodId} {below : List Frame} {meth : Method} {c : Code} {b L : Nat} {xs : Nat → Int32} {EC EM : fxE} {Mc Mm : fxMem} {PX : fxMem → fxMem → Prop} (X : lx_X p s m meth c b L xs EC EM) (hp : lw_steps PX) (hx : PX Mc Mm) {z : Int32} (h1 : vp_in (z + (1 : Int32)) L) (h2 : vp_in (z + (2 : Int32)) L) (h3 : vp_in (z + (3 : Int32)) L) (k : ∀ Mc Mm, PX Mc Mm → lx_V p l e s m below meth c b EC EM 931 [(0, .ref b), (1, .ref (EC.1 0)), (2, .ref (EM.1 0)), (3, .int z)] [] Mc Mm) : lx_V p l e s m below meth c b EC EM 240 [(0, .ref b), (1, .ref (EC.1 0)), (2, .ref (EM.1 0)), (3, .int z)] [] Mc Mm := by
  have hq := hp.2.2.1 (xs (z + (1 : Int32)).toNatClampNeg) Mc Mm hx
  obtain ⟨r, Mc2, Mm2, e1, e2, hx2⟩ := hq
  refine lx_aload_n X 240 dL_law_240 rfl 1 rfl ?_
  refine lx_aload_n X 241 dL_law_241 rfl 0 rfl ?_
  refine lx_iload_n X 242 dL_law_242 rfl 3 rfl ?_
  refine lx_iconst X 243 (x := (1 : Int32)) dL_law_243 (by decide) ?_
  refine lx_iadd X 244 dL_law_244 ?_
  refine lx_sld X 245 dL_law_245 h1 ?_
  refine lx_callC X 246 (mt' := mX6_told) (As := [.int (xs (z + (1 : Int32)).toNatClampNeg)]) rfl (okvX6_told _ _) lmL_25 (by decide) rfl rfl rfl (Nat.le_of_ble_eq_true rfl) dL_law_246 (tX6_told e1) ?_
  refine lx_aload_n X 249 dL_law_249 rfl 2 rfl ?_
  refine lx_aload_n X 250 dL_law_250 rfl 0 rfl ?_
  refine lx_iload_n X 251 dL_law_251 rfl 3 rfl ?_
  refine lx_iconst X 252 (x := (1 : Int32)) dL_law_252 (by decide) ?_
  refine lx_iadd X 253 dL_law_253 ?_
  refine lx_sld X 254 dL_law_254 h1 ?_
  refine lx_callM X 255 (mt' := mX7_told) (As := [.int (xs (z + (1 : Int32)).toNatClampNeg)]) rfl (okvX7_told _ _) lmL_29 (by decide) rfl rfl rfl (Nat.le_of_ble_eq_true rfl) dL_law_255 (tX7_told e2) ?_
  refine lx_eq X 258 931 dL_law_258 (by decide) ?_
  exact k Mc2 Mm2 hx2
set_option maxRecDepth 100000 in
set_option maxHeartbeats 4000000 in
theorem lx_case3 {p : Program} {l : Launch} {e : Env} {s : State} {m : MethodId} {below : List Frame} {meth : Method} {c : Code} {b L : Nat} {xs : Nat → Int32} {EC EM : fxE} {Mc Mm : fxMem} {PX : fxMem → fxMem → Prop} (X : lx_X p s m meth c b L xs EC EM) (hp : lw_steps PX) (hx : PX Mc Mm) {z : Int32} (h1 : vp_in (z + (1 : Int32)) L) (h2 : vp_in (z + (2 : Int32)) L) (h3 : vp_in (z + (3 : Int32)) L) (k : ∀ Mc Mm, PX Mc Mm → lx_V p l e s m below meth c b EC EM 931 [(0, .ref b), (1, .ref (EC.1 0)), (2, .ref (EM.1 0)), (3, .int z)] [] Mc Mm) : lx_V p l e s m below meth c b EC EM 263 [(0, .ref b), (1, .ref (EC.1 0)), (2, .ref (EM.1 0)), (3, .int z)] [] Mc Mm := by
  have hq := hp.2.2.2.1 (xs (z + (1 : Int32)).toNatClampNeg) (xs (z + (2 : Int32)).toNatClampNeg) (xs (z + (3 : Int32)).toNatClampNeg) Mc Mm hx
  obtain ⟨r, Mc2, Mm2, e1, e2, hx2⟩ := hq
  refine lx_aload_n X 263 dL_law_263 rfl 1 rfl ?_
  refine lx_aload_n X 264 dL_law_264 rfl 0 rfl ?_
  refine lx_iload_n X 265 dL_law_265 rfl 3 rfl ?_
  refine lx_iconst X 266 (x := (1 : Int32)) dL_law_266 (by decide) ?_
  refine lx_iadd X 267 dL_law_267 ?_
  refine lx_sld X 268 dL_law_268 h1 ?_
  refine lx_aload_n X 269 dL_law_269 rfl 0 rfl ?_
  refine lx_iload_n X 270 dL_law_270 rfl 3 rfl ?_
  refine lx_iconst X 271 (x := (2 : Int32)) dL_law_271 (by decide) ?_
  refine lx_iadd X 272 dL_law_272 ?_
  refine lx_sld X 273 dL_law_273 h2 ?_
  refine lx_aload_n X 274 dL_law_274 rfl 0 rfl ?_
  refine lx_iload_n X 275 dL_law_275 rfl 3 rfl ?_
  refine lx_iconst X 276 (x := (3 : Int32)) dL_law_276 (by decide) ?_
  refine lx_iadd X 277 dL_law_277 ?_
  refine lx_sld X 278 dL_law_278 h3 ?_
  refine lx_callC X 279 (mt' := mX6_player) (As := [.int (xs (z + (1 : Int32)).toNatClampNeg), .int (xs (z + (2 : Int32)).toNatClampNeg), .int (xs (z + (3 : Int32)).toNatClampNeg)]) rfl (okvX6_player _ _) lmL_30 (by decide) rfl rfl rfl (Nat.le_of_ble_eq_true rfl) dL_law_279 (tX6_player e1) ?_
  refine lx_aload_n X 282 dL_law_282 rfl 2 rfl ?_
  refine lx_aload_n X 283 dL_law_283 rfl 0 rfl ?_
  refine lx_iload_n X 284 dL_law_284 rfl 3 rfl ?_
  refine lx_iconst X 285 (x := (1 : Int32)) dL_law_285 (by decide) ?_
  refine lx_iadd X 286 dL_law_286 ?_
  refine lx_sld X 287 dL_law_287 h1 ?_
  refine lx_aload_n X 288 dL_law_288 rfl 0 rfl ?_
  refine lx_iload_n X 289 dL_law_289 rfl 3 rfl ?_
  refine lx_iconst X 290 (x := (2 : Int32)) dL_law_290 (by decide) ?_
  refine lx_iadd X 291 dL_law_291 ?_
  refine lx_sld X 292 dL_law_292 h2 ?_
  refine lx_aload_n X 293 dL_law_293 rfl 0 rfl ?_
  refine lx_iload_n X 294 dL_law_294 rfl 3 rfl ?_
  refine lx_iconst X 295 (x := (3 : Int32)) dL_law_295 (by decide) ?_
  refine lx_iadd X 296 dL_law_296 ?_
  refine lx_sld X 297 dL_law_297 h3 ?_
  refine lx_callM X 298 (mt' := mX7_player) (As := [.int (xs (z + (1 : Int32)).toNatClampNeg), .int (xs (z + (2 : Int32)).toNatClampNeg), .int (xs (z + (3 : Int32)).toNatClampNeg)]) rfl (okvX7_player _ _) lmL_34 (by decide) rfl rfl rfl (Nat.le_of_ble_eq_true rfl) dL_law_298 (tX7_player e2) ?_
  refine lx_eq X 301 931 dL_law_301 (by decide) ?_
  exact k Mc2 Mm2 hx2
set_option maxRecDepth 100000 in
set_option maxHeartbeats 4000000 in
theorem lx_case4 {p : Program} {l : Launch} {e : Env} {s : State} {m : MethodId} {below : List Frame} {meth : Method} {c : Code} {b L : Nat} {xs : Nat → Int32} {EC EM : fxE} {Mc Mm : fxMem} {PX : fxMem → fxMem → Prop} (X : lx_X p s m meth c b L xs EC EM) (hp : lw_steps PX) (hx : PX Mc Mm) {z : Int32} (h1 : vp_in (z + (1 : Int32)) L) (h2 : vp_in (z + (2 : Int32)) L) (h3 : vp_in (z + (3 : Int32)) L) (k : ∀ Mc Mm, PX Mc Mm → lx_V p l e s m below meth c b EC EM 931 [(0, .ref b), (1, .ref (EC.1 0)), (2, .ref (EM.1 0)), (3, .int z)] [] Mc Mm) : lx_V p l e s m below meth c b EC EM 306 [(0, .ref b), (1, .ref (EC.1 0)), (2, .ref (EM.1 0)), (3, .int z)] [] Mc Mm := by
  have hq := hp.2.2.2.2.1 (xs (z + (1 : Int32)).toNatClampNeg) (xs (z + (2 : Int32)).toNatClampNeg) Mc Mm hx
  obtain ⟨r, Mc2, Mm2, e1, e2, hx2⟩ := hq
  refine lx_aload_n X 306 dL_law_306 rfl 1 rfl ?_
  refine lx_aload_n X 307 dL_law_307 rfl 0 rfl ?_
  refine lx_iload_n X 308 dL_law_308 rfl 3 rfl ?_
  refine lx_iconst X 309 (x := (1 : Int32)) dL_law_309 (by decide) ?_
  refine lx_iadd X 310 dL_law_310 ?_
  refine lx_sld X 311 dL_law_311 h1 ?_
  refine lx_aload_n X 312 dL_law_312 rfl 0 rfl ?_
  refine lx_iload_n X 313 dL_law_313 rfl 3 rfl ?_
  refine lx_iconst X 314 (x := (2 : Int32)) dL_law_314 (by decide) ?_
  refine lx_iadd X 315 dL_law_315 ?_
  refine lx_sld X 316 dL_law_316 h2 ?_
  refine lx_callC X 317 (mt' := mX6_of) (As := [.int (xs (z + (1 : Int32)).toNatClampNeg), .int (xs (z + (2 : Int32)).toNatClampNeg)]) rfl (okvX6_of _ _) lmL_35 (by decide) rfl rfl rfl (Nat.le_of_ble_eq_true rfl) dL_law_317 (tX6_of e1) ?_
  refine lx_aload_n X 320 dL_law_320 rfl 2 rfl ?_
  refine lx_aload_n X 321 dL_law_321 rfl 0 rfl ?_
  refine lx_iload_n X 322 dL_law_322 rfl 3 rfl ?_
  refine lx_iconst X 323 (x := (1 : Int32)) dL_law_323 (by decide) ?_
  refine lx_iadd X 324 dL_law_324 ?_
  refine lx_sld X 325 dL_law_325 h1 ?_
  refine lx_aload_n X 326 dL_law_326 rfl 0 rfl ?_
  refine lx_iload_n X 327 dL_law_327 rfl 3 rfl ?_
  refine lx_iconst X 328 (x := (2 : Int32)) dL_law_328 (by decide) ?_
  refine lx_iadd X 329 dL_law_329 ?_
  refine lx_sld X 330 dL_law_330 h2 ?_
  refine lx_callM X 331 (mt' := mX7_of) (As := [.int (xs (z + (1 : Int32)).toNatClampNeg), .int (xs (z + (2 : Int32)).toNatClampNeg)]) rfl (okvX7_of _ _) lmL_39 (by decide) rfl rfl rfl (Nat.le_of_ble_eq_true rfl) dL_law_331 (tX7_of e2) ?_
  refine lx_eq X 334 931 dL_law_334 (by decide) ?_
  exact k Mc2 Mm2 hx2
set_option maxRecDepth 100000 in
set_option maxHeartbeats 4000000 in
theorem lx_case5 {p : Program} {l : Launch} {e : Env} {s : State} {m : MethodId} {below : List Frame} {meth : Method} {c : Code} {b L : Nat} {xs : Nat → Int32} {EC EM : fxE} {Mc Mm : fxMem} {PX : fxMem → fxMem → Prop} (X : lx_X p s m meth c b L xs EC EM) (hp : lw_steps PX) (hx : PX Mc Mm) {z : Int32} (h1 : vp_in (z + (1 : Int32)) L) (h2 : vp_in (z + (2 : Int32)) L) (h3 : vp_in (z + (3 : Int32)) L) (k : ∀ Mc Mm, PX Mc Mm → lx_V p l e s m below meth c b EC EM 931 [(0, .ref b), (1, .ref (EC.1 0)), (2, .ref (EM.1 0)), (3, .int z)] [] Mc Mm) : lx_V p l e s m below meth c b EC EM 339 [(0, .ref b), (1, .ref (EC.1 0)), (2, .ref (EM.1 0)), (3, .int z)] [] Mc Mm := by
  have hq := hp.2.2.2.2.2.1 (xs (z + (1 : Int32)).toNatClampNeg) Mc Mm hx
  obtain ⟨r, Mc2, Mm2, e1, e2, hx2⟩ := hq
  refine lx_aload_n X 339 dL_law_339 rfl 1 rfl ?_
  refine lx_aload_n X 340 dL_law_340 rfl 0 rfl ?_
  refine lx_iload_n X 341 dL_law_341 rfl 3 rfl ?_
  refine lx_iconst X 342 (x := (1 : Int32)) dL_law_342 (by decide) ?_
  refine lx_iadd X 343 dL_law_343 ?_
  refine lx_sld X 344 dL_law_344 h1 ?_
  refine lx_callC X 345 (mt' := mX6_drum) (As := [.int (xs (z + (1 : Int32)).toNatClampNeg)]) rfl (okvX6_drum _ _) lmL_40 (by decide) rfl rfl rfl (Nat.le_of_ble_eq_true rfl) dL_law_345 (tX6_drum e1) ?_
  refine lx_aload_n X 348 dL_law_348 rfl 2 rfl ?_
  refine lx_aload_n X 349 dL_law_349 rfl 0 rfl ?_
  refine lx_iload_n X 350 dL_law_350 rfl 3 rfl ?_
  refine lx_iconst X 351 (x := (1 : Int32)) dL_law_351 (by decide) ?_
  refine lx_iadd X 352 dL_law_352 ?_
  refine lx_sld X 353 dL_law_353 h1 ?_
  refine lx_callM X 354 (mt' := mX7_drum) (As := [.int (xs (z + (1 : Int32)).toNatClampNeg)]) rfl (okvX7_drum _ _) lmL_43 (by decide) rfl rfl rfl (Nat.le_of_ble_eq_true rfl) dL_law_354 (tX7_drum e2) ?_
  refine lx_eq X 357 931 dL_law_357 (by decide) ?_
  exact k Mc2 Mm2 hx2
set_option maxRecDepth 100000 in
set_option maxHeartbeats 4000000 in
theorem lx_case6 {p : Program} {l : Launch} {e : Env} {s : State} {m : MethodId} {below : List Frame} {meth : Method} {c : Code} {b L : Nat} {xs : Nat → Int32} {EC EM : fxE} {Mc Mm : fxMem} {PX : fxMem → fxMem → Prop} (X : lx_X p s m meth c b L xs EC EM) (hp : lw_steps PX) (hx : PX Mc Mm) {z : Int32} (h1 : vp_in (z + (1 : Int32)) L) (h2 : vp_in (z + (2 : Int32)) L) (h3 : vp_in (z + (3 : Int32)) L) (k : ∀ Mc Mm, PX Mc Mm → lx_V p l e s m below meth c b EC EM 931 [(0, .ref b), (1, .ref (EC.1 0)), (2, .ref (EM.1 0)), (3, .int z)] [] Mc Mm) : lx_V p l e s m below meth c b EC EM 362 [(0, .ref b), (1, .ref (EC.1 0)), (2, .ref (EM.1 0)), (3, .int z)] [] Mc Mm := by
  have hq := hp.2.2.2.2.2.2.1 (xs (z + (1 : Int32)).toNatClampNeg) (xs (z + (2 : Int32)).toNatClampNeg) Mc Mm hx
  obtain ⟨r, Mc2, Mm2, e1, e2, hx2⟩ := hq
  refine lx_aload_n X 362 dL_law_362 rfl 1 rfl ?_
  refine lx_aload_n X 363 dL_law_363 rfl 0 rfl ?_
  refine lx_iload_n X 364 dL_law_364 rfl 3 rfl ?_
  refine lx_iconst X 365 (x := (1 : Int32)) dL_law_365 (by decide) ?_
  refine lx_iadd X 366 dL_law_366 ?_
  refine lx_sld X 367 dL_law_367 h1 ?_
  refine lx_aload_n X 368 dL_law_368 rfl 0 rfl ?_
  refine lx_iload_n X 369 dL_law_369 rfl 3 rfl ?_
  refine lx_iconst X 370 (x := (2 : Int32)) dL_law_370 (by decide) ?_
  refine lx_iadd X 371 dL_law_371 ?_
  refine lx_sld X 372 dL_law_372 h2 ?_
  refine lx_callC X 373 (mt' := mX6_put) (As := [.int (xs (z + (1 : Int32)).toNatClampNeg), .int (xs (z + (2 : Int32)).toNatClampNeg)]) rfl (okvX6_put _ _) lmL_44 (by decide) rfl rfl rfl (Nat.le_of_ble_eq_true rfl) dL_law_373 (tX6_put e1) ?_
  refine lx_aload_n X 376 dL_law_376 rfl 2 rfl ?_
  refine lx_aload_n X 377 dL_law_377 rfl 0 rfl ?_
  refine lx_iload_n X 378 dL_law_378 rfl 3 rfl ?_
  refine lx_iconst X 379 (x := (1 : Int32)) dL_law_379 (by decide) ?_
  refine lx_iadd X 380 dL_law_380 ?_
  refine lx_sld X 381 dL_law_381 h1 ?_
  refine lx_aload_n X 382 dL_law_382 rfl 0 rfl ?_
  refine lx_iload_n X 383 dL_law_383 rfl 3 rfl ?_
  refine lx_iconst X 384 (x := (2 : Int32)) dL_law_384 (by decide) ?_
  refine lx_iadd X 385 dL_law_385 ?_
  refine lx_sld X 386 dL_law_386 h2 ?_
  refine lx_callM X 387 (mt' := mX7_put) (As := [.int (xs (z + (1 : Int32)).toNatClampNeg), .int (xs (z + (2 : Int32)).toNatClampNeg)]) rfl (okvX7_put _ _) lmL_47 (by decide) rfl rfl rfl (Nat.le_of_ble_eq_true rfl) dL_law_387 (tX7_put e2) ?_
  refine lx_eq X 390 931 dL_law_390 (by decide) ?_
  exact k Mc2 Mm2 hx2
set_option maxRecDepth 100000 in
set_option maxHeartbeats 4000000 in
theorem lx_case7 {p : Program} {l : Launch} {e : Env} {s : State} {m : MethodId} {below : List Frame} {meth : Method} {c : Code} {b L : Nat} {xs : Nat → Int32} {EC EM : fxE} {Mc Mm : fxMem} {PX : fxMem → fxMem → Prop} (X : lx_X p s m meth c b L xs EC EM) (hp : lw_steps PX) (hx : PX Mc Mm) {z : Int32} (h1 : vp_in (z + (1 : Int32)) L) (h2 : vp_in (z + (2 : Int32)) L) (h3 : vp_in (z + (3 : Int32)) L) (k : ∀ Mc Mm, PX Mc Mm → lx_V p l e s m below meth c b EC EM 931 [(0, .ref b), (1, .ref (EC.1 0)), (2, .ref (EM.1 0)), (3, .int z)] [] Mc Mm) : lx_V p l e s m below meth c b EC EM 395 [(0, .ref b), (1, .ref (EC.1 0)), (2, .ref (EM.1 0)), (3, .int z)] [] Mc Mm := by
  have hq := hp.2.2.2.2.2.2.2.1 (xs (z + (1 : Int32)).toNatClampNeg) (xs (z + (2 : Int32)).toNatClampNeg) Mc Mm hx
  obtain ⟨r, Mc2, Mm2, e1, e2, hx2⟩ := hq
  refine lx_aload_n X 395 dL_law_395 rfl 1 rfl ?_
  refine lx_aload_n X 396 dL_law_396 rfl 0 rfl ?_
  refine lx_iload_n X 397 dL_law_397 rfl 3 rfl ?_
  refine lx_iconst X 398 (x := (1 : Int32)) dL_law_398 (by decide) ?_
  refine lx_iadd X 399 dL_law_399 ?_
  refine lx_sld X 400 dL_law_400 h1 ?_
  refine lx_aload_n X 401 dL_law_401 rfl 0 rfl ?_
  refine lx_iload_n X 402 dL_law_402 rfl 3 rfl ?_
  refine lx_iconst X 403 (x := (2 : Int32)) dL_law_403 (by decide) ?_
  refine lx_iadd X 404 dL_law_404 ?_
  refine lx_sld X 405 dL_law_405 h2 ?_
  refine lx_callC X 406 (mt' := mX6_heard) (As := [.int (xs (z + (1 : Int32)).toNatClampNeg), .int (xs (z + (2 : Int32)).toNatClampNeg)]) rfl (okvX6_heard _ _) lmL_48 (by decide) rfl rfl rfl (Nat.le_of_ble_eq_true rfl) dL_law_406 (tX6_heard e1) ?_
  refine lx_aload_n X 409 dL_law_409 rfl 2 rfl ?_
  refine lx_aload_n X 410 dL_law_410 rfl 0 rfl ?_
  refine lx_iload_n X 411 dL_law_411 rfl 3 rfl ?_
  refine lx_iconst X 412 (x := (1 : Int32)) dL_law_412 (by decide) ?_
  refine lx_iadd X 413 dL_law_413 ?_
  refine lx_sld X 414 dL_law_414 h1 ?_
  refine lx_aload_n X 415 dL_law_415 rfl 0 rfl ?_
  refine lx_iload_n X 416 dL_law_416 rfl 3 rfl ?_
  refine lx_iconst X 417 (x := (2 : Int32)) dL_law_417 (by decide) ?_
  refine lx_iadd X 418 dL_law_418 ?_
  refine lx_sld X 419 dL_law_419 h2 ?_
  refine lx_callM X 420 (mt' := mX7_heard) (As := [.int (xs (z + (1 : Int32)).toNatClampNeg), .int (xs (z + (2 : Int32)).toNatClampNeg)]) rfl (okvX7_heard _ _) lmL_51 (by decide) rfl rfl rfl (Nat.le_of_ble_eq_true rfl) dL_law_420 (tX7_heard e2) ?_
  refine lx_eq X 423 931 dL_law_423 (by decide) ?_
  exact k Mc2 Mm2 hx2
set_option maxRecDepth 100000 in
set_option maxHeartbeats 4000000 in
theorem lx_case8 {p : Program} {l : Launch} {e : Env} {s : State} {m : MethodId} {below : List Frame} {meth : Method} {c : Code} {b L : Nat} {xs : Nat → Int32} {EC EM : fxE} {Mc Mm : fxMem} {PX : fxMem → fxMem → Prop} (X : lx_X p s m meth c b L xs EC EM) (hp : lw_steps PX) (hx : PX Mc Mm) {z : Int32} (h1 : vp_in (z + (1 : Int32)) L) (h2 : vp_in (z + (2 : Int32)) L) (h3 : vp_in (z + (3 : Int32)) L) (k : ∀ Mc Mm, PX Mc Mm → lx_V p l e s m below meth c b EC EM 931 [(0, .ref b), (1, .ref (EC.1 0)), (2, .ref (EM.1 0)), (3, .int z)] [] Mc Mm) : lx_V p l e s m below meth c b EC EM 428 [(0, .ref b), (1, .ref (EC.1 0)), (2, .ref (EM.1 0)), (3, .int z)] [] Mc Mm := by
  have hq := hp.2.2.2.2.2.2.2.2.1 (xs (z + (1 : Int32)).toNatClampNeg) (xs (z + (2 : Int32)).toNatClampNeg) Mc Mm hx
  obtain ⟨r, Mc2, Mm2, e1, e2, hx2⟩ := hq
  refine lx_aload_n X 428 dL_law_428 rfl 1 rfl ?_
  refine lx_aload_n X 429 dL_law_429 rfl 0 rfl ?_
  refine lx_iload_n X 430 dL_law_430 rfl 3 rfl ?_
  refine lx_iconst X 431 (x := (1 : Int32)) dL_law_431 (by decide) ?_
  refine lx_iadd X 432 dL_law_432 ?_
  refine lx_sld X 433 dL_law_433 h1 ?_
  refine lx_aload_n X 434 dL_law_434 rfl 0 rfl ?_
  refine lx_iload_n X 435 dL_law_435 rfl 3 rfl ?_
  refine lx_iconst X 436 (x := (2 : Int32)) dL_law_436 (by decide) ?_
  refine lx_iadd X 437 dL_law_437 ?_
  refine lx_sld X 438 dL_law_438 h2 ?_
  refine lx_callC X 439 (mt' := mX6_spread) (As := [.int (xs (z + (1 : Int32)).toNatClampNeg), .int (xs (z + (2 : Int32)).toNatClampNeg)]) rfl (okvX6_spread _ _) lmL_52 (by decide) rfl rfl rfl (Nat.le_of_ble_eq_true rfl) dL_law_439 (tX6_spread e1) ?_
  refine lx_aload_n X 442 dL_law_442 rfl 2 rfl ?_
  refine lx_aload_n X 443 dL_law_443 rfl 0 rfl ?_
  refine lx_iload_n X 444 dL_law_444 rfl 3 rfl ?_
  refine lx_iconst X 445 (x := (1 : Int32)) dL_law_445 (by decide) ?_
  refine lx_iadd X 446 dL_law_446 ?_
  refine lx_sld X 447 dL_law_447 h1 ?_
  refine lx_aload_n X 448 dL_law_448 rfl 0 rfl ?_
  refine lx_iload_n X 449 dL_law_449 rfl 3 rfl ?_
  refine lx_iconst X 450 (x := (2 : Int32)) dL_law_450 (by decide) ?_
  refine lx_iadd X 451 dL_law_451 ?_
  refine lx_sld X 452 dL_law_452 h2 ?_
  refine lx_callM X 453 (mt' := mX7_spread) (As := [.int (xs (z + (1 : Int32)).toNatClampNeg), .int (xs (z + (2 : Int32)).toNatClampNeg)]) rfl (okvX7_spread _ _) lmL_55 (by decide) rfl rfl rfl (Nat.le_of_ble_eq_true rfl) dL_law_453 (tX7_spread e2) ?_
  refine lx_eq X 456 931 dL_law_456 (by decide) ?_
  exact k Mc2 Mm2 hx2
set_option maxRecDepth 100000 in
set_option maxHeartbeats 4000000 in
theorem lx_case9 {p : Program} {l : Launch} {e : Env} {s : State} {m : MethodId} {below : List Frame} {meth : Method} {c : Code} {b L : Nat} {xs : Nat → Int32} {EC EM : fxE} {Mc Mm : fxMem} {PX : fxMem → fxMem → Prop} (X : lx_X p s m meth c b L xs EC EM) (hp : lw_steps PX) (hx : PX Mc Mm) {z : Int32} (h1 : vp_in (z + (1 : Int32)) L) (h2 : vp_in (z + (2 : Int32)) L) (h3 : vp_in (z + (3 : Int32)) L) (k : ∀ Mc Mm, PX Mc Mm → lx_V p l e s m below meth c b EC EM 931 [(0, .ref b), (1, .ref (EC.1 0)), (2, .ref (EM.1 0)), (3, .int z)] [] Mc Mm) : lx_V p l e s m below meth c b EC EM 461 [(0, .ref b), (1, .ref (EC.1 0)), (2, .ref (EM.1 0)), (3, .int z)] [] Mc Mm := by
  have hq := hp.2.2.2.2.2.2.2.2.2.1 (xs (z + (1 : Int32)).toNatClampNeg) (xs (z + (2 : Int32)).toNatClampNeg) Mc Mm hx
  obtain ⟨r, Mc2, Mm2, e1, e2, hx2⟩ := hq
  refine lx_aload_n X 461 dL_law_461 rfl 1 rfl ?_
  refine lx_aload_n X 462 dL_law_462 rfl 0 rfl ?_
  refine lx_iload_n X 463 dL_law_463 rfl 3 rfl ?_
  refine lx_iconst X 464 (x := (1 : Int32)) dL_law_464 (by decide) ?_
  refine lx_iadd X 465 dL_law_465 ?_
  refine lx_sld X 466 dL_law_466 h1 ?_
  refine lx_aload_n X 467 dL_law_467 rfl 0 rfl ?_
  refine lx_iload_n X 468 dL_law_468 rfl 3 rfl ?_
  refine lx_iconst X 469 (x := (2 : Int32)) dL_law_469 (by decide) ?_
  refine lx_iadd X 470 dL_law_470 ?_
  refine lx_sld X 471 dL_law_471 h2 ?_
  refine lx_callC X 472 (mt' := mX6_back) (As := [.int (xs (z + (1 : Int32)).toNatClampNeg), .int (xs (z + (2 : Int32)).toNatClampNeg)]) rfl (okvX6_back _ _) lmL_56 (by decide) rfl rfl rfl (Nat.le_of_ble_eq_true rfl) dL_law_472 (tX6_back e1) ?_
  refine lx_aload_n X 475 dL_law_475 rfl 2 rfl ?_
  refine lx_aload_n X 476 dL_law_476 rfl 0 rfl ?_
  refine lx_iload_n X 477 dL_law_477 rfl 3 rfl ?_
  refine lx_iconst X 478 (x := (1 : Int32)) dL_law_478 (by decide) ?_
  refine lx_iadd X 479 dL_law_479 ?_
  refine lx_sld X 480 dL_law_480 h1 ?_
  refine lx_aload_n X 481 dL_law_481 rfl 0 rfl ?_
  refine lx_iload_n X 482 dL_law_482 rfl 3 rfl ?_
  refine lx_iconst X 483 (x := (2 : Int32)) dL_law_483 (by decide) ?_
  refine lx_iadd X 484 dL_law_484 ?_
  refine lx_sld X 485 dL_law_485 h2 ?_
  refine lx_callM X 486 (mt' := mX7_back) (As := [.int (xs (z + (1 : Int32)).toNatClampNeg), .int (xs (z + (2 : Int32)).toNatClampNeg)]) rfl (okvX7_back _ _) lmL_59 (by decide) rfl rfl rfl (Nat.le_of_ble_eq_true rfl) dL_law_486 (tX7_back e2) ?_
  refine lx_eq X 489 931 dL_law_489 (by decide) ?_
  exact k Mc2 Mm2 hx2
set_option maxRecDepth 100000 in
set_option maxHeartbeats 4000000 in
theorem lx_case10 {p : Program} {l : Launch} {e : Env} {s : State} {m : MethodId} {below : List Frame} {meth : Method} {c : Code} {b L : Nat} {xs : Nat → Int32} {EC EM : fxE} {Mc Mm : fxMem} {PX : fxMem → fxMem → Prop} (X : lx_X p s m meth c b L xs EC EM) (hp : lw_steps PX) (hx : PX Mc Mm) {z : Int32} (h1 : vp_in (z + (1 : Int32)) L) (h2 : vp_in (z + (2 : Int32)) L) (h3 : vp_in (z + (3 : Int32)) L) (k : ∀ Mc Mm, PX Mc Mm → lx_V p l e s m below meth c b EC EM 931 [(0, .ref b), (1, .ref (EC.1 0)), (2, .ref (EM.1 0)), (3, .int z)] [] Mc Mm) : lx_V p l e s m below meth c b EC EM 494 [(0, .ref b), (1, .ref (EC.1 0)), (2, .ref (EM.1 0)), (3, .int z)] [] Mc Mm := by
  have hq := hp.2.2.2.2.2.2.2.2.2.2.1 (xs (z + (1 : Int32)).toNatClampNeg) Mc Mm hx
  obtain ⟨r, Mc2, Mm2, e1, e2, hx2⟩ := hq
  refine lx_aload_n X 494 dL_law_494 rfl 1 rfl ?_
  refine lx_aload_n X 495 dL_law_495 rfl 0 rfl ?_
  refine lx_iload_n X 496 dL_law_496 rfl 3 rfl ?_
  refine lx_iconst X 497 (x := (1 : Int32)) dL_law_497 (by decide) ?_
  refine lx_iadd X 498 dL_law_498 ?_
  refine lx_sld X 499 dL_law_499 h1 ?_
  refine lx_callC X 500 (mt' := mX6_best) (As := [.int (xs (z + (1 : Int32)).toNatClampNeg)]) rfl (okvX6_best _ _) lmL_60 (by decide) rfl rfl rfl (Nat.le_of_ble_eq_true rfl) dL_law_500 (tX6_best e1) ?_
  refine lx_aload_n X 503 dL_law_503 rfl 2 rfl ?_
  refine lx_aload_n X 504 dL_law_504 rfl 0 rfl ?_
  refine lx_iload_n X 505 dL_law_505 rfl 3 rfl ?_
  refine lx_iconst X 506 (x := (1 : Int32)) dL_law_506 (by decide) ?_
  refine lx_iadd X 507 dL_law_507 ?_
  refine lx_sld X 508 dL_law_508 h1 ?_
  refine lx_callM X 509 (mt' := mX7_best) (As := [.int (xs (z + (1 : Int32)).toNatClampNeg)]) rfl (okvX7_best _ _) lmL_63 (by decide) rfl rfl rfl (Nat.le_of_ble_eq_true rfl) dL_law_509 (tX7_best e2) ?_
  refine lx_eq X 512 931 dL_law_512 (by decide) ?_
  exact k Mc2 Mm2 hx2
set_option maxRecDepth 100000 in
set_option maxHeartbeats 4000000 in
theorem lx_case11 {p : Program} {l : Launch} {e : Env} {s : State} {m : MethodId} {below : List Frame} {meth : Method} {c : Code} {b L : Nat} {xs : Nat → Int32} {EC EM : fxE} {Mc Mm : fxMem} {PX : fxMem → fxMem → Prop} (X : lx_X p s m meth c b L xs EC EM) (hp : lw_steps PX) (hx : PX Mc Mm) {z : Int32} (h1 : vp_in (z + (1 : Int32)) L) (h2 : vp_in (z + (2 : Int32)) L) (h3 : vp_in (z + (3 : Int32)) L) (k : ∀ Mc Mm, PX Mc Mm → lx_V p l e s m below meth c b EC EM 931 [(0, .ref b), (1, .ref (EC.1 0)), (2, .ref (EM.1 0)), (3, .int z)] [] Mc Mm) : lx_V p l e s m below meth c b EC EM 517 [(0, .ref b), (1, .ref (EC.1 0)), (2, .ref (EM.1 0)), (3, .int z)] [] Mc Mm := by
  have hq := hp.2.2.2.2.2.2.2.2.2.2.2.1 (xs (z + (1 : Int32)).toNatClampNeg) (xs (z + (2 : Int32)).toNatClampNeg) Mc Mm hx
  obtain ⟨r, Mc2, Mm2, e1, e2, hx2⟩ := hq
  refine lx_aload_n X 517 dL_law_517 rfl 1 rfl ?_
  refine lx_aload_n X 518 dL_law_518 rfl 0 rfl ?_
  refine lx_iload_n X 519 dL_law_519 rfl 3 rfl ?_
  refine lx_iconst X 520 (x := (1 : Int32)) dL_law_520 (by decide) ?_
  refine lx_iadd X 521 dL_law_521 ?_
  refine lx_sld X 522 dL_law_522 h1 ?_
  refine lx_aload_n X 523 dL_law_523 rfl 0 rfl ?_
  refine lx_iload_n X 524 dL_law_524 rfl 3 rfl ?_
  refine lx_iconst X 525 (x := (2 : Int32)) dL_law_525 (by decide) ?_
  refine lx_iadd X 526 dL_law_526 ?_
  refine lx_sld X 527 dL_law_527 h2 ?_
  refine lx_callC X 528 (mt' := mX6_early) (As := [.int (xs (z + (1 : Int32)).toNatClampNeg), .int (xs (z + (2 : Int32)).toNatClampNeg)]) rfl (okvX6_early _ _) lmL_64 (by decide) rfl rfl rfl (Nat.le_of_ble_eq_true rfl) dL_law_528 (tX6_early e1) ?_
  refine lx_aload_n X 531 dL_law_531 rfl 2 rfl ?_
  refine lx_aload_n X 532 dL_law_532 rfl 0 rfl ?_
  refine lx_iload_n X 533 dL_law_533 rfl 3 rfl ?_
  refine lx_iconst X 534 (x := (1 : Int32)) dL_law_534 (by decide) ?_
  refine lx_iadd X 535 dL_law_535 ?_
  refine lx_sld X 536 dL_law_536 h1 ?_
  refine lx_aload_n X 537 dL_law_537 rfl 0 rfl ?_
  refine lx_iload_n X 538 dL_law_538 rfl 3 rfl ?_
  refine lx_iconst X 539 (x := (2 : Int32)) dL_law_539 (by decide) ?_
  refine lx_iadd X 540 dL_law_540 ?_
  refine lx_sld X 541 dL_law_541 h2 ?_
  refine lx_callM X 542 (mt' := mX7_early) (As := [.int (xs (z + (1 : Int32)).toNatClampNeg), .int (xs (z + (2 : Int32)).toNatClampNeg)]) rfl (okvX7_early _ _) lmL_67 (by decide) rfl rfl rfl (Nat.le_of_ble_eq_true rfl) dL_law_542 (tX7_early e2) ?_
  refine lx_eq X 545 931 dL_law_545 (by decide) ?_
  exact k Mc2 Mm2 hx2
set_option maxRecDepth 100000 in
set_option maxHeartbeats 4000000 in
theorem lx_case12 {p : Program} {l : Launch} {e : Env} {s : State} {m : MethodId} {below : List Frame} {meth : Method} {c : Code} {b L : Nat} {xs : Nat → Int32} {EC EM : fxE} {Mc Mm : fxMem} {PX : fxMem → fxMem → Prop} (X : lx_X p s m meth c b L xs EC EM) (hp : lw_steps PX) (hx : PX Mc Mm) {z : Int32} (h1 : vp_in (z + (1 : Int32)) L) (h2 : vp_in (z + (2 : Int32)) L) (h3 : vp_in (z + (3 : Int32)) L) (k : ∀ Mc Mm, PX Mc Mm → lx_V p l e s m below meth c b EC EM 931 [(0, .ref b), (1, .ref (EC.1 0)), (2, .ref (EM.1 0)), (3, .int z)] [] Mc Mm) : lx_V p l e s m below meth c b EC EM 550 [(0, .ref b), (1, .ref (EC.1 0)), (2, .ref (EM.1 0)), (3, .int z)] [] Mc Mm := by
  have hq := hp.2.2.2.2.2.2.2.2.2.2.2.2.1 (xs (z + (1 : Int32)).toNatClampNeg) Mc Mm hx
  obtain ⟨r, Mc2, Mm2, e1, e2, hx2⟩ := hq
  refine lx_aload_n X 550 dL_law_550 rfl 1 rfl ?_
  refine lx_aload_n X 551 dL_law_551 rfl 0 rfl ?_
  refine lx_iload_n X 552 dL_law_552 rfl 3 rfl ?_
  refine lx_iconst X 553 (x := (1 : Int32)) dL_law_553 (by decide) ?_
  refine lx_iadd X 554 dL_law_554 ?_
  refine lx_sld X 555 dL_law_555 h1 ?_
  refine lx_callC X 556 (mt' := mX6_beats) (As := [.int (xs (z + (1 : Int32)).toNatClampNeg)]) rfl (okvX6_beats _ _) lmL_68 (by decide) rfl rfl rfl (Nat.le_of_ble_eq_true rfl) dL_law_556 (tX6_beats e1) ?_
  refine lx_aload_n X 559 dL_law_559 rfl 2 rfl ?_
  refine lx_aload_n X 560 dL_law_560 rfl 0 rfl ?_
  refine lx_iload_n X 561 dL_law_561 rfl 3 rfl ?_
  refine lx_iconst X 562 (x := (1 : Int32)) dL_law_562 (by decide) ?_
  refine lx_iadd X 563 dL_law_563 ?_
  refine lx_sld X 564 dL_law_564 h1 ?_
  refine lx_callM X 565 (mt' := mX7_beats) (As := [.int (xs (z + (1 : Int32)).toNatClampNeg)]) rfl (okvX7_beats _ _) lmL_71 (by decide) rfl rfl rfl (Nat.le_of_ble_eq_true rfl) dL_law_565 (tX7_beats e2) ?_
  refine lx_eq X 568 931 dL_law_568 (by decide) ?_
  exact k Mc2 Mm2 hx2
set_option maxRecDepth 100000 in
set_option maxHeartbeats 4000000 in
theorem lx_case13 {p : Program} {l : Launch} {e : Env} {s : State} {m : MethodId} {below : List Frame} {meth : Method} {c : Code} {b L : Nat} {xs : Nat → Int32} {EC EM : fxE} {Mc Mm : fxMem} {PX : fxMem → fxMem → Prop} (X : lx_X p s m meth c b L xs EC EM) (hp : lw_steps PX) (hx : PX Mc Mm) {z : Int32} (h1 : vp_in (z + (1 : Int32)) L) (h2 : vp_in (z + (2 : Int32)) L) (h3 : vp_in (z + (3 : Int32)) L) (k : ∀ Mc Mm, PX Mc Mm → lx_V p l e s m below meth c b EC EM 931 [(0, .ref b), (1, .ref (EC.1 0)), (2, .ref (EM.1 0)), (3, .int z)] [] Mc Mm) : lx_V p l e s m below meth c b EC EM 573 [(0, .ref b), (1, .ref (EC.1 0)), (2, .ref (EM.1 0)), (3, .int z)] [] Mc Mm := by
  have hq := hp.2.2.2.2.2.2.2.2.2.2.2.2.2.1 (xs (z + (1 : Int32)).toNatClampNeg) Mc Mm hx
  obtain ⟨r, Mc2, Mm2, e1, e2, hx2⟩ := hq
  refine lx_aload_n X 573 dL_law_573 rfl 1 rfl ?_
  refine lx_aload_n X 574 dL_law_574 rfl 0 rfl ?_
  refine lx_iload_n X 575 dL_law_575 rfl 3 rfl ?_
  refine lx_iconst X 576 (x := (1 : Int32)) dL_law_576 (by decide) ?_
  refine lx_iadd X 577 dL_law_577 ?_
  refine lx_sld X 578 dL_law_578 h1 ?_
  refine lx_callC X 579 (mt' := mX6_form) (As := [.int (xs (z + (1 : Int32)).toNatClampNeg)]) rfl (okvX6_form _ _) lmL_72 (by decide) rfl rfl rfl (Nat.le_of_ble_eq_true rfl) dL_law_579 (tX6_form e1) ?_
  refine lx_aload_n X 582 dL_law_582 rfl 2 rfl ?_
  refine lx_aload_n X 583 dL_law_583 rfl 0 rfl ?_
  refine lx_iload_n X 584 dL_law_584 rfl 3 rfl ?_
  refine lx_iconst X 585 (x := (1 : Int32)) dL_law_585 (by decide) ?_
  refine lx_iadd X 586 dL_law_586 ?_
  refine lx_sld X 587 dL_law_587 h1 ?_
  refine lx_callM X 588 (mt' := mX7_form) (As := [.int (xs (z + (1 : Int32)).toNatClampNeg)]) rfl (okvX7_form _ _) lmL_75 (by decide) rfl rfl rfl (Nat.le_of_ble_eq_true rfl) dL_law_588 (tX7_form e2) ?_
  refine lx_eq X 591 931 dL_law_591 (by decide) ?_
  exact k Mc2 Mm2 hx2
set_option maxRecDepth 100000 in
set_option maxHeartbeats 4000000 in
theorem lx_case14 {p : Program} {l : Launch} {e : Env} {s : State} {m : MethodId} {below : List Frame} {meth : Method} {c : Code} {b L : Nat} {xs : Nat → Int32} {EC EM : fxE} {Mc Mm : fxMem} {PX : fxMem → fxMem → Prop} (X : lx_X p s m meth c b L xs EC EM) (hp : lw_steps PX) (hx : PX Mc Mm) {z : Int32} (h1 : vp_in (z + (1 : Int32)) L) (h2 : vp_in (z + (2 : Int32)) L) (h3 : vp_in (z + (3 : Int32)) L) (k : ∀ Mc Mm, PX Mc Mm → lx_V p l e s m below meth c b EC EM 931 [(0, .ref b), (1, .ref (EC.1 0)), (2, .ref (EM.1 0)), (3, .int z)] [] Mc Mm) : lx_V p l e s m below meth c b EC EM 596 [(0, .ref b), (1, .ref (EC.1 0)), (2, .ref (EM.1 0)), (3, .int z)] [] Mc Mm := by
  have hq := hp.2.2.2.2.2.2.2.2.2.2.2.2.2.2.1 (xs (z + (1 : Int32)).toNatClampNeg) Mc Mm hx
  obtain ⟨r, Mc2, Mm2, e1, e2, hx2⟩ := hq
  refine lx_aload_n X 596 dL_law_596 rfl 1 rfl ?_
  refine lx_aload_n X 597 dL_law_597 rfl 0 rfl ?_
  refine lx_iload_n X 598 dL_law_598 rfl 3 rfl ?_
  refine lx_iconst X 599 (x := (1 : Int32)) dL_law_599 (by decide) ?_
  refine lx_iadd X 600 dL_law_600 ?_
  refine lx_sld X 601 dL_law_601 h1 ?_
  refine lx_callC X 602 (mt' := mX6_way) (As := [.int (xs (z + (1 : Int32)).toNatClampNeg)]) rfl (okvX6_way _ _) lmL_76 (by decide) rfl rfl rfl (Nat.le_of_ble_eq_true rfl) dL_law_602 (tX6_way e1) ?_
  refine lx_aload_n X 605 dL_law_605 rfl 2 rfl ?_
  refine lx_aload_n X 606 dL_law_606 rfl 0 rfl ?_
  refine lx_iload_n X 607 dL_law_607 rfl 3 rfl ?_
  refine lx_iconst X 608 (x := (1 : Int32)) dL_law_608 (by decide) ?_
  refine lx_iadd X 609 dL_law_609 ?_
  refine lx_sld X 610 dL_law_610 h1 ?_
  refine lx_callM X 611 (mt' := mX7_way) (As := [.int (xs (z + (1 : Int32)).toNatClampNeg)]) rfl (okvX7_way _ _) lmL_79 (by decide) rfl rfl rfl (Nat.le_of_ble_eq_true rfl) dL_law_611 (tX7_way e2) ?_
  refine lx_eq X 614 931 dL_law_614 (by decide) ?_
  exact k Mc2 Mm2 hx2
set_option maxRecDepth 100000 in
set_option maxHeartbeats 4000000 in
theorem lx_case15 {p : Program} {l : Launch} {e : Env} {s : State} {m : MethodId} {below : List Frame} {meth : Method} {c : Code} {b L : Nat} {xs : Nat → Int32} {EC EM : fxE} {Mc Mm : fxMem} {PX : fxMem → fxMem → Prop} (X : lx_X p s m meth c b L xs EC EM) (hp : lw_steps PX) (hx : PX Mc Mm) {z : Int32} (h1 : vp_in (z + (1 : Int32)) L) (h2 : vp_in (z + (2 : Int32)) L) (h3 : vp_in (z + (3 : Int32)) L) (k : ∀ Mc Mm, PX Mc Mm → lx_V p l e s m below meth c b EC EM 931 [(0, .ref b), (1, .ref (EC.1 0)), (2, .ref (EM.1 0)), (3, .int z)] [] Mc Mm) : lx_V p l e s m below meth c b EC EM 619 [(0, .ref b), (1, .ref (EC.1 0)), (2, .ref (EM.1 0)), (3, .int z)] [] Mc Mm := by
  have hq := hp.2.2.2.2.2.2.2.2.2.2.2.2.2.2.2.1  Mc Mm hx
  obtain ⟨r, Mc2, Mm2, e1, e2, hx2⟩ := hq
  refine lx_aload_n X 619 dL_law_619 rfl 1 rfl ?_
  refine lx_callC X 620 (mt' := mX6_counts) (As := []) rfl (okvX6_counts _ _) lmL_80 (by decide) rfl rfl rfl (Nat.le_of_ble_eq_true rfl) dL_law_620 (tX6_counts e1) ?_
  refine lx_aload_n X 623 dL_law_623 rfl 2 rfl ?_
  refine lx_callM X 624 (mt' := mX7_counts) (As := []) rfl (okvX7_counts _ _) lmL_83 (by decide) rfl rfl rfl (Nat.le_of_ble_eq_true rfl) dL_law_624 (tX7_counts e2) ?_
  refine lx_eq X 627 931 dL_law_627 (by decide) ?_
  exact k Mc2 Mm2 hx2
set_option maxRecDepth 100000 in
set_option maxHeartbeats 4000000 in
theorem lx_case16 {p : Program} {l : Launch} {e : Env} {s : State} {m : MethodId} {below : List Frame} {meth : Method} {c : Code} {b L : Nat} {xs : Nat → Int32} {EC EM : fxE} {Mc Mm : fxMem} {PX : fxMem → fxMem → Prop} (X : lx_X p s m meth c b L xs EC EM) (hp : lw_steps PX) (hx : PX Mc Mm) {z : Int32} (h1 : vp_in (z + (1 : Int32)) L) (h2 : vp_in (z + (2 : Int32)) L) (h3 : vp_in (z + (3 : Int32)) L) (k : ∀ Mc Mm, PX Mc Mm → lx_V p l e s m below meth c b EC EM 931 [(0, .ref b), (1, .ref (EC.1 0)), (2, .ref (EM.1 0)), (3, .int z)] [] Mc Mm) : lx_V p l e s m below meth c b EC EM 632 [(0, .ref b), (1, .ref (EC.1 0)), (2, .ref (EM.1 0)), (3, .int z)] [] Mc Mm := by
  have hq := hp.2.2.2.2.2.2.2.2.2.2.2.2.2.2.2.2.1  Mc Mm hx
  obtain ⟨r, Mc2, Mm2, e1, e2, hx2⟩ := hq
  refine lx_aload_n X 632 dL_law_632 rfl 1 rfl ?_
  refine lx_callC X 633 (mt' := mX6_meet) (As := []) rfl (okvX6_meet _ _) lmL_84 (by decide) rfl rfl rfl (Nat.le_of_ble_eq_true rfl) dL_law_633 (tX6_meet e1) ?_
  refine lx_aload_n X 636 dL_law_636 rfl 2 rfl ?_
  refine lx_callM X 637 (mt' := mX7_meet) (As := []) rfl (okvX7_meet _ _) lmL_87 (by decide) rfl rfl rfl (Nat.le_of_ble_eq_true rfl) dL_law_637 (tX7_meet e2) ?_
  refine lx_eq X 640 931 dL_law_640 (by decide) ?_
  exact k Mc2 Mm2 hx2
set_option maxRecDepth 100000 in
set_option maxHeartbeats 4000000 in
theorem lx_case17 {p : Program} {l : Launch} {e : Env} {s : State} {m : MethodId} {below : List Frame} {meth : Method} {c : Code} {b L : Nat} {xs : Nat → Int32} {EC EM : fxE} {Mc Mm : fxMem} {PX : fxMem → fxMem → Prop} (X : lx_X p s m meth c b L xs EC EM) (hp : lw_steps PX) (hx : PX Mc Mm) {z : Int32} (h1 : vp_in (z + (1 : Int32)) L) (h2 : vp_in (z + (2 : Int32)) L) (h3 : vp_in (z + (3 : Int32)) L) (k : ∀ Mc Mm, PX Mc Mm → lx_V p l e s m below meth c b EC EM 931 [(0, .ref b), (1, .ref (EC.1 0)), (2, .ref (EM.1 0)), (3, .int z)] [] Mc Mm) : lx_V p l e s m below meth c b EC EM 645 [(0, .ref b), (1, .ref (EC.1 0)), (2, .ref (EM.1 0)), (3, .int z)] [] Mc Mm := by
  have hq := hp.2.2.2.2.2.2.2.2.2.2.2.2.2.2.2.2.2.1 (xs (z + (1 : Int32)).toNatClampNeg) Mc Mm hx
  obtain ⟨r, Mc2, Mm2, e1, e2, hx2⟩ := hq
  refine lx_aload_n X 645 dL_law_645 rfl 1 rfl ?_
  refine lx_aload_n X 646 dL_law_646 rfl 0 rfl ?_
  refine lx_iload_n X 647 dL_law_647 rfl 3 rfl ?_
  refine lx_iconst X 648 (x := (1 : Int32)) dL_law_648 (by decide) ?_
  refine lx_iadd X 649 dL_law_649 ?_
  refine lx_sld X 650 dL_law_650 h1 ?_
  refine lx_callC X 651 (mt' := mX6_hard) (As := [.int (xs (z + (1 : Int32)).toNatClampNeg)]) rfl (okvX6_hard _ _) lmL_88 (by decide) rfl rfl rfl (Nat.le_of_ble_eq_true rfl) dL_law_651 (tX6_hard e1) ?_
  refine lx_aload_n X 654 dL_law_654 rfl 2 rfl ?_
  refine lx_aload_n X 655 dL_law_655 rfl 0 rfl ?_
  refine lx_iload_n X 656 dL_law_656 rfl 3 rfl ?_
  refine lx_iconst X 657 (x := (1 : Int32)) dL_law_657 (by decide) ?_
  refine lx_iadd X 658 dL_law_658 ?_
  refine lx_sld X 659 dL_law_659 h1 ?_
  refine lx_callM X 660 (mt' := mX7_hard) (As := [.int (xs (z + (1 : Int32)).toNatClampNeg)]) rfl (okvX7_hard _ _) lmL_91 (by decide) rfl rfl rfl (Nat.le_of_ble_eq_true rfl) dL_law_660 (tX7_hard e2) ?_
  refine lx_eq X 663 931 dL_law_663 (by decide) ?_
  exact k Mc2 Mm2 hx2
set_option maxRecDepth 100000 in
set_option maxHeartbeats 4000000 in
theorem lx_case18 {p : Program} {l : Launch} {e : Env} {s : State} {m : MethodId} {below : List Frame} {meth : Method} {c : Code} {b L : Nat} {xs : Nat → Int32} {EC EM : fxE} {Mc Mm : fxMem} {PX : fxMem → fxMem → Prop} (X : lx_X p s m meth c b L xs EC EM) (hp : lw_steps PX) (hx : PX Mc Mm) {z : Int32} (h1 : vp_in (z + (1 : Int32)) L) (h2 : vp_in (z + (2 : Int32)) L) (h3 : vp_in (z + (3 : Int32)) L) (k : ∀ Mc Mm, PX Mc Mm → lx_V p l e s m below meth c b EC EM 931 [(0, .ref b), (1, .ref (EC.1 0)), (2, .ref (EM.1 0)), (3, .int z)] [] Mc Mm) : lx_V p l e s m below meth c b EC EM 668 [(0, .ref b), (1, .ref (EC.1 0)), (2, .ref (EM.1 0)), (3, .int z)] [] Mc Mm := by
  have hq := hp.2.2.2.2.2.2.2.2.2.2.2.2.2.2.2.2.2.2.1  Mc Mm hx
  obtain ⟨r, Mc2, Mm2, e1, e2, hx2⟩ := hq
  refine lx_aload_n X 668 dL_law_668 rfl 1 rfl ?_
  refine lx_callC X 669 (mt' := mX6_march) (As := []) rfl (okvX6_march _ _) lmL_92 (by decide) rfl rfl rfl (Nat.le_of_ble_eq_true rfl) dL_law_669 (tX6_march e1) ?_
  refine lx_aload_n X 672 dL_law_672 rfl 2 rfl ?_
  refine lx_callM X 673 (mt' := mX7_march) (As := []) rfl (okvX7_march _ _) lmL_95 (by decide) rfl rfl rfl (Nat.le_of_ble_eq_true rfl) dL_law_673 (tX7_march e2) ?_
  refine lx_eq X 676 931 dL_law_676 (by decide) ?_
  exact k Mc2 Mm2 hx2
set_option maxRecDepth 100000 in
set_option maxHeartbeats 4000000 in
theorem lx_case19 {p : Program} {l : Launch} {e : Env} {s : State} {m : MethodId} {below : List Frame} {meth : Method} {c : Code} {b L : Nat} {xs : Nat → Int32} {EC EM : fxE} {Mc Mm : fxMem} {PX : fxMem → fxMem → Prop} (X : lx_X p s m meth c b L xs EC EM) (hp : lw_steps PX) (hx : PX Mc Mm) {z : Int32} (h1 : vp_in (z + (1 : Int32)) L) (h2 : vp_in (z + (2 : Int32)) L) (h3 : vp_in (z + (3 : Int32)) L) (k : ∀ Mc Mm, PX Mc Mm → lx_V p l e s m below meth c b EC EM 931 [(0, .ref b), (1, .ref (EC.1 0)), (2, .ref (EM.1 0)), (3, .int z)] [] Mc Mm) : lx_V p l e s m below meth c b EC EM 681 [(0, .ref b), (1, .ref (EC.1 0)), (2, .ref (EM.1 0)), (3, .int z)] [] Mc Mm := by
  have hq := hp.2.2.2.2.2.2.2.2.2.2.2.2.2.2.2.2.2.2.2.1 (xs (z + (1 : Int32)).toNatClampNeg) Mc Mm hx
  obtain ⟨r, Mc2, Mm2, e1, e2, hx2⟩ := hq
  refine lx_aload_n X 681 dL_law_681 rfl 1 rfl ?_
  refine lx_aload_n X 682 dL_law_682 rfl 0 rfl ?_
  refine lx_iload_n X 683 dL_law_683 rfl 3 rfl ?_
  refine lx_iconst X 684 (x := (1 : Int32)) dL_law_684 (by decide) ?_
  refine lx_iadd X 685 dL_law_685 ?_
  refine lx_sld X 686 dL_law_686 h1 ?_
  refine lx_callC X 687 (mt' := mX6_seen) (As := [.int (xs (z + (1 : Int32)).toNatClampNeg)]) rfl (okvX6_seen _ _) lmL_96 (by decide) rfl rfl rfl (Nat.le_of_ble_eq_true rfl) dL_law_687 (tX6_seen e1) ?_
  refine lx_aload_n X 690 dL_law_690 rfl 2 rfl ?_
  refine lx_aload_n X 691 dL_law_691 rfl 0 rfl ?_
  refine lx_iload_n X 692 dL_law_692 rfl 3 rfl ?_
  refine lx_iconst X 693 (x := (1 : Int32)) dL_law_693 (by decide) ?_
  refine lx_iadd X 694 dL_law_694 ?_
  refine lx_sld X 695 dL_law_695 h1 ?_
  refine lx_callM X 696 (mt' := mX7_seen) (As := [.int (xs (z + (1 : Int32)).toNatClampNeg)]) rfl (okvX7_seen _ _) lmL_99 (by decide) rfl rfl rfl (Nat.le_of_ble_eq_true rfl) dL_law_696 (tX7_seen e2) ?_
  refine lx_eq X 699 931 dL_law_699 (by decide) ?_
  exact k Mc2 Mm2 hx2
set_option maxRecDepth 100000 in
set_option maxHeartbeats 4000000 in
theorem lx_case20 {p : Program} {l : Launch} {e : Env} {s : State} {m : MethodId} {below : List Frame} {meth : Method} {c : Code} {b L : Nat} {xs : Nat → Int32} {EC EM : fxE} {Mc Mm : fxMem} {PX : fxMem → fxMem → Prop} (X : lx_X p s m meth c b L xs EC EM) (hp : lw_steps PX) (hx : PX Mc Mm) {z : Int32} (h1 : vp_in (z + (1 : Int32)) L) (h2 : vp_in (z + (2 : Int32)) L) (h3 : vp_in (z + (3 : Int32)) L) (k : ∀ Mc Mm, PX Mc Mm → lx_V p l e s m below meth c b EC EM 931 [(0, .ref b), (1, .ref (EC.1 0)), (2, .ref (EM.1 0)), (3, .int z)] [] Mc Mm) : lx_V p l e s m below meth c b EC EM 704 [(0, .ref b), (1, .ref (EC.1 0)), (2, .ref (EM.1 0)), (3, .int z)] [] Mc Mm := by
  have hq := hp.2.2.2.2.2.2.2.2.2.2.2.2.2.2.2.2.2.2.2.2.1 (xs (z + (1 : Int32)).toNatClampNeg) Mc Mm hx
  obtain ⟨r, Mc2, Mm2, e1, e2, hx2⟩ := hq
  refine lx_aload_n X 704 dL_law_704 rfl 1 rfl ?_
  refine lx_aload_n X 705 dL_law_705 rfl 0 rfl ?_
  refine lx_iload_n X 706 dL_law_706 rfl 3 rfl ?_
  refine lx_iconst X 707 (x := (1 : Int32)) dL_law_707 (by decide) ?_
  refine lx_iadd X 708 dL_law_708 ?_
  refine lx_sld X 709 dL_law_709 h1 ?_
  refine lx_callC X 710 (mt' := mX6_off) (As := [.int (xs (z + (1 : Int32)).toNatClampNeg)]) rfl (okvX6_off _ _) lmL_100 (by decide) rfl rfl rfl (Nat.le_of_ble_eq_true rfl) dL_law_710 (tX6_off e1) ?_
  refine lx_aload_n X 713 dL_law_713 rfl 2 rfl ?_
  refine lx_aload_n X 714 dL_law_714 rfl 0 rfl ?_
  refine lx_iload_n X 715 dL_law_715 rfl 3 rfl ?_
  refine lx_iconst X 716 (x := (1 : Int32)) dL_law_716 (by decide) ?_
  refine lx_iadd X 717 dL_law_717 ?_
  refine lx_sld X 718 dL_law_718 h1 ?_
  refine lx_callM X 719 (mt' := mX7_off) (As := [.int (xs (z + (1 : Int32)).toNatClampNeg)]) rfl (okvX7_off _ _) lmL_103 (by decide) rfl rfl rfl (Nat.le_of_ble_eq_true rfl) dL_law_719 (tX7_off e2) ?_
  refine lx_eq X 722 931 dL_law_722 (by decide) ?_
  exact k Mc2 Mm2 hx2
set_option maxRecDepth 100000 in
set_option maxHeartbeats 4000000 in
theorem lx_case21 {p : Program} {l : Launch} {e : Env} {s : State} {m : MethodId} {below : List Frame} {meth : Method} {c : Code} {b L : Nat} {xs : Nat → Int32} {EC EM : fxE} {Mc Mm : fxMem} {PX : fxMem → fxMem → Prop} (X : lx_X p s m meth c b L xs EC EM) (hp : lw_steps PX) (hx : PX Mc Mm) {z : Int32} (h1 : vp_in (z + (1 : Int32)) L) (h2 : vp_in (z + (2 : Int32)) L) (h3 : vp_in (z + (3 : Int32)) L) (k : ∀ Mc Mm, PX Mc Mm → lx_V p l e s m below meth c b EC EM 931 [(0, .ref b), (1, .ref (EC.1 0)), (2, .ref (EM.1 0)), (3, .int z)] [] Mc Mm) : lx_V p l e s m below meth c b EC EM 727 [(0, .ref b), (1, .ref (EC.1 0)), (2, .ref (EM.1 0)), (3, .int z)] [] Mc Mm := by
  have hq := hp.2.2.2.2.2.2.2.2.2.2.2.2.2.2.2.2.2.2.2.2.2.1 (xs (z + (1 : Int32)).toNatClampNeg) (xs (z + (2 : Int32)).toNatClampNeg) (xs (z + (3 : Int32)).toNatClampNeg) Mc Mm hx
  obtain ⟨r, Mc2, Mm2, e1, e2, hx2⟩ := hq
  refine lx_aload_n X 727 dL_law_727 rfl 1 rfl ?_
  refine lx_aload_n X 728 dL_law_728 rfl 0 rfl ?_
  refine lx_iload_n X 729 dL_law_729 rfl 3 rfl ?_
  refine lx_iconst X 730 (x := (1 : Int32)) dL_law_730 (by decide) ?_
  refine lx_iadd X 731 dL_law_731 ?_
  refine lx_sld X 732 dL_law_732 h1 ?_
  refine lx_aload_n X 733 dL_law_733 rfl 0 rfl ?_
  refine lx_iload_n X 734 dL_law_734 rfl 3 rfl ?_
  refine lx_iconst X 735 (x := (2 : Int32)) dL_law_735 (by decide) ?_
  refine lx_iadd X 736 dL_law_736 ?_
  refine lx_sld X 737 dL_law_737 h2 ?_
  refine lx_aload_n X 738 dL_law_738 rfl 0 rfl ?_
  refine lx_iload_n X 739 dL_law_739 rfl 3 rfl ?_
  refine lx_iconst X 740 (x := (3 : Int32)) dL_law_740 (by decide) ?_
  refine lx_iadd X 741 dL_law_741 ?_
  refine lx_sld X 742 dL_law_742 h3 ?_
  refine lx_callC X 743 (mt' := mX6_whom) (As := [.int (xs (z + (1 : Int32)).toNatClampNeg), .int (xs (z + (2 : Int32)).toNatClampNeg), .int (xs (z + (3 : Int32)).toNatClampNeg)]) rfl (okvX6_whom _ _) lmL_104 (by decide) rfl rfl rfl (Nat.le_of_ble_eq_true rfl) dL_law_743 (tX6_whom e1) ?_
  refine lx_aload_n X 746 dL_law_746 rfl 2 rfl ?_
  refine lx_aload_n X 747 dL_law_747 rfl 0 rfl ?_
  refine lx_iload_n X 748 dL_law_748 rfl 3 rfl ?_
  refine lx_iconst X 749 (x := (1 : Int32)) dL_law_749 (by decide) ?_
  refine lx_iadd X 750 dL_law_750 ?_
  refine lx_sld X 751 dL_law_751 h1 ?_
  refine lx_aload_n X 752 dL_law_752 rfl 0 rfl ?_
  refine lx_iload_n X 753 dL_law_753 rfl 3 rfl ?_
  refine lx_iconst X 754 (x := (2 : Int32)) dL_law_754 (by decide) ?_
  refine lx_iadd X 755 dL_law_755 ?_
  refine lx_sld X 756 dL_law_756 h2 ?_
  refine lx_aload_n X 757 dL_law_757 rfl 0 rfl ?_
  refine lx_iload_n X 758 dL_law_758 rfl 3 rfl ?_
  refine lx_iconst X 759 (x := (3 : Int32)) dL_law_759 (by decide) ?_
  refine lx_iadd X 760 dL_law_760 ?_
  refine lx_sld X 761 dL_law_761 h3 ?_
  refine lx_callM X 762 (mt' := mX7_whom) (As := [.int (xs (z + (1 : Int32)).toNatClampNeg), .int (xs (z + (2 : Int32)).toNatClampNeg), .int (xs (z + (3 : Int32)).toNatClampNeg)]) rfl (okvX7_whom _ _) lmL_107 (by decide) rfl rfl rfl (Nat.le_of_ble_eq_true rfl) dL_law_762 (tX7_whom e2) ?_
  refine lx_eq X 765 931 dL_law_765 (by decide) ?_
  exact k Mc2 Mm2 hx2
set_option maxRecDepth 100000 in
set_option maxHeartbeats 4000000 in
theorem lx_case22 {p : Program} {l : Launch} {e : Env} {s : State} {m : MethodId} {below : List Frame} {meth : Method} {c : Code} {b L : Nat} {xs : Nat → Int32} {EC EM : fxE} {Mc Mm : fxMem} {PX : fxMem → fxMem → Prop} (X : lx_X p s m meth c b L xs EC EM) (hp : lw_steps PX) (hx : PX Mc Mm) {z : Int32} (h1 : vp_in (z + (1 : Int32)) L) (h2 : vp_in (z + (2 : Int32)) L) (h3 : vp_in (z + (3 : Int32)) L) (k : ∀ Mc Mm, PX Mc Mm → lx_V p l e s m below meth c b EC EM 931 [(0, .ref b), (1, .ref (EC.1 0)), (2, .ref (EM.1 0)), (3, .int z)] [] Mc Mm) : lx_V p l e s m below meth c b EC EM 770 [(0, .ref b), (1, .ref (EC.1 0)), (2, .ref (EM.1 0)), (3, .int z)] [] Mc Mm := by
  have hq := hp.2.2.2.2.2.2.2.2.2.2.2.2.2.2.2.2.2.2.2.2.2.2.1  Mc Mm hx
  obtain ⟨r, Mc2, Mm2, e1, e2, hx2⟩ := hq
  refine lx_aload_n X 770 dL_law_770 rfl 1 rfl ?_
  refine lx_callC X 771 (mt' := mX6_out) (As := []) rfl (okvX6_out _ _) lmL_108 (by decide) rfl rfl rfl (Nat.le_of_ble_eq_true rfl) dL_law_771 (tX6_out e1) ?_
  refine lx_aload_n X 774 dL_law_774 rfl 2 rfl ?_
  refine lx_callM X 775 (mt' := mX7_out) (As := []) rfl (okvX7_out _ _) lmL_111 (by decide) rfl rfl rfl (Nat.le_of_ble_eq_true rfl) dL_law_775 (tX7_out e2) ?_
  refine lx_eq X 778 931 dL_law_778 (by decide) ?_
  exact k Mc2 Mm2 hx2
set_option maxRecDepth 100000 in
set_option maxHeartbeats 4000000 in
theorem lx_case23 {p : Program} {l : Launch} {e : Env} {s : State} {m : MethodId} {below : List Frame} {meth : Method} {c : Code} {b L : Nat} {xs : Nat → Int32} {EC EM : fxE} {Mc Mm : fxMem} {PX : fxMem → fxMem → Prop} (X : lx_X p s m meth c b L xs EC EM) (hp : lw_steps PX) (hx : PX Mc Mm) {z : Int32} (h1 : vp_in (z + (1 : Int32)) L) (h2 : vp_in (z + (2 : Int32)) L) (h3 : vp_in (z + (3 : Int32)) L) (k : ∀ Mc Mm, PX Mc Mm → lx_V p l e s m below meth c b EC EM 931 [(0, .ref b), (1, .ref (EC.1 0)), (2, .ref (EM.1 0)), (3, .int z)] [] Mc Mm) : lx_V p l e s m below meth c b EC EM 783 [(0, .ref b), (1, .ref (EC.1 0)), (2, .ref (EM.1 0)), (3, .int z)] [] Mc Mm := by
  have hq := hp.2.2.2.2.2.2.2.2.2.2.2.2.2.2.2.2.2.2.2.2.2.2.2.1 (xs (z + (1 : Int32)).toNatClampNeg) (xs (z + (2 : Int32)).toNatClampNeg) (xs (z + (3 : Int32)).toNatClampNeg) Mc Mm hx
  obtain ⟨r, Mc2, Mm2, e1, e2, hx2⟩ := hq
  refine lx_aload_n X 783 dL_law_783 rfl 1 rfl ?_
  refine lx_aload_n X 784 dL_law_784 rfl 0 rfl ?_
  refine lx_iload_n X 785 dL_law_785 rfl 3 rfl ?_
  refine lx_iconst X 786 (x := (1 : Int32)) dL_law_786 (by decide) ?_
  refine lx_iadd X 787 dL_law_787 ?_
  refine lx_sld X 788 dL_law_788 h1 ?_
  refine lx_aload_n X 789 dL_law_789 rfl 0 rfl ?_
  refine lx_iload_n X 790 dL_law_790 rfl 3 rfl ?_
  refine lx_iconst X 791 (x := (2 : Int32)) dL_law_791 (by decide) ?_
  refine lx_iadd X 792 dL_law_792 ?_
  refine lx_sld X 793 dL_law_793 h2 ?_
  refine lx_aload_n X 794 dL_law_794 rfl 0 rfl ?_
  refine lx_iload_n X 795 dL_law_795 rfl 3 rfl ?_
  refine lx_iconst X 796 (x := (3 : Int32)) dL_law_796 (by decide) ?_
  refine lx_iadd X 797 dL_law_797 ?_
  refine lx_sld X 798 dL_law_798 h3 ?_
  refine lx_callC X 799 (mt' := mX6_act) (As := [.int (xs (z + (1 : Int32)).toNatClampNeg), .int (xs (z + (2 : Int32)).toNatClampNeg), .int (xs (z + (3 : Int32)).toNatClampNeg)]) rfl (okvX6_act _ _) lmL_112 (by decide) rfl rfl rfl (Nat.le_of_ble_eq_true rfl) dL_law_799 (tX6_act e1) ?_
  refine lx_aload_n X 802 dL_law_802 rfl 2 rfl ?_
  refine lx_aload_n X 803 dL_law_803 rfl 0 rfl ?_
  refine lx_iload_n X 804 dL_law_804 rfl 3 rfl ?_
  refine lx_iconst X 805 (x := (1 : Int32)) dL_law_805 (by decide) ?_
  refine lx_iadd X 806 dL_law_806 ?_
  refine lx_sld X 807 dL_law_807 h1 ?_
  refine lx_aload_n X 808 dL_law_808 rfl 0 rfl ?_
  refine lx_iload_n X 809 dL_law_809 rfl 3 rfl ?_
  refine lx_iconst X 810 (x := (2 : Int32)) dL_law_810 (by decide) ?_
  refine lx_iadd X 811 dL_law_811 ?_
  refine lx_sld X 812 dL_law_812 h2 ?_
  refine lx_aload_n X 813 dL_law_813 rfl 0 rfl ?_
  refine lx_iload_n X 814 dL_law_814 rfl 3 rfl ?_
  refine lx_iconst X 815 (x := (3 : Int32)) dL_law_815 (by decide) ?_
  refine lx_iadd X 816 dL_law_816 ?_
  refine lx_sld X 817 dL_law_817 h3 ?_
  refine lx_callM X 818 (mt' := mX7_act) (As := [.int (xs (z + (1 : Int32)).toNatClampNeg), .int (xs (z + (2 : Int32)).toNatClampNeg), .int (xs (z + (3 : Int32)).toNatClampNeg)]) rfl (okvX7_act _ _) lmL_115 (by decide) rfl rfl rfl (Nat.le_of_ble_eq_true rfl) dL_law_818 (tX7_act e2) ?_
  refine lx_eq X 821 931 dL_law_821 (by decide) ?_
  exact k Mc2 Mm2 hx2
set_option maxRecDepth 100000 in
set_option maxHeartbeats 4000000 in
theorem lx_case24 {p : Program} {l : Launch} {e : Env} {s : State} {m : MethodId} {below : List Frame} {meth : Method} {c : Code} {b L : Nat} {xs : Nat → Int32} {EC EM : fxE} {Mc Mm : fxMem} {PX : fxMem → fxMem → Prop} (X : lx_X p s m meth c b L xs EC EM) (hp : lw_steps PX) (hx : PX Mc Mm) {z : Int32} (h1 : vp_in (z + (1 : Int32)) L) (h2 : vp_in (z + (2 : Int32)) L) (h3 : vp_in (z + (3 : Int32)) L) (k : ∀ Mc Mm, PX Mc Mm → lx_V p l e s m below meth c b EC EM 931 [(0, .ref b), (1, .ref (EC.1 0)), (2, .ref (EM.1 0)), (3, .int z)] [] Mc Mm) : lx_V p l e s m below meth c b EC EM 826 [(0, .ref b), (1, .ref (EC.1 0)), (2, .ref (EM.1 0)), (3, .int z)] [] Mc Mm := by
  have hq := hp.2.2.2.2.2.2.2.2.2.2.2.2.2.2.2.2.2.2.2.2.2.2.2.2.1 (xs (z + (1 : Int32)).toNatClampNeg) Mc Mm hx
  obtain ⟨r, Mc2, Mm2, e1, e2, hx2⟩ := hq
  refine lx_aload_n X 826 dL_law_826 rfl 1 rfl ?_
  refine lx_aload_n X 827 dL_law_827 rfl 0 rfl ?_
  refine lx_iload_n X 828 dL_law_828 rfl 3 rfl ?_
  refine lx_iconst X 829 (x := (1 : Int32)) dL_law_829 (by decide) ?_
  refine lx_iadd X 830 dL_law_830 ?_
  refine lx_sld X 831 dL_law_831 h1 ?_
  refine lx_callC X 832 (mt' := mX6_trace) (As := [.int (xs (z + (1 : Int32)).toNatClampNeg)]) rfl (okvX6_trace _ _) lmL_116 (by decide) rfl rfl rfl (Nat.le_of_ble_eq_true rfl) dL_law_832 (tX6_trace e1) ?_
  refine lx_aload_n X 835 dL_law_835 rfl 2 rfl ?_
  refine lx_aload_n X 836 dL_law_836 rfl 0 rfl ?_
  refine lx_iload_n X 837 dL_law_837 rfl 3 rfl ?_
  refine lx_iconst X 838 (x := (1 : Int32)) dL_law_838 (by decide) ?_
  refine lx_iadd X 839 dL_law_839 ?_
  refine lx_sld X 840 dL_law_840 h1 ?_
  refine lx_callM X 841 (mt' := mX7_trace) (As := [.int (xs (z + (1 : Int32)).toNatClampNeg)]) rfl (okvX7_trace _ _) lmL_119 (by decide) rfl rfl rfl (Nat.le_of_ble_eq_true rfl) dL_law_841 (tX7_trace e2) ?_
  refine lx_eq X 844 931 dL_law_844 (by decide) ?_
  exact k Mc2 Mm2 hx2
set_option maxRecDepth 100000 in
set_option maxHeartbeats 4000000 in
theorem lx_case25 {p : Program} {l : Launch} {e : Env} {s : State} {m : MethodId} {below : List Frame} {meth : Method} {c : Code} {b L : Nat} {xs : Nat → Int32} {EC EM : fxE} {Mc Mm : fxMem} {PX : fxMem → fxMem → Prop} (X : lx_X p s m meth c b L xs EC EM) (hp : lw_steps PX) (hx : PX Mc Mm) {z : Int32} (h1 : vp_in (z + (1 : Int32)) L) (h2 : vp_in (z + (2 : Int32)) L) (h3 : vp_in (z + (3 : Int32)) L) (k : ∀ Mc Mm, PX Mc Mm → lx_V p l e s m below meth c b EC EM 931 [(0, .ref b), (1, .ref (EC.1 0)), (2, .ref (EM.1 0)), (3, .int z)] [] Mc Mm) : lx_V p l e s m below meth c b EC EM 849 [(0, .ref b), (1, .ref (EC.1 0)), (2, .ref (EM.1 0)), (3, .int z)] [] Mc Mm := by
  have hq := hp.2.2.2.2.2.2.2.2.2.2.2.2.2.2.2.2.2.2.2.2.2.2.2.2.2.1 (xs (z + (1 : Int32)).toNatClampNeg) (xs (z + (2 : Int32)).toNatClampNeg) Mc Mm hx
  obtain ⟨r, Mc2, Mm2, e1, e2, hx2⟩ := hq
  refine lx_aload_n X 849 dL_law_849 rfl 1 rfl ?_
  refine lx_aload_n X 850 dL_law_850 rfl 0 rfl ?_
  refine lx_iload_n X 851 dL_law_851 rfl 3 rfl ?_
  refine lx_iconst X 852 (x := (1 : Int32)) dL_law_852 (by decide) ?_
  refine lx_iadd X 853 dL_law_853 ?_
  refine lx_sld X 854 dL_law_854 h1 ?_
  refine lx_aload_n X 855 dL_law_855 rfl 0 rfl ?_
  refine lx_iload_n X 856 dL_law_856 rfl 3 rfl ?_
  refine lx_iconst X 857 (x := (2 : Int32)) dL_law_857 (by decide) ?_
  refine lx_iadd X 858 dL_law_858 ?_
  refine lx_sld X 859 dL_law_859 h2 ?_
  refine lx_callC X 860 (mt' := mX6_as) (As := [.int (xs (z + (1 : Int32)).toNatClampNeg), .int (xs (z + (2 : Int32)).toNatClampNeg)]) rfl (okvX6_as _ _) lmL_120 (by decide) rfl rfl rfl (Nat.le_of_ble_eq_true rfl) dL_law_860 (tX6_as e1) ?_
  refine lx_aload_n X 863 dL_law_863 rfl 2 rfl ?_
  refine lx_aload_n X 864 dL_law_864 rfl 0 rfl ?_
  refine lx_iload_n X 865 dL_law_865 rfl 3 rfl ?_
  refine lx_iconst X 866 (x := (1 : Int32)) dL_law_866 (by decide) ?_
  refine lx_iadd X 867 dL_law_867 ?_
  refine lx_sld X 868 dL_law_868 h1 ?_
  refine lx_aload_n X 869 dL_law_869 rfl 0 rfl ?_
  refine lx_iload_n X 870 dL_law_870 rfl 3 rfl ?_
  refine lx_iconst X 871 (x := (2 : Int32)) dL_law_871 (by decide) ?_
  refine lx_iadd X 872 dL_law_872 ?_
  refine lx_sld X 873 dL_law_873 h2 ?_
  refine lx_callM X 874 (mt' := mX7_as) (As := [.int (xs (z + (1 : Int32)).toNatClampNeg), .int (xs (z + (2 : Int32)).toNatClampNeg)]) rfl (okvX7_as _ _) lmL_123 (by decide) rfl rfl rfl (Nat.le_of_ble_eq_true rfl) dL_law_874 (tX7_as e2) ?_
  refine lx_eq X 877 931 dL_law_877 (by decide) ?_
  exact k Mc2 Mm2 hx2
set_option maxRecDepth 100000 in
set_option maxHeartbeats 4000000 in
theorem lx_case26 {p : Program} {l : Launch} {e : Env} {s : State} {m : MethodId} {below : List Frame} {meth : Method} {c : Code} {b L : Nat} {xs : Nat → Int32} {EC EM : fxE} {Mc Mm : fxMem} {PX : fxMem → fxMem → Prop} (X : lx_X p s m meth c b L xs EC EM) (hp : lw_steps PX) (hx : PX Mc Mm) {z : Int32} (h1 : vp_in (z + (1 : Int32)) L) (h2 : vp_in (z + (2 : Int32)) L) (h3 : vp_in (z + (3 : Int32)) L) (k : ∀ Mc Mm, PX Mc Mm → lx_V p l e s m below meth c b EC EM 931 [(0, .ref b), (1, .ref (EC.1 0)), (2, .ref (EM.1 0)), (3, .int z)] [] Mc Mm) : lx_V p l e s m below meth c b EC EM 882 [(0, .ref b), (1, .ref (EC.1 0)), (2, .ref (EM.1 0)), (3, .int z)] [] Mc Mm := by
  have hq := hp.2.2.2.2.2.2.2.2.2.2.2.2.2.2.2.2.2.2.2.2.2.2.2.2.2.2.1  Mc Mm hx
  obtain ⟨r, Mc2, Mm2, e1, e2, hx2⟩ := hq
  refine lx_aload_n X 882 dL_law_882 rfl 1 rfl ?_
  refine lx_callC X 883 (mt' := mX6_image) (As := []) rfl (okvX6_image _ _) lmL_124 (by decide) rfl rfl rfl (Nat.le_of_ble_eq_true rfl) dL_law_883 (tX6_image e1) ?_
  refine lx_aload_n X 886 dL_law_886 rfl 2 rfl ?_
  refine lx_callM X 887 (mt' := mX7_image) (As := []) rfl (okvX7_image _ _) lmL_127 (by decide) rfl rfl rfl (Nat.le_of_ble_eq_true rfl) dL_law_887 (tX7_image e2) ?_
  refine lx_eq X 890 931 dL_law_890 (by decide) ?_
  exact k Mc2 Mm2 hx2
set_option maxRecDepth 100000 in
set_option maxHeartbeats 4000000 in
theorem lx_case27 {p : Program} {l : Launch} {e : Env} {s : State} {m : MethodId} {below : List Frame} {meth : Method} {c : Code} {b L : Nat} {xs : Nat → Int32} {EC EM : fxE} {Mc Mm : fxMem} {PX : fxMem → fxMem → Prop} (X : lx_X p s m meth c b L xs EC EM) (hp : lw_steps PX) (hx : PX Mc Mm) {z : Int32} (h1 : vp_in (z + (1 : Int32)) L) (h2 : vp_in (z + (2 : Int32)) L) (h3 : vp_in (z + (3 : Int32)) L) (k : ∀ Mc Mm, PX Mc Mm → lx_V p l e s m below meth c b EC EM 931 [(0, .ref b), (1, .ref (EC.1 0)), (2, .ref (EM.1 0)), (3, .int z)] [] Mc Mm) : lx_V p l e s m below meth c b EC EM 895 [(0, .ref b), (1, .ref (EC.1 0)), (2, .ref (EM.1 0)), (3, .int z)] [] Mc Mm := by
  have hq := hp.2.2.2.2.2.2.2.2.2.2.2.2.2.2.2.2.2.2.2.2.2.2.2.2.2.2.2.1  Mc Mm hx
  obtain ⟨r, Mc2, Mm2, e1, e2, hx2⟩ := hq
  refine lx_aload_n X 895 dL_law_895 rfl 1 rfl ?_
  refine lx_callC X 896 (mt' := mX6_undo) (As := []) rfl (okvX6_undo _ _) lmL_128 (by decide) rfl rfl rfl (Nat.le_of_ble_eq_true rfl) dL_law_896 (tX6_undo e1) ?_
  refine lx_aload_n X 899 dL_law_899 rfl 2 rfl ?_
  refine lx_callM X 900 (mt' := mX7_undo) (As := []) rfl (okvX7_undo _ _) lmL_131 (by decide) rfl rfl rfl (Nat.le_of_ble_eq_true rfl) dL_law_900 (tX7_undo e2) ?_
  refine lx_eq X 903 931 dL_law_903 (by decide) ?_
  exact k Mc2 Mm2 hx2
set_option maxRecDepth 100000 in
set_option maxHeartbeats 4000000 in
theorem lx_case28 {p : Program} {l : Launch} {e : Env} {s : State} {m : MethodId} {below : List Frame} {meth : Method} {c : Code} {b L : Nat} {xs : Nat → Int32} {EC EM : fxE} {Mc Mm : fxMem} {PX : fxMem → fxMem → Prop} (X : lx_X p s m meth c b L xs EC EM) (hp : lw_steps PX) (hx : PX Mc Mm) {z : Int32} (h1 : vp_in (z + (1 : Int32)) L) (h2 : vp_in (z + (2 : Int32)) L) (h3 : vp_in (z + (3 : Int32)) L) (k : ∀ Mc Mm, PX Mc Mm → lx_V p l e s m below meth c b EC EM 931 [(0, .ref b), (1, .ref (EC.1 0)), (2, .ref (EM.1 0)), (3, .int z)] [] Mc Mm) : lx_V p l e s m below meth c b EC EM 908 [(0, .ref b), (1, .ref (EC.1 0)), (2, .ref (EM.1 0)), (3, .int z)] [] Mc Mm := by
  have hq := hp.2.2.2.2.2.2.2.2.2.2.2.2.2.2.2.2.2.2.2.2.2.2.2.2.2.2.2.2 (xs (z + (1 : Int32)).toNatClampNeg) Mc Mm hx
  obtain ⟨r, Mc2, Mm2, e1, e2, hx2⟩ := hq
  refine lx_aload_n X 908 dL_law_908 rfl 1 rfl ?_
  refine lx_aload_n X 909 dL_law_909 rfl 0 rfl ?_
  refine lx_iload_n X 910 dL_law_910 rfl 3 rfl ?_
  refine lx_iconst X 911 (x := (1 : Int32)) dL_law_911 (by decide) ?_
  refine lx_iadd X 912 dL_law_912 ?_
  refine lx_sld X 913 dL_law_913 h1 ?_
  refine lx_callC X 914 (mt' := mX6_count) (As := [.int (xs (z + (1 : Int32)).toNatClampNeg)]) rfl (okvX6_count _ _) lmL_132 (by decide) rfl rfl rfl (Nat.le_of_ble_eq_true rfl) dL_law_914 (tX6_count e1) ?_
  refine lx_aload_n X 917 dL_law_917 rfl 2 rfl ?_
  refine lx_aload_n X 918 dL_law_918 rfl 0 rfl ?_
  refine lx_iload_n X 919 dL_law_919 rfl 3 rfl ?_
  refine lx_iconst X 920 (x := (1 : Int32)) dL_law_920 (by decide) ?_
  refine lx_iadd X 921 dL_law_921 ?_
  refine lx_sld X 922 dL_law_922 h1 ?_
  refine lx_callM X 923 (mt' := mX7_count) (As := [.int (xs (z + (1 : Int32)).toNatClampNeg)]) rfl (okvX7_count _ _) lmL_135 (by decide) rfl rfl rfl (Nat.le_of_ble_eq_true rfl) dL_law_923 (tX7_count e2) ?_
  refine lx_eq X 926 931 dL_law_926 (by decide) ?_
  exact k Mc2 Mm2 hx2
set_option maxRecDepth 100000 in
set_option maxHeartbeats 4000000 in
theorem lx_loop {p : Program} {l : Launch} {e : Env} {s : State} {m : MethodId} {below : List Frame} {meth : Method} {c : Code} {b L : Nat} {xs : Nat → Int32} {EC EM : fxE} {PX : fxMem → fxMem → Prop} (hL : L ≤ 2048) (X : lx_X p s m meth c b L xs EC EM) (hp : lw_steps PX) : ∀ (n i : Nat) (Mc Mm : fxMem), L - i < n → i ≤ L → PX Mc Mm → lx_V p l e s m below meth c b EC EM 18 [(0, .ref b), (1, .ref (EC.1 0)), (2, .ref (EM.1 0)), (3, .int (nI i))] [] Mc Mm := by
  intro n
  induction n with
  | zero => intro i Mc Mm h; exact absurd h (Nat.not_lt_zero _)
  | succ n ih =>
    intro i Mc Mm hn hi hx
    refine lx_iload_n X 18 dL_law_18 rfl 3 rfl ?_
    refine lx_aload_n X 19 dL_law_19 rfl 0 rfl ?_
    refine lx_slen X 20 dL_law_20 ?_
    refine lx_iconst X 21 (x := 4) dL_law_21 (by decide) ?_
    refine lx_isub X 22 dL_law_22 ?_
    refine lx_gt X 23 937 dL_law_23 (by decide) (fun _ => ?_) (fun hc => ?_)
    · refine lx_iconst X 937 (x := 1) dL_law_937 (by decide) ?_
      exact lx_ret X 938 dL_law_938
    · have h4 : i + 4 ≤ L := by
        rcases Nat.lt_or_ge L (i + 4) with q | q
        · refine absurd ?_ hc
          rw [Int32.lt_iff_toInt_lt]
          have e1 : (Int32.ofNat L - 4).toInt = (L : Int) - 4 := pk_sub_toInt (a := L) (b := 4) (by omega) (by decide)
          rw [e1, nI_toInt (by omega)]
          omega
        · exact q
      have h0 : vp_in (nI i) L := vp_in_nI (by omega) (by omega)
      have h1 : vp_in (nI i + (1 : Int32)) L := by rw [show nI i + (1 : Int32) = nI (i + 1) from nI_add i 1]; exact vp_in_nI (by omega) (by omega)
      have h2 : vp_in (nI i + (2 : Int32)) L := by rw [show nI i + (2 : Int32) = nI (i + 2) from nI_add i 2]; exact vp_in_nI (by omega) (by omega)
      have h3 : vp_in (nI i + (3 : Int32)) L := by rw [show nI i + (3 : Int32) = nI (i + 3) from nI_add i 3]; exact vp_in_nI (by omega) (by omega)
      have kk : ∀ Mc Mm, PX Mc Mm → lx_V p l e s m below meth c b EC EM 931 [(0, .ref b), (1, .ref (EC.1 0)), (2, .ref (EM.1 0)), (3, .int (nI i))] [] Mc Mm := by
        intro Mc Mm hx
        refine lx_iinc X 931 (lv' := [(3, .int (nI (i + 4))), (0, .ref b), (1, .ref (EC.1 0)), (2, .ref (EM.1 0))]) (y := nI (i + 4)) dL_law_931 3 rfl (show nI i + nI 4 = nI (i + 4) from nI_add i 4) (by decide) rfl ?_
        refine lx_goto X 934 18 dL_law_934 (by decide) ?_
        refine lx_sub [1, 2, 3, 0] rfl ?_
        exact ih (i + 4) Mc Mm (by omega) h4 hx
      refine lx_aload_n X 26 dL_law_26 rfl 0 rfl ?_
      refine lx_iload_n X 27 dL_law_27 rfl 3 rfl ?_
      refine lx_sld X 28 dL_law_28 h0 ?_
      refine lx_bipush X 29 (x := 31) dL_law_29 (by decide) ?_
      refine lx_iand X 31 dL_law_31 ?_
      obtain ⟨j, hj, ej⟩ := pk_andE (xs (nI i).toNatClampNeg) (m := 31) 5 (by decide)
      rw [ej]
      rcases Nat.lt_or_ge j 29 with q | q
      · match j, q with
        | 0, _ => exact lx_tsI X 32 164 dL_law_32 (by decide) (by decide) rfl (by decide) (lx_case0 X hp hx h1 h2 h3 kk)
        | 1, _ => exact lx_tsI X 32 227 dL_law_32 (by decide) (by decide) rfl (by decide) (lx_case1 X hp hx h1 h2 h3 kk)
        | 2, _ => exact lx_tsI X 32 240 dL_law_32 (by decide) (by decide) rfl (by decide) (lx_case2 X hp hx h1 h2 h3 kk)
        | 3, _ => exact lx_tsI X 32 263 dL_law_32 (by decide) (by decide) rfl (by decide) (lx_case3 X hp hx h1 h2 h3 kk)
        | 4, _ => exact lx_tsI X 32 306 dL_law_32 (by decide) (by decide) rfl (by decide) (lx_case4 X hp hx h1 h2 h3 kk)
        | 5, _ => exact lx_tsI X 32 339 dL_law_32 (by decide) (by decide) rfl (by decide) (lx_case5 X hp hx h1 h2 h3 kk)
        | 6, _ => exact lx_tsI X 32 362 dL_law_32 (by decide) (by decide) rfl (by decide) (lx_case6 X hp hx h1 h2 h3 kk)
        | 7, _ => exact lx_tsI X 32 395 dL_law_32 (by decide) (by decide) rfl (by decide) (lx_case7 X hp hx h1 h2 h3 kk)
        | 8, _ => exact lx_tsI X 32 428 dL_law_32 (by decide) (by decide) rfl (by decide) (lx_case8 X hp hx h1 h2 h3 kk)
        | 9, _ => exact lx_tsI X 32 461 dL_law_32 (by decide) (by decide) rfl (by decide) (lx_case9 X hp hx h1 h2 h3 kk)
        | 10, _ => exact lx_tsI X 32 494 dL_law_32 (by decide) (by decide) rfl (by decide) (lx_case10 X hp hx h1 h2 h3 kk)
        | 11, _ => exact lx_tsI X 32 517 dL_law_32 (by decide) (by decide) rfl (by decide) (lx_case11 X hp hx h1 h2 h3 kk)
        | 12, _ => exact lx_tsI X 32 550 dL_law_32 (by decide) (by decide) rfl (by decide) (lx_case12 X hp hx h1 h2 h3 kk)
        | 13, _ => exact lx_tsI X 32 573 dL_law_32 (by decide) (by decide) rfl (by decide) (lx_case13 X hp hx h1 h2 h3 kk)
        | 14, _ => exact lx_tsI X 32 596 dL_law_32 (by decide) (by decide) rfl (by decide) (lx_case14 X hp hx h1 h2 h3 kk)
        | 15, _ => exact lx_tsI X 32 619 dL_law_32 (by decide) (by decide) rfl (by decide) (lx_case15 X hp hx h1 h2 h3 kk)
        | 16, _ => exact lx_tsI X 32 632 dL_law_32 (by decide) (by decide) rfl (by decide) (lx_case16 X hp hx h1 h2 h3 kk)
        | 17, _ => exact lx_tsI X 32 645 dL_law_32 (by decide) (by decide) rfl (by decide) (lx_case17 X hp hx h1 h2 h3 kk)
        | 18, _ => exact lx_tsI X 32 668 dL_law_32 (by decide) (by decide) rfl (by decide) (lx_case18 X hp hx h1 h2 h3 kk)
        | 19, _ => exact lx_tsI X 32 681 dL_law_32 (by decide) (by decide) rfl (by decide) (lx_case19 X hp hx h1 h2 h3 kk)
        | 20, _ => exact lx_tsI X 32 704 dL_law_32 (by decide) (by decide) rfl (by decide) (lx_case20 X hp hx h1 h2 h3 kk)
        | 21, _ => exact lx_tsI X 32 727 dL_law_32 (by decide) (by decide) rfl (by decide) (lx_case21 X hp hx h1 h2 h3 kk)
        | 22, _ => exact lx_tsI X 32 770 dL_law_32 (by decide) (by decide) rfl (by decide) (lx_case22 X hp hx h1 h2 h3 kk)
        | 23, _ => exact lx_tsI X 32 783 dL_law_32 (by decide) (by decide) rfl (by decide) (lx_case23 X hp hx h1 h2 h3 kk)
        | 24, _ => exact lx_tsI X 32 826 dL_law_32 (by decide) (by decide) rfl (by decide) (lx_case24 X hp hx h1 h2 h3 kk)
        | 25, _ => exact lx_tsI X 32 849 dL_law_32 (by decide) (by decide) rfl (by decide) (lx_case25 X hp hx h1 h2 h3 kk)
        | 26, _ => exact lx_tsI X 32 882 dL_law_32 (by decide) (by decide) rfl (by decide) (lx_case26 X hp hx h1 h2 h3 kk)
        | 27, _ => exact lx_tsI X 32 895 dL_law_32 (by decide) (by decide) rfl (by decide) (lx_case27 X hp hx h1 h2 h3 kk)
        | 28, _ => exact lx_tsI X 32 908 dL_law_32 (by decide) (by decide) rfl (by decide) (lx_case28 X hp hx h1 h2 h3 kk)
        | j + 29, q => exact absurd q (by omega)
      · refine lx_tsD X 32 931 dL_law_32 (Or.inr ?_) (by decide) (kk Mc Mm hx)
        rw [nI_toInt (by omega)]
        omega
