/-! THE LAW, from its entry to its loop -/
def lw_ad (E : fxE) (ad : Nat → Nat) : fxE := (fun k => if k < 1000 then ad k else E.1 k, E.2)
theorem lw_adK {E : fxE} {ad : Nat → Nat} {A : Nat → Prop} {U : State} {H : Heap} (h : fx_K E A U H) : fx_K (lw_ad E ad) A U H := by
  have e1 : ∀ i, (lw_ad E ad).1 (1000 + i) = E.1 (1000 + i) := fun i => if_neg (by omega)
  have e2 : ∀ i, (lw_ad E ad).1 (2000 + i) = E.1 (2000 + i) := fun i => if_neg (by omega)
  have e3 : ∀ i, (lw_ad E ad).1 (3000 + i) = E.1 (3000 + i) := fun i => if_neg (by omega)
  obtain ⟨h1, h2, h3, h4, h5, h6⟩ := h
  refine ⟨fun i hi => ?_, h2, h3, fun j hj => ?_, h5, h6⟩
  · rw [fx_str, e1, e2]
    exact h1 i hi
  · rw [e3]
    exact h4 j hj
theorem lw_mapsub {ws ws' : va_W} {is : List Nat} (h : is.map (fun i => ws[i]?) = ws'.map some) : is.filterMap (fun i => ws[i]?) = ws' := by
  have e : is.filterMap (fun i => ws[i]?) = (is.map (fun i => ws[i]?)).filterMap id := by rw [List.filterMap_map]; rfl
  rw [e, h, List.filterMap_map]
  simp
theorem lw_after {p : Program} {l : Launch} {e : Env} {R : Room} {s : State} {m : MethodId} {args : Array Value} {below : List Frame} {meth : Method} {c : Code} {H : Heap} {locs : List Loc} {ls : Array Slot} {pc cells slots : Nat} {st0 st : List Value} {a : Array Value} {QQ : State → Prop} {ws wc wr : va_W} {Qk : va_W → Prop} {mc ms : Nat} {E : fxE} {A : Nat → Prop}
    (isC isR : List Nat) (hC : isC.map (fun i => ws[i]?) = wc.map some) (hR : isR.map (fun i => ws[i]?) = wr.map some) (hn : va_nd isR = true) (hdis : ∀ i ∈ isR, i ∉ isC)
    (hr : va_Run p l e R s m args below meth c H locs cells slots mc ms (F0 m pc ls st0) st (rx_Q E (va_A wc H.size) Qk a) (va_A wc H.size)) (hP : va_P (E.2.1, E.2.2.1) vwCl ws H) (hD : va_D A ws) (hS : va_S A s.heap H locs) (hA : ∀ q, s.heap.size ≤ q → A q)
    (kk : ∀ (w1 : va_W) (H1 : Heap) (locs1 : List Loc), Qk w1 → va_P (E.2.1, E.2.2.1) vwCl (wr ++ w1) H1 → va_D A (wr ++ w1) → va_S A s.heap H1 locs1 → W p l e R s m args below meth c H1 locs1 (cells + mc) (slots + ms) QQ (F0 m (pc + 3) ls st)) : W p l e R s m args below meth c H locs cells slots QQ (F0 m pc ls st0) := by
  have hF := va_free (wc := wc) hD hS hA isC hC
  intro T hT X
  obtain ⟨v, st₀, t, T', L, h0, X', hL, e1, e2, ⟨⟨hv, w1, hq, hP1, hD1⟩, hz, hk⟩, stp⟩ := hr T hT X
  cases hv
  rw [h0] at hz hk
  obtain ⟨hPj, hDj⟩ := va_join (wr := wr) (w1 := w1) hP hD isC isR hC hR hn hdis hk hF hP1 hD1
  obtain ⟨t2, a1, b1⟩ := kk w1 T'.heap (locs ++ L) hq (by rw [e1]; exact hPj) hDj
    ⟨Nat.le_trans hS.1 (by rw [e1]; exact hz), fun q h1 h2 => by rw [e1, hk q (Nat.lt_of_lt_of_le h1 hS.1) (fun z => h2 (hF q z))]; exact hS.2.1 q h1 h2, fun q hq => by
      rcases List.mem_append.mp hq with h | h
      · exact hS.2.2 q h
      · exact hF _ (hL q h)⟩ T' rfl X'
  exact ⟨t2, stp t2 a1, b1⟩
theorem lw_inj {G : fxG} {E : fxE} {M : fxMem} {A : Nat → Prop} (h : va_D A (fx_w G E M)) : (∀ i j, i < G.1 → j < G.1 → E.1 i = E.1 j → i = j) ∧ ∀ i, i < G.1 → A (E.1 i) := by
  refine ⟨fun i j hi hj e => ?_, fun i hi => ?_⟩
  · exact h.1 i j _ _ (fx_w_at hi) (fx_w_at hj) e
  · exact h.2 i _ (fx_w_at hi)
theorem lw_dis {G G' : fxG} {E E' : fxE} {M M' : fxMem} {A : Nat → Prop} {w2 : va_W} {is : List Nat} (h : va_D A (fx_w G E M ++ w2)) (hs : is.map (fun i => w2[i]?) = (fx_w G' E' M').map some) : ∀ i j, i < G.1 → j < G'.1 → E.1 i ≠ E'.1 j := by
  intro i j hi hj e
  have hl : (fx_w G E M).length = G.1 := by simp [fx_w]
  have h1 : (fx_w G E M ++ w2)[i]? = some (E.1 i, G.2 E.1 E.2.2.2.1 i (M i)) := by rw [List.getElem?_append_left (by omega)]; exact fx_w_at hi
  have h2 : ((fx_w G' E' M').map some)[j]? = some (some (E'.1 j, G'.2 E'.1 E'.2.2.2.1 j (M' j))) := by rw [List.getElem?_map, fx_w_at hj]; rfl
  rw [← hs, List.getElem?_map] at h2
  cases hk : is[j]? with
  | none => rw [hk] at h2; cases h2
  | some k =>
    rw [hk] at h2
    have h3 : w2[k]? = some (E'.1 j, G'.2 E'.1 E'.2.2.2.1 j (M' j)) := Option.some.inj h2
    have h4 : (fx_w G E M ++ w2)[G.1 + k]? = some (E'.1 j, G'.2 E'.1 E'.2.2.2.1 j (M' j)) := by
      rw [List.getElem?_append_right (by omega), hl, show G.1 + k - G.1 = k by omega]
      exact h3
    have h5 := h.1 i (G.1 + k) _ _ h1 h4 e
    omega
set_option maxRecDepth 100000 in
set_option maxHeartbeats 4000000 in
theorem lw_wC (E : fxE) (ad : Nat → Nat) : (List.range 64).map (fun k => (ad k, gC.2 ad E.2.2.2.1 k (fxM0 k))) = fx_w gC (lw_ad E ad) fxM0 := rfl
set_option maxRecDepth 100000 in
set_option maxHeartbeats 4000000 in
theorem lw_wM (E : fxE) (ad : Nat → Nat) : (List.range 8).map (fun k => (ad k, gM.2 ad E.2.2.2.1 k (fxM1 k))) = fx_w gM (lw_ad E ad) fxM1 := rfl
theorem lw_all (w : va_W) (x : Nat × va_E) : (List.range w.length).map (fun i => (w ++ [x])[i]?) = w.map some := by
  apply List.ext_getElem?
  intro i
  rw [List.getElem?_map, List.getElem?_map]
  by_cases hi : i < w.length
  · rw [List.getElem?_range hi, Option.map_some, List.getElem?_append_left hi]
    simp [hi]
  · simp [hi]
theorem lw_one (w : va_W) (x : Nat × va_E) : [w.length].map (fun i => (w ++ [x])[i]?) = [x].map some := by simp
theorem lw_len (G : fxG) (E : fxE) (M : fxMem) : (fx_w G E M).length = G.1 := by simp [fx_w]
set_option maxRecDepth 100000 in
set_option maxHeartbeats 8000000 in
/-- THE LAW, open in the invariant's steps -/
theorem whole_open {p : Program} {e : Env} {s : State} {m : MethodId} {below : List Frame} {meth : Method} {c : Code} (l : Launch) {b L : Nat} {xs : Nat → Int32} (hL : L ≤ 2048) (C0 : lw_At p s m meth c b L xs) (PX : fxMem → fxMem → Prop) (hp : lw_steps PX) (h00 : PX fxM0 fxM1) : W p l e room_1 s m #[Value.ref b] below meth c s.heap [] 0 0 (lw_Z below #[Value.ref b] s) (entryFrame m ([Value.ref b] : List Value).toArray 4) := by
  obtain ⟨hx, hb, hr, hml, hown, hts0, hX, hbl, hlocks, hgv⟩ := id C0
  have hts : ∀ w ∈ wsL_law, w.before #[Value.ref b] s = true := fun w h => hts0 w (wsL_in w h)
  have hA : ∀ q : Nat, s.heap.size ≤ q → (fun q : Nat => s.heap.size ≤ q) q := fun _ h => h
  obtain ⟨E, hK, hO, hF⟩ := lw_env C0
  have hS : va_S (fun q : Nat => s.heap.size ≤ q) s.heap s.heap [] := va_S.rf
  have hP : va_P (E.2.1, E.2.2.1) vwCl [] s.heap := fun k q h => by simp at h
  have hD : va_D (fun q : Nat => s.heap.size ≤ q) [] := ⟨fun i j p q h => by simp at h, fun k q h => by simp at h⟩
  have hl := lv_entry ([.ref b]) (n := 4) (Nat.le_of_ble_eq_true rfl)
  rw [lg_entry_eq]
  generalize (lg_sl ([.ref b]) ++ List.replicate (4 - (lg_sl ([.ref b])).length) Slot.unset).toArray = ls at hl ⊢
  have hl : lv_has ls 4 [(0, .ref b)] := hl
  refine va_new (ci := 6) (fs := [.null, .null, .int 0, .null, .null, .null, .null, .null]) (C := RX6) (T := TX6) (N := 8) hx hb hts inlX6 tyX6 tyX6_ok hown (hts _ (rin1 _ (List.mem_of_getElem? (i := 0) rfl))) (hts _ (rin1 _ (List.mem_of_getElem? (i := 1) rfl))) (hts _ (rin1 _ (List.mem_of_getElem? (i := 2) rfl))) hK hP hD hS hA rfl (fun j hj => by rcases (show j = 0 ∨ j = 1 ∨ j = 2 ∨ j = 3 ∨ j = 4 ∨ j = 5 ∨ j = 6 ∨ j = 7 by omega) with rfl | rfl | rfl | rfl | rfl | rfl | rfl | rfl <;> rfl) (Nat.le_of_ble_eq_true rfl) (Nat.le_of_ble_eq_true rfl) dL_law_0 (fun q0 H hP hD hS => ?_)
  refine lv_dup hx hb dL_law_3 rfl ?_
  have cw : CallB room_1 s #[Value.ref b] RL 9 yX6_init cX6_init 2 none (rx_ws rX6_init) (rx_rm rX6_init) 63 1489 0 ∧ yX6_init.name = "<init>" ∧ (Cond.instanceMethod yX6_init).before #[Value.ref b] s = true := ⟨callB_of 0 hts (rx_gd okrX6_init) rfl rfl rfl (hts _ okrX6_init.2.1) (hts _ lmL_9) okrX6_init.2.2.1 ⟨Nat.le_of_ble_eq_true rfl, Nat.le_of_ble_eq_true rfl⟩, rfl, hts _ okrX6_init.2.2.2.1⟩
  have run := va_runI (l := l) (e := e) (below := below) (meth := meth) (locs := []) (cells := 0 + 1) (slots := 0 + 8) (b := q0) (As := []) (rest := [.ref q0]) (g := F0 m (0 + 3 + 1) ls [.ref q0, .ref q0]) ⟨hx, hb, hml, hown, hts⟩ (ctX6_init E q0 l H.size) cw (rx_pre (ws := [] ++ [(q0, .inr (6, [.null, .null, .int 0, .null, .null, .null, .null, .null]))]) [0] rfl (by decide) hP hD hS hA hK hO hF) rfl rfl hl.1 rfl (lv_room (Nat.le_of_ble_eq_true rfl)) dL_law_4 ⟨Nat.le_of_ble_eq_true rfl, Nat.le_of_ble_eq_true rfl⟩
  refine lw_after (wr := []) [0] [] rfl rfl (by decide) (by decide) run hP hD hS hA (fun w1 H1 locs1 hq hP1 hD1 hS1 => ?_)
  obtain ⟨adC, hadC, hw1⟩ := hq
  rw [lw_wC] at hw1
  have hPC : va_P (E.2.1, E.2.2.1) vwCl (fx_w gC (lw_ad E adC) fxM0) H1 := va_P.sub (ws := [] ++ w1) hP1 [0, 1, 2, 3, 4, 5, 6, 7, 8, 9, 10, 11, 12, 13, 14, 15, 57, 19, 20, 16, 21, 22, 23, 24, 25, 26, 27, 28, 29, 30, 31, 32, 33, 34, 35, 36, 37, 38, 39, 40, 41, 42, 43, 44, 45, 46, 47, 48, 49, 50, 51, 52, 53, 54, 55, 56, 17, 18, 58, 59, 60, 61, 62, 63] (lw_mapsub hw1)
  have hDC : va_D (fun q : Nat => s.heap.size ≤ q) (fx_w gC (lw_ad E adC) fxM0) := va_D.sub (ws := [] ++ w1) hD1 [0, 1, 2, 3, 4, 5, 6, 7, 8, 9, 10, 11, 12, 13, 14, 15, 57, 19, 20, 16, 21, 22, 23, 24, 25, 26, 27, 28, 29, 30, 31, 32, 33, 34, 35, 36, 37, 38, 39, 40, 41, 42, 43, 44, 45, 46, 47, 48, 49, 50, 51, 52, 53, 54, 55, 56, 17, 18, 58, 59, 60, 61, 62, 63] (by decide) hw1
  have eC0 : (lw_ad E adC).1 0 = q0 := hadC
  refine lv_astore_n (lv' := [(1, .ref q0), (0, .ref b)]) hx hb dL_law_7 rfl hl (by decide) rfl (fun ls hl => ?_)
  refine va_new (ci := 7) (fs := [.int 0, .null, .null, .int 0, .int 0, .int 0, .int 0, .int 0, .int 0, .null, .null, .int 0, .int 0, .int 0, .int 0, .null, .null, .int 0, .int 0, .null, .int 0, .int 0, .int 0, .int 0]) (C := RX7) (T := TX7) (N := 24) hx hb hts inlX7 tyX7 tyX7_ok hown (hts _ (rin1 _ (List.mem_of_getElem? (i := 3) rfl))) (hts _ (rin1 _ (List.mem_of_getElem? (i := 4) rfl))) (hts _ (rin1 _ (List.mem_of_getElem? (i := 5) rfl))) hK hPC hDC hS1 hA rfl (fun j hj => by rcases (show j = 0 ∨ j = 1 ∨ j = 2 ∨ j = 3 ∨ j = 4 ∨ j = 5 ∨ j = 6 ∨ j = 7 ∨ j = 8 ∨ j = 9 ∨ j = 10 ∨ j = 11 ∨ j = 12 ∨ j = 13 ∨ j = 14 ∨ j = 15 ∨ j = 16 ∨ j = 17 ∨ j = 18 ∨ j = 19 ∨ j = 20 ∨ j = 21 ∨ j = 22 ∨ j = 23 by omega) with rfl | rfl | rfl | rfl | rfl | rfl | rfl | rfl | rfl | rfl | rfl | rfl | rfl | rfl | rfl | rfl | rfl | rfl | rfl | rfl | rfl | rfl | rfl | rfl <;> rfl) (Nat.le_of_ble_eq_true rfl) (Nat.le_of_ble_eq_true rfl) dL_law_8 (fun q1 H2 hP2 hD2 hS2 => ?_)
  refine lv_dup hx hb dL_law_11 rfl ?_
  have cw2 : CallB room_1 s #[Value.ref b] RL 12 yX7_init cX7_init 1 none (rx_ws rX7_init) (rx_rm rX7_init) 7 1909 0 ∧ yX7_init.name = "<init>" ∧ (Cond.instanceMethod yX7_init).before #[Value.ref b] s = true := ⟨callB_of 0 hts (rx_gd okrX7_init) rfl rfl rfl (hts _ okrX7_init.2.1) (hts _ lmL_12) okrX7_init.2.2.1 ⟨Nat.le_of_ble_eq_true rfl, Nat.le_of_ble_eq_true rfl⟩, rfl, hts _ okrX7_init.2.2.2.1⟩
  have one := lw_one (fx_w gC (lw_ad E adC) fxM0) (q1, .inr (7, [.int 0, .null, .null, .int 0, .int 0, .int 0, .int 0, .int 0, .int 0, .null, .null, .int 0, .int 0, .int 0, .int 0, .null, .null, .int 0, .int 0, .null, .int 0, .int 0, .int 0, .int 0]))
  have all := lw_all (fx_w gC (lw_ad E adC) fxM0) (q1, .inr (7, [.int 0, .null, .null, .int 0, .int 0, .int 0, .int 0, .int 0, .int 0, .null, .null, .int 0, .int 0, .int 0, .int 0, .null, .null, .int 0, .int 0, .null, .int 0, .int 0, .int 0, .int 0]))
  rw [lw_len] at one all
  have run2 := va_runI (l := l) (e := e) (below := below) (meth := meth) (locs := locs1) (cells := 0 + 1 + 63 + 1) (slots := 0 + 8 + 1489 + 24) (b := q1) (As := []) (rest := [.ref q1]) (g := F0 m (8 + 3 + 1) ls [.ref q1, .ref q1]) ⟨hx, hb, hml, hown, hts⟩ (ctX7_init E q1 l H2.size) cw2 (rx_pre (ws := fx_w gC (lw_ad E adC) fxM0 ++ [(q1, .inr (7, [.int 0, .null, .null, .int 0, .int 0, .int 0, .int 0, .int 0, .int 0, .null, .null, .int 0, .int 0, .int 0, .int 0, .null, .null, .int 0, .int 0, .null, .int 0, .int 0, .int 0, .int 0]))]) [gC.1] one (by decide) hP2 hD2 hS2 hA hK hO hF) rfl rfl hl.1 rfl (lv_room (Nat.le_of_ble_eq_true rfl)) dL_law_12 ⟨Nat.le_of_ble_eq_true rfl, Nat.le_of_ble_eq_true rfl⟩
  refine lw_after (wr := fx_w gC (lw_ad E adC) fxM0) [gC.1] (List.range gC.1) one all (by decide) (by decide) run2 hP2 hD2 hS2 hA (fun w2 H3 locs3 hq hP3 hD3 hS3 => ?_)
  obtain ⟨adM, hadM, hw2⟩ := hq
  rw [lw_wM] at hw2
  have hPw2 : va_P (E.2.1, E.2.2.1) vwCl w2 H3 := fun k q hk => hP3 ((fx_w gC (lw_ad E adC) fxM0).length + k) q (by rw [List.getElem?_append_right (by omega), show (fx_w gC (lw_ad E adC) fxM0).length + k - (fx_w gC (lw_ad E adC) fxM0).length = k by omega]; exact hk)
  have hDw2 : va_D (fun q : Nat => s.heap.size ≤ q) w2 := by
    have key : ∀ (k : Nat) (q : Nat × va_E), w2[k]? = some q → (fx_w gC (lw_ad E adC) fxM0 ++ w2)[(fx_w gC (lw_ad E adC) fxM0).length + k]? = some q := fun k q hk => by rw [List.getElem?_append_right (by omega), show (fx_w gC (lw_ad E adC) fxM0).length + k - (fx_w gC (lw_ad E adC) fxM0).length = k by omega]; exact hk
    refine ⟨fun i j p q hi hj e => ?_, fun k q hk => hD3.2 _ q (key k q hk)⟩
    have := hD3.1 _ _ p q (key i p hi) (key j q hj) e
    omega
  have hPC3 : va_P (E.2.1, E.2.2.1) vwCl (fx_w gC (lw_ad E adC) fxM0) H3 := fun k q hk => hP3 k q (by rw [List.getElem?_append_left (List.getElem?_eq_some_iff.mp hk).1]; exact hk)
  have hPM : va_P (E.2.1, E.2.2.1) vwCl (fx_w gM (lw_ad E adM) fxM1) H3 := va_P.sub hPw2 [0, 1, 2, 3, 4, 5, 6, 7] (lw_mapsub hw2)
  have hDM : va_D (fun q : Nat => s.heap.size ≤ q) (fx_w gM (lw_ad E adM) fxM1) := va_D.sub hDw2 [0, 1, 2, 3, 4, 5, 6, 7] (by decide) hw2
  have eM0 : (lw_ad E adM).1 0 = q1 := hadM
  have XX : lx_X p s m meth c b L xs (lw_ad E adC) (lw_ad E adM) := ⟨C0, rfl, hK, lw_adK hF, lw_adK hF, (lw_inj hDC).1, (lw_inj hDM).1, lw_dis hD3 hw2, (lw_inj hDC).2, (lw_inj hDM).2⟩
  refine lv_astore_n (lv' := [(2, .ref q1), (1, .ref q0), (0, .ref b)]) hx hb dL_law_15 rfl hl (by decide) rfl (fun ls hl => ?_)
  refine lv_iconst (v := 0) hx hb dL_law_16 (by decide) ?_
  refine lv_istore_n (lv' := [(3, .int 0), (2, .ref q1), (1, .ref q0), (0, .ref b)]) hx hb dL_law_17 rfl hl (by decide) rfl (fun ls hl => ?_)
  refine lx_loop hL XX hp (L + 1) 0 fxM0 fxM1 (by omega) (Nat.zero_le L) h00 H3 locs3 ls hPC3 hPM hS3 ?_
  rw [eC0, eM0]
  exact lv_sub hl [3, 2, 1, 0] rfl
