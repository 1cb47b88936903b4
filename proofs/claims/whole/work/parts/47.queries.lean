/-! of, heard, spread -/
theorem SC.same {A M : fxMem} {K f v : Nat → Nat} {np S dr : Nat} {ab s : Int32} {ev : Nat → Nat → Nat → Int32} (h : SC A M K f v np S dr ab s ev) : SameC A M := fun k hk _ _ _ _ => h.1 k hk
theorem MSc.same {B M : fxMem} (h : MSc B M) : SameM B M := ⟨h.1 1 (by decide) (by decide) (by decide), h.1 2 (by decide) (by decide) (by decide), h.1 7 (by decide) (by decide) (by decide), h.2 3 (by decide) (by decide) (by decide), h.2 13 (by decide) (by decide) (by decide), h.2 20 (by decide) (by decide) (by decide)⟩
theorem SC.c63 {A M M' : fxMem} {K f v : Nat → Nat} {np S dr : Nat} {ab s : Int32} {ev : Nat → Nat → Nat → Int32} (h : SC A M K f v np S dr ab s ev) (e : ∀ j, j ≠ 63 → M' j = M j) : SC A M' K f v np S dr ab s ev := by
  obtain ⟨c1, c2, c3, c4, c5, c6, c7, c8⟩ := h
  refine ⟨fun k hk => by rw [e k (by omega)]; exact c1 k hk, ?_, ?_, ?_, ?_, ?_, ?_, ?_⟩
  · rw [e 58 (by decide)]; exact c2
  · rw [e 58 (by decide)]; exact c3
  · rw [e 58 (by decide)]; exact c4
  · rw [e 59 (by decide)]; exact c5
  · rw [e 60 (by decide)]; exact c6
  · rw [e 61 (by decide)]; exact c7
  · rw [e 62 (by decide)]; exact c8
/-- all that is needed of the field -/
theorem scn {Mc Mm : fxMem} {np nf nd nb ns d : Nat} (h1 : Mm 0 13 = -1) (hZ : rZ Mc) (hF : rF Mc Mm 1 1 np nf nd nb ns d) : ∃ (s : Int32) (ev : Nat → Nat → Nat → Int32) (M1 : fxMem), CW Mc (fN Mc) (vN Mc) np (20 + 6 * ns) s ev ∧ (∀ (B : fxMem) (K : Nat → Nat) (dr : Nat) (ab : Int32), (∀ j, j ≠ 5 → (j < 130 ∨ 140 ≤ j) → B 1 j = Mm 1 j) → (∀ p, p < np → K p < 7 ∧ B 1 (130 + p) = nI (K p)) → B 1 5 = nI dr → dr < 64 → B 0 13 = ab → MW B K (fN Mc) (vN Mc) np dr ab s ev) ∧ (∀ a b, a < np → b < np → fN Mc a = fN Mc b → a = b) ∧ (∀ p, p < np → kN Mc p < 7 ∧ Mc 2 p = nI (kN Mc p) ∧ Mm 1 (130 + p) = nI (kN Mc p)) ∧ MW Mm (kN Mc) (fN Mc) (vN Mc) np d (-1) s ev ∧ CX6_listen Mc = some M1 ∧ SC Mc M1 (kN Mc) (fN Mc) (vN Mc) np (20 + 6 * ns) d (-1) s ev := by
  obtain ⟨s, ev, hC, hB⟩ := ev_ok hZ hF
  obtain ⟨s1, s2, s3, s4, s5, s6, s7, s8, s9, s10, s11, s12, s13⟩ := hF.2.1
  have hinj : ∀ a b, a < np → b < np → fN Mc a = fN Mc b → a = b := fun a b ha hb e => by
    have u := (nr_ok (by decide) hF.2.2.2.2.1 ha).2.1
    have w := (nr_ok (by decide) hF.2.2.2.2.1 hb).2.1
    refine hF.2.2.2.2.2.1 a b ha hb ?_
    rw [u, w]
    exact congrArg nI e
  have hK : ∀ p, p < np → kN Mc p < 7 ∧ Mc 2 p = nI (kN Mc p) ∧ Mm 1 (130 + p) = nI (kN Mc p) := fun p hp => nr_ok (by decide) hF.2.2.1 hp
  obtain ⟨M1, e1, e2⟩ := ha6 (K := kN Mc) hC hinj hF.1.2.2.2.2.2 (fun p hp => ⟨(hK p hp).1, (hK p hp).2.1⟩) s11
  refine ⟨s, ev, M1, hC, hB, hinj, hK, hB Mm (kN Mc) d (-1) (fun _ _ _ => rfl) (fun p hp => ⟨(hK p hp).1, (hK p hp).2.2⟩) s12 hF.1.2.2.2.2.2 h1, ?_, e2⟩
  rw [CX6_listen, held_ok hF.1.2.2.2.2.1 s3, bs, e1, bs]
theorem il6 : ∀ {x : Int32}, (x < 0 ∨ nI 6 ≤ x) → ∀ M, CX7_in x 0 5 M = some (0, M) := fun h M => by
  have := ilo (n := 6) (by decide) h M
  rwa [show nI 6 - 1 = (5 : Int32) by decide] at this
theorem ii6 : ∀ {j : Nat}, j < 6 → ∀ M, CX7_in (nI j) 0 5 M = some (1, M) := fun h M => by
  have := iin (n := 6) h (by decide) M
  rwa [show nI 6 - 1 = (5 : Int32) by decide] at this
theorem ne_of_out {x : Int32} {n j : Nat} (hn : n < 2 ^ 31) (h : x < 0 ∨ nI n ≤ x) (hj : j < n) : ¬ x = nI j := fun e => by
  subst e
  rcases h with h | h
  · exact nI_pos (by omega) h
  · exact nI_ge hj hn h
theorem ld6 {A M : fxMem} {K f v : Nat → Nat} {np S dr p : Nat} {ab s : Int32} {ev : Nat → Nat → Nat → Int32} (hW : CW A f v np S s ev) (hC : SC A M K f v np S dr ab s ev) (hp : p < np) : ∃ M', CX4_loudness (nI p) M = some (1 + ev 0 p (K p), M') ∧ SC A M' K f v np S dr ab s ev := by
  obtain ⟨k1, k2⟩ := hC.2.2.2.2.1 p hp
  obtain ⟨M', g1, g2⟩ := hW.2.2.2.2.2.2.2 M hC.1 hC.2.1 0 p (K p) (by decide) hp k1 k2
  rw [nIz] at g1
  exact ⟨M', by rw [CX4_loudness, g1, bs], hC.c63 g2⟩
theorem ld7 {B M : fxMem} {K f v : Nat → Nat} {np dr p : Nat} {ab s : Int32} {ev : Nat → Nat → Nat → Int32} (hW : MW B K f v np dr ab s ev) (hM : MSc B M) (hp : p < np) : ∃ M', CX7_loudOf (nI p) M = some (1 + ev 0 p (K p), M') ∧ MSc B M' := by
  obtain ⟨w1, w2, w3, w4, w5, w6, w7, w8, w9, w10⟩ := id hW
  obtain ⟨k1, k2⟩ := w5 p hp
  obtain ⟨M', g1, g2, g3, g4, g5⟩ := w10 M hM p (K p) hp k1
  refine ⟨M', ?_, hM.tr g2⟩
  rw [CX7_loudOf, la130, it (gin (by omega) (by decide)), nI_clamp (by omega), hM.1 1 (by decide) (by decide) (by decide), k2, g1, bs, g4]
theorem px_of (x y : Int32) : st2 PX (CX6_of x y) (CX7_of x y) := by
  intro Mc Mm h
  obtain ⟨h1, h2, h3, np, nf, nd, nb, ns, d, hF, hG⟩ := id h
  obtain ⟨s1, s2, s3, s4, s5, s6, s7, s8, s9, s10, s11, s12, s13⟩ := hF.2.1
  have hnp := hF.1.1
  rw [CX6_of, CX7_of]
  rcases arg3 x (n := np) (by omega) with hx | ⟨p, hp, rfl⟩
  · refine ⟨-1001, Mc, Mm, ?_, ?_, h⟩
    · simp only [bs, plo hnp s1 hx, if_true]
    · simp only [bs, qlo hnp s2 hx, if_true]
  obtain ⟨s, ev, M1, hC, hB, hinj, hK, hW, hl, hS⟩ := scn h1 h2 hF
  simp only [bs, pin hnp s1 hp, qin hnp s2 hp, show ¬ (1 : Int32) = 0 by decide, if_false]
  rcases arg3 y (n := 6) (by decide) with hy | ⟨w, hw, rfl⟩
  · refine ⟨-1001, Mc, Mm, ?_, ?_, h⟩
    · have n0 : ¬ y = (0 : Int32) := ne_of_out (by decide) hy (j := 0) (by decide)
      have n1 : ¬ y = (1 : Int32) := ne_of_out (by decide) hy (j := 1) (by decide)
      have n2 : ¬ y = (2 : Int32) := ne_of_out (by decide) hy (j := 2) (by decide)
      have n3 : ¬ y = (3 : Int32) := ne_of_out (by decide) hy (j := 3) (by decide)
      have n4 : ¬ y = (4 : Int32) := ne_of_out (by decide) hy (j := 4) (by decide)
      have n5 : ¬ y = (5 : Int32) := ne_of_out (by decide) hy (j := 5) (by decide)
      simp only [n0, n1, n2, n3, n4, n5, if_false]
    · simp only [bs, il6 hy, if_true]
  rw [ii6 hw, bs]
  simp only [show ¬ (1 : Int32) = 0 by decide, if_false]
  obtain ⟨k1, k2, k3⟩ := hK p hp
  obtain ⟨c1, c2, c3, c4, c5, c6, c7, c8⟩ := id hS
  obtain ⟨w1, w2, w3, w4, w5, w6, w7, w8, w9, w10⟩ := id hW
  obtain ⟨M2, g1, g2, g3, g4, g5⟩ := w10 Mm (MSc.rf Mm) p (kN Mc p) hp k1
  have gp := gin (show p < 10 by omega) (n := 10) (by decide)
  have gk := gin (show 130 + p < 900 by omega) (n := 900) (by decide)
  rcases (show w = 0 ∨ w = 1 ∨ w = 2 ∨ w = 3 ∨ w = 4 ∨ w = 5 by omega) with rfl | rfl | rfl | rfl | rfl | rfl
  · refine ⟨Mc 2 p, Mc, Mm, ?_, ?_, h⟩
    · rw [it nIz, it gp, nI_clamp (by omega)]
    · rw [ie (show ¬ (3 : Int32) ≤ nI 0 by decide), show (130 : Int32) + (10 : Int32) * nI 0 = 130 by decide, la130, it gk, nI_clamp (by omega), (hF.2.2.1 p hp).1]
  · refine ⟨Mc 3 p, Mc, Mm, ?_, ?_, h⟩
    · rw [ie (show ¬ nI 1 = (0 : Int32) by decide), it (show nI 1 = (1 : Int32) from rfl), it gp, nI_clamp (by omega)]
    · rw [ie (show ¬ (3 : Int32) ≤ nI 1 by decide), show (130 : Int32) + (10 : Int32) * nI 1 = 140 by decide, la140, it (gin (by omega) (by decide)), nI_clamp (by omega), (hF.2.2.2.1 p hp).1]
  · refine ⟨Mc 4 p, Mc, Mm, ?_, ?_, h⟩
    · rw [ie (show ¬ nI 2 = (0 : Int32) by decide), ie (show ¬ nI 2 = (1 : Int32) by decide), it (show nI 2 = (2 : Int32) from rfl), it gp, nI_clamp (by omega)]
    · rw [ie (show ¬ (3 : Int32) ≤ nI 2 by decide), show (130 : Int32) + (10 : Int32) * nI 2 = 150 by decide, la150, it (gin (by omega) (by decide)), nI_clamp (by omega), (hF.2.2.2.2.1 p hp).1]
  · obtain ⟨M3, l1, l2⟩ := ld6 hC hS hp
    refine ⟨1 + ev 0 p (kN Mc p), M3, M2, ?_, ?_, PX_same h l2.same g2.same⟩
    · rw [ie (show ¬ nI 3 = (0 : Int32) by decide), ie (show ¬ nI 3 = (1 : Int32) by decide), ie (show ¬ nI 3 = (2 : Int32) by decide), it (show nI 3 = (3 : Int32) from rfl), hl, bs, l1, bs]
    · rw [it (show (3 : Int32) ≤ nI 3 by decide), la130, it gk, nI_clamp (by omega), k3, g1, bs, it (show nI 3 = (3 : Int32) from rfl), g4]
  · refine ⟨ev 1 p (kN Mc p), M1, M2, ?_, ?_, PX_same h hS.same g2.same⟩
    · rw [ie (show ¬ nI 4 = (0 : Int32) by decide), ie (show ¬ nI 4 = (1 : Int32) by decide), ie (show ¬ nI 4 = (2 : Int32) by decide), ie (show ¬ nI 4 = (3 : Int32) by decide), it (show nI 4 = (4 : Int32) from rfl), hl, bs, it gp, nI_clamp (by omega), c6 p hp]
    · rw [it (show (3 : Int32) ≤ nI 4 by decide), la130, it gk, nI_clamp (by omega), k3, g1, bs, ie (show ¬ nI 4 = (3 : Int32) by decide), it (show nI 4 = (4 : Int32) from rfl), g5]
  · have ha : nI p ≠ (-1 : Int32) := nIn p (by omega)
    obtain ⟨M3, j1, j2, j3⟩ := pl7 hW 10 p 10 M2 hp g2 (tm_le (tm_10 (fun p hp => (w3 p hp).1) hinj hp ha) 2)
    have j1' : CX7_playsAs (nI p) (nI (kN Mc p)) M2 = some (pv (kN Mc) (fN Mc) (vN Mc) (-1) s np d (fun p => ev 1 p (kN Mc p)) 10 p, M3) := j1
    refine ⟨pv (kN Mc) (fN Mc) (vN Mc) (-1) s np d (fun p => ev 1 p (kN Mc p)) 10 p, M1, M3, ?_, ?_, PX_same h hS.same (g2.tr j2).same⟩
    · rw [ie (show ¬ nI 5 = (0 : Int32) by decide), ie (show ¬ nI 5 = (1 : Int32) by decide), ie (show ¬ nI 5 = (2 : Int32) by decide), ie (show ¬ nI 5 = (3 : Int32) by decide), ie (show ¬ nI 5 = (4 : Int32) by decide), it (show nI 5 = (5 : Int32) from rfl), hl, bs, it gp, nI_clamp (by omega), c8 p hp ha]
    · rw [it (show (3 : Int32) ≤ nI 5 by decide), la130, it gk, nI_clamp (by omega), k3, g1, bs, ie (show ¬ nI 5 = (3 : Int32) by decide), ie (show ¬ nI 5 = (4 : Int32) by decide), CX7_playsOf, la130, it gk, nI_clamp (by omega), g2.1 1 (by decide) (by decide) (by decide), k3, j1', bs, bs]
theorem px_heard (x y : Int32) : st2 PX (CX6_heard x y) (CX7_heard x y) := by
  intro Mc Mm h
  obtain ⟨h1, h2, h3, np, nf, nd, nb, ns, d, hF, hG⟩ := id h
  obtain ⟨s1, s2, s3, s4, s5, s6, s7, s8, s9, s10, s11, s12, s13⟩ := hF.2.1
  have hnp := hF.1.1
  rw [CX6_heard, CX7_heard, show (8 : Int32) = nI 8 from rfl]
  rcases arg3 x (n := 8) (by decide) with hx | ⟨st, hst, rfl⟩
  · refine ⟨-1001, Mc, Mm, ?_, ?_, h⟩
    · simp only [bs, blo (show 8 < 2 ^ 31 by decide) hx, if_true]
    · simp only [bs, slo hx, if_true]
  simp only [bs, bin hst (show 8 < 2 ^ 31 by decide), sin hst, show ¬ (1 : Int32) = 0 by decide, if_false]
  rcases arg3 y (n := np) (by omega) with hy | ⟨p, hp, rfl⟩
  · refine ⟨-1001, Mc, Mm, ?_, ?_, h⟩
    · simp only [bs, plo hnp s1 hy, if_true]
    · simp only [bs, qlo hnp s2 hy, if_true]
  obtain ⟨s, ev, M1, hC, hB, hinj, hK, hW, hl, hS⟩ := scn h1 h2 hF
  have ha : nI p ≠ (-1 : Int32) := nIn p (by omega)
  obtain ⟨M2, g1, g2, g3⟩ := hd7 hW hinj (MSc.rf Mm) hst hp ha
  refine ⟨hv (kN Mc) (fN Mc) (vN Mc) (-1) s np d ev st p, M1, M2, ?_, ?_, PX_same h hS.same g2.same⟩
  · simp only [bs, pin hnp s1 hp, show ¬ (1 : Int32) = 0 by decide, if_false, hl, av6 hC hS hst hp ha]
  · simp only [bs, qin hnp s2 hp, show ¬ (1 : Int32) = 0 by decide, if_false, g1]
theorem px_early (x y : Int32) : st2 PX (CX6_early x y) (CX7_early x y) := by
  intro Mc Mm h
  obtain ⟨h1, h2, h3, np, nf, nd, nb, ns, d, hF, hG⟩ := id h
  obtain ⟨s1, s2, s3, s4, s5, s6, s7, s8, s9, s10, s11, s12, s13⟩ := hF.2.1
  have hnp := hF.1.1
  rw [CX6_early, CX7_early, show (8 : Int32) = nI 8 from rfl]
  rcases arg3 x (n := np) (by omega) with hx | ⟨p, hp, rfl⟩
  · refine ⟨-1, Mc, Mm, ?_, ?_, h⟩
    · simp only [bs, plo hnp s1 hx, if_true]
    · simp only [bs, qlo hnp s2 hx, if_true]
  simp only [bs, pin hnp s1 hp, qin hnp s2 hp, show ¬ (1 : Int32) = 0 by decide, if_false]
  rcases arg3 y (n := 8) (by decide) with hy | ⟨st, hst, rfl⟩
  · refine ⟨-1, Mc, Mm, ?_, ?_, h⟩
    · simp only [bs, blo (show 8 < 2 ^ 31 by decide) hy, if_true]
    · simp only [bs, slo hy, if_true]
  obtain ⟨s, ev, M1, hC, hB, hinj, hK, hW, hl, hS⟩ := scn h1 h2 hF
  have ha : ∀ p, p < np → nI p ≠ (-1 : Int32) := fun p hp => nIn p (by omega)
  have e1 : M1 1 0 = nI np := by rw [hS.1 1 (by decide)]; exact s1
  have E := er6 (h := fun p => hv (kN Mc) (fN Mc) (vN Mc) (-1) s np d ev st p) hnp e1 hS.2.2.2.1 (fun p hp hpa => av6 hC hS hst hp hpa)
  obtain ⟨M2, g1, g2, g3⟩ := sp7 (h := fun p => hv (kN Mc) (fN Mc) (vN Mc) (-1) s np d ev st p) hnp s2 h1 (fun p hp hpa M hM => hd7 hW hinj hM hst hp hpa) (MSc.rf Mm)
  obtain ⟨M3, j1, j2, j3⟩ := hd7 hW hinj g2 hst hp (ha p hp)
  have em : mn6 (mnx (fun p => hv (kN Mc) (fN Mc) (vN Mc) (-1) s np d ev st p) (-1) np) = mn7 (mnx (fun p => hv (kN Mc) (fN Mc) (vN Mc) (-1) s np d ev st p) (-1) np) := by
    obtain ⟨n, rfl⟩ : ∃ n, np = n + 1 := ⟨np - 1, by omega⟩
    rw [mnx, ie (ha n (by omega))]
    cases mnx (fun p => hv (kN Mc) (fN Mc) (vN Mc) (-1) s (n + 1) d ev st p) (-1) n <;> rfl
  refine ⟨hv (kN Mc) (fN Mc) (vN Mc) (-1) s np d ev st p - mn7 (mnx (fun p => hv (kN Mc) (fN Mc) (vN Mc) (-1) s np d ev st p) (-1) np), M1, M3, ?_, ?_, PX_same h hS.same (g2.tr j2).same⟩
  · simp only [bs, bin hst (show 8 < 2 ^ 31 by decide), show ¬ (1 : Int32) = 0 by decide, if_false, hl, av6 hC hS hst hp (ha p hp), E, em]
  · simp only [bs, sin hst, show ¬ (1 : Int32) = 0 by decide, if_false, g1, j1, j3, g3]
theorem te_c {M M' : fxMem} {a b r : Int32} (h : M' 1 = M 1) (e : CX7_tellsOf a b M = some (r, M)) : CX7_tellsOf a b M' = some (r, M') := by
  rw [CX7_tellsOf, it ci6, cc6] at e ⊢
  rw [h]
  by_cases z : M 1 6 = -1
  · rw [it z] at e ⊢
    rw [(Prod.mk.inj (Option.some.inj e)).1]
  · rw [ie z] at e ⊢
    by_cases z2 : fx_in (a + M 1 6) 900 = true
    · rw [it z2] at e ⊢
      rw [(Prod.mk.inj (Option.some.inj e)).1]
    · rw [ie z2] at e
      exact absurd e (by simp)
theorem px_beats (x : Int32) : st2 PX (CX6_beats x) (CX7_beats x) := by
  intro Mc Mm h
  obtain ⟨h1, h2, h3, np, nf, nd, nb, ns, d, hF, hG⟩ := id h
  obtain ⟨s1, s2, s3, s4, s5, s6, s7, s8, s9, s10, s11, s12, s13⟩ := hF.2.1
  have hnp := hF.1.1
  have hns := hF.1.2.2.2.2.1
  rw [CX6_beats, CX7_beats, show (8 : Int32) = nI 8 from rfl]
  rcases arg3 x (n := 8) (by decide) with hy | ⟨st, hst, rfl⟩
  · refine ⟨-1, Mc, Mm, ?_, ?_, h⟩
    · simp only [bs, blo (show 8 < 2 ^ 31 by decide) hy, if_true]
    · simp only [bs, slo hy, if_true]
  obtain ⟨s, ev, M1, hC, hB, hinj, hK, hW, hl, hS⟩ := scn h1 h2 hF
  obtain ⟨spd, bt, stp, b1, b2, b3, c1, c2, c3, d1, d2, d3⟩ := now_sh h2 hF
  have e1 : M1 1 0 = nI np := by rw [hS.1 1 (by decide)]; exact s1
  have E := sp6 (h := fun p => hv (kN Mc) (fN Mc) (vN Mc) (-1) s np d ev st p) hnp e1 hS.2.2.2.1 (fun p hp hpa => av6 hC hS hst hp hpa)
  obtain ⟨M2, g1, g2, g3⟩ := sp7 (h := fun p => hv (kN Mc) (fN Mc) (vN Mc) (-1) s np d ev st p) hnp s2 h1 (fun p hp hpa M hM => hd7 hW hinj hM hst hp hpa) (MSc.rf Mm)
  have d2' := te_c (g2.1 1 (by decide) (by decide) (by decide)) d2
  have hh := held_ok (M := M1) hns (by rw [hS.1 1 (by decide)]; exact s3)
  have hm : (if (1 : Int32) < nI (max 1 bt) then nI (max 1 bt) else (1 : Int32)) = nI (max 1 bt) := by
    by_cases z : 1 < max 1 bt
    · rw [it (show (1 : Int32) < nI (max 1 bt) from nI_lt (a := 1) z (by omega))]
    · rw [ie (show ¬ (1 : Int32) < nI (max 1 bt) from fun z2 => z ((nI_ltI (a := 1) (by decide) (by omega)).mp z2)), show max 1 bt = 1 by omega]
      rfl
  have hz : ¬ nI (max 1 bt) = (0 : Int32) := fun z => by
    have := (nI_eq (a := max 1 bt) (b := 0) (by omega) (by decide)).mp z
    omega
  have eb : M1 (20 + 6 * ns) 1 = nI (max 1 bt) := by rw [hS.1 _ (by omega)]; exact c2
  have et : CX7_told 1 M2 = some (nI (max 1 bt), M2) := by
    rw [CX7_told, ie (by decide), it rfl, d2', bs]
    simp only [atl bt b2, bs]
  refine ⟨spv (mnx (fun p => hv (kN Mc) (fN Mc) (vN Mc) (-1) s np d ev st p) (-1) np) / nI (max 1 bt), M1, M2, ?_, ?_, PX_same h hS.same g2.same⟩
  · simp only [bs, bin hst (show 8 < 2 ^ 31 by decide), show ¬ (1 : Int32) = 0 by decide, if_false, hl, E, hh, isSh_ok hns, if_true, eb, hm, hz]
  · simp only [bs, sin hst, show ¬ (1 : Int32) = 0 by decide, if_false, g1, et, hz]
