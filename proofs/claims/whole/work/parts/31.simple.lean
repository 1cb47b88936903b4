/-! the simple calls -/
def st2 (PX : fxMem → fxMem → Prop) (F G : fxMem → Option (Int32 × fxMem)) : Prop := ∀ Mc Mm, PX Mc Mm → ∃ (r : Int32) (Mc' Mm' : fxMem), F Mc = some (r, Mc') ∧ G Mm = some (r, Mm') ∧ PX Mc' Mm'
theorem rA_le {c m m' : Nat → Int32} {off n n' B : Nat} (h : rA c m off n B) (hn : n' ≤ n) (ho : 10 ≤ off) (hm : ∀ j, 10 ≤ j → m' j = m j) : rA c m' off n' B := fun p hp => by
  obtain ⟨a, b⟩ := h p (by omega)
  exact ⟨by rw [hm _ (by omega)]; exact a, b⟩
theorem rA_push {c m m' : Nat → Int32} {off n B k : Nat} {x : Int32} (h : rA c m off n B) (h1 : ∀ p, p < n → m' (off + p) = m (off + p)) (h2 : m' (off + n) = x) (hk : k < B) (hx : x = nI k) : rA (upd c n x) m' off (n + 1) B := by
  intro p hp
  by_cases e : p = n
  · subst e
    rw [pk_us]
    exact ⟨h2, k, hk, hx⟩
  · obtain ⟨a, b⟩ := h p (by omega)
    rw [pk_un e, h1 p (by omega)]
    exact ⟨a, b⟩
theorem rI_push {c : Nat → Int32} {n : Nat} {x : Int32} (h : rI c n) (hx : ∀ p, p < n → c p ≠ x) : rI (upd c n x) (n + 1) := by
  intro p q hp hq e
  by_cases e1 : p = n
  · by_cases e2 : q = n
    · omega
    · subst e1
      rw [pk_us, pk_un e2] at e
      exact absurd e.symm (hx q (by omega))
  · by_cases e2 : q = n
    · subst e2
      rw [pk_us, pk_un e1] at e
      exact absurd e (hx p (by omega))
    · rw [pk_un e1, pk_un e2] at e
      exact h p q (by omega) (by omega) e
/-- the numbers of the field change, its rows stay or grow shorter -/
theorem rF_sc {Mc Mc' Mm Mm' : fxMem} {np nf nd nb ns d np' nf' nd' nb' ns' d' : Nat} (h : rF Mc Mm 1 1 np nf nd nb ns d) (hc : ∀ k, k ≠ 1 → Mc' k = Mc k) (hm : ∀ j, 10 ≤ j → Mm' 1 j = Mm 1 j) (hS : rS (Mc' 1) (Mm' 1) np' nf' nd' nb' ns' d') (h1 : np' ≤ np) (h2 : nf' ≤ nf) (h3 : nd' ≤ nd) (h4 : nb' ≤ nb) (h5 : ns' ≤ ns) (h6 : d' < 64) : rF Mc' Mm' 1 1 np' nf' nd' nb' ns' d' := by
  obtain ⟨a1, a2, a3, a4, a5, a6, a7, a8, a9, a10, a11⟩ := h
  obtain ⟨b1, b2, b3, b4, b5, b6⟩ := a1
  refine ⟨⟨by omega, by omega, by omega, by omega, by omega, h6⟩, hS, ?_, ?_, ?_, ?_, ?_, ?_, ?_, ?_, ?_⟩
  · rw [hc 2 (by decide)]; exact rA_le a3 h1 (by decide) hm
  · rw [hc 3 (by decide)]; exact rA_le a4 h1 (by decide) hm
  · rw [hc 4 (by decide)]; exact rA_le a5 h1 (by decide) hm
  · rw [hc 4 (by decide)]; exact fun p q hp hq => a6 p q (by omega) (by omega)
  · rw [hc 5 (by decide)]; exact rA_le a7 h2 (by decide) hm
  · rw [hc 5 (by decide)]; exact fun p q hp hq => a8 p q (by omega) (by omega)
  · rw [hc 6 (by decide)]; exact rA_le a9 h3 (by decide) hm
  · rw [hc 7 (by decide)]; exact ⟨fun i hi => by rw [hm _ (by omega)]; exact a10.1 i (by omega), a10.2⟩
  · exact rW_m (fun j hj => hm j (by omega)) (rW_c (by omega) (fun k h1 h2 => hc k (by omega)) (fun i hi => a11 i (by omega)))
/-- all else stays if rows 1 .. 7 alone have changed there, and row 1 here -/
theorem PX_now {Mc Mc' Mm Mm' : fxMem} {ns np' nf' nd' nb' ns' d' : Nat} (h1 : Mm 0 13 = -1) (h2 : rZ Mc) (h3 : rD Mc Mm) (hG : rG Mc Mm ns) (hc : ∀ k, (k < 1 ∨ 7 < k) → Mc' k = Mc k) (hm : ∀ k, k ≠ 1 → Mm' k = Mm k) (hns : ns ≤ ns') (hF : rF Mc' Mm' 1 1 np' nf' nd' nb' ns' d') : PX Mc' Mm' := by
  refine ⟨by rw [hm 0 (by decide)]; exact h1, rZ_c (hc 20 (by decide)) h2, rD_c (by rw [hc 17 (by decide)]) (hc 18 (by decide)) (by rw [hm 0 (by decide)]) (hm 7 (by decide)) h3, np', nf', nd', nb', ns', d', hF, ?_⟩
  have hg := rG_c (fun k a b => hc k (Or.inr (by omega))) (fun k a b => hc k (Or.inr (by omega))) (hm 2 (by decide)) (by rw [hc 0 (by decide)]) (by rw [hm 0 (by decide)]) hG
  rcases hg with g | ⟨a, b, x1, x2, x3, x4, x5, x6, g, hn⟩
  · exact Or.inl g
  · exact Or.inr ⟨a, b, x1, x2, x3, x4, x5, x6, g, Nat.le_trans hn hns⟩
theorem bs {α β : Type} (a : α) (f : α → Option β) : Option.bind (some a) f = f a := rfl
theorem px_drum (x : Int32) : st2 PX (CX6_drum x) (CX7_drum x) := by
  intro Mc Mm h
  obtain ⟨h1, h2, h3, np, nf, nd, nb, ns, d, hF, hG⟩ := id h
  rcases arg3 x (n := 64) (by decide) with hx | ⟨j, hj, rfl⟩
  · refine ⟨-1, Mc, Mm, ?_, ?_, h⟩
    · rw [CX6_drum, show (64 : Int32) = nI 64 from rfl, blo (by decide) hx]; rfl
    · rw [CX7_drum, dlo hx]; rfl
  · obtain ⟨s1, s2, s3, s4, s5, s6, s7, s8, s9, s10, s11, s12, s13⟩ := hF.2.1
    refine ⟨nI d, fx_st Mc 1 4 (nI j), fx_st Mm 1 5 (nI j), ?_, ?_, ?_⟩
    · rw [CX6_drum, show (64 : Int32) = nI 64 from rfl, bin hj (by decide)]; simp [bs, s11]
    · rw [CX7_drum, din hj]; simp [bs, ci5, cc5, s12]
    · refine PX_now h1 h2 h3 hG (fun k hk => mm_row (by omega) _ _ _) (fun k hk => mm_row hk _ _ _) (Nat.le_refl ns) (rF_sc hF (fun k hk => mm_row hk _ _ _) (fun j' hj' => mm_col (by omega) _ _ _) (np' := np) (nf' := nf) (nd' := nd) (nb' := nb) (ns' := ns) (d' := j) ?_ (by omega) (by omega) (by omega) (by omega) (by omega) hj)
      rw [mm_r, mm_r]
      exact ⟨by rw [pk_un (by decide)]; exact s1, by rw [pk_un (by decide)]; exact s2, by rw [pk_un (by decide)]; exact s3, by rw [pk_un (by decide)]; exact s4, by rw [pk_un (by decide)]; exact s5, by rw [pk_un (by decide)]; exact s6, by rw [pk_un (by decide)]; exact s7, by rw [pk_un (by decide)]; exact s8, by rw [pk_un (by decide)]; exact s9, by rw [pk_un (by decide)]; exact s10, pk_us, pk_us, by rw [pk_un (by decide)]; exact s13⟩
theorem px_count (x : Int32) : st2 PX (CX6_count x) (CX7_count x) := by
  intro Mc Mm h
  obtain ⟨h1, h2, ⟨t, t1, t2, t3, t4⟩, np, nf, nd, nb, ns, d, hF, hG⟩ := id h
  obtain ⟨s1, s2, s3, s4, s5, s6, s7, s8, s9, s10, s11, s12, s13⟩ := hF.2.1
  rw [CX6_count, CX7_count]
  simp only [it ci0, it ci1, it ci2, it ci3, it ci4, it ci5, cc0, cc1, cc2, cc3, cc4, cc5, s1, s2, s3, s4, s5, s6, s7, s8, s9, s10, s11, s12, t2, t3]
  split
  · exact ⟨_, _, _, rfl, rfl, h⟩
  split
  · exact ⟨_, _, _, rfl, rfl, h⟩
  split
  · exact ⟨_, _, _, rfl, rfl, h⟩
  split
  · exact ⟨_, _, _, rfl, rfl, h⟩
  split
  · exact ⟨_, _, _, rfl, rfl, h⟩
  split
  · exact ⟨_, _, _, rfl, rfl, h⟩
  split
  · exact ⟨_, _, _, rfl, rfl, h⟩
  · exact ⟨_, _, _, rfl, rfl, h⟩

theorem held_ok {M : fxMem} {ns : Nat} (hn : ns ≤ 5) (e : M 1 11 = nI ns) : CX6_held M = some (20 + 6 * ns, M) := by
  rw [CX6_held, e, it (gin (by omega) (by decide)), nI_clamp (by omega)]
theorem isSh_ok {ns : Nat} (hn : ns ≤ 5) : fx_isSh (20 + 6 * ns) = true := by
  rcases (show ns = 0 ∨ ns = 1 ∨ ns = 2 ∨ ns = 3 ∨ ns = 4 ∨ ns = 5 by omega) with rfl | rfl | rfl | rfl | rfl | rfl <;> rfl
/-- what the show that holds says: speed, beat, step -/
theorem now_sh {Mc Mm : fxMem} {np nf nd nb ns d : Nat} (hZ : rZ Mc) (hF : rF Mc Mm 1 1 np nf nd nb ns d) : ∃ spd bt stp : Nat, spd < 100 ∧ bt < 100 ∧ stp < 100 ∧ Mc (20 + 6 * ns) 0 = nI spd ∧ Mc (20 + 6 * ns) 1 = nI (max 1 bt) ∧ Mc (20 + 6 * ns) 2 = nI (max 1 stp) ∧ CX7_tellsOf 180 3 Mm = some (nI spd, Mm) ∧ CX7_tellsOf 185 50 Mm = some (nI bt, Mm) ∧ CX7_tellsOf 190 2 Mm = some (nI stp, Mm) := by
  obtain ⟨s1, s2, s3, s4, s5, s6, s7, s8, s9, s10, s11, s12, s13⟩ := hF.2.1
  have hn := hF.1.2.2.2.2.1
  cases ns with
  | zero =>
    have e : nI 0 - 1 = (-1 : Int32) := by decide
    rw [e] at s13
    refine ⟨3, 50, 2, by decide, by decide, by decide, hZ.1, hZ.2.1, hZ.2.2.1, ?_, ?_, ?_⟩ <;> (rw [CX7_tellsOf]; simp [ci6, cc6, s13]; rfl)
  | succ n =>
    obtain ⟨cl, spd, bt, stp, h1, h2, h3, h4, h5, h6, h7, h8, h9, h10, -⟩ := hF.2.2.2.2.2.2.2.2.2.2 n (by omega)
    rw [nI_pred] at s13
    have e : 20 + 6 * (n + 1) = 26 + 6 * n := by omega
    refine ⟨spd, bt, stp, h2, h3, h4, by rw [e]; exact h5, by rw [e]; exact h7, by rw [e]; exact h9, ?_, ?_, ?_⟩
    · rw [CX7_tellsOf, it ci6, cc6, s13, ie (nIn n (by omega)), la180, it (gin (by omega) (by decide)), nI_clamp (by omega), h6]
    · rw [CX7_tellsOf, it ci6, cc6, s13, ie (nIn n (by omega)), la185, it (gin (by omega) (by decide)), nI_clamp (by omega), h8]
    · rw [CX7_tellsOf, it ci6, cc6, s13, ie (nIn n (by omega)), la190, it (gin (by omega) (by decide)), nI_clamp (by omega), h10]
theorem atl (b : Nat) (hb : b < 100) (M : fxMem) : CX7_atLeastOne (nI b) M = some (nI (max 1 b), M) := by
  rw [CX7_atLeastOne]
  by_cases h : 1 ≤ b
  · rw [it (show (1 : Int32) ≤ nI b from nI_le (a := 1) h (by omega)), Nat.max_eq_right h]
  · rw [ie (show ¬ (1 : Int32) ≤ nI b from nI_ge (a := b) (b := 1) (by omega) (by decide)), Nat.max_eq_left (by omega)]
    rfl
theorem px_told (x : Int32) : st2 PX (CX6_told x) (CX7_told x) := by
  intro Mc Mm h
  obtain ⟨h1, h2, h3, np, nf, nd, nb, ns, d, hF, hG⟩ := id h
  have hn := hF.1.2.2.2.2.1
  obtain ⟨spd, bt, stp, b1, b2, b3, c1, c2, c3, d1, d2, d3⟩ := now_sh h2 hF
  rw [CX6_told, CX7_told, held_ok hn hF.2.1.2.2.1]
  by_cases e0 : x = 0
  · refine ⟨nI spd, Mc, Mm, ?_, ?_, h⟩
    · simp [e0, bs, isSh_ok hn, c1]
    · rw [it e0, CX7_speed, d1]; rfl
  by_cases e1 : x = 1
  · refine ⟨nI (max 1 bt), Mc, Mm, ?_, ?_, h⟩
    · simp [e1, bs, isSh_ok hn, c2]
    · rw [ie e0, it e1, d2, bs]; simp only [atl bt b2]; rfl
  by_cases e2 : x = 2
  · refine ⟨nI (max 1 stp), Mc, Mm, ?_, ?_, h⟩
    · simp [e2, bs, isSh_ok hn, c3]
    · rw [ie e0, ie e1, it e2, d3, bs]; simp only [atl stp b3]; rfl
  · refine ⟨-1, Mc, Mm, ?_, ?_, h⟩
    · rw [ie e0, ie e1, ie e2]
    · rw [ie e0, ie e1, ie e2]
/-! who stands there -/
def pon (f : Nat → Int32) (x : Int32) : Nat → Int32
  | 0 => -1
  | n + 1 => if f n = x then nI n else pon f x n
theorem pon_no {f : Nat → Int32} {x : Int32} : ∀ {n : Nat}, (∀ p, p < n → f p ≠ x) → pon f x n = -1
  | 0, _ => rfl
  | n + 1, h => by rw [pon, ie (h n (by omega))]; exact pon_no (fun p hp => h p (by omega))
theorem pon_yes {f : Nat → Int32} {x : Int32} {p : Nat} : ∀ {n : Nat}, rI f n → p < n → f p = x → pon f x n = nI p
  | 0, _, hp, _ => absurd hp (Nat.not_lt_zero p)
  | n + 1, hI, hp, e => by
    rw [pon]
    by_cases e1 : f n = x
    · rw [it e1, hI n p (by omega) hp (e1.trans e.symm)]
    · rw [ie e1]
      have : p ≠ n := fun z => e1 (by rw [← z]; exact e)
      exact pon_yes (fun a b ha hb => hI a b (by omega) (by omega)) (by omega) e
theorem pon_cong {f g : Nat → Int32} {x : Int32} : ∀ {n : Nat}, (∀ p, p < n → f p = g p) → pon f x n = pon g x n
  | 0, _ => rfl
  | n + 1, h => by rw [pon, pon, h n (by omega), pon_cong (fun p hp => h p (by omega))]
theorem pon_cases (f : Nat → Int32) (x : Int32) : ∀ n, (pon f x n = -1 ∧ ∀ p, p < n → f p ≠ x) ∨ ∃ p, p < n ∧ f p = x ∧ pon f x n = nI p
  | 0 => Or.inl ⟨rfl, fun p hp => absurd hp (Nat.not_lt_zero p)⟩
  | n + 1 => by
    rw [pon]
    by_cases e : f n = x
    · rw [it e]; exact Or.inr ⟨n, by omega, e, rfl⟩
    · rw [ie e]
      rcases pon_cases f x n with ⟨a, b⟩ | ⟨p, a, b, c⟩
      · exact Or.inl ⟨a, fun p hp => by
          by_cases z : p = n
          · rw [z]; exact e
          · exact b p (by omega)⟩
      · exact Or.inr ⟨p, by omega, b, c⟩
theorem ponC_L {x : Int32} {M : fxMem} {np : Nat} (hn : np ≤ 10) (e : M 1 0 = nI np) (hI : rI (M 4) np) {k : Int32 → fxMem → Option (Int32 × fxMem)} : ∀ (n i : Nat), np - i < n → i ≤ np → (∀ p, p < i → M 4 p ≠ x) → CX1_playerOn_L2 x n (nI i) M k = if pon (M 4) x np = -1 then k (nI np) M else some (pon (M 4) x np, M)
  | 0, i, h, _, _ => absurd h (Nat.not_lt_zero _)
  | n + 1, i, h, hi, hp => by
    rw [CX1_playerOn_L2, e]
    by_cases z : i = np
    · subst z
      rw [it (Int32.le_refl _), pon_no hp, it rfl]
    · rw [ie (nI_ge (by omega) (by omega)), it (gin (by omega) (by decide)), nI_clamp (by omega)]
      by_cases e1 : M 4 i = x
      · rw [it e1, pon_yes hI (by omega) e1, ie (nIn i (by omega))]
      · rw [ie e1, n1]
        refine ponC_L hn e hI n (i + 1) (by omega) (by omega) (fun p hp2 => ?_)
        by_cases z2 : p = i
        · rw [z2]; exact e1
        · exact hp p (by omega)
theorem ponC {x : Int32} {M : fxMem} {np : Nat} (hn : np ≤ 10) (e : M 1 0 = nI np) (hI : rI (M 4) np) : CX1_playerOn x M = some (pon (M 4) x np, M) := by
  rw [CX1_playerOn, show (0 : Int32) = nI 0 from rfl, ponC_L hn e hI 1000 0 (by omega) (Nat.zero_le _) (fun p hp => absurd hp (Nat.not_lt_zero p))]
  by_cases z : pon (M 4) x np = -1
  · rw [it z, z]
  · rw [ie z]
theorem ponM_L {x : Int32} {M : fxMem} {np : Nat} (hn : np ≤ 10) (e : M 1 0 = nI np) {k : Int32 → Int32 → fxMem → Option (Int32 × fxMem)} : ∀ (n i : Nat), np - i < n → i ≤ np → CX7_playerOn_L4 x n (pon (fun p => M 1 (150 + p)) x i) (nI i) M k = k (pon (fun p => M 1 (150 + p)) x np) (nI np) M
  | 0, i, h, _ => absurd h (Nat.not_lt_zero _)
  | n + 1, i, h, hi => by
    rw [CX7_playerOn_L4, it ci0, cc0, e]
    by_cases z : i = np
    · subst z
      rw [it (Int32.le_refl _)]
    · rw [ie (nI_ge (by omega) (by omega)), la150, it (gin (by omega) (by decide)), nI_clamp (by omega), n1]
      exact ponM_L hn e n (i + 1) (by omega) (by omega)
theorem ponM {x : Int32} {M : fxMem} {np : Nat} (hn : np ≤ 10) (e : M 1 0 = nI np) : CX7_playerOn x M = some (pon (fun p => M 1 (150 + p)) x np, M) := by
  rw [CX7_playerOn]
  exact ponM_L hn e 1000 0 (by omega) (Nat.zero_le _)
theorem pon_both {Mc Mm : fxMem} {np nf nd nb ns d : Nat} (hF : rF Mc Mm 1 1 np nf nd nb ns d) (x : Int32) : CX1_playerOn x Mc = some (pon (Mc 4) x np, Mc) ∧ CX7_playerOn x Mm = some (pon (Mc 4) x np, Mm) := by
  refine ⟨ponC hF.1.1 hF.2.1.1 hF.2.2.2.2.2.1, ?_⟩
  rw [ponM hF.1.1 hF.2.1.2.1, pon_cong (g := Mc 4) (fun p hp => (hF.2.2.2.2.1 p hp).1)]
