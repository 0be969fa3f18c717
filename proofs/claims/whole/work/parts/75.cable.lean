section
theorem pall_ok {t : Nat → Nat} {tc n T : Nat} {o K : Nat → Nat} (h : pall t tc = .inr (n, o, K, T)) : n ≤ 5 ∧ n ≠ 1 ∧ (∀ e, e < n → o e < n) ∧ (∀ e f, e < n → f < n → o e = o f → e = f) ∧ kt n K T := by
  have kz : ∀ n, kt n (fun _ => 0) 0 := fun n => ⟨fun w _ => ⟨by show 0 < 4; omega, fun _ => rfl⟩, ⟨by decide, fun i h => by simp at h⟩⟩
  unfold pall at h
  split at h
  · simp only [Sum.inr.injEq, Prod.mk.injEq] at h
    obtain ⟨e1, e2, e3, e4⟩ := h
    rw [← e1, ← e3, ← e4]
    exact ⟨by omega, by omega, fun e he => by omega, fun e f he => by omega, kz 0⟩
  · split at h
    · cases h1 : pord t tc 5 (fun _ => 0) 0 (sk t tc 0 + 1) with
      | inl e => rw [h1] at h; exact absurd h (by simp)
      | inr r =>
        obtain ⟨o2, n2, a⟩ := r
        rw [h1] at h
        (try dsimp only at h)
        have ok := pord_ok 5 _ 0 _ _ _ _ (by omega) (fun e f h => by omega) h1
        cases h2 : pcls t tc n2 240 (fun _ => 0) 0 a with
        | inl e => rw [h2] at h; exact absurd h (by simp)
        | inr r =>
          obtain ⟨K2, T2⟩ := r
          rw [h2] at h
          simp only [Sum.inr.injEq, Prod.mk.injEq] at h
          obtain ⟨e1, e2, e3, e4⟩ := h
          rw [← e1, ← e2, ← e3, ← e4]
          exact ⟨ok.2.1, by omega, ok.2.2.1, ok.2.2.2.1, pcls_ok ok.2.1 (by omega) 240 _ _ _ _ _ (kz n2) h2⟩
    · exact absurd h (by simp)
theorem img_s {H : Hp} {E : Hp → Prop} (k : E (wi (wi H 8 2 0) 9 2 0)) : lp_Fe_cable_86 3 0 H E := by
  have e0 : (0 : Int32).toNatClampNeg = 0 := by decide
  have e1 : ((0 : Int32) + 1).toNatClampNeg = 1 := by decide
  unfold lp_Fe_cable_86
  refine ⟨fun z => absurd z (by decide), fun _ => ⟨vp_in_nI (n := 0) (by omega) (by omega), ?_⟩⟩
  dsimp only [lt]
  unfold lp_Fe_cable_86
  refine ⟨fun z => absurd z (by decide), fun _ => ⟨vp_in_nI (n := 1) (by omega) (by omega), ?_⟩⟩
  dsimp only [lt]
  unfold lp_Fe_cable_86
  rw [e0, e1]
  exact ⟨fun _ => k, fun z => absurd (by decide) z⟩
theorem cpy_lp : ∀ (k i : Nat) (g : Hp) (E : Hp → Prop), i + k = 5 → (∀ g' : Hp, g'.2 = g.2 → (∀ c, c ≠ 77 → c ≠ 78 → c ≠ 79 → c ≠ 80 → g'.1 c = g.1 c) → (∀ w, w < 5 → (i ≤ w → g'.1 77 w = g.1 85 w ∧ g'.1 78 w = g.1 86 w ∧ g'.1 79 w = 0 ∧ g'.1 80 w = 0) ∧ (w < i → g'.1 77 w = g.1 77 w ∧ g'.1 78 w = g.1 78 w ∧ g'.1 79 w = g.1 79 w ∧ g'.1 80 w = g.1 80 w)) → E g') → lp_Md_cable_53 (k + 1) (nI i) g E := by
  intro k
  induction k with
  | zero =>
    intro i g E hi hE
    unfold lp_Md_cable_53
    exact pk_le 5 i (fun _ => hE g rfl (fun _ _ _ _ _ => rfl) (fun w hw => ⟨fun q => by omega, fun _ => ⟨rfl, rfl, rfl, rfl⟩⟩)) (fun q => by omega)
  | succ k ih =>
    intro i g E hi hE
    unfold lp_Md_cable_53
    have v : vp_in (nI i) 5 := vp_in_nI (by omega) (by omega)
    refine pk_le 5 i (fun q => by omega) (fun q => ⟨v, v, ?_⟩)
    dsimp only [lt]
    rw [cl_nI (by omega), nI_1]
    refine ⟨v, v, v, v, ?_⟩
    obtain ⟨g1, hg1⟩ : ∃ g1 : Hp, g1 = wi (wi (wi (wi g 77 i (g.1 85 i)) 78 i ((wi g 77 i (g.1 85 i)).1 86 i)) 79 i 0) 80 i 0 := ⟨_, rfl⟩
    rw [← hg1]
    have m77 : g1.1 77 = upd (g.1 77) i (g.1 85 i) := by rw [hg1]; rfl
    have m78 : g1.1 78 = upd (g.1 78) i (g.1 86 i) := by rw [hg1]; rfl
    have m79 : g1.1 79 = upd (g.1 79) i 0 := by rw [hg1]; rfl
    have m80 : g1.1 80 = upd (g.1 80) i 0 := by rw [hg1]; rfl
    have mo : ∀ c, c ≠ 77 → c ≠ 78 → c ≠ 79 → c ≠ 80 → g1.1 c = g.1 c := fun c q1 q2 q3 q4 => by rw [hg1, wi_ne q4, wi_ne q3, wi_ne q2, wi_ne q1]
    have ml : g1.2 = g.2 := by rw [hg1]; rfl
    refine ih (i + 1) g1 E (by omega) (fun g' h1 h2 h3 => hE g' (h1.trans ml) (fun c q1 q2 q3 q4 => by rw [h2 c q1 q2 q3 q4, mo c q1 q2 q3 q4]) (fun w hw => ⟨fun q2 => ?_, fun q2 => ?_⟩))
    · by_cases e : w = i
      · obtain ⟨r1, r2, r3, r4⟩ := (h3 w hw).2 (by omega)
        rw [r1, r2, r3, r4, m77, m78, m79, m80, e, pk_us, pk_us, pk_us, pk_us]
        exact ⟨rfl, rfl, rfl, rfl⟩
      · have := (h3 w hw).1 (by omega)
        rw [mo 85 (by omega) (by omega) (by omega) (by omega), mo 86 (by omega) (by omega) (by omega) (by omega)] at this
        exact this
    · obtain ⟨r1, r2, r3, r4⟩ := (h3 w hw).2 (by omega)
      rw [r1, r2, r3, r4, m77, m78, m79, m80, pk_un (by omega), pk_un (by omega), pk_un (by omega), pk_un (by omega)]
      exact ⟨rfl, rfl, rfl, rfl⟩
theorem G1 : ∀ (h : Hp), Rel h → wp_Fe_cable h (fun v1 h1 => wp_Md_cable h1 (fun v2 h2 => v1 = v2 ∧ Rel h2)) := by
  intro h hR
  obtain ⟨n, o, a1, ⟨m, a2⟩, a3, a4, a5, a6, a7, ⟨tc, d1, d2, d3, d4⟩, a9⟩ := id hR
  obtain ⟨t, htt⟩ : ∃ t : Nat → Nat, ∀ k, k < tc → t k < 256 ∧ h.1 67 k = nI (t k) ∧ h.1 84 k = nI (t k) := ⟨fun k => (h.1 67 k).toNatClampNeg, fun k hk => by
    obtain ⟨x, x1, x2, x3⟩ := d4 k hk
    (try dsimp only)
    rw [x2, cl_nI (by omega)]
    exact ⟨x1, rfl, x3⟩⟩
  unfold wp_Fe_cable
  refine read_s d1 (fun k hk => ⟨(htt k hk).1, (htt k hk).2.1⟩) d2 (fun f p e f0 f4 g b => ?_) (fun n2 o2 K2 T2 e g b => ?_)
  · obtain ⟨⟨b1, b2, b3, b4⟩, b5⟩ := b
    rw [b3]
    refine ⟨fun z => absurd ((nI_zero (by omega)).mp z) f0, fun _ => ?_⟩
    have e84 : g.1 84 = h.1 84 := b2 84 (by omega) (by omega)
    have e7 : g.1 7 = h.1 7 := b2 7 (by omega) (by omega)
    unfold wp_Md_cable
    refine readsAll_s d1 (h := g) (fun k hk => ⟨(htt k hk).1, by rw [e84]; exact (htt k hk).2.2⟩) (by rw [e7]; exact d3) (fun f' p' e' g2 c => ?_) (fun n2 o2 K2 T2 e' => by rw [e] at e'; exact absurd e' (by simp))
    rw [e] at e'
    simp only [Sum.inl.injEq, Prod.mk.injEq] at e'
    obtain ⟨rfl, rfl⟩ := e'
    obtain ⟨c1, c2, c3, c4, c5⟩ := c
    dsimp only [lt]
    refine ⟨fun z => absurd z (by decide), fun _ => ⟨?_, ?_⟩⟩
    · show (-10 : Int32) - nI f = -10 - g2.1 7 19
      rw [c4]
    · obtain ⟨G, hG⟩ : ∃ G : Hp, G = wi (wi g2 7 17 0) 7 20 ((wi g2 7 17 0).1 7 18) := ⟨_, rfl⟩
      rw [← hG]
      have k1 : ∀ c, c ≠ 7 → c ≠ 85 → c ≠ 86 → c ≠ 1 → c ≠ 68 → G.1 c = h.1 c := fun c q1 q2 q3 q4 q5 => by rw [hG, wi_ne q1, wi_ne q1, c2 c q1 q2 q3, b2 c q4 q5]
      have k7 : ∀ j, fx j → j ≠ 17 → j ≠ 20 → G.1 7 j = h.1 7 j := fun j q1 q2 q3 => by rw [hG, wi_f q3, wi_f q2, c3 j q1, e7]
      have kl : G.2 = h.2 := by rw [hG]; exact c1.trans b1
      have g1 : G.1 1 = g.1 1 := by rw [hG, wi_ne (by omega), wi_ne (by omega), c2 1 (by omega) (by omega) (by omega)]
      have x20 : G.1 7 20 = nI p := by rw [hG]; exact c5
      have x17 : G.1 7 17 = 0 := by rw [hG]; rfl
      exact ⟨n, o, a1.keep (by rw [k1 0 (by omega) (by omega) (by omega) (by omega) (by omega)]) (k7 0 (by unfold fx; omega) (by omega) (by omega)) (k1 69 (by omega) (by omega) (by omega) (by omega) (by omega)) (k1 77 (by omega) (by omega) (by omega) (by omega) (by omega)),
        ⟨m, a2.keep (k1 26 (by omega) (by omega) (by omega) (by omega) (by omega)) (k7 2 (by unfold fx; omega) (by omega) (by omega)) (k7 3 (by unfold fx; omega) (by omega) (by omega)) (k7 4 (by unfold fx; omega) (by omega) (by omega)) (k7 5 (by unfold fx; omega) (by omega) (by omega)) (k7 6 (by unfold fx; omega) (by omega) (by omega)) (k1 78 (by omega) (by omega) (by omega) (by omega) (by omega)) (k1 79 (by omega) (by omega) (by omega) (by omega) (by omega)) (k1 80 (by omega) (by omega) (by omega) (by omega) (by omega))⟩,
        a3.keep (k1 2 (by omega) (by omega) (by omega) (by omega) (by omega)) (k7 28 (by unfold fx; omega) (by omega) (by omega)) (k1 87 (by omega) (by omega) (by omega) (by omega) (by omega)) (fun c q1 q2 => k1 c (by omega) (by omega) (by omega) (by omega) (by omega)),
        a4.keep (k1 3 (by omega) (by omega) (by omega) (by omega) (by omega)) (by rw [kl]),
        a5.keep (k1 8 (by omega) (by omega) (by omega) (by omega) (by omega)) (k1 9 (by omega) (by omega) (by omega) (by omega) (by omega)) (k1 27 (by omega) (by omega) (by omega) (by omega) (by omega)) (k1 28 (by omega) (by omega) (by omega) (by omega) (by omega)) (k1 90 (by omega) (by omega) (by omega) (by omega) (by omega)) (k1 88 (by omega) (by omega) (by omega) (by omega) (by omega)) (by rw [kl]),
        a6.keep (by rw [k1 0 (by omega) (by omega) (by omega) (by omega) (by omega)]) (k7 11 (by unfold fx; omega) (by omega) (by omega)) (k1 81 (by omega) (by omega) (by omega) (by omega) (by omega)) (k1 92 (by omega) (by omega) (by omega) (by omega) (by omega)) (fun k _ j _ => by rw [k1 (29 + k) (by omega) (by omega) (by omega) (by omega) (by omega)]),
        a7.keep (by rw [k1 0 (by omega) (by omega) (by omega) (by omega) (by omega)]) (k7 13 (by unfold fx; omega) (by omega) (by omega)) (k1 70 (by omega) (by omega) (by omega) (by omega) (by omega)) (k1 71 (by omega) (by omega) (by omega) (by omega) (by omega)) (k1 82 (by omega) (by omega) (by omega) (by omega) (by omega)) (k1 83 (by omega) (by omega) (by omega) (by omega) (by omega)),
        ⟨0, by omega, by rw [g1]; exact b5, x17, fun k hk => by omega⟩,
        ⟨by rw [g1, b4, x20], by rw [k1 97 (by omega) (by omega) (by omega) (by omega) (by omega)]; exact a9.2⟩⟩
  · obtain ⟨n5, n1, oo, oi, hkt⟩ := pall_ok e
    obtain ⟨b1, b2, b3, b4, b5, b6, b7, b8, b9⟩ := b
    refine ⟨fun _ => ?_, fun z => absurd b4 z⟩
    unfold wp_State_begin wp_Past_clear
    dsimp only [lt]
    refine ⟨3, img_s ?_⟩
    (try dsimp only)
    have e53 : (wc (wi g 0 1 (g.1 1 4)) 68 69 (5 : Int32).toNatClampNeg).1 1 6 = nI (pk K2) := b7
    have e54 : (wc (wi g 0 1 (g.1 1 4)) 68 69 (5 : Int32).toNatClampNeg).1 1 7 = nI T2 := b8
    rw [e53, e54, b6, show (5 : Int32).toNatClampNeg = 5 from cl_nI (n := 5) (by omega)]
    obtain ⟨h1, hh1⟩ : ∃ h1 : Hp, h1 = wi (wi (wi (wi (wi (wi (wi (wi (wi (wi (wi (wi (wi (wi (wc (wi g 0 1 (nI n2)) 68 69 5) 26 0 (nI (pk K2))) 26 1 (nI T2)) 26 2 0) 26 3 0) 26 4 0) 26 5 0) 26 6 0) 26 7 0) 2 1 0) 2 2 0) 8 2 0) 9 2 0) 0 8 0) 0 11 0 := ⟨_, rfl⟩
    rw [← hh1]
    have co : ∀ c, c ≠ 0 → c ≠ 1 → c ≠ 2 → c ≠ 8 → c ≠ 9 → c ≠ 26 → c ≠ 68 → c ≠ 69 → h1.1 c = h.1 c := fun c q0 q1 q2 q8 q9 q26 q68 q69 => by
      rw [hh1, wi_ne q0, wi_ne q0, wi_ne q9, wi_ne q8, wi_ne q2, wi_ne q2, wi_ne q26, wi_ne q26, wi_ne q26, wi_ne q26, wi_ne q26, wi_ne q26, wi_ne q26, wi_ne q26, wc_ne q69, wi_ne q0, b2 c q1 q68]
    have cl : h1.2 = h.2 := by rw [hh1]; exact b1
    have x01 : h1.1 0 1 = nI n2 := by rw [hh1]; rfl
    have x08 : h1.1 0 8 = 0 := by rw [hh1]; rfl
    have x011 : h1.1 0 11 = 0 := by rw [hh1]; rfl
    have x1 : h1.1 1 = g.1 1 := by rw [hh1]; rfl
    have x21 : h1.1 2 1 = 0 := by rw [hh1]; rfl
    have x22 : h1.1 2 2 = 0 := by rw [hh1]; rfl
    have x82 : h1.1 8 2 = 0 := by rw [hh1]; rfl
    have x92 : h1.1 9 2 = 0 := by rw [hh1]; rfl
    have x26 : h1.1 26 0 = nI (pk K2) ∧ h1.1 26 1 = nI T2 ∧ h1.1 26 2 = 0 ∧ h1.1 26 3 = 0 ∧ h1.1 26 4 = 0 ∧ h1.1 26 5 = 0 ∧ h1.1 26 6 = 0 ∧ h1.1 26 7 = 0 := by rw [hh1]; exact ⟨rfl, rfl, rfl, rfl, rfl, rfl, rfl, rfl⟩
    have x69 : ∀ e, e < n2 → h1.1 69 e = nI (o2 e) := fun e he => by
      have q : h1.1 69 = va_cpy (g.1 68) (g.1 69) 0 0 5 := by rw [hh1]; rfl
      rw [q, pk_cpy_in (by omega) (by omega), Nat.zero_add, Nat.sub_zero]
      exact b9 e he
    have e84 : h1.1 84 = h.1 84 := co 84 (by omega) (by omega) (by omega) (by omega) (by omega) (by omega) (by omega) (by omega)
    have e7 : h1.1 7 = h.1 7 := co 7 (by omega) (by omega) (by omega) (by omega) (by omega) (by omega) (by omega) (by omega)
    rw [x01]
    unfold wp_Md_cable
    refine readsAll_s d1 (h := h1) (fun k hk => ⟨(htt k hk).1, by rw [e84]; exact (htt k hk).2.2⟩) (by rw [e7]; exact d3) (fun f' p' e' => by rw [e] at e'; exact absurd e' (by simp)) (fun n3 o3 K3 T3 e' i x y g2 c => ?_)
    rw [e] at e'
    simp only [Sum.inr.injEq, Prod.mk.injEq] at e'
    obtain ⟨rfl, rfl, rfl, rfl⟩ := e'
    refine ⟨fun _ => ?_, fun z => absurd rfl z⟩
    dsimp only [lt]
    have y0 : (wi (wi g2 7 17 0) 7 20 (-1)).1 7 21 = nI n2 := c.wr
    rw [y0]
    have y1 : (wi (wi (wi g2 7 17 0) 7 20 (-1)) 7 0 (nI n2)).1 7 22 = nI T2 := c.tch
    rw [y1]
    obtain ⟨g3, hg3⟩ : ∃ g3 : Hp, g3 = wi (wi (wi (wi g2 7 17 0) 7 20 (-1)) 7 0 (nI n2)) 7 6 (nI T2) := ⟨_, rfl⟩
    rw [← hg3]
    have ko : ∀ c, c ≠ 7 → g3.1 c = g2.1 c := fun c q => by rw [hg3, wi_ne q, wi_ne q, wi_ne q, wi_ne q]
    refine ⟨6, cpy_lp 5 0 g3 _ (by omega) (fun g4 z1 z2 z3 => ?_)⟩
    (try dsimp only)
    have e00 : (0 : Int32).toNatClampNeg = 0 := by decide
    have e01 : (1 : Int32).toNatClampNeg = 1 := by decide
    rw [e00, e01]
    refine ⟨vp_in_nI (n := 0) (by omega) (by omega), vp_in_nI (n := 1) (by omega) (by omega), ?_⟩
    obtain ⟨G, hG⟩ : ∃ G : Hp, G = wi (wi (wi (wi (wi (wi (wi (wi (wi g4 7 2 0) 7 3 0) 7 4 0) 7 5 0) 7 11 0) 7 13 0) 7 28 0) 90 0 0) 90 1 0 := ⟨_, rfl⟩
    rw [← hG]
    have G7 : G.1 7 = upd (upd (upd (upd (upd (upd (upd (g3.1 7) 2 0) 3 0) 4 0) 5 0) 11 0) 13 0) 28 0 := by
      rw [← z2 7 (by omega) (by omega) (by omega) (by omega), hG]; rfl
    have k7 : G.1 7 0 = nI n2 ∧ G.1 7 6 = nI T2 ∧ G.1 7 2 = 0 ∧ G.1 7 3 = 0 ∧ G.1 7 4 = 0 ∧ G.1 7 5 = 0 ∧ G.1 7 11 = 0 ∧ G.1 7 13 = 0 ∧ G.1 7 28 = 0 ∧ G.1 7 17 = 0 ∧ G.1 7 20 = -1 := by
      rw [G7, hg3]; exact ⟨rfl, rfl, rfl, rfl, rfl, rfl, rfl, rfl, rfl, rfl, rfl⟩
    have g90 : G.1 90 0 = 0 ∧ G.1 90 1 = 0 := by rw [hG]; exact ⟨rfl, rfl⟩
    have cq := c.2.2.1
    have Go : ∀ c, c ≠ 7 → c ≠ 77 → c ≠ 78 → c ≠ 79 → c ≠ 80 → c ≠ 85 → c ≠ 86 → c ≠ 90 → G.1 c = h1.1 c := fun c q1 q2 q3 q4 q5 q6 q7 q8 => by
      rw [hG, wi_ne q8, wi_ne q8, wi_ne q1, wi_ne q1, wi_ne q1, wi_ne q1, wi_ne q1, wi_ne q1, wi_ne q1, z2 c q2 q3 q4 q5, ko c q1, cq c q1 q6 q7]
    have Gr : ∀ c, c ≠ 7 → c ≠ 90 → G.1 c = g4.1 c := fun c q1 q8 => by
      rw [hG, wi_ne q8, wi_ne q8, wi_ne q1, wi_ne q1, wi_ne q1, wi_ne q1, wi_ne q1, wi_ne q1, wi_ne q1]
    have r10 : G.1 7 10 = h.1 7 10 := by
      rw [G7, hg3]
      exact (c.2.2.2.1 10 (by unfold fx; omega)).trans (by rw [e7])
    have l2 : G.2 = h.2 := by
      rw [hG]
      show g4.2 = h.2
      rw [z1, hg3]
      exact c.2.1.trans cl
    have rw5 : ∀ w, w < 5 → G.1 78 w = nI (K2 w) ∧ G.1 79 w = 0 ∧ G.1 80 w = 0 := fun w hw => by
      obtain ⟨r1, r2, r3, r4⟩ := (z3 w hw).1 (by omega)
      rw [Gr 78 (by omega) (by omega), Gr 79 (by omega) (by omega), Gr 80 (by omega) (by omega), r2, r3, r4, ko 86 (by omega)]
      exact ⟨c.kd w hw, rfl, rfl⟩
    have r77 : ∀ e, e < n2 → G.1 77 e = nI (o2 e) := fun e he => by
      obtain ⟨r1, r2, r3, r4⟩ := (z3 e (by omega)).1 (by omega)
      rw [Gr 77 (by omega) (by omega), r1, ko 85 (by omega)]
      exact (c.ord e he).2
    have gk : ∀ c, c ≠ 7 → c ≠ 77 → c ≠ 78 → c ≠ 79 → c ≠ 80 → c ≠ 85 → c ≠ 86 → c ≠ 90 → c ≠ 0 → c ≠ 1 → c ≠ 2 → c ≠ 8 → c ≠ 9 → c ≠ 26 → c ≠ 68 → c ≠ 69 → G.1 c = h.1 c := fun c p1 p2 p3 p4 p5 p6 p7 p8 q0 q1 q2 q8 q9 q26 q68 q69 => (Go c p1 p2 p3 p4 p5 p6 p7 p8).trans (co c q0 q1 q2 q8 q9 q26 q68 q69)
    have G0 : G.1 0 = h1.1 0 := Go 0 (by omega) (by omega) (by omega) (by omega) (by omega) (by omega) (by omega) (by omega)
    have G1' : G.1 1 = g.1 1 := (Go 1 (by omega) (by omega) (by omega) (by omega) (by omega) (by omega) (by omega) (by omega)).trans x1
    have G2' : G.1 2 = h1.1 2 := Go 2 (by omega) (by omega) (by omega) (by omega) (by omega) (by omega) (by omega) (by omega)
    have G8' : G.1 8 = h1.1 8 := Go 8 (by omega) (by omega) (by omega) (by omega) (by omega) (by omega) (by omega) (by omega)
    have G9' : G.1 9 = h1.1 9 := Go 9 (by omega) (by omega) (by omega) (by omega) (by omega) (by omega) (by omega) (by omega)
    have G26 : G.1 26 = h1.1 26 := Go 26 (by omega) (by omega) (by omega) (by omega) (by omega) (by omega) (by omega) (by omega)
    have G69 : G.1 69 = h1.1 69 := Go 69 (by omega) (by omega) (by omega) (by omega) (by omega) (by omega) (by omega) (by omega)
    obtain ⟨u0, u6, u2, u3, u4, u5, u11, u13, u28, u17, u20⟩ := k7
    obtain ⟨s0, s1, s2, s3, s4, s5, s6, s7⟩ := x26
    refine ⟨u0.symm, n2, o2, ⟨by rw [G0]; exact x01, u0, n5, n1, fun e he => ⟨oo e he, by rw [G69]; exact x69 e he, r77 e he⟩, oi⟩, ⟨fun j => if j = 4 then T2 else if 5 ≤ j ∧ j < 10 then K2 (j - 5) else 0, ?_, ?_, ?_⟩, ⟨0, 0, fun _ _ => 0, by omega, by omega, by rw [G2']; exact x21, u28, by rw [G2']; exact x22, fun k hk => by omega⟩, a4.keep (gk 3 (by omega) (by omega) (by omega) (by omega) (by omega) (by omega) (by omega) (by omega) (by omega) (by omega) (by omega) (by omega) (by omega) (by omega) (by omega) (by omega)) (by rw [l2]), fun i hi => ⟨0, by omega, ?_, ?_, fun q => by omega⟩, ⟨0, by omega, by rw [G0]; exact x08, u11, fun k hk => by omega⟩, ⟨0, by omega, by rw [G0]; exact x011, u13, fun k hk => by omega⟩, ⟨0, by omega, by rw [G1']; exact b3, u17, fun k hk => by omega⟩, ⟨by rw [G1', b5, u20], by rw [gk 97 (by omega) (by omega) (by omega) (by omega) (by omega) (by omega) (by omega) (by omega) (by omega) (by omega) (by omega) (by omega) (by omega) (by omega) (by omega) (by omega)]; exact a9.2⟩⟩
    · rw [G26]
      refine ⟨s0.trans (congrArg nI (pack_cg (fun w hw => ?_))), s1, s2.trans ?_, s3.trans ?_, s4, s5, s6, s7⟩
      · (try dsimp only)
        rw [if_neg (by omega), if_pos (by omega), Nat.add_sub_cancel_left]
      · exact congrArg nI ((pack_cg (g := fun _ => 0) (fun w hw => by (try dsimp only); rw [if_neg (by omega), if_neg (by omega)])))
      · exact congrArg nI ((pack_cg (g := fun _ => 0) (fun w hw => by (try dsimp only); rw [if_neg (by omega), if_neg (by omega)])))
    · refine ⟨u2, u3, u4, u5, u6, fun w hw => ?_⟩
      (try dsimp only)
      obtain ⟨w1, w2, w3⟩ := rw5 w hw
      rw [w1, w2, w3, if_neg (by omega), if_pos (by omega), Nat.add_sub_cancel_left, if_neg (by omega), if_neg (by omega), if_neg (by omega), if_neg (by omega)]
      exact ⟨rfl, rfl, rfl⟩
    · refine ⟨?_, ?_, ?_, ?_, hkt.2, fun w hw => ?_⟩
      · exact Nat.zero_le _
      · exact Nat.zero_le _
      · exact Nat.zero_le _
      · exact Nat.zero_le _
      · (try dsimp only)
        rw [if_neg (by omega), if_pos (by omega), Nat.add_sub_cancel_left, if_neg (by omega), if_neg (by omega), if_neg (by omega), if_neg (by omega)]
        exact ⟨(hkt.1 w hw).1, by omega, by omega, fun q => ⟨(hkt.1 w hw).2 q, rfl, rfl⟩⟩
    · rcases (show i = 0 ∨ i = 1 by omega) with rfl | rfl
      · rw [G8']; exact x82
      · rw [G9']; exact x92
    · rcases (show i = 0 ∨ i = 1 by omega) with rfl | rfl
      · exact g90.1
      · exact g90.2
end
