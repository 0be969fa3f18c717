section
theorem clear_s {h : Hp} {P : Hp → Prop} (k : P (wi (wi h 2 1 0) 2 2 0)) : wp_Past_clear h P := k
theorem G25 : ∀ (h : Hp) (p0 : Int32), Rel h → wp_Fe_keep p0 h (fun v1 h1 => wp_Md_keep p0 h1 (fun v2 h2 => v1 = v2 ∧ Rel h2)) := by
  intro h p0 hR
  obtain ⟨n, o, a1, ⟨m, a2⟩, a3, ⟨sd, b1, b2, b3⟩, a5, a6, a7, a8, a9⟩ := id hR
  obtain ⟨hcs, hml, hwf⟩ := id a2
  have outside : (p0 < 0 ∨ ¬ p0 < 2) → wp_Md_keep p0 h (fun v2 h2 => (-1000000001 : Int32) = v2 ∧ Rel h2) := fun hc => by
    unfold wp_Md_keep
    rw [in_f (hc.imp id (fun z => by
      have z2 := Int32.not_lt.mp z
      rw [Int32.lt_iff_toInt_lt]
      rw [Int32.le_iff_toInt_le] at z2
      have e1 : (2 : Int32).toInt = 2 := by decide
      have e2 : (1 : Int32).toInt = 1 := by decide
      omega))]
    exact ⟨fun z => absurd z (by decide), fun _ => ⟨rfl, hR⟩⟩
  unfold wp_Fe_keep
  refine ⟨fun q => outside (Or.inl q), fun q0 => ⟨fun q1 => ?_, fun q => outside (Or.inr q)⟩⟩
  obtain ⟨i, hi, rfl⟩ := vld_of (n := 2) (by omega) q0 (Int32.not_le.mpr q1)
  have v0 : vp_in (nI i) 2 := vp_in_nI hi (by omega)
  refine ⟨v0, ?_⟩
  rw [cl_nI (n := i) (by omega)]
  refine become_s (by omega) ?_
  dsimp only [lt]
  refine clear_s ?_
  obtain ⟨f, hf⟩ : ∃ f, f = row8 (h.1 26) (h.1 (8 + i + 19)) := ⟨_, rfl⟩
  have hf2 : CS f m := hcs.keep8 (fun j hj => by rw [hf]; simp only [row8, if_pos hj])
  rw [← hf]
  have e3 : (sr h (8 + i + 19) f).1 3 0 = nI sd := by rw [sr_ne (by omega)]; exact b2
  rw [e3]
  obtain ⟨h1, hh1⟩ : ∃ h1 : Hp, h1 = wi (wi (wi (wi (sr h (8 + i + 19) f) (8 + i) 1 (nI sd)) (8 + i) 2 1) 2 1 0) 2 2 0 := ⟨_, rfl⟩
  rw [← hh1]
  have c1 : ∀ c, c ≠ 2 → c ≠ 8 + i → c ≠ 8 + i + 19 → h1.1 c = h.1 c := fun c d1 d2 d3 => by rw [hh1, wi_ne d1, wi_ne d1, wi_ne d2, wi_ne d2, sr_ne d3]
  have c27 : h1.1 (8 + i + 19) = f := by rw [hh1, wi_ne (by omega), wi_ne (by omega), wi_ne (by omega), wi_ne (by omega), sr_eq]
  have c81 : h1.1 (8 + i) 1 = nI sd := by rw [hh1, wi_ne (by omega), wi_ne (by omega), wi_eq, pk_un (by omega), wi_eq, pk_us]
  have c82 : h1.1 (8 + i) 2 = nI 1 := by rw [hh1, wi_ne (by omega), wi_ne (by omega), wi_eq, pk_us]; rfl
  have c21 : h1.1 2 1 = nI 0 := by rw [hh1, wi_eq, pk_un (by omega), wi_eq, pk_us]; rfl
  have c22 : h1.1 2 2 = nI 0 := by rw [hh1, wi_eq, pk_us]; rfl
  have cl : h1.2 = h.2 := by rw [hh1]; rfl
  have r7 : h1.1 7 = h.1 7 := c1 7 (by omega) (by omega) (by omega)
  (try dsimp only)
  unfold wp_Md_keep
  have hin : ∀ {P : Bool → Prop}, wp_Md_in (nI i) 0 1 P ↔ P true := in_t q0 (fun z => absurd ((nI_ltI (a := 1) (by omega) (by omega)).mp z) (by omega))
  rw [hin]
  refine ⟨fun _ => ?_, fun z => absurd rfl z⟩
  rw [show (20 : Int32) * nI i = nI (20 * i) from pk_mul 20 i]
  refine lays_s (m := m) (Or.inr rfl) (by show 20 * i + 20 ≤ 40; omega) (hml.keep (by rw [r7]) (by rw [r7]) (by rw [r7]) (by rw [r7]) (by rw [r7]) (c1 78 (by omega) (by omega) (by omega)) (c1 79 (by omega) (by omega) (by omega)) (c1 80 (by omega) (by omega) (by omega))) (fun w w1 w2 => ?_)
  refine ⟨v0, ?_⟩
  dsimp only [lt]
  rw [cl_nI (n := i) (by omega)]
  refine ⟨v0, rfl, ?_⟩
  obtain ⟨g, hg⟩ : ∃ g : Hp, g = wi (wi (wl (sr h1 88 w) 89 i ((sr h1 88 w).2 7 10)) 90 i 1) 7 28 0 := ⟨_, rfl⟩
  rw [← hg]
  have gx : ∀ c, c ≠ 7 → c ≠ 90 → c ≠ 88 → g.1 c = h1.1 c := fun c d1 d2 d3 => by rw [hg, wi_ne d1, wi_ne d2, wl_1, sr_ne d3]
  have g7 : ∀ j, j ≠ 28 → g.1 7 j = h.1 7 j := fun j d => by rw [hg, wi_eq, pk_un d, wi_ne (by omega), wl_1, sr_ne (by omega), r7]
  have g88 : g.1 88 = w := by rw [hg, wi_ne (by omega), wi_ne (by omega), wl_1, sr_eq]
  have g90 : g.1 90 = upd (h.1 90) i 1 := by rw [hg, wi_ne (by omega), wi_eq, wl_1, sr_ne (by omega), c1 90 (by omega) (by omega) (by omega)]
  have g28 : g.1 7 28 = nI 0 := by rw [hg, wi_eq, pk_us]; rfl
  have gl7 : g.2 7 = h.2 7 := by
    rw [hg]
    show (wl (sr h1 88 w) 89 i ((sr h1 88 w).2 7 10)).2 7 = h.2 7
    rw [wl_ne (by omega)]
    show h1.2 7 = h.2 7
    rw [cl]
  have gl89 : g.2 89 = vp_updL (h.2 89) i (lN sd) := by
    rw [hg]
    show (wl (sr h1 88 w) 89 i ((sr h1 88 w).2 7 10)).2 89 = _
    rw [wl_eq]
    show vp_updL (h1.2 89) i (h1.2 7 10) = _
    rw [cl, b3]
  have gy : ∀ c, c ≠ 7 → c ≠ 90 → c ≠ 88 → c ≠ 2 → c ≠ 8 + i → c ≠ 8 + i + 19 → g.1 c = h.1 c := fun c d1 d2 d3 d4 d5 d6 => by rw [gx c d1 d2 d3, c1 c d4 d5 d6]
  refine ⟨n, o, a1.keep (by rw [gy 0 (by omega) (by omega) (by omega) (by omega) (by omega) (by omega)]) (g7 0 (by omega)) (gy 69 (by omega) (by omega) (by omega) (by omega) (by omega) (by omega)) (gy 77 (by omega) (by omega) (by omega) (by omega) (by omega) (by omega)), ⟨m, a2.keep (gy 26 (by omega) (by omega) (by omega) (by omega) (by omega) (by omega)) (g7 2 (by omega)) (g7 3 (by omega)) (g7 4 (by omega)) (g7 5 (by omega)) (g7 6 (by omega)) (gy 78 (by omega) (by omega) (by omega) (by omega) (by omega) (by omega)) (gy 79 (by omega) (by omega) (by omega) (by omega) (by omega) (by omega)) (gy 80 (by omega) (by omega) (by omega) (by omega) (by omega) (by omega))⟩, ⟨0, 0, fun _ _ => 0, by omega, by omega, by rw [gx 2 (by omega) (by omega) (by omega)]; exact c21, g28, by rw [gx 2 (by omega) (by omega) (by omega)]; exact c22, fun k hk => by omega⟩, ⟨sd, b1, by rw [gy 3 (by omega) (by omega) (by omega) (by omega) (by omega) (by omega)]; exact b2, by rw [gl7]; exact b3⟩, fun q hq => ?_, a6.keep (by rw [gy 0 (by omega) (by omega) (by omega) (by omega) (by omega) (by omega)]) (g7 11 (by omega)) (gy 81 (by omega) (by omega) (by omega) (by omega) (by omega) (by omega)) (gy 92 (by omega) (by omega) (by omega) (by omega) (by omega) (by omega)) (fun k hk j hj => by rw [gy (29 + k) (by omega) (by omega) (by omega) (by omega) (by omega) (by omega)]), a7.keep (by rw [gy 0 (by omega) (by omega) (by omega) (by omega) (by omega) (by omega)]) (g7 13 (by omega)) (gy 70 (by omega) (by omega) (by omega) (by omega) (by omega) (by omega)) (gy 71 (by omega) (by omega) (by omega) (by omega) (by omega) (by omega)) (gy 82 (by omega) (by omega) (by omega) (by omega) (by omega) (by omega)) (gy 83 (by omega) (by omega) (by omega) (by omega) (by omega) (by omega)), a8.keep (by rw [gy 1 (by omega) (by omega) (by omega) (by omega) (by omega) (by omega)]) (g7 17 (by omega)) (gy 67 (by omega) (by omega) (by omega) (by omega) (by omega) (by omega)) (gy 84 (by omega) (by omega) (by omega) (by omega) (by omega) (by omega)), a9.keep (by rw [gy 1 (by omega) (by omega) (by omega) (by omega) (by omega) (by omega)]) (g7 20 (by omega)) (gy 97 (by omega) (by omega) (by omega) (by omega) (by omega) (by omega))⟩
  by_cases e : q = i
  · subst e
    refine ⟨1, by omega, by rw [gx (8 + q) (by omega) (by omega) (by omega)]; exact c82, by rw [g90, pk_us]; rfl, fun _ => ⟨m, sd, by rw [gx (27 + q) (by omega) (by omega) (by omega), show 27 + q = 8 + q + 19 by omega, c27]; exact hf2, by rw [g88]; exact w1, hwf, b1, by rw [gx (8 + q) (by omega) (by omega) (by omega)]; exact c81, by rw [gl89]; exact pk_uLs⟩⟩
  · obtain ⟨kp, z1, z2, z3, z4⟩ := a5 q hq
    refine ⟨kp, z1, by rw [gy (8 + q) (by omega) (by omega) (by omega) (by omega) (by omega) (by omega)]; exact z2, by rw [g90, pk_un e]; exact z3, fun z5 => ?_⟩
    obtain ⟨m2, sd2, y1, y2, y3, y4, y5, y6⟩ := z4 z5
    refine ⟨m2, sd2, by rw [gy (27 + q) (by omega) (by omega) (by omega) (by omega) (by omega) (by omega)]; exact y1, fun j hj => ?_, y3, y4, by rw [gy (8 + q) (by omega) (by omega) (by omega) (by omega) (by omega) (by omega)]; exact y5, by rw [gl89, pk_uLn e]; exact y6⟩
    rw [g88, w2 _ (by omega), c1 88 (by omega) (by omega) (by omega)]
    exact y2 j hj
theorem G26 : ∀ (h : Hp) (p0 : Int32), Rel h → wp_Fe_goBack p0 h (fun v1 h1 => wp_Md_goBack p0 h1 (fun v2 h2 => v1 = v2 ∧ Rel h2)) := by
  intro h p0 hR
  obtain ⟨n, o, a1, ⟨m, a2⟩, a3, a4, a5, a6, a7, a8, a9⟩ := id hR
  have outside : (p0 < 0 ∨ ¬ p0 < 2) → wp_Md_goBack p0 h (fun v2 h2 => (-1000000001 : Int32) = v2 ∧ Rel h2) := fun hc => by
    unfold wp_Md_goBack
    rw [in_f (hc.imp id (fun z => by
      have z2 := Int32.not_lt.mp z
      rw [Int32.lt_iff_toInt_lt]
      rw [Int32.le_iff_toInt_le] at z2
      have e1 : (2 : Int32).toInt = 2 := by decide
      have e2 : (1 : Int32).toInt = 1 := by decide
      omega))]
    exact ⟨fun z => absurd z (by decide), fun _ => ⟨rfl, hR⟩⟩
  unfold wp_Fe_goBack
  refine ⟨fun q => outside (Or.inl q), fun q0 => ⟨fun q1 => ?_, fun q => outside (Or.inr q)⟩⟩
  obtain ⟨i, hi, rfl⟩ := vld_of (n := 2) (by omega) q0 (Int32.not_le.mpr q1)
  have v0 : vp_in (nI i) 2 := vp_in_nI hi (by omega)
  have hin : ∀ {P : Bool → Prop}, wp_Md_in (nI i) 0 1 P ↔ P true := in_t q0 (fun z => absurd ((nI_ltI (a := 1) (by omega) (by omega)).mp z) (by omega))
  obtain ⟨kp, z1, z2, z3, z4⟩ := a5 i hi
  refine ⟨v0, ?_⟩
  rw [cl_nI (n := i) (by omega)]
  refine ⟨fun hk => ?_, fun hk => ?_⟩
  · have hkp : kp = 1 := by
      have : kp ≠ 0 := fun e => hk (by rw [z2, e]; rfl)
      omega
    obtain ⟨m2, sd, y1, y2, y3, y4, y5, y6⟩ := z4 hkp
    refine become_s (by omega) ?_
    dsimp only [lt]
    refine clear_s ?_
    obtain ⟨f, hf⟩ : ∃ f, f = row8 (h.1 (8 + i + 19)) (h.1 26) := ⟨_, rfl⟩
    have hf2 : CS f m2 := y1.keep8 (fun j hj => by rw [hf, show 8 + i + 19 = 27 + i by omega]; simp only [row8, if_pos hj])
    rw [← hf]
    have e3 : (sr h 26 f).1 (8 + i) 1 = nI sd := by rw [sr_ne (by omega)]; exact y5
    rw [e3]
    obtain ⟨h1, hh1⟩ : ∃ h1 : Hp, h1 = wi (wi (wi (sr h 26 f) 3 0 (nI sd)) 2 1 0) 2 2 0 := ⟨_, rfl⟩
    rw [← hh1]
    have c1 : ∀ c, c ≠ 2 → c ≠ 3 → c ≠ 26 → h1.1 c = h.1 c := fun c d1 d2 d3 => by rw [hh1, wi_ne d1, wi_ne d1, wi_ne d2, sr_ne d3]
    have c26 : h1.1 26 = f := by rw [hh1, wi_ne (by omega), wi_ne (by omega), wi_ne (by omega), sr_eq]
    have c30 : h1.1 3 0 = nI sd := by rw [hh1, wi_ne (by omega), wi_ne (by omega), wi_eq, pk_us]
    have c21 : h1.1 2 1 = nI 0 := by rw [hh1, wi_eq, pk_un (by omega), wi_eq, pk_us]; rfl
    have c22 : h1.1 2 2 = nI 0 := by rw [hh1, wi_eq, pk_us]; rfl
    have cl : h1.2 = h.2 := by rw [hh1]; rfl
    have r7 : h1.1 7 = h.1 7 := c1 7 (by omega) (by omega) (by omega)
    (try dsimp only)
    unfold wp_Md_goBack
    rw [hin]
    refine ⟨fun _ => ⟨v0, ?_⟩, fun z => absurd rfl z⟩
    rw [cl_nI (n := i) (by omega), c1 90 (by omega) (by omega) (by omega), z3, hkp]
    refine ⟨fun _ => ?_, fun z => absurd z (by decide)⟩
    rw [show (20 : Int32) * nI i = nI (20 * i) from pk_mul 20 i]
    refine takes_s (m := m2) (Or.inr rfl) (by show 20 * i + 20 ≤ 40; omega) (by rw [c1 88 (by omega) (by omega) (by omega)]; exact y2) (fun g0 w1 w2 w3 w4 => ?_)
    refine ⟨v0, ?_⟩
    dsimp only [lt]
    refine ⟨rfl, ?_⟩
    obtain ⟨g, hg⟩ : ∃ g : Hp, g = wi (wl g0 7 10 (g0.2 89 i)) 7 28 0 := ⟨_, rfl⟩
    rw [← hg]
    have gx : ∀ c, c ≠ 7 → g.1 c = g0.1 c := fun c d1 => by rw [hg, wi_ne d1, wl_1]
    have gy : ∀ c, c ≠ 7 → c ≠ 78 → c ≠ 79 → c ≠ 80 → c ≠ 2 → c ≠ 3 → c ≠ 26 → g.1 c = h.1 c := fun c d1 d2 d3 d4 d5 d6 d7 => by rw [gx c d1, w2 c d1 d2 d3 d4, c1 c d5 d6 d7]
    have g7 : ∀ j, j ≠ 28 → g.1 7 j = g0.1 7 j := fun j d => by rw [hg, wi_eq, pk_un d, wl_1]
    have g7b : ∀ j, j ≠ 28 → (j < 2 ∨ 6 < j) → g.1 7 j = h.1 7 j := fun j d d2 => by rw [g7 j d, w3 j d2, r7]
    have g28 : g.1 7 28 = nI 0 := by rw [hg, wi_eq, pk_us]; rfl
    have g2 : g.1 2 = h1.1 2 := by rw [gx 2 (by omega), w2 2 (by omega) (by omega) (by omega) (by omega)]
    have g3 : g.1 3 = h1.1 3 := by rw [gx 3 (by omega), w2 3 (by omega) (by omega) (by omega) (by omega)]
    have g26 : g.1 26 = f := by rw [gx 26 (by omega), w2 26 (by omega) (by omega) (by omega) (by omega), c26]
    have gl89 : g.2 89 = h.2 89 := by
      rw [hg]
      show (wl g0 7 10 (g0.2 89 i)).2 89 = _
      rw [wl_ne (by omega), w4, cl]
    have gl7 : g.2 7 10 = lN sd := by
      rw [hg]
      show (wl g0 7 10 (g0.2 89 i)).2 7 10 = _
      rw [wl_eq, pk_uLs, w4, cl]
      exact y6
    have ml2 : ML g m2 := w1.keep (g7 2 (by omega)) (g7 3 (by omega)) (g7 4 (by omega)) (g7 5 (by omega)) (g7 6 (by omega)) (gx 78 (by omega)) (gx 79 (by omega)) (gx 80 (by omega))
    exact ⟨n, o, a1.keep (by rw [gy 0 (by omega) (by omega) (by omega) (by omega) (by omega) (by omega) (by omega)]) (g7b 0 (by omega) (by omega)) (gy 69 (by omega) (by omega) (by omega) (by omega) (by omega) (by omega) (by omega)) (gy 77 (by omega) (by omega) (by omega) (by omega) (by omega) (by omega) (by omega)), ⟨m2, by rw [g26]; exact hf2, ml2, y3⟩, ⟨0, 0, fun _ _ => 0, by omega, by omega, by rw [g2]; exact c21, g28, by rw [g2]; exact c22, fun k hk => by omega⟩, ⟨sd, y4, by rw [g3]; exact c30, gl7⟩, a5.keep (gy 8 (by omega) (by omega) (by omega) (by omega) (by omega) (by omega) (by omega)) (gy 9 (by omega) (by omega) (by omega) (by omega) (by omega) (by omega) (by omega)) (gy 27 (by omega) (by omega) (by omega) (by omega) (by omega) (by omega) (by omega)) (gy 28 (by omega) (by omega) (by omega) (by omega) (by omega) (by omega) (by omega)) (gy 90 (by omega) (by omega) (by omega) (by omega) (by omega) (by omega) (by omega)) (gy 88 (by omega) (by omega) (by omega) (by omega) (by omega) (by omega) (by omega)) gl89, a6.keep (by rw [gy 0 (by omega) (by omega) (by omega) (by omega) (by omega) (by omega) (by omega)]) (g7b 11 (by omega) (by omega)) (gy 81 (by omega) (by omega) (by omega) (by omega) (by omega) (by omega) (by omega)) (gy 92 (by omega) (by omega) (by omega) (by omega) (by omega) (by omega) (by omega)) (fun k hk j hj => by rw [gy (29 + k) (by omega) (by omega) (by omega) (by omega) (by omega) (by omega) (by omega)]), a7.keep (by rw [gy 0 (by omega) (by omega) (by omega) (by omega) (by omega) (by omega) (by omega)]) (g7b 13 (by omega) (by omega)) (gy 70 (by omega) (by omega) (by omega) (by omega) (by omega) (by omega) (by omega)) (gy 71 (by omega) (by omega) (by omega) (by omega) (by omega) (by omega) (by omega)) (gy 82 (by omega) (by omega) (by omega) (by omega) (by omega) (by omega) (by omega)) (gy 83 (by omega) (by omega) (by omega) (by omega) (by omega) (by omega) (by omega)), a8.keep (by rw [gy 1 (by omega) (by omega) (by omega) (by omega) (by omega) (by omega) (by omega)]) (g7b 17 (by omega) (by omega)) (gy 67 (by omega) (by omega) (by omega) (by omega) (by omega) (by omega) (by omega)) (gy 84 (by omega) (by omega) (by omega) (by omega) (by omega) (by omega) (by omega)), a9.keep (by rw [gy 1 (by omega) (by omega) (by omega) (by omega) (by omega) (by omega) (by omega)]) (g7b 20 (by omega) (by omega)) (gy 97 (by omega) (by omega) (by omega) (by omega) (by omega) (by omega) (by omega))⟩
  · have hkp : kp = 0 := (nI_zero (by omega)).mp (by rw [← z2]; exact hk)
    (try dsimp only [lt])
    unfold wp_Md_goBack
    rw [hin]
    refine ⟨fun _ => ⟨v0, ?_⟩, fun z => absurd rfl z⟩
    rw [cl_nI (n := i) (by omega), z3, hkp]
    exact ⟨fun z => absurd rfl z, fun _ => ⟨rfl, hR⟩⟩
end
