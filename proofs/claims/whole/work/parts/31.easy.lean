section
theorem nI_inj {a b : Nat} (ha : a < 2 ^ 31) (hb : b < 2 ^ 31) (h : nI a = nI b) : a = b := (nI_eq ha hb).mp h
theorem cl_nI {n : Nat} (h : n < 2 ^ 31) : (nI n).toNatClampNeg = n := nI_clamp h
theorem G2 : ∀ (h : Hp), Rel h → wp_Fe_fault h (fun v1 => wp_Md_fault h (fun v2 => v1 = v2 ∧ Rel h)) := by
  intro h hR
  obtain ⟨n, o, a1, a2, a3, a4, a5, a6, a7, a8, a9⟩ := id hR
  exact ⟨a9.1, hR⟩
theorem G24 : ∀ (h : Hp) (p0 : Int32), Rel h → wp_Fe_seed p0 h (fun v1 h1 => wp_Md_seed p0 h1 (fun v2 h2 => v1 = v2 ∧ Rel h2)) := by
  intro h p0 hR
  obtain ⟨n, o, a1, ⟨m, a2⟩, a3, ⟨sd, b1, b2, b3⟩, a5, a6, a7, a8, a9⟩ := id hR
  refine ⟨fun q => ?_, fun q => ⟨fun z => absurd z q, fun _ => ⟨rfl, hR⟩⟩⟩
  refine ⟨fun _ => ⟨?_, n, o, a1.keep rfl rfl rfl rfl, ⟨m, a2.keep rfl rfl rfl rfl rfl rfl rfl rfl rfl⟩, a3.keep rfl rfl rfl (fun c _ _ => wi_ne (by omega)), ?_, a5.keep rfl rfl rfl rfl rfl rfl rfl, a6.keep rfl rfl rfl rfl (fun k _ j _ => congrFun (wi_ne (by omega)) j), a7.keep rfl rfl rfl rfl rfl rfl, a8.keep rfl rfl rfl rfl, a9.keep rfl rfl rfl⟩, fun z => absurd q z⟩
  · show h.1 3 0 = (h.2 7 10).toInt32
    rw [b2, b3, lN_i]
  · obtain ⟨j, hj, e⟩ := nI_of (x := p0) (Int32.not_lt.mpr q)
    refine ⟨j, hj, ?_, ?_⟩
    · show p0 = nI j
      exact e
    · show p0.toInt64 = lN j
      rw [e, nI_l hj]
theorem G22 : ∀ (h : Hp), Rel h → wp_Fe_tear h (fun v1 h1 => wp_Md_tear h1 (fun v2 h2 => v1 = v2 ∧ Rel h2)) := by
  intro h hR
  obtain ⟨n, o, a1, ⟨m, a2⟩, a3, a4, a5, ⟨sc, c1, c2, c3, c4⟩, ⟨bc, d1, d2, d3, d4⟩, a8, a9⟩ := id hR
  refine ⟨?_, n, o, a1.keep rfl rfl rfl rfl, ⟨m, a2.keep rfl rfl rfl rfl rfl rfl rfl rfl rfl⟩, a3.keep rfl rfl rfl (fun c _ _ => ?_), a4.keep rfl rfl, a5.keep rfl rfl rfl rfl rfl rfl rfl, ⟨0, by omega, rfl, rfl, fun k hk => by omega⟩, ⟨0, by omega, rfl, rfl, fun k hk => by omega⟩, a8.keep rfl rfl rfl rfl, a9.keep rfl rfl rfl⟩
  · show h.1 0 8 + h.1 0 11 = h.1 7 11 + h.1 7 13
    rw [c2, c3, d2, d3]
  · rw [wi_ne (by omega), wi_ne (by omega), wi_ne (by omega), wi_ne (by omega)]
theorem G21 : ∀ (h : Hp) (p0 p1 : Int32), Rel h → wp_Fe_write p0 p1 h (fun v1 h1 => wp_Md_write p0 p1 h1 (fun v2 h2 => v1 = v2 ∧ Rel h2)) := by
  intro h p0 p1 hR
  obtain ⟨n, o, a1, ⟨m, a2⟩, a3, a4, a5, a6, ⟨bc, d1, d2, d3, d4⟩, a8, a9⟩ := id hR
  have hw := a1.1
  have hw2 := a1.2.1
  have hn := a1.2.2.1
  unfold wp_Fe_write
  by_cases h0 : vld n p0
  · rw [isN_t hw hn h0]
    refine ⟨fun z => absurd rfl z, fun _ => ?_⟩
    by_cases h1 : vld n p1
    · rw [isN_t hw hn h1]
      refine ⟨fun _ => ⟨fun q => ?_, fun q => ?_⟩, fun z => absurd rfl z⟩
      · rw [d2] at q
        have hb : bc < 15 := (nI_ltI (b := 15) (by omega) (by omega)).mp q
        have hv : vp_in (nI bc) 15 := vp_in_nI hb (by omega)
        refine ⟨by rw [d2]; exact hv, by show vp_in (h.1 0 11) 15; rw [d2]; exact hv, ?_⟩
        (try dsimp only [lt])
        unfold wp_Md_write
        rw [isW_t (by exact hw2) hn h0]
        refine ⟨fun z => absurd rfl z, fun _ => ?_⟩
        rw [isW_t (by exact hw2) hn h1]
        refine ⟨fun _ => ⟨fun _ => ?_, fun z => ?_⟩, fun z => absurd rfl z⟩
        · refine ⟨by show vp_in (h.1 7 13) 15; rw [d3]; exact hv, by show vp_in (h.1 7 13) 15; rw [d3]; exact hv, ?_, n, o, a1.keep rfl rfl rfl rfl, ⟨m, a2.keep rfl rfl rfl rfl rfl rfl rfl rfl rfl⟩, a3.keep rfl rfl rfl (fun c _ _ => ?_), a4.keep rfl rfl, a5.keep rfl rfl rfl rfl rfl rfl rfl, a6.keep rfl rfl rfl rfl (fun k _ j _ => ?_), ⟨bc + 1, by omega, ?_, ?_, fun k hk => ?_⟩, a8.keep rfl rfl rfl rfl, a9.keep rfl rfl rfl⟩
          · show h.1 0 11 + 1 = h.1 7 13 + 1
            rw [d2, d3]
          · rw [wi_ne (by omega), wi_ne (by omega), wi_ne (by omega), wi_ne (by omega), wi_ne (by omega), wi_ne (by omega)]
          · rw [wi_ne (by omega), wi_ne (by omega), wi_ne (by omega), wi_ne (by omega), wi_ne (by omega), wi_ne (by omega)]
          · show h.1 0 11 + 1 = nI (bc + 1)
            rw [d2, nI_1]
          · show h.1 7 13 + 1 = nI (bc + 1)
            rw [d3, nI_1]
          · show ∃ e w, e < n ∧ w < n ∧ upd (h.1 70) (h.1 0 11).toNatClampNeg p0 k = nI e ∧ upd (h.1 82) (h.1 7 13).toNatClampNeg p0 k = nI e ∧ upd (h.1 71) (h.1 0 11).toNatClampNeg p1 k = nI w ∧ upd (h.1 83) (h.1 7 13).toNatClampNeg p1 k = nI w
            rw [d2, d3, cl_nI (by omega)]
            by_cases e : k = bc
            · obtain ⟨i, hi, ei⟩ := h0
              obtain ⟨j, hj, ej⟩ := h1
              subst e
              exact ⟨i, j, hi, hj, by rw [pk_us, ei], by rw [pk_us, ei], by rw [pk_us, ej], by rw [pk_us, ej]⟩
            · rw [pk_un e, pk_un e, pk_un e, pk_un e]
              exact d4 k (by omega)
        · have z2 : h.1 7 13 = 15 := z
          rw [d3] at z2
          have := nI_inj (a := bc) (b := 15) (by omega) (by omega) z2
          omega
      · rw [d2] at q
        have hb : bc = 15 := by
          have : ¬ bc < 15 := fun z => q ((nI_ltI (b := 15) (by omega) (by omega)).mpr z)
          omega
        subst hb
        (try dsimp only [lt])
        unfold wp_Md_write
        rw [isW_t hw2 hn h0]
        refine ⟨fun z => absurd rfl z, fun _ => ?_⟩
        rw [isW_t hw2 hn h1]
        exact ⟨fun _ => ⟨fun z => absurd d3 z, fun _ => ⟨rfl, hR⟩⟩, fun z => absurd rfl z⟩
    · rw [isN_f hw hn h1]
      refine ⟨fun z => absurd z (by decide), fun _ => ?_⟩
      (try dsimp only [lt])
      unfold wp_Md_write
      rw [isW_t hw2 hn h0]
      refine ⟨fun z => absurd rfl z, fun _ => ?_⟩
      rw [isW_f hw2 hn h1]
      exact ⟨fun z => absurd z (by decide), fun _ => ⟨rfl, hR⟩⟩
  · rw [isN_f hw hn h0]
    refine ⟨fun _ => ?_, fun z => absurd z (by decide)⟩
    (try dsimp only [lt])
    unfold wp_Md_write
    rw [isW_f hw2 hn h0]
    exact ⟨fun _ => ⟨rfl, hR⟩, fun z => absurd z (by decide)⟩
theorem G0 : ∀ (h : Hp) (p0 : Int32), Rel h → wp_Fe_feed p0 h (fun v1 h1 => wp_Md_feed p0 h1 (fun v2 h2 => v1 = v2 ∧ Rel h2)) := by
  intro h p0 hR
  obtain ⟨n, o, a1, ⟨m, a2⟩, a3, a4, a5, a6, a7, ⟨tc, d1, d2, d3, d4⟩, a9⟩ := id hR
  unfold wp_Fe_feed
  by_cases h0 : p0 < 0
  · refine ⟨fun _ => ?_, fun z => absurd h0 z⟩
    (try dsimp only [lt])
    unfold wp_Md_feed
    rw [in_f (Or.inl h0)]
    exact ⟨fun z => absurd z (by decide), fun _ => ⟨rfl, hR⟩⟩
  refine ⟨fun z => absurd z h0, fun _ => ?_⟩
  by_cases h1 : p0 ≤ 255
  · refine ⟨fun _ => ?_, fun z => absurd h1 z⟩
    obtain ⟨x, hx, ex⟩ := nI_of2 (x := p0) (M := 255) (n := 255) (by decide) h0 h1
    unfold wp_Reading_add
    refine ⟨fun z => absurd z (by rw [d2]; exact nI_pos (by omega)), fun _ => ⟨fun q => ?_, fun q => ?_⟩⟩
    · rw [d2] at q
      have hb : tc < 240 := (nI_ltI (b := 240) (by omega) (by omega)).mp q
      have hv : vp_in (nI tc) 240 := vp_in_nI hb (by omega)
      refine ⟨by rw [d2]; exact hv, fun z => absurd rfl z, fun _ => ?_⟩
      (try dsimp only [lt])
      unfold wp_Md_feed
      rw [in_t h0 (Int32.not_lt.mpr h1)]
      refine ⟨fun _ => ⟨fun _ => ?_, fun z => ?_⟩, fun z => absurd rfl z⟩
      · refine ⟨by show vp_in (h.1 7 17) 240; rw [d3]; exact hv, ?_, n, o, a1.keep rfl rfl rfl rfl, ⟨m, a2.keep rfl rfl rfl rfl rfl rfl rfl rfl rfl⟩, a3.keep rfl rfl rfl (fun c _ _ => ?_), a4.keep rfl rfl, a5.keep rfl rfl rfl rfl rfl rfl rfl, a6.keep rfl rfl rfl rfl (fun k _ j _ => ?_), a7.keep rfl rfl rfl rfl rfl rfl, ⟨tc + 1, by omega, ?_, ?_, fun k hk => ?_⟩, a9.keep rfl rfl rfl⟩
        · show h.1 1 1 + 1 = h.1 7 17 + 1
          rw [d2, d3]
        · rw [wi_ne (by omega), wi_ne (by omega), wi_ne (by omega), wi_ne (by omega)]
        · rw [wi_ne (by omega), wi_ne (by omega), wi_ne (by omega), wi_ne (by omega)]
        · show h.1 1 1 + 1 = nI (tc + 1)
          rw [d2, nI_1]
        · show h.1 7 17 + 1 = nI (tc + 1)
          rw [d3, nI_1]
        · show ∃ y, y < 256 ∧ upd (h.1 67) (h.1 1 1).toNatClampNeg p0 k = nI y ∧ upd (h.1 84) (h.1 7 17).toNatClampNeg p0 k = nI y
          rw [d2, d3, cl_nI (by omega)]
          by_cases e : k = tc
          · subst e
            exact ⟨x, by omega, by rw [pk_us, ex], by rw [pk_us, ex]⟩
          · rw [pk_un e, pk_un e]
            exact d4 k (by omega)
      · have z2 : h.1 7 17 = 240 := z
        rw [d3] at z2
        have := nI_inj (a := tc) (b := 240) (by omega) (by omega) z2
        omega
    · rw [d2] at q
      have hb : tc = 240 := by
        have : ¬ tc < 240 := fun z => q ((nI_ltI (b := 240) (by omega) (by omega)).mpr z)
        omega
      subst hb
      refine ⟨fun _ => ?_, fun z => absurd z (by decide)⟩
      (try dsimp only [lt])
      unfold wp_Md_feed
      rw [in_t h0 (Int32.not_lt.mpr h1)]
      exact ⟨fun _ => ⟨fun z => absurd d3 z, fun _ => ⟨rfl, hR⟩⟩, fun z => absurd rfl z⟩
  · refine ⟨fun z => absurd z h1, fun _ => ?_⟩
    (try dsimp only [lt])
    unfold wp_Md_feed
    rw [in_f (Or.inr (Int32.not_le.mp h1))]
    exact ⟨fun z => absurd z (by decide), fun _ => ⟨rfl, hR⟩⟩
/-! dry -/
theorem dry_eq : ∀ (n : Nat) (a b : Int32) (x : Int64) (i : Int32) (E : Int64 → Prop), lp_Fe_dry_30 n a b x i E ↔ lp_Md_dry_30 n a b x i E := by
  intro n
  induction n with
  | zero => intro a b x i E; exact Iff.rfl
  | succ n ih =>
    intro a b x i E
    unfold lp_Fe_dry_30 lp_Md_dry_30
    dsimp only [lt]
    rw [ih]
theorem dry_end {N : Nat} (hN : N ≤ 60) (b : Int32) : ∀ (k i : Nat) (x : Int64), i ≤ N → N ≤ i + k → ∃ (n : Nat) (y : Int64), ∀ E : Int64 → Prop, E y → lp_Fe_dry_30 n (nI N) b x (nI i) E := by
  intro k
  induction k with
  | zero =>
    intro i x h1 h2
    refine ⟨1, x, fun E hE => ?_⟩
    have e : i = N := by omega
    subst e
    unfold lp_Fe_dry_30
    exact ⟨fun _ => hE, fun z => absurd (nI_le (Nat.le_refl i) (by omega)) z⟩
  | succ k ih =>
    intro i x h1 h2
    by_cases e : i = N
    · refine ⟨1, x, fun E hE => ?_⟩
      subst e
      unfold lp_Fe_dry_30
      exact ⟨fun _ => hE, fun z => absurd (nI_le (Nat.le_refl i) (by omega)) z⟩
    · obtain ⟨n, y, hy⟩ := ih (i + 1) (x * b.toInt64 / 100) (by omega) (by omega)
      refine ⟨n + 1, y, fun E hE => ?_⟩
      unfold lp_Fe_dry_30
      refine ⟨fun z => absurd z (nI_ge (by omega) (by omega)), fun _ => ?_⟩
      dsimp only [lt]
      rw [nI_1]
      exact hy E hE
theorem G19 : ∀ (h : Hp) (p0 p1 : Int32), Rel h → wp_Fe_dry p0 p1 (fun v1 => wp_Md_dry p0 p1 (fun v2 => v1 = v2 ∧ Rel h)) := by
  intro h p0 p1 hR
  have out : ∀ (v : Int32), v = -1000000002 → (p0 < 0 ∨ 60 < p0 ∨ p1 < 0 ∨ ¬ p1 ≤ 100) → wp_Md_dry p0 p1 (fun v2 => v = v2 ∧ Rel h) := by
    intro v hv hc
    (try dsimp only [lt])
    unfold wp_Md_dry
    by_cases q1 : p0 < 0
    · rw [in_f (Or.inl q1)]
      exact ⟨fun _ => ⟨hv, hR⟩, fun z => absurd z (by decide)⟩
    by_cases q2 : 60 < p0
    · rw [in_f (Or.inr q2)]
      exact ⟨fun _ => ⟨hv, hR⟩, fun z => absurd z (by decide)⟩
    rw [in_t q1 q2]
    refine ⟨fun z => absurd rfl z, fun _ => ?_⟩
    have hc2 : p1 < 0 ∨ 100 < p1 := ((hc.resolve_left q1).resolve_left q2).imp id (fun z => Int32.not_le.mp z)
    rw [in_f hc2]
    exact ⟨fun z => absurd z (by decide), fun _ => ⟨hv, hR⟩⟩
  unfold wp_Fe_dry
  refine ⟨fun q => out _ rfl (Or.inl q), fun q1 => ⟨fun q => out _ rfl (Or.inr (Or.inl q)), fun q2 => ⟨fun q => out _ rfl (Or.inr (Or.inr (Or.inl q))), fun q3 => ⟨fun q4 => ?_, fun q => out _ rfl (Or.inr (Or.inr (Or.inr q)))⟩⟩⟩⟩
  obtain ⟨N, hN, eN⟩ := nI_of2 (x := p0) (M := 60) (n := 60) (by decide) q1 (Int32.not_lt.mp q2)
  subst eN
  obtain ⟨n, y, hy⟩ := dry_end hN p1 60 0 1000000000 (by omega) (by omega)
  refine ⟨n, hy _ ?_⟩
  (try dsimp only [lt])
  unfold wp_Md_dry
  rw [in_t q1 q2]
  refine ⟨fun z => absurd rfl z, fun _ => ?_⟩
  rw [in_t q3 (Int32.not_lt.mpr q4)]
  refine ⟨fun _ => ⟨n, (dry_eq _ _ _ _ _ _).mp (hy _ ⟨rfl, hR⟩)⟩, fun z => absurd rfl z⟩
end
