section
theorem nodeOf_s {p a : Nat} (hp : p ≤ 1) (ha : a < 5) {P : Int32 → Prop} (k : P (nI (5 * p + a))) : wp_Fe_nodeOf (nI p) (nI a) P := by
  unfold wp_Fe_nodeOf
  have hm : ¬ nI a = -1 := fun e => (nI_pos (n := a) (by omega)) (by rw [e]; decide)
  refine ⟨fun _ => ⟨fun q => ?_, fun q => ?_⟩, fun z => absurd z hm⟩
  · have : p ≠ 0 := fun e => q (by rw [e]; rfl)
    rw [show p = 1 by omega] at k
    rw [show (5 : Int32) + nI a = nI (5 + a) from nI_add 5 a]; exact k
  · rw [(nI_zero (by omega)).mp q, Nat.mul_zero, Nat.zero_add] at k; exact k
theorem nodeOf_e {p : Nat} {P : Int32 → Prop} (k : P (nI 10)) : wp_Fe_nodeOf (nI p) (-1) P := ⟨fun z => absurd rfl z, fun _ => k⟩
theorem take_s {r : Nat} {h : Hp} {v1 v2 p3 : Int32} {P : Hp → Prop} (hr : 26 ≠ r) (hp : p3 = 0 ∨ p3 = 1) (k : ∀ f : Nat → Int32, f 0 = h.1 26 2 → f 1 = h.1 26 3 → f 2 = h.1 26 5 → f 3 = v1 → f 4 = v2 → f 5 = p3 → P (sr h r f)) : wp_Seen_take r 26 v1 v2 p3 h P := by
  unfold wp_Seen_take
  dsimp only [lt]
  simp only [wi1, if_neg hr]
  refine ⟨hp, ?_⟩
  have e : wi (wi (wi (wi (wi (wi h r 0 (h.1 26 2)) r 1 (h.1 26 3)) r 2 (h.1 26 5)) r 3 v1) r 4 v2) r 5 p3 = sr h r (upd (upd (upd (upd (upd (upd (h.1 r) 0 (h.1 26 2)) 1 (h.1 26 3)) 2 (h.1 26 5)) 3 v1) 4 v2) 5 p3) := by
    refine hp_ext (fun c => ?_) rfl
    simp only [wi1, sr1]
    by_cases e : c = r <;> simp [e]
  rw [e]
  exact k _ rfl rfl rfl rfl rfl rfl
theorem see_lp {b : Nat} (hk : b + 14 ≤ 112) : ∀ (k i : Nat) (g : Hp) (E : Hp → Prop), i + k = 5 → (∀ g2 : Hp, (∀ w, i ≤ w → w < 5 → g2.1 81 (b + 5 + w) = g.1 79 w ∧ g2.1 92 (b + 5 + w) = g.1 80 w) → (∀ j, (∀ w, i ≤ w → w < 5 → j ≠ b + 5 + w) → g2.1 81 j = g.1 81 j ∧ g2.1 92 j = g.1 92 j) → (∀ c, c ≠ 81 → c ≠ 92 → g2.1 c = g.1 c) → g2.2 = g.2 → E g2) → ∃ n, lp_Md_see_98 n (nI b) (nI i) g E := by
  intro k
  induction k with
  | zero =>
    intro i g E hi hE
    refine ⟨1, ?_⟩
    unfold lp_Md_see_98
    have e : i = 5 := by omega
    subst e
    exact ⟨fun _ => hE g (fun w h1 h2 => by omega) (fun j _ => ⟨rfl, rfl⟩) (fun c _ _ => rfl) rfl, fun z => absurd (nI_le (a := 5) (b := 5) (by omega) (by omega)) z⟩
  | succ k ih =>
    intro i g E hi hE
    have r0 : ∀ c, c ≠ 81 → c ≠ 92 → (wi (wi g 81 (b + 5 + i) (g.1 79 i)) 92 (b + 5 + i) (g.1 80 i)).1 c = g.1 c := fun c h1 h2 => by rw [wi_ne h2, wi_ne h1]
    have r81 : (wi (wi g 81 (b + 5 + i) (g.1 79 i)) 92 (b + 5 + i) (g.1 80 i)).1 81 = upd (g.1 81) (b + 5 + i) (g.1 79 i) := rfl
    have r92 : (wi (wi g 81 (b + 5 + i) (g.1 79 i)) 92 (b + 5 + i) (g.1 80 i)).1 92 = upd (g.1 92) (b + 5 + i) (g.1 80 i) := rfl
    obtain ⟨n, hn⟩ := ih (i + 1) (wi (wi g 81 (b + 5 + i) (g.1 79 i)) 92 (b + 5 + i) (g.1 80 i)) E (by omega) (fun g2 q1 q2 q3 q4 => hE g2 (fun w h1 h2 => by
      by_cases e : w = i
      · subst e
        have q := q2 (b + 5 + w) (fun v _ _ => by omega)
        rw [r81, r92, pk_us, pk_us] at q
        exact q
      · have q := q1 w (by omega) h2
        rw [r0 79 (by omega) (by omega), r0 80 (by omega) (by omega)] at q
        exact q) (fun j hj => by
        have q := q2 j (fun w h1 h2 => hj w (by omega) h2)
        rw [r81, r92, pk_un (hj i (Nat.le_refl i) (by omega)), pk_un (hj i (Nat.le_refl i) (by omega))] at q
        exact q) (fun c h1 h2 => by rw [q3 c h1 h2, r0 c h1 h2]) q4)
    refine ⟨n + 1, ?_⟩
    unfold lp_Md_see_98
    refine ⟨fun z => absurd z (nI_ge (a := i) (b := 5) (by omega) (by omega)), fun _ => ?_⟩
    have v0 : vp_in (nI i) 5 := vp_in_nI (by omega) (by omega)
    have e5 : nI b + 5 + nI i = nI (b + 5 + i) := by rw [show nI b + 5 = nI (b + 5) from nI_add b 5, nI_add]
    dsimp only [lt]
    rw [e5, cl_nI (n := i) (by omega), cl_nI (n := b + 5 + i) (by omega), nI_1]
    have v1 : vp_in (nI (b + 5 + i)) 112 := vp_in_nI (by omega) (by omega)
    refine ⟨v0, v1, v0, v1, ?_⟩
    rw [wi_ne (show (80 : Nat) ≠ 81 by decide)]
    exact hn
theorem G20 : ∀ (h : Hp) (p0 p1 p2 : Int32), Rel h → (p2 = 0 ∨ p2 = 1) → wp_Fe_see p0 p1 p2 h (fun v1 h1 => wp_Md_see p0 p1 p2 h1 (fun v2 h2 => v1 = v2 ∧ Rel h2)) := by
  intro h p0 p1 p2 hR hp2
  obtain ⟨n, o, a1, ⟨m, a2⟩, a3, a4, a5, ⟨sc, c1, c2, c3, c4⟩, a7, a8, a9⟩ := id hR
  obtain ⟨hcs, hml, hwf⟩ := id a2
  have hw := a1.1
  have hw2 := a1.2.1
  have hn := a1.2.2.1
  unfold wp_Fe_see
  by_cases hh : hold n p0 p1
  · rw [can_t hw hn hh]
    refine ⟨fun _ => ⟨fun q => ?_, fun q => ?_⟩, fun z => absurd rfl z⟩
    · rw [c2] at q
      have hs : sc < 8 := (nI_ltI (b := 8) (by omega) (by omega)).mp q
      refine ⟨by rw [c2]; exact vp_in_nI hs (by omega), ?_⟩
      rw [c2, cl_nI (n := sc) (by omega), hcs.2.2.2.2.1]
      obtain ⟨⟨a, ha, ea⟩, hb⟩ := id hh
      have hpl := hwf.1
      -- the node of b
      obtain ⟨bn, hbn⟩ : ∃ bn : Nat, (p1 = -1 ∧ bn = 10) ∨ ∃ c, c < n ∧ c ≠ a ∧ p1 = nI c ∧ bn = 5 * m 0 + c := by
        rcases hb with e | ⟨⟨c, hc, ec⟩, hne⟩
        · exact ⟨10, Or.inl ⟨e, rfl⟩⟩
        · exact ⟨5 * m 0 + c, Or.inr ⟨c, hc, fun e => hne (by rw [ea, ec, e]), ec, rfl⟩⟩
      rw [ea]
      refine nodeOf_s hpl (by omega) ?_
      have hnb : ∀ {Q : Int32 → Prop}, Q (nI bn) → wp_Fe_nodeOf (nI (m 0)) p1 Q := fun {Q} hq => by
        rcases hbn with ⟨e, e2⟩ | ⟨c, hc, _, ec, e2⟩
        · rw [e]; rw [e2] at hq; exact nodeOf_e hq
        · rw [ec]; rw [e2] at hq; exact nodeOf_s hpl (by omega) hq
      refine hnb ?_
      refine take_s (by omega) hp2 (fun f f0 f1 f2 f3 f4 f5 => ?_)
      dsimp only [lt]
      have e08 : (sr h (29 + sc) f).1 0 8 = nI sc := by rw [sr_ne (by omega)]; exact c2
      rw [e08, nI_1, wi_eq, pk_us]
      obtain ⟨h1, hh1⟩ : ∃ h1 : Hp, h1 = wi (sr h (29 + sc) f) 0 8 (nI (sc + 1)) := ⟨_, rfl⟩
      rw [← hh1]
      have d1 : ∀ c, c ≠ 0 → c ≠ 29 + sc → h1.1 c = h.1 c := fun c e1 e2 => by rw [hh1, wi_ne e1, sr_ne e2]
      have d0 : ∀ j, j ≠ 8 → h1.1 0 j = h.1 0 j := fun j hj => by rw [hh1, wi_eq, pk_un hj, sr_ne (by omega)]
      have d08 : h1.1 0 8 = nI (sc + 1) := by rw [hh1, wi_eq, pk_us]
      have d29 : h1.1 (29 + sc) = f := by rw [hh1, wi_ne (by omega), sr_eq]
      have dl : h1.2 = h.2 := by rw [hh1]; rfl
      have r7 : h1.1 7 = h.1 7 := d1 7 (by omega) (by omega)
      unfold wp_Md_see
      rw [← ea, ends_t (by rw [r7]; exact hw2) hn hh]
      refine ⟨fun _ => ⟨fun _ => ?_, fun z => ?_⟩, fun z => absurd rfl z⟩
      · rw [r7, c3, show (14 : Int32) * nI sc = nI (14 * sc) from pk_mul 14 sc]
        dsimp only [lt, jn]
        have i1 : nI (14 * sc) + 1 = nI (14 * sc + 1) := nI_add _ 1
        have i2 : nI (14 * sc) + 2 = nI (14 * sc + 2) := nI_add _ 2
        have i3 : nI (14 * sc) + 3 = nI (14 * sc + 3) := nI_add _ 3
        have i4 : nI (14 * sc) + 4 = nI (14 * sc + 4) := nI_add _ 4
        rw [i1, i2, i3, i4, cl_nI (n := 14 * sc) (by omega), cl_nI (n := 14 * sc + 1) (by omega), cl_nI (n := 14 * sc + 2) (by omega), cl_nI (n := 14 * sc + 3) (by omega), cl_nI (n := 14 * sc + 4) (by omega)]
        refine ⟨vp_in_nI (by omega) (by omega), vp_in_nI (by omega) (by omega), vp_in_nI (by omega) (by omega), vp_in_nI (by omega) (by omega), ?_⟩
        rw [wi_ne (show (7 : Nat) ≠ 81 by decide), r7, hml.1, hml.2.1]
        obtain ⟨rg, hrg, erg⟩ : ∃ rg : Nat, rg ≤ 1 ∧ p2 = nI rg := by
          rcases hp2 with e | e
          · exact ⟨0, by omega, e⟩
          · exact ⟨1, by omega, e⟩
        have fin : ∀ z : Int32, z = p2 → (vp_in (nI (14 * sc + 4)) 112 ∧ ∃ n98, lp_Md_see_98 n98 (nI (14 * sc)) 0 (wi (wi (wi (wi (wi h1 81 (14 * sc) (nI (m 0))) 81 (14 * sc + 1) (nI (m 1))) 81 (14 * sc + 2) p0) 81 (14 * sc + 3) p1) 81 (14 * sc + 4) z) fun h98x => nI (sc + 1) = (wi h98x 7 11 (h98x.1 7 11 + 1)).1 7 11 ∧ Rel (wi h98x 7 11 (h98x.1 7 11 + 1))) := fun z hz => by
          refine ⟨vp_in_nI (by omega) (by omega), ?_⟩
          obtain ⟨g, hg⟩ : ∃ g : Hp, g = wi (wi (wi (wi (wi h1 81 (14 * sc) (nI (m 0))) 81 (14 * sc + 1) (nI (m 1))) 81 (14 * sc + 2) p0) 81 (14 * sc + 3) p1) 81 (14 * sc + 4) z := ⟨_, rfl⟩
          rw [← hg]
          have gc : ∀ c, c ≠ 81 → g.1 c = h1.1 c := fun c hc => by rw [hg, wi_ne hc, wi_ne hc, wi_ne hc, wi_ne hc, wi_ne hc]
          have g81 : ∀ j, g.1 81 j = if j = 14 * sc + 4 then z else if j = 14 * sc + 3 then p1 else if j = 14 * sc + 2 then p0 else if j = 14 * sc + 1 then nI (m 1) else if j = 14 * sc then nI (m 0) else h1.1 81 j := fun j => by rw [hg]; rfl
          refine see_lp (b := 14 * sc) (by omega) 5 0 g _ (by omega) (fun g2 q1 q2 q3 q4 => ?_)
          have q7 : g2.1 7 = h.1 7 := by rw [q3 7 (by omega) (by omega), gc 7 (by omega), r7]
          rw [q7, c3, nI_1, wi_eq, pk_us]
          refine ⟨rfl, ?_⟩
          obtain ⟨G, hG⟩ : ∃ G : Hp, G = wi g2 7 11 (nI (sc + 1)) := ⟨_, rfl⟩
          rw [← hG]
          have G7 : ∀ j, j ≠ 11 → G.1 7 j = h.1 7 j := fun j hj => by rw [hG, wi_eq, pk_un hj, q7]
          have G711 : G.1 7 11 = nI (sc + 1) := by rw [hG, wi_eq, pk_us]
          have Gc : ∀ c, c ≠ 7 → c ≠ 81 → c ≠ 92 → c ≠ 0 → c ≠ 29 + sc → G.1 c = h.1 c := fun c e1 e2 e3 e4 e5 => by rw [hG, wi_ne e1, q3 c e2 e3, gc c e2, d1 c e4 e5]
          have G0 : G.1 0 = h1.1 0 := by rw [hG, wi_ne (by omega), q3 0 (by omega) (by omega), gc 0 (by omega)]
          have G29 : G.1 (29 + sc) = f := by rw [hG, wi_ne (by omega), q3 _ (by omega) (by omega), gc _ (by omega), d29]
          have G81 : G.1 81 = g2.1 81 := by rw [hG, wi_ne (by omega)]
          have G92 : G.1 92 = g2.1 92 := by rw [hG, wi_ne (by omega)]
          have Gl : G.2 = h.2 := by
            rw [hG]
            show g2.2 = h.2
            rw [q4, hg]
            exact dl
          have o81 : ∀ j, j < 14 * sc → g2.1 81 j = h.1 81 j ∧ g2.1 92 j = h.1 92 j := fun j hj => by
            obtain ⟨y1, y2⟩ := q2 j (fun w _ _ => by omega)
            rw [y1, y2, g81, if_neg (by omega), if_neg (by omega), if_neg (by omega), if_neg (by omega), if_neg (by omega), d1 81 (by omega) (by omega), gc 92 (by omega), d1 92 (by omega) (by omega)]
            exact ⟨rfl, rfl⟩
          have n81 : ∀ j, 14 * sc ≤ j → j ≤ 14 * sc + 4 → g2.1 81 j = g.1 81 j := fun j h1 h2 => (q2 j (fun w _ _ => by omega)).1
          refine ⟨n, o, a1.keep (by rw [G0, d0 1 (by omega)]) (G7 0 (by omega)) (Gc 69 (by omega) (by omega) (by omega) (by omega) (by omega)) (Gc 77 (by omega) (by omega) (by omega) (by omega) (by omega)), ⟨m, a2.keep (Gc 26 (by omega) (by omega) (by omega) (by omega) (by omega)) (G7 2 (by omega)) (G7 3 (by omega)) (G7 4 (by omega)) (G7 5 (by omega)) (G7 6 (by omega)) (Gc 78 (by omega) (by omega) (by omega) (by omega) (by omega)) (Gc 79 (by omega) (by omega) (by omega) (by omega) (by omega)) (Gc 80 (by omega) (by omega) (by omega) (by omega) (by omega))⟩, a3.keep (Gc 2 (by omega) (by omega) (by omega) (by omega) (by omega)) (G7 28 (by omega)) (Gc 87 (by omega) (by omega) (by omega) (by omega) (by omega)) (fun c _ _ => Gc c (by omega) (by omega) (by omega) (by omega) (by omega)), a4.keep (Gc 3 (by omega) (by omega) (by omega) (by omega) (by omega)) (by rw [Gl]), a5.keep (Gc 8 (by omega) (by omega) (by omega) (by omega) (by omega)) (Gc 9 (by omega) (by omega) (by omega) (by omega) (by omega)) (Gc 27 (by omega) (by omega) (by omega) (by omega) (by omega)) (Gc 28 (by omega) (by omega) (by omega) (by omega) (by omega)) (Gc 90 (by omega) (by omega) (by omega) (by omega) (by omega)) (Gc 88 (by omega) (by omega) (by omega) (by omega) (by omega)) (by rw [Gl]), ⟨sc + 1, by omega, by rw [G0]; exact d08, G711, fun k hk => ?_⟩, a7.keep (by rw [G0, d0 11 (by omega)]) (G7 13 (by omega)) (Gc 70 (by omega) (by omega) (by omega) (by omega) (by omega)) (Gc 71 (by omega) (by omega) (by omega) (by omega) (by omega)) (Gc 82 (by omega) (by omega) (by omega) (by omega) (by omega)) (Gc 83 (by omega) (by omega) (by omega) (by omega) (by omega)), a8.keep (by rw [Gc 1 (by omega) (by omega) (by omega) (by omega) (by omega)]) (G7 17 (by omega)) (Gc 67 (by omega) (by omega) (by omega) (by omega) (by omega)) (Gc 84 (by omega) (by omega) (by omega) (by omega) (by omega)), a9.keep (by rw [Gc 1 (by omega) (by omega) (by omega) (by omega) (by omega)]) (G7 20 (by omega)) (Gc 97 (by omega) (by omega) (by omega) (by omega) (by omega))⟩
          by_cases ek : k = sc
          · subst ek
            refine ⟨m 0, m 1, a, bn, rg, fun w => m (10 + w), fun w => m (15 + w), hpl, hwf.2.1, ha, ?_, hrg, fun w hw => ?_, ⟨?_, ?_, ?_, ?_, ?_, ?_⟩, ?_, ?_, ?_, ?_, fun w hw => ?_⟩
            · have e3 : G.1 81 (14 * k + 3) = p1 := by rw [G81, n81 _ (by omega) (by omega), g81, if_neg (by omega), if_pos rfl]
              rcases hbn with ⟨e, e2⟩ | ⟨c, hc, hca, ec, e2⟩
              · exact Or.inl ⟨e2, by rw [e3]; exact e⟩
              · exact Or.inr ⟨c, e2, hc, hca, by rw [e3]; exact ec⟩
            · obtain ⟨y1, y2, y3, y4⟩ := hwf.2.2.2.2.2 w hw
              exact ⟨y2, y3, fun q => ⟨(y4 q).2.1, (y4 q).2.2⟩⟩
            · rw [G29, f0]; exact hcs.2.2.1
            · rw [G29, f1]; exact hcs.2.2.2.1
            · rw [G29, f2]; exact hcs.2.2.2.2.2.1
            · rw [G29, f3]
            · rw [G29, f4]
            · rw [G29, f5]; exact erg
            · rw [G81, n81 _ (by omega) (by omega), g81, if_neg (by omega), if_neg (by omega), if_neg (by omega), if_neg (by omega), if_pos rfl]
            · rw [G81, n81 _ (by omega) (by omega), g81, if_neg (by omega), if_neg (by omega), if_neg (by omega), if_pos rfl]
            · rw [G81, n81 _ (by omega) (by omega), g81, if_neg (by omega), if_neg (by omega), if_pos rfl]; exact ea
            · rw [G81, n81 _ (by omega) (by omega), g81, if_pos rfl, hz]; exact erg
            · obtain ⟨y1, y2⟩ := q1 w (by omega) hw
              rw [G81, G92, y1, y2, gc 79 (by omega), gc 80 (by omega), d1 79 (by omega) (by omega), d1 80 (by omega) (by omega)]
              exact ⟨(hml.2.2.2.2.2 w hw).2.1, (hml.2.2.2.2.2 w hw).2.2⟩
          · have hk2 : k < sc := by omega
            obtain ⟨p, hr, a', b', rg', N, F, y1, y2, y3, y4, y5, y6, y7, y8, y9, y10, y11, y12⟩ := c4 k hk2
            have e29 : G.1 (29 + k) = h.1 (29 + k) := Gc _ (by omega) (by omega) (by omega) (by omega) (by omega)
            refine ⟨p, hr, a', b', rg', N, F, y1, y2, y3, ?_, y5, y6, by rw [e29]; exact y7, by rw [G81, (o81 _ (by omega)).1]; exact y8, by rw [G81, (o81 _ (by omega)).1]; exact y9, by rw [G81, (o81 _ (by omega)).1]; exact y10, by rw [G81, (o81 _ (by omega)).1]; exact y11, fun w hw => by rw [G81, G92, (o81 _ (by omega)).1, (o81 _ (by omega)).2]; exact y12 w hw⟩
            rw [G81, (o81 _ (by omega)).1]; exact y4
        refine ⟨fun z => fin 0 z.symm, fun z => fin 1 (hp2.resolve_left z).symm⟩
      · rw [r7, c3] at z
        exact absurd (nI_inj (b := 8) (by omega) (by omega) z) (by omega)
    · rw [c2] at q
      have hs : sc = 8 := by
        have : ¬ sc < 8 := fun z => q ((nI_ltI (b := 8) (by omega) (by omega)).mpr z)
        omega
      subst hs
      (try dsimp only [lt])
      unfold wp_Md_see
      rw [ends_t hw2 hn hh]
      exact ⟨fun _ => ⟨fun z => absurd c3 z, fun _ => ⟨rfl, hR⟩⟩, fun z => absurd rfl z⟩
  · rw [can_f hw hn hh]
    refine ⟨fun z => absurd z (by decide), fun _ => ?_⟩
    (try dsimp only [lt])
    unfold wp_Md_see
    rw [ends_f hw2 hn hh]
    exact ⟨fun z => absurd z (by decide), fun _ => ⟨rfl, hR⟩⟩
end
