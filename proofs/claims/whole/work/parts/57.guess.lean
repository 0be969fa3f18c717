section
theorem countsOrder_s {n : Nat} {o m : Nat → Nat} {h0 : Hp} (a1 : R1 n o h0) (a2 : R2 n m h0) {ft : Nat → Bool} {rb : Nat → Nat → Nat → Bool} (hrb : ∀ k, k < fc n → ∀ a b, a < n → b < n → (rb k a b = true ↔ Con (NR n (om n k) (m 1) (fun w => m (5 + w)) (m 4) (fun w => m (10 + w)) (fun w => m (15 + w))) (5 * m 0 + a) (5 * m 0 + b))) {k : Nat} (hk : k < fc n) (hft : ft k = true) {h : Hp} (hs : Sc h0 h) (hL : hl h 91 (oL n k)) (hG : GM n ft (om n) rb k h) {P : Hp → Prop} (K : ∀ g : Hp, Sc h0 g → g.1 91 = h.1 91 → GM n ft (om n) rb (k + 1) g → P g) : wp_Md_countsOrder h P := by
  have hn := a1.2.2.1
  have h1n := a1.2.2.2.1
  have hfc : fc n ≤ 120 := fc_le
  have h2n := fc2 hn h1n hk
  have oo := orders h2n hn k hk
  have hwf := a2.2.2
  have hp := hwf.1
  have hgc := gc_le (ft := ft) k
  have lp : ∀ (j i : Nat) (g : Hp) (E : Hp → Prop), i + j = n → (∀ c, c ≠ 93 → c ≠ 94 → c ≠ 95 → g.1 c = h.1 c) → g.2 = h.2 → (∀ e, e < i → g.1 93 e = nI (gs ft (om n) (k + 1) e) ∧ g.1 94 e = gf ft (om n) (k + 1) e) → (∀ e, i ≤ e → e < n → g.1 93 e = h.1 93 e ∧ g.1 94 e = h.1 94 e) → (∀ a b, a < i → a < b → b < n → g.1 95 (5 * a + b) = nI (gr ft rb (k + 1) a b)) → (∀ a b, i ≤ a → a < b → b < n → g.1 95 (5 * a + b) = h.1 95 (5 * a + b)) → (∀ g2 : Hp, (∀ c, c ≠ 93 → c ≠ 94 → c ≠ 95 → g2.1 c = h.1 c) → g2.2 = h.2 → (∀ e, e < n → g2.1 93 e = nI (gs ft (om n) (k + 1) e) ∧ g2.1 94 e = gf ft (om n) (k + 1) e) → (∀ a b, a < b → b < n → g2.1 95 (5 * a + b) = nI (gr ft rb (k + 1) a b)) → E g2) → lp_Md_countsOrder_2 (j + 1) (nI i) g E := by
    intro j
    induction j with
    | zero =>
      intro i g E hi h1 h2 h3 h4 h5 h6 hE
      have e : i = n := by omega
      subst e
      unfold lp_Md_countsOrder_2
      rw [h1 7 (by omega) (by omega) (by omega), hs.2 7 0 rfl, a1.2.1]
      exact ⟨fun _ => hE g h1 h2 h3 (fun a b q1 q2 => h5 a b (by omega) q1 q2), fun z => absurd (nI_le (by omega) (by omega)) z⟩
    | succ j ih =>
      intro i g E hi h1 h2 h3 h4 h5 h6 hE
      obtain ⟨o1, o2⟩ := h4 i (Nat.le_refl _) (by omega)
      obtain ⟨w1, w2⟩ := hG.2.1 i (by omega)
      have l1 : gt (oL n k) i < n := oo.1 i (by omega)
      have l2 := gs_lt (ft := ft) (om := om n) (e := i) (M := fc n) (fun k hk => by have := om_lt hn h1n k hk i (by omega); omega) k (by omega)
      have l3 : 2 ^ gt (oL n k) i < 2 ^ 5 := Nat.pow_lt_pow_right (by omega) (by omega)
      have e7 := h1 7 (by omega) (by omega) (by omega)
      have sg : Sc h0 g := hs.ex (fun c => by
        by_cases c1 : c = 93
        · right; rw [c1]; exact fun _ => rfl
        · by_cases c2 : c = 94
          · right; rw [c2]; exact fun _ => rfl
          · by_cases c3 : c = 95
            · right; rw [c3]; exact fun _ => rfl
            · left; exact h1 c c1 c2 c3) h2
      unfold lp_Md_countsOrder_2
      dsimp only [jn, lt]
      have egs : gs ft (om n) (k + 1) i = gs ft (om n) k i ||| 2 ^ gt (oL n k) i := by rw [gs, if_pos hft]; rfl
      rw [e7, hs.2 7 0 rfl, a1.2.1, nI_1, cl_nI (n := i) (by omega), h1 91 (by omega) (by omega) (by omega), hL.2.1 i (by omega), shl1 (by omega), o1, w1, or_nI (by omega) (by omega), wi_ne (show 7 ≠ 93 by omega), e7, hG.1, nI_zero (by omega), wi_ne (show 91 ≠ 93 by omega), h1 91 (by omega) (by omega) (by omega), hL.2.1 i (by omega), wi_ne (show 94 ≠ 93 by omega), o2, w2]
      have fin : ∀ v : Int32, v = gf ft (om n) (k + 1) i → (vp_in (nI i) 5) ∧ wp_Md_joined (((5 : Int32) * ((wi (wi g 93 i (nI (gs ft (om n) k i ||| 2 ^ gt (oL n k) i))) 94 i v).1 7 2)) + nI i) 91 ((wi (wi g 93 i (nI (gs ft (om n) k i ||| 2 ^ gt (oL n k) i))) 94 i v).1 7 3) 79 80 (0 : Int32) (0 : Int32) (wi (wi g 93 i (nI (gs ft (om n) k i ||| 2 ^ gt (oL n k) i))) 94 i v) (fun (v82 : Int32) => ∃ n90, lp_Md_countsOrder_90 n90 (nI i) v82 (nI (i + 1)) (wi (wi g 93 i (nI (gs ft (om n) k i ||| 2 ^ gt (oL n k) i))) 94 i v) (fun (h90x : Hp) => lp_Md_countsOrder_2 (j + 1) (nI (i + 1)) h90x E)) := fun v hv => by
        refine ⟨vp_in_nI (by omega) (by omega), ?_⟩
        obtain ⟨g2, eg2⟩ : ∃ g2, g2 = wi (wi g 93 i (nI (gs ft (om n) k i ||| 2 ^ gt (oL n k) i))) 94 i v := ⟨_, rfl⟩
        rw [← eg2]
        have x1 : ∀ c, c ≠ 93 → c ≠ 94 → g2.1 c = g.1 c := fun c c1 c2 => by rw [eg2, wi_ne c2, wi_ne c1]
        have x2 : g2.2 = g.2 := by rw [eg2]; rfl
        have x3 : ∀ e, g2.1 93 e = if e = i then nI (gs ft (om n) (k + 1) i) else g.1 93 e := fun e => by rw [eg2, wi_ne (by omega), wi_eq, upd_a, egs]
        have x4 : ∀ e, g2.1 94 e = if e = i then gf ft (om n) (k + 1) i else g.1 94 e := fun e => by rw [eg2, wi_eq, upd_a, wi_ne (by omega), hv]
        have s2 : Sc h0 g2 := sg.ex (fun c => by
          by_cases c1 : c = 93
          · right; rw [c1]; exact fun _ => rfl
          · by_cases c2 : c = 94
            · right; rw [c2]; exact fun _ => rfl
            · left; exact x1 c c1 c2) x2
        have b2 := a2.sc s2
        have hml := b2.2.1
        rw [hml.1, eq5 hp, nI_add]
        refine joinedO_s a1 a2 s2 (o2 := om n k) (N := fun w => m (10 + w)) (F := fun w => m (15 + w)) (fun e he => ⟨oo.1 e he, by rw [x1 91 (by omega) (by omega), h1 91 (by omega) (by omega) (by omega)]; exact hL.2.1 e (by omega)⟩) oo.2.1 rfl (fun w hw => ⟨(hml.2.2.2.2.2 w (by omega)).2.1, (hml.2.2.2.2.2 w (by omega)).2.2⟩) (fun w hw => ⟨by have := (hwf.2.2.2.2.2 w hw).2.1; (try dsimp only); omega, by have := (hwf.2.2.2.2.2 w hw).2.2.1; (try dsimp only); omega, fun q => ((hwf.2.2.2.2.2 w hw).2.2.2 q).2⟩) rfl rfl (by omega) (fun t ht => ?_)
        refine ⟨_, co_in (ft := ft) (rb := rb) hn hp (show i < n by omega) ht.lt (k := k) (by omega) hft (fun b hb => iff_b (C := Con (NR n (om n k) (m 1) (fun w => m (5 + w)) (m 4) (fun w => m (10 + w)) (fun w => m (15 + w))) (5 * m 0 + i) (5 * m 0 + b)) ?_ (hrb k hk i b (by omega) hb)) (h := g2) (by rw [s2.2 7 0 rfl]; exact a1.2.1) hml.1 (fun b q1 q2 => ?_) (n - (i + 1)) (i + 1) g2 _ (by omega) (by omega) (fun _ _ => rfl) rfl (fun b2 q1 q2 => by omega) (fun _ _ => rfl) (fun g3 y1 y2 y3 y4 => ?_)⟩
        · rw [ht (5 * m 0 + b)]
          exact ⟨fun q => q.2, fun q => ⟨by omega, q⟩⟩
        · rw [x1 95 (by omega) (by omega), h6 i b (Nat.le_refl _) q1 q2]; exact hG.2.2 i b q1 q2
        · refine ih (i + 1) g3 E (by omega) (fun c c1 c2 c3 => by rw [y1 c c3, x1 c c1 c2]; exact h1 c c1 c2 c3) (by rw [y2, x2]; exact h2) (fun e he => ?_) (fun e q1 q2 => ?_) (fun a b q1 q2 q3 => ?_) (fun a b q1 q2 q3 => ?_) hE
          · rw [y1 93 (by omega), y1 94 (by omega), x3, x4]
            by_cases q : e = i
            · rw [if_pos q, if_pos q, q]; exact ⟨rfl, rfl⟩
            · rw [if_neg q, if_neg q]; exact h3 e (by omega)
          · rw [y1 93 (by omega), y1 94 (by omega), x3, x4, if_neg (by omega), if_neg (by omega)]
            exact h4 e (by omega) q2
          · by_cases q : a = i
            · rw [q]; exact y3 b (by omega) q3
            · rw [y4 (5 * a + b) (by omega), x1 95 (by omega) (by omega)]; exact h5 a b (by omega) q2 q3
          · rw [y4 (5 * a + b) (by omega), x1 95 (by omega) (by omega)]; exact h6 a b (by omega) q2 q3
      refine ⟨fun z => absurd z (nI_ge (by omega) (by omega)), fun _ => ⟨vp_in_nI (by omega) (by omega), vp_in_nI (by omega) (by omega), vp_in_nI (by omega) (by omega), fun z => ⟨vp_in_nI (by omega) (by omega), fin _ ?_⟩, fun z => ⟨vp_in_nI (by omega) (by omega), fin _ ?_⟩⟩⟩
      · rw [gf, if_neg (fun q => z q.2)]
      · rw [gf, if_pos ⟨hft, z⟩]; rfl
  unfold wp_Md_countsOrder
  refine ⟨_, lp n 0 h _ (by omega) (fun _ _ _ _ => rfl) rfl (fun e he => by omega) (fun _ _ _ => ⟨rfl, rfl⟩) (fun a b q => by omega) (fun _ _ _ _ _ => rfl) (fun g h1 h2 h3 h4 => ?_)⟩
  dsimp only [lt]
  have sg : Sc h0 g := hs.ex (fun c => by
    by_cases c1 : c = 93
    · right; rw [c1]; exact fun _ => rfl
    · by_cases c2 : c = 94
      · right; rw [c2]; exact fun _ => rfl
      · by_cases c3 : c = 95
        · right; rw [c3]; exact fun _ => rfl
        · left; exact h1 c c1 c2 c3) h2
  refine K _ (sg.wi rfl) (by rw [wi_ne (by omega)]; exact h1 91 (by omega) (by omega) (by omega)) ⟨?_, fun e he => ?_, fun a b q1 q2 => ?_⟩
  · rw [wi_eq, pk_us, h1 7 (by omega) (by omega) (by omega), hG.1, nI_1, gc, if_pos hft]
  · rw [wi_ne (by omega), wi_ne (by omega)]; exact h3 e he
  · rw [wi_ne (by omega)]; exact h4 a b q1 q2
theorem GM_no {n : Nat} {ft : Nat → Bool} {om : Nat → Nat → Nat} {rb : Nat → Nat → Nat → Bool} {k : Nat} {h : Hp} (hG : GM n ft om rb k h) (hft : ¬ ft k = true) : GM n ft om rb (k + 1) h := by
  unfold GM at *
  refine ⟨by rw [gc, if_neg hft]; exact hG.1, fun e he => ?_, fun a b q1 q2 => ?_⟩
  · rw [gs, gf, if_neg hft, if_neg (fun z => hft z.1)]
    exact hG.2.1 e he
  · rw [gr, if_neg (fun z => hft z.1)]
    exact hG.2.2 a b q1 q2
theorem GM.keep {n : Nat} {ft : Nat → Bool} {om : Nat → Nat → Nat} {rb : Nat → Nat → Nat → Bool} {k : Nat} {h g : Hp} (a : GM n ft om rb k h) (e1 : g.1 7 34 = h.1 7 34) (e2 : g.1 93 = h.1 93) (e3 : g.1 94 = h.1 94) (e4 : g.1 95 = h.1 95) : GM n ft om rb k g := by
  unfold GM at *
  rw [e1, e2, e3, e4]
  exact a
theorem setCould_s {n sc : Nat} {o m : Nat → Nat} {h0 : Hp} (a1 : R1 n o h0) (a2 : R2 n m h0) (hsc8 : sc ≤ 8) (h08 : h0.1 7 11 = nI sc) {Q : Nat → Nat → Nat} (hQ : ∀ k, k < sc → SQ n h0 k (Q k)) {ft : Nat → Bool} (hft : ∀ k, ft k = true ↔ ∀ j, j < sc → FT n (om n k) (fun w => m (5 + w)) (m 4) Q j) {rb : Nat → Nat → Nat → Bool} (hrb : ∀ k, k < fc n → ∀ a b, a < n → b < n → (rb k a b = true ↔ Con (NR n (om n k) (m 1) (fun w => m (5 + w)) (m 4) (fun w => m (10 + w)) (fun w => m (15 + w))) (5 * m 0 + a) (5 * m 0 + b))) {h : Hp} (hs : Sc h0 h) {P : Hp → Prop} (K : ∀ h2 : Hp, Sc h0 h2 → GM n ft (om n) rb (fc n) h2 → P h2) : wp_Md_setCould h P := by
  have hn := a1.2.2.1
  have h1n := a1.2.2.2.1
  have hfc : fc n ≤ 120 := fc_le
  have lp : ∀ (j k : Nat) (g : Hp), k + j = fc n → Sc h0 g → (k < fc n → hl g 91 (oL n k)) → GM n ft (om n) rb k g → lp_Md_setCould_70 (j + 1) (bI (k != fc n)) g (fun h70x => P h70x) := by
    intro j
    induction j with
    | zero =>
      intro k g hk s1 o1 g1
      have e : k = fc n := by omega
      subst e
      unfold lp_Md_setCould_70
      have eb : (fc n != fc n) = false := by simp
      rw [eb]
      exact ⟨fun _ => K g s1 g1, fun z => absurd rfl z⟩
    | succ j ih =>
      intro k g hk s1 o1 g1
      have hk' : k < fc n := by omega
      have h2n := fc2 hn h1n hk'
      have oo := orders h2n hn k hk'
      have ol := o1 hk'
      unfold lp_Md_setCould_70
      dsimp only [jn, lt]
      have eb : (k != fc n) = true := by simp; omega
      rw [eb]
      refine ⟨fun z => absurd z (by decide), fun _ => couldBe_s a1 a2 hsc8 h08 hQ s1 ol oo.1 oo.2.1 (fun v hv => ?_)⟩
      have ev : v = ft k := iff_b hv (hft k)
      have fin : ∀ g3 : Hp, Sc h0 g3 → g3.1 91 = g.1 91 → GM n ft (om n) rb (k + 1) g3 → wp_Md_nextOrder g3 (fun (v86 : Bool) (h86 : Hp) => lp_Md_setCould_70 (j + 1) (bI v86) h86 (fun h70x => P h70x)) := fun g3 s3 e91 gm3 => by
        refine next_s (L := oL n k) (ol.keep e91) (by rw [s3.2 7 0 rfl]; exact a1.2.1) h2n hn (fun f hf => ?_)
        rw [oo.2.2]
        exact ih (k + 1) _ (by omega) (s3.sr (fun _ => rfl)) (fun _ => hf) (gm3.keep (by rw [sr_ne (by omega)]) (sr_ne (by omega)) (sr_ne (by omega)) (sr_ne (by omega)))
      refine ⟨fun z => fin g s1 rfl (GM_no g1 (by rw [← ev]; exact z)), fun z => ?_⟩
      exact countsOrder_s a1 a2 hrb hk' (by rw [← ev]; exact z) s1 ol g1 (fun g3 s3 e3 gm3 => fin g3 s3 e3 gm3)
  unfold wp_Md_setCould
  dsimp only [jn, lt]
  refine ⟨_, clr1_M (h := wi h 7 34 0) 5 0 _ _ (by omega) (fun _ _ _ => rfl) rfl (fun e he => by omega) (fun g h1 h2 h3 => ⟨_, clr2_M (h := g) 25 0 g _ (by omega) (fun _ _ => rfl) rfl (fun e he => by omega) (fun g2 q1 q2 q3 => first_s (n := n) (fun f hf => ?_))⟩)⟩
  have s2 : Sc h0 g2 := (hs.wi (c := 7) (k := 34) (v := 0) rfl).ex (fun c => by
    by_cases c1 : c = 93
    · right; rw [c1]; exact fun _ => rfl
    · by_cases c2 : c = 94
      · right; rw [c2]; exact fun _ => rfl
      · by_cases c3 : c = 95
        · right; rw [c3]; exact fun _ => rfl
        · left; rw [q1 c c3, h1 c c1 c2]) (by rw [q2, h2])
  have g0 : GM n ft (om n) rb 0 (sr g2 91 f) := by
    refine ⟨?_, fun e he => ?_, fun a b x1 x2 => ?_⟩
    · rw [sr_ne (by omega), q1 7 (by omega), h1 7 (by omega) (by omega), wi_eq, pk_us]; rfl
    · rw [sr_ne (by omega), sr_ne (by omega), q1 93 (by omega), q1 94 (by omega)]; exact h3 e (by omega)
    · rw [sr_ne (by omega)]; exact q3 (5 * a + b) (by omega)
  have st : lp_Md_setCould_70 (fc n + 1) (bI (0 != fc n)) (sr g2 91 f) (fun h70x => P h70x) := lp (fc n) 0 _ (by omega) (s2.sr (fun _ => rfl)) (fun _ => hf) g0
  rw [sr_ne (show 7 ≠ 91 by omega), s2.2 7 0 rfl, a1.2.1]
  refine ⟨fun z => ⟨fc n + 1, ?_⟩, fun z => ⟨fc n + 1, ?_⟩⟩
  · have e0 : n = 0 := by have := (nI_leI (b := 0) (by omega) (by omega)).mp z; omega
    subst e0
    exact st
  · have e0 : n ≠ 0 := fun e => z (by rw [e]; exact nI_le (a := 0) (b := 0) (by omega) (by omega))
    have : (0 != fc n) = true := by
      rcases (show n = 2 ∨ n = 3 ∨ n = 4 ∨ n = 5 by omega) with rfl | rfl | rfl | rfl <;> rfl
    rw [this] at st
    exact st
end
