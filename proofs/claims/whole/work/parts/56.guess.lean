section
theorem Sc.ex {h0 h g : Hp} (a : Sc h0 h) (e : ∀ c, g.1 c = h.1 c ∨ ∀ j, scr c j = true) (e2 : g.2 = h.2) : Sc h0 g := ⟨e2.trans a.1, fun c j q => by
  rcases e c with z | z
  · rw [z]; exact a.2 c j q
  · rw [z j] at q; exact absurd q (by decide)⟩
theorem hl.keep {h g : Hp} {c : Nat} {L : List Nat} (a : hl h c L) (e : g.1 c = h.1 c) : hl g c L := by unfold hl at *; rw [e]; exact a
theorem LD.keep {h g : Hp} {sc : Nat} {K : Nat → Nat} {T : Nat} {Q : Nat → Nat → Nat} (a : LD h sc K T Q) (h8 : sc ≤ 8) (e : ∀ c, 28 < c → c < 55 → c ≠ 54 → g.1 c = h.1 c) : LD g sc K T Q := fun k hk => by
  obtain ⟨⟨f, f1, f2⟩, f3⟩ := a k hk
  refine ⟨⟨f, fun x hx => by rw [e (46 + k) (by omega) (by omega) (by omega)]; exact f1 x hx, f2⟩, by rw [e (29 + k) (by omega) (by omega) (by omega)]; exact f3⟩
theorem fc2 {n k : Nat} (hn : n ≤ 5) (h1 : n ≠ 1) (hk : k < fc n) : 2 ≤ n := by
  rcases (show n = 0 ∨ 2 ≤ n by omega) with rfl | h
  · exact absurd hk (Nat.not_lt_zero k)
  · exact h
theorem om_lt {n : Nat} (hn : n ≤ 5) (h1 : n ≠ 1) : ∀ k, k < fc n → ∀ e, e < n → om n k e < n := fun k hk e he => (orders (fc2 hn h1 hk) hn k hk).1 e he
theorem guessOrders_s {n sc : Nat} {o m : Nat → Nat} {h0 : Hp} (a1 : R1 n o h0) (a2 : R2 n m h0) (hsc8 : sc ≤ 8) (h08 : h0.1 0 8 = nI sc) {Q : Nat → Nat → Nat} (hQ : ∀ k, k < sc → SQ n h0 k (Q k)) {ft : Nat → Bool} (hft : ∀ k, ft k = true ↔ ∀ j, j < sc → FT n (om n k) (fun w => m (5 + w)) (m 4) Q j) {h : Hp} (hs : Sc h0 h) {P : Hp → Prop} (K : ∀ h2 : Hp, Sc h0 h2 → GF n ft (om n) (fc n) h2 → P h2) : wp_Fe_guessOrders h P := by
  have hn := a1.2.2.1
  have h1 := a1.2.2.2.1
  have hfc : fc n ≤ 120 := fc_le
  have lp : ∀ (j k : Nat) (g : Hp), k + j = fc n → Sc h0 g → LD g sc (fun w => m (5 + w)) (m 4) Q → hl g 72 (oL n k) → GF n ft (om n) k g → lp_Fe_guessOrders_25 (j + 1) (nI (fc n)) (nI k) g (fun h25x => P h25x) := by
    intro j
    induction j with
    | zero =>
      intro k g hk s1 l1 o1 g1
      have e : k = fc n := by omega
      subst e
      unfold lp_Fe_guessOrders_25
      exact ⟨fun _ => K g s1 g1, fun z => absurd (nI_le (by omega) (by omega)) z⟩
    | succ j ih =>
      intro k g hk s1 l1 o1 g1
      have h2n := fc2 hn h1 (show k < fc n by omega)
      have oo := orders h2n hn k (by omega)
      unfold lp_Fe_guessOrders_25
      dsimp only [jn, lt]
      refine ⟨fun z => absurd z (nI_ge (by omega) (by omega)), fun _ => fitsAll_s a1 a2 hsc8 h08 hQ s1 l1 o1 oo.1 (fun v g2 hv s2 e2 => ?_)⟩
      have ev : v = ft k := iff_b hv (hft k)
      have fin : ∀ g3 : Hp, Sc h0 g3 → (∀ c, 28 < c → c < 55 → c ≠ 54 → g3.1 c = g2.1 c) → g3.1 72 = g2.1 72 → GF n ft (om n) (k + 1) g3 → wp_Orders_advance (g3.1 0 1) g3 (fun (h63 : Hp) => lp_Fe_guessOrders_25 (j + 1) (nI (fc n)) (nI k + 1) h63 (fun h25x => P h25x)) := fun g3 s3 e3 e72 gf3 => by
        rw [s3.2 0 1 rfl, a1.1, nI_1]
        refine advance_s (L := oL n k) (o1.keep (by rw [e72, e2 72 (by omega)])) h2n hn (fun f hf => ih (k + 1) _ (by omega) (s3.sr (fun _ => rfl)) (l1.keep hsc8 (fun c c1 c2 c3 => by rw [sr_ne (by omega), e3 c c1 c2 c3, e2 c (by omega)])) hf (gf3.keep (sr_ne (by omega)) (sr_ne (by omega)) (sr_ne (by omega))))
      have gk : GF n ft (om n) k g2 := g1.keep (e2 5 (by omega)) (e2 73 (by omega)) (e2 74 (by omega))
      refine ⟨fun z => fin g2 s2 (fun _ _ _ _ => rfl) rfl (GF_no gk (by rw [← ev]; exact z)), fun z => ?_⟩
      rw [s2.2 0 1 rfl, a1.1]
      refine add_F hn (M := fc n) (by omega) (fun k hk e he => by have := om_lt hn h1 k hk e he; omega) (by omega) (by rw [← ev]; exact z) gk (fun e he => by rw [e2 72 (by omega)]; exact o1.2.1 e (by omega)) (fun g3 e3 e3' gf3 => ?_)
      refine fin g3 (s2.ex (fun c => ?_) e3') (fun c c1 c2 c3 => e3 c (by omega) (by omega) (by omega)) (e3 72 (by omega) (by omega) (by omega)) gf3
      by_cases c1 : c = 5
      · right; rw [c1]; exact fun _ => rfl
      · by_cases c2 : c = 73
        · right; rw [c2]; exact fun _ => rfl
        · by_cases c3 : c = 74
          · right; rw [c3]; exact fun _ => rfl
          · left; exact e3 c c1 c2 c3
  unfold wp_Fe_guessOrders
  refine clear_F (fun g e1 e2 e3 e4 e5 => ?_)
  have sg : Sc h0 g := hs.ex (fun c => by
    by_cases c1 : c = 5
    · right; rw [c1]; exact fun _ => rfl
    · by_cases c2 : c = 73
      · right; rw [c2]; exact fun _ => rfl
      · by_cases c3 : c = 74
        · right; rw [c3]; exact fun _ => rfl
        · by_cases c4 : c = 75
          · right; rw [c4]; exact fun _ => rfl
          · left; exact e1 c c1 c2 c3 c4) e2
  refine layAll_s a1 a2 hsc8 h08 hQ sg (fun g2 s2 e6 l2 => start_s (n := n) (fun f hf => ?_))
  refine countOrders_s (n := n) (by rw [sr_ne (by omega), s2.2 0 1 rfl]; exact a1.1) hn h1 ⟨_, lp (fc n) 0 _ (by omega) (s2.sr (fun _ => rfl)) (l2.keep hsc8 (fun c c1 c2 c3 => sr_ne (by omega))) hf ⟨?_, fun e he => ?_⟩⟩
  · rw [sr_ne (by omega), e6 5 (by omega)]; exact e3
  · rw [sr_ne (by omega), sr_ne (by omega), e6 73 (by omega), e6 74 (by omega)]; exact e4 e (by omega)
/-! the model's -/
theorem joinedO_s {n : Nat} {o m : Nat → Nat} {h0 : Hp} (a1 : R1 n o h0) (a2 : R2 n m h0) {h : Hp} (hs : Sc h0 h) {c1 c3 c4 : Nat} {o2 : Nat → Nat} (ho : ∀ e, e < n → o2 e < n ∧ h.1 c1 e = nI (o2 e)) (hoi : ∀ e f, e < n → f < n → o2 e = o2 f → e = f) (hc1 : al c1 = 5) {N F : Nat → Nat} (hNF : ∀ w, w < n → h.1 c3 w = nI (N w) ∧ h.1 c4 w = nI (F w)) (hNF5 : ∀ w, w < 5 → N w ≤ 5 ∧ F w ≤ 5 ∧ (n ≤ w → N w = 0 ∧ F w = 0)) (hc3 : al c3 = 5) (hc4 : al c4 = 5) {i : Nat} (hi : i < 11) {P : Int32 → Prop} (k : ∀ t, NT (NR n o2 (m 1) (fun w => m (5 + w)) (m 4) N F) i t → P (nI t)) : wp_Md_joined (nI i) c1 (h.1 7 3) c3 c4 (0 : Int32) (0 : Int32) h P := by
  have hn := a1.2.2.1
  have b1 := a1.sc hs
  have b2 := a2.sc hs
  have hwf := a2.2.2
  have hml := b2.2.1
  have hT : m 4 < 2 ^ 31 := Nat.lt_of_lt_of_le hwf.2.2.2.2.1.1 (by omega)
  have ht : m 1 < 2 ^ 31 := Nat.lt_of_le_of_lt hwf.2.1 (by omega)
  rw [hml.2.1]
  refine joined_s (g0 := 0) (cut := 0) (K := fun w => m (5 + w)) (N := N) (F := F) (T := m 4) (o := o2) (n := n) ⟨⟨b1.2.1, hn, hml.2.2.2.2.1, hT, by omega, ht⟩, ⟨ho, hoi, by omega, by omega⟩, fun w hw => ⟨(hml.2.2.2.2.2 w (by omega)).1, (hwf.2.2.2.2.2 w (by omega)).1⟩, fun w hw => ⟨by rw [Nat.zero_add]; exact (hNF w hw).1, by rw [Nat.zero_add]; exact (hNF w hw).2, (hNF5 w (by omega)).1, (hNF5 w (by omega)).2.1⟩, by omega, by omega, by omega, by omega⟩ (R := NR n o2 (m 1) (fun w => m (5 + w)) (m 4) N F) (fun S => ?_) hi k
  have := cm_cld (cut := 0) (K := fun w => m (5 + w)) (o := o2) (hr := m 1) (N := N) (F := F) hn (fun e he => (ho e he).1) hwf.2.2.2.2.1 (fun w h1 h2 => by rw [kc0]; have := ((hwf.2.2.2.2.2 w h2).2.2.2 h1).1; (try dsimp only); omega) hNF5 S
  rw [kc0] at this
  exact this
def GM (n : Nat) (ft : Nat → Bool) (om : Nat → Nat → Nat) (rb : Nat → Nat → Nat → Bool) (k : Nat) (h : Hp) : Prop := h.1 7 34 = nI (gc ft k) ∧ (∀ e, e < n → h.1 93 e = nI (gs ft om k e) ∧ h.1 94 e = gf ft om k e) ∧ ∀ a b, a < b → b < n → h.1 95 (5 * a + b) = nI (gr ft rb k a b)
theorem clr1_M {h : Hp} : ∀ (k i : Nat) (g : Hp) (E : Hp → Prop), i + k = 5 → (∀ c, c ≠ 93 → c ≠ 94 → g.1 c = h.1 c) → g.2 = h.2 → (∀ e, e < i → g.1 93 e = 0 ∧ g.1 94 e = -1) → (∀ g2 : Hp, (∀ c, c ≠ 93 → c ≠ 94 → g2.1 c = h.1 c) → g2.2 = h.2 → (∀ e, e < 5 → g2.1 93 e = 0 ∧ g2.1 94 e = -1) → E g2) → lp_Md_setCould_7 (k + 1) (nI i) g E := by
  intro k
  induction k with
  | zero =>
    intro i g E hi h1 h2 h3 hE
    unfold lp_Md_setCould_7
    exact ⟨fun _ => hE g h1 h2 (fun e he => h3 e (by omega)), fun z => absurd (nI_le (a := 5) (by omega) (by omega)) z⟩
  | succ k ih =>
    intro i g E hi h1 h2 h3 hE
    unfold lp_Md_setCould_7
    dsimp only [lt]
    rw [nI_1, cl_nI (n := i) (by omega)]
    refine ⟨fun z => absurd z (nI_ge (b := 5) (by omega) (by omega)), fun _ => ⟨vp_in_nI (by omega) (by omega), vp_in_nI (by omega) (by omega), ih (i + 1) _ E (by omega) (fun c c1 c2 => by rw [wi_ne c2, wi_ne c1]; exact h1 c c1 c2) h2 (fun e he => ?_) hE⟩⟩
    rw [wi_ne (show 93 ≠ 94 by omega), wi_eq, wi_eq, wi_ne (show 94 ≠ 93 by omega), upd_a, upd_a]
    by_cases q : e = i
    · rw [if_pos q, if_pos q]; exact ⟨rfl, rfl⟩
    · rw [if_neg q, if_neg q]; exact h3 e (by omega)
theorem clr2_M {h : Hp} : ∀ (k i : Nat) (g : Hp) (E : Hp → Prop), i + k = 25 → (∀ c, c ≠ 95 → g.1 c = h.1 c) → g.2 = h.2 → (∀ e, e < i → g.1 95 e = 0) → (∀ g2 : Hp, (∀ c, c ≠ 95 → g2.1 c = h.1 c) → g2.2 = h.2 → (∀ e, e < 25 → g2.1 95 e = 0) → E g2) → lp_Md_setCould_34 (k + 1) (nI i) g E := by
  intro k
  induction k with
  | zero =>
    intro i g E hi h1 h2 h3 hE
    unfold lp_Md_setCould_34
    exact ⟨fun _ => hE g h1 h2 (fun e he => h3 e (by omega)), fun z => absurd (nI_le (a := 25) (by omega) (by omega)) z⟩
  | succ k ih =>
    intro i g E hi h1 h2 h3 hE
    unfold lp_Md_setCould_34
    dsimp only [lt]
    rw [nI_1, cl_nI (n := i) (by omega)]
    refine ⟨fun z => absurd z (nI_ge (b := 25) (by omega) (by omega)), fun _ => ⟨vp_in_nI (by omega) (by omega), ih (i + 1) _ E (by omega) (fun c c1 => by rw [wi_ne c1]; exact h1 c c1) h2 (fun e he => ?_) hE⟩⟩
    rw [wi_eq, upd_a]
    by_cases q : e = i
    · rw [if_pos q]
    · rw [if_neg q]; exact h3 e (by omega)
theorem co_in {n p e t : Nat} (hn : n ≤ 5) (hp : p ≤ 1) (he : e < n) (ht : t < 2 ^ 11) {ft : Nat → Bool} {rb : Nat → Nat → Nat → Bool} {k : Nat} (hk : k < 2 ^ 20) (hft : ft k = true) (hrb : ∀ b, b < n → (t.testBit (5 * p + b) = rb k e b)) {h : Hp} (hw : h.1 7 0 = nI n) (h72 : h.1 7 2 = nI p) (h95 : ∀ b, e < b → b < n → h.1 95 (5 * e + b) = nI (gr ft rb k e b)) : ∀ (j b : Nat) (g : Hp) (E : Hp → Prop), b + j = n → e < b → (∀ c, c ≠ 95 → g.1 c = h.1 c) → g.2 = h.2 → (∀ b2, e < b2 → b2 < b → g.1 95 (5 * e + b2) = nI (gr ft rb (k + 1) e b2)) → (∀ x, x ≤ 5 * e + e ∨ 5 * e + b ≤ x → g.1 95 x = h.1 95 x) → (∀ g2 : Hp, (∀ c, c ≠ 95 → g2.1 c = h.1 c) → g2.2 = h.2 → (∀ b2, e < b2 → b2 < n → g2.1 95 (5 * e + b2) = nI (gr ft rb (k + 1) e b2)) → (∀ x, x ≤ 5 * e + e ∨ 5 * e + n ≤ x → g2.1 95 x = h.1 95 x) → E g2) → lp_Md_countsOrder_90 (j + 1) (nI e) (nI t) (nI b) g E := by
  intro j
  induction j with
  | zero =>
    intro b g E hb heb h1 h2 h3 h4 hE
    have e1 : b = n := by omega
    subst e1
    unfold lp_Md_countsOrder_90
    rw [h1 7 (by omega), hw]
    exact ⟨fun _ => hE g h1 h2 h3 h4, fun z => absurd (nI_le (by omega) (by omega)) z⟩
  | succ j ih =>
    intro b g E hb heb h1 h2 h3 h4 hE
    have hg1 := gr_le (ft := ft) (rb := rb) (a := e) (b := b) k
    have hg2 := gc_le (ft := ft) k
    unfold lp_Md_countsOrder_90
    dsimp only [jn, lt]
    rw [h1 7 (by omega), hw, h72, eq5 hp, nI_add, nI_1]
    refine ⟨fun z => absurd z (nI_ge (by omega) (by omega)), fun _ => pair_s (by omega) (by omega) ?_⟩
    have ep : pn e b = 5 * e + b := by unfold pn; omega
    rw [ep, cl_nI (n := 5 * e + b) (by omega), h4 (5 * e + b) (by omega), h95 b heb (by omega), show nI (gr ft rb k e b) + (0 : Int32) = nI (gr ft rb k e b) from nI_add _ 0, nI_1]
    refine ⟨vp_in_nI (by omega) (by omega), has_s (by omega) (by omega) ?_⟩
    rw [hrb b (by omega)]
    have nx : ∀ v : Int32, v = nI (gr ft rb (k + 1) e b) → lp_Md_countsOrder_90 (j + 1) (nI e) (nI t) (nI (b + 1)) (wi g 95 (5 * e + b) v) E := fun v hv => by
      refine ih (b + 1) _ E (by omega) (by omega) (fun c c1 => by rw [wi_ne c1]; exact h1 c c1) h2 (fun b2 q1 q2 => ?_) (fun x hx => ?_) hE
      · rw [wi_eq, upd_a]
        by_cases q : b2 = b
        · rw [q, if_pos rfl, hv]
        · rw [if_neg (by omega)]; exact h3 b2 q1 (by omega)
      · rw [wi_eq, upd_a, if_neg (by omega)]; exact h4 x (by omega)
    refine ⟨fun z => ⟨vp_in_nI (by omega) (by omega), nx _ ?_⟩, fun z => ⟨vp_in_nI (by omega) (by omega), nx _ ?_⟩⟩
    · rw [gr, if_neg (fun q => z q.2)]
    · rw [gr, if_pos ⟨hft, z⟩]
end
