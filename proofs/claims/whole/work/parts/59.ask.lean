section
theorem hear_in {n p a : Nat} (hn : n ≤ 5) (hp : p ≤ 1) (ha : a < n) {ft : Nat → Bool} {rb : Nat → Nat → Nat → Bool} {k : Nat} (hk : k < 2 ^ 20) (hft : ft k = true) {R : Nat → Nat → Prop} {f : Nat → Nat} (hpf : PR R f) (hrb : ∀ b, b < n → (rb k a b = true ↔ Con R (5 * p + a) (5 * p + b))) {h : Hp} (h63 : row h 63 f) (h75 : ∀ b, a < b → b < n → h.1 75 (5 * a + b) = nI (gr ft rb k a b)) : ∀ (j b : Nat) (g : Hp) (E : Hp → Prop), b + j = n → a < b → (∀ c, c ≠ 75 → g.1 c = h.1 c) → g.2 = h.2 → (∀ b2, a < b2 → b2 < b → g.1 75 (5 * a + b2) = nI (gr ft rb (k + 1) a b2)) → (∀ x, x ≤ 5 * a + a ∨ 5 * a + b ≤ x → g.1 75 x = h.1 75 x) → (∀ g2 : Hp, (∀ c, c ≠ 75 → g2.1 c = h.1 c) → g2.2 = h.2 → (∀ b2, a < b2 → b2 < n → g2.1 75 (5 * a + b2) = nI (gr ft rb (k + 1) a b2)) → (∀ x, x ≤ 5 * a + a ∨ 5 * a + n ≤ x → g2.1 75 x = h.1 75 x) → E g2) → lp_Guess_hear_21 (j + 1) 45 (nI p) (nI n) (nI a) (nI b) g E := by
  intro j
  induction j with
  | zero =>
    intro b g E hb heb h1 h2 h3 h4 hE
    have e1 : b = n := by omega
    subst e1
    unfold lp_Guess_hear_21
    exact ⟨fun _ => hE g h1 h2 h3 h4, fun z => absurd (nI_le (by omega) (by omega)) z⟩
  | succ j ih =>
    intro b g E hb heb h1 h2 h3 h4 hE
    have hg1 := gr_le (ft := ft) (rb := rb) (a := a) (b := b) k
    have hg2 := gc_le (ft := ft) k
    unfold lp_Guess_hear_21
    dsimp only [jn, lt]
    have e5 : (5 : Int32) * nI a + nI b = nI (5 * a + b) := by rw [show (5 : Int32) * nI a = nI (5 * a) from pk_mul 5 a, nI_add]
    rw [e5, nI_1, cl_nI (n := 5 * a + b) (by omega), h4 (5 * a + b) (by omega), h75 b heb (by omega), nI_1]
    refine ⟨fun z => absurd z (nI_ge (by omega) (by omega)), fun _ => ⟨fun z => absurd z (nI_ge (b := 5) (by omega) (by omega)), fun _ => nodeOf_s hp (by omega) (nodeOf_s hp (by omega) (areJoined_s (r := 45) (g := f) (fun x hx => by rw [h1 (45 + 18) (by omega)]; exact h63 x hx) hpf (by omega) (by omega) (fun v hv => ?_)))⟩⟩
    have ev : v = rb k a b := iff_b hv (hrb b (by omega))
    refine ⟨fun z => ?_, fun z => ⟨vp_in_nI (by omega) (by omega), vp_in_nI (by omega) (by omega), ?_⟩⟩
    · refine ih (b + 1) g E (by omega) (by omega) h1 h2 (fun b2 q1 q2 => ?_) (fun x hx => h4 x (by omega)) hE
      by_cases q : b2 = b
      · rw [q, h4 (5 * a + b) (by omega), h75 b heb (by omega), gr, if_neg (fun y => z (by rw [ev]; exact y.2))]
      · exact h3 b2 q1 (by omega)
    · refine ih (b + 1) _ E (by omega) (by omega) (fun c c1 => by rw [wi_ne c1]; exact h1 c c1) h2 (fun b2 q1 q2 => ?_) (fun x hx => ?_) hE
      · rw [wi_eq, upd_a]
        by_cases q : b2 = b
        · rw [q, if_pos rfl, gr, if_pos ⟨hft, by rw [← ev]; exact z⟩]
        · rw [if_neg (by omega)]; exact h3 b2 q1 (by omega)
      · rw [wi_eq, upd_a, if_neg (by omega)]; exact h4 x (by omega)
theorem hear_s {n p : Nat} (hn : n ≤ 5) (hp : p ≤ 1) {ft : Nat → Bool} {rb : Nat → Nat → Nat → Bool} {k : Nat} (hk : k < 2 ^ 20) (hft : ft k = true) {R : Nat → Nat → Prop} {f : Nat → Nat} (hpf : PR R f) (hrb : ∀ a b, a < n → b < n → (rb k a b = true ↔ Con R (5 * p + a) (5 * p + b))) {h : Hp} (h63 : row h 63 f) (h75 : ∀ a b, a < b → b < n → h.1 75 (5 * a + b) = nI (gr ft rb k a b)) {P : Hp → Prop} (K : ∀ g2 : Hp, (∀ c, c ≠ 75 → g2.1 c = h.1 c) → g2.2 = h.2 → (∀ a b, a < b → b < n → g2.1 75 (5 * a + b) = nI (gr ft rb (k + 1) a b)) → P g2) : wp_Guess_hear 45 (nI p) (nI n) h P := by
  have lp : ∀ (j a : Nat) (g : Hp), a + j = n → (∀ c, c ≠ 75 → g.1 c = h.1 c) → g.2 = h.2 → (∀ a2 b, a2 < a → a2 < b → b < n → g.1 75 (5 * a2 + b) = nI (gr ft rb (k + 1) a2 b)) → (∀ a2 b, a ≤ a2 → a2 < b → b < n → g.1 75 (5 * a2 + b) = h.1 75 (5 * a2 + b)) → lp_Guess_hear_3 (j + 1) 45 (nI p) (nI n) (nI a) g (fun h3x => P h3x) := by
    intro j
    induction j with
    | zero =>
      intro a g ha h1 h2 h3 h4
      have e : a = n := by omega
      subst e
      unfold lp_Guess_hear_3
      exact ⟨fun _ => K g h1 h2 (fun a2 b q1 q2 => h3 a2 b (by omega) q1 q2), fun z => absurd (nI_le (by omega) (by omega)) z⟩
    | succ j ih =>
      intro a g ha h1 h2 h3 h4
      unfold lp_Guess_hear_3
      dsimp only [lt]
      rw [nI_1]
      refine ⟨fun z => absurd z (nI_ge (by omega) (by omega)), fun _ => ⟨fun z => absurd z (nI_ge (b := 5) (by omega) (by omega)), fun _ => ⟨_, hear_in (ft := ft) (rb := rb) (k := k) hn hp (show a < n by omega) hk hft hpf (fun b hb => hrb a b (by omega) hb) (h := g) (fun x hx => by rw [h1 63 (by omega)]; exact h63 x hx) (fun b q1 q2 => by rw [h4 a b (Nat.le_refl _) q1 q2]; exact h75 a b q1 q2) (n - (a + 1)) (a + 1) g _ (by omega) (by omega) (fun _ _ => rfl) rfl (fun b2 q1 q2 => by omega) (fun _ _ => rfl) (fun g2 y1 y2 y3 y4 => ?_)⟩⟩⟩
      refine ih (a + 1) g2 (by omega) (fun c c1 => by rw [y1 c c1]; exact h1 c c1) (by rw [y2]; exact h2) (fun a2 b q1 q2 q3 => ?_) (fun a2 b q1 q2 q3 => ?_)
      · by_cases q : a2 = a
        · rw [q]; exact y3 b (by omega) q3
        · rw [y4 (5 * a2 + b) (by omega)]; exact h3 a2 b (by omega) q2 q3
      · rw [y4 (5 * a2 + b) (by omega)]; exact h4 a2 b (by omega) q2 q3
  unfold wp_Guess_hear
  exact ⟨_, lp n 0 h (by omega) (fun _ _ => rfl) rfl (fun a b q => by omega) (fun _ _ _ _ _ => rfl)⟩
/-! the best pair -/
def bi (cnt : Nat) (r : Nat → Nat → Nat) (a : Nat) : Nat → Nat → Int32 × Nat → Int32 × Nat
  | 0, _, s => s
  | k + 1, b, s => bi cnt r a k (b + 1) (if max (r a b) (cnt - r a b) < s.2 then (nI (10 * a + b), max (r a b) (cnt - r a b)) else s)
def bo (n cnt : Nat) (r : Nat → Nat → Nat) : Nat → Nat → Int32 × Nat → Int32 × Nat
  | 0, _, s => s
  | k + 1, a, s => bo n cnt r k (a + 1) (bi cnt r a (n - (a + 1)) (a + 1) s)
theorem bi_le {cnt : Nat} {r : Nat → Nat → Nat} (hr : ∀ a b, r a b ≤ cnt) {a : Nat} : ∀ k b s, s.2 ≤ cnt → (bi cnt r a k b s).2 ≤ cnt := by
  intro k
  induction k with
  | zero => intro b s h; exact h
  | succ k ih =>
    intro b s h
    have := hr a b
    refine ih (b + 1) _ ?_
    split
    · (try dsimp only); omega
    · exact h
theorem mul10 {a b : Nat} : (10 : Int32) * nI a + nI b = nI (10 * a + b) := by rw [show (10 : Int32) * nI a = nI (10 * a) from pk_mul 10 a, nI_add]
theorem best_in {n cnt : Nat} (hn : n ≤ 5) (hc : cnt ≤ 120) {r : Nat → Nat → Nat} (hr : ∀ a b, r a b ≤ cnt) {h : Hp} (h5 : h.1 5 0 = nI cnt) {a : Nat} (ha : a < n) (h75 : ∀ b, a < b → b < n → h.1 75 (5 * a + b) = nI (r a b)) : ∀ (j b : Nat) (s : Int32 × Nat) (E : Int32 → Int32 → Prop), b + j = n → a < b → s.2 ≤ cnt → E (bi cnt r a j b s).1 (nI (bi cnt r a j b s).2) → lp_Guess_bestPair_28 (j + 1) (nI n) (nI a) s.1 (nI s.2) (nI b) h E := by
  intro j
  induction j with
  | zero =>
    intro b s E hb hab hs hE
    unfold lp_Guess_bestPair_28
    exact ⟨fun _ => hE, fun z => absurd (nI_le (by omega) (by omega)) z⟩
  | succ j ih =>
    intro b s E hb hab hs hE
    have hrb := hr a b
    unfold lp_Guess_bestPair_28
    dsimp only [jn, lt]
    have e5 : (5 : Int32) * nI a + nI b = nI (5 * a + b) := by rw [show (5 : Int32) * nI a = nI (5 * a) from pk_mul 5 a, nI_add]
    rw [e5, nI_1, cl_nI (n := 5 * a + b) (by omega), h75 b hab (by omega), h5, sub_nI hrb (by omega), jmax_nI (by omega) (by omega), mul10, nI_leI (a := s.2) (by omega) (by omega)]
    refine ⟨fun z => absurd z (nI_ge (by omega) (by omega)), fun _ => ⟨fun z => absurd z (nI_ge (b := 5) (by omega) (by omega)), fun _ => ⟨vp_in_nI (by omega) (by omega), fun z => ?_, fun z => ?_⟩⟩⟩
    · have e : bi cnt r a (j + 1) b s = bi cnt r a j (b + 1) s := by rw [bi, if_neg (by omega)]
      rw [e] at hE
      exact ih (b + 1) s E (by omega) (by omega) hs hE
    · have e : bi cnt r a (j + 1) b s = bi cnt r a j (b + 1) (nI (10 * a + b), max (r a b) (cnt - r a b)) := by rw [bi, if_pos (by omega)]
      rw [e] at hE
      exact ih (b + 1) (nI (10 * a + b), max (r a b) (cnt - r a b)) E (by omega) (by omega) (by (try dsimp only); omega) hE
theorem best_s {n cnt : Nat} (hn : n ≤ 5) (hc : cnt ≤ 120) {r : Nat → Nat → Nat} (hr : ∀ a b, r a b ≤ cnt) {h : Hp} (h5 : h.1 5 0 = nI cnt) (h75 : ∀ a b, a < b → b < n → h.1 75 (5 * a + b) = nI (r a b)) {P : Int32 → Prop} (K : P (bo n cnt r n 0 (-1, cnt)).1) : wp_Guess_bestPair (nI n) h P := by
  have lp : ∀ (j a : Nat) (s : Int32 × Nat) (E : Int32 → Prop), a + j = n → s.2 ≤ cnt → E (bo n cnt r j a s).1 → lp_Guess_bestPair_10 (j + 1) (nI n) s.1 (nI s.2) (nI a) h E := by
    intro j
    induction j with
    | zero =>
      intro a s E ha hs hE
      unfold lp_Guess_bestPair_10
      exact ⟨fun _ => hE, fun z => absurd (nI_le (by omega) (by omega)) z⟩
    | succ j ih =>
      intro a s E ha hs hE
      unfold lp_Guess_bestPair_10
      dsimp only [lt]
      rw [nI_1]
      exact ⟨fun z => absurd z (nI_ge (by omega) (by omega)), fun _ => ⟨fun z => absurd z (nI_ge (b := 5) (by omega) (by omega)), fun _ => ⟨_, best_in hn hc hr h5 (show a < n by omega) (fun b q1 q2 => h75 a b q1 q2) (n - (a + 1)) (a + 1) s _ (by omega) (by omega) hs (ih (a + 1) _ E (by omega) (bi_le hr _ _ _ hs) hE)⟩⟩⟩
  unfold wp_Guess_bestPair
  dsimp only [lt]
  rw [h5]
  exact ⟨_, lp n 0 (-1, cnt) _ (by omega) (Nat.le_refl _) K⟩
theorem ask_in {n cnt : Nat} (hn : n ≤ 5) (hc : cnt ≤ 120) {r : Nat → Nat → Nat} (hr : ∀ a b, r a b ≤ cnt) {h : Hp} (hw : h.1 7 0 = nI n) (h5 : h.1 7 34 = nI cnt) {a : Nat} (ha : a < n) (h75 : ∀ b, a < b → b < n → h.1 95 (5 * a + b) = nI (r a b)) : ∀ (j b : Nat) (s : Int32 × Nat) (E : Int32 → Int32 → Prop), b + j = n → a < b → s.2 ≤ cnt → E (bi cnt r a j b s).1 (nI (bi cnt r a j b s).2) → lp_Md_askPair_26 (j + 1) (nI a) s.1 (nI s.2) (nI b) h E := by
  intro j
  induction j with
  | zero =>
    intro b s E hb hab hs hE
    unfold lp_Md_askPair_26
    rw [hw]
    exact ⟨fun _ => hE, fun z => absurd (nI_le (by omega) (by omega)) z⟩
  | succ j ih =>
    intro b s E hb hab hs hE
    have hrb := hr a b
    unfold lp_Md_askPair_26
    dsimp only [jn, lt]
    rw [hw, nI_1, h5, mul10]
    refine ⟨fun z => absurd z (nI_ge (by omega) (by omega)), fun _ => pair_s (by omega) (by omega) ?_⟩
    have ep : pn a b = 5 * a + b := by unfold pn; omega
    rw [ep, cl_nI (n := 5 * a + b) (by omega), h75 b hab (by omega), sub_nI hrb (by omega)]
    have fin : ∀ g : Nat, g = max (r a b) (cnt - r a b) → ((nI s.2 ≤ nI g → (nI s.2 ≤ nI g → lp_Md_askPair_26 (j + 1) (nI a) s.1 (nI s.2) (nI (b + 1)) h E) ∧ (¬ nI s.2 ≤ nI g → lp_Md_askPair_26 (j + 1) (nI a) s.1 (nI g) (nI (b + 1)) h E)) ∧ (¬ nI s.2 ≤ nI g → (nI s.2 ≤ nI g → lp_Md_askPair_26 (j + 1) (nI a) (nI (10 * a + b)) (nI s.2) (nI (b + 1)) h E) ∧ (¬ nI s.2 ≤ nI g → lp_Md_askPair_26 (j + 1) (nI a) (nI (10 * a + b)) (nI g) (nI (b + 1)) h E))) := fun g hg => by
      rw [nI_leI (by omega) (by omega)]
      refine ⟨fun z => ⟨fun _ => ?_, fun y => absurd z y⟩, fun z => ⟨fun y => absurd y z, fun _ => ?_⟩⟩
      · have e : bi cnt r a (j + 1) b s = bi cnt r a j (b + 1) s := by rw [bi, if_neg (by omega)]
        rw [e] at hE
        exact ih (b + 1) s E (by omega) (by omega) hs hE
      · have e : bi cnt r a (j + 1) b s = bi cnt r a j (b + 1) (nI (10 * a + b), g) := by rw [bi, if_pos (by omega), hg]
        rw [e] at hE
        exact ih (b + 1) (nI (10 * a + b), g) E (by omega) (by omega) (by (try dsimp only); omega) hE
    refine ⟨vp_in_nI (by omega) (by omega), fun z => fin (cnt - r a b) ?_, fun z => fin (r a b) ?_⟩
    · have := (nI_leI (by omega) (by omega)).mp z; omega
    · have : ¬ r a b ≤ cnt - r a b := fun q => z (nI_le q (by omega)); omega
theorem ask_s {n cnt : Nat} (hn : n ≤ 5) (hc : cnt ≤ 120) {r : Nat → Nat → Nat} (hr : ∀ a b, r a b ≤ cnt) {h : Hp} (hw : h.1 7 0 = nI n) (h5 : h.1 7 34 = nI cnt) (h75 : ∀ a b, a < b → b < n → h.1 95 (5 * a + b) = nI (r a b)) {P : Int32 → Prop} (K : P (bo n cnt r n 0 (-1, cnt)).1) : ∃ n13, lp_Md_askPair_13 n13 (-1 : Int32) (h.1 7 34) (0 : Int32) h (fun (w13_1 : Int32) => P w13_1) := by
  have lp : ∀ (j a : Nat) (s : Int32 × Nat) (E : Int32 → Prop), a + j = n → s.2 ≤ cnt → E (bo n cnt r j a s).1 → lp_Md_askPair_13 (j + 1) s.1 (nI s.2) (nI a) h E := by
    intro j
    induction j with
    | zero =>
      intro a s E ha hs hE
      unfold lp_Md_askPair_13
      rw [hw]
      exact ⟨fun _ => hE, fun z => absurd (nI_le (by omega) (by omega)) z⟩
    | succ j ih =>
      intro a s E ha hs hE
      unfold lp_Md_askPair_13
      dsimp only [lt]
      rw [hw, nI_1]
      exact ⟨fun z => absurd z (nI_ge (by omega) (by omega)), fun _ => ⟨_, ask_in hn hc hr hw h5 (show a < n by omega) (fun b q1 q2 => h75 a b q1 q2) (n - (a + 1)) (a + 1) s _ (by omega) (by omega) hs (ih (a + 1) _ E (by omega) (bi_le hr _ _ _ hs) hE)⟩⟩
  rw [h5]
  exact ⟨_, lp n 0 (-1, cnt) _ (by omega) (Nat.le_refl _) K⟩
end
