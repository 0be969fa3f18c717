section
def gc (ft : Nat → Bool) : Nat → Nat
  | 0 => 0
  | k + 1 => if ft k = true then gc ft k + 1 else gc ft k
def gs (ft : Nat → Bool) (om : Nat → Nat → Nat) : Nat → Nat → Nat
  | 0, _ => 0
  | k + 1, e => if ft k = true then gs ft om k e ||| 2 ^ om k e else gs ft om k e
def gf (ft : Nat → Bool) (om : Nat → Nat → Nat) : Nat → Nat → Int32
  | 0, _ => -1
  | k + 1, e => if ft k = true ∧ gc ft k = 0 then nI (om k e) else gf ft om k e
def gr (ft : Nat → Bool) (rb : Nat → Nat → Nat → Bool) : Nat → Nat → Nat → Nat
  | 0, _, _ => 0
  | k + 1, a, b => if ft k = true ∧ rb k a b = true then gr ft rb k a b + 1 else gr ft rb k a b
theorem gc_le {ft : Nat → Bool} : ∀ k, gc ft k ≤ k := by
  intro k
  induction k with
  | zero => exact Nat.le_refl _
  | succ k ih => unfold gc; split <;> omega
theorem gr_le {ft : Nat → Bool} {rb : Nat → Nat → Nat → Bool} {a b : Nat} : ∀ k, gr ft rb k a b ≤ gc ft k := by
  intro k
  induction k with
  | zero => exact Nat.le_refl _
  | succ k ih =>
    unfold gr gc
    by_cases h1 : ft k = true
    · rw [if_pos h1]; split <;> omega
    · rw [if_neg h1, if_neg (fun z => h1 z.1)]; exact ih
theorem gs_lt {ft : Nat → Bool} {om : Nat → Nat → Nat} {e : Nat} {M : Nat} (ho : ∀ k, k < M → om k e < 5) : ∀ k, k ≤ M → gs ft om k e < 2 ^ 5 := by
  intro k
  induction k with
  | zero => intro _; exact Nat.two_pow_pos 5
  | succ k ih =>
    intro hk
    unfold gs
    split
    · exact Nat.or_lt_two_pow (ih (by omega)) (Nat.pow_lt_pow_right (by omega) (ho k (by omega)))
    · exact ih (by omega)
theorem gf_m1 {ft : Nat → Bool} {om : Nat → Nat → Nat} {e : Nat} : ∀ k, gc ft k = 0 → gf ft om k e = -1 := by
  intro k
  induction k with
  | zero => intro _; rfl
  | succ k ih =>
    intro h
    unfold gc at h
    split at h
    · omega
    · rename_i q
      unfold gf
      rw [if_neg (fun z => q z.1)]
      exact ih h
/-! the class's guess -/
theorem clr1_F {h : Hp} : ∀ (k i : Nat) (g : Hp) (E : Hp → Prop), i + k = 5 → (∀ c, c ≠ 73 → c ≠ 74 → g.1 c = h.1 c) → g.2 = h.2 → (∀ e, e < i → g.1 73 e = 0 ∧ g.1 74 e = -1) → (∀ g2 : Hp, (∀ c, c ≠ 73 → c ≠ 74 → g2.1 c = h.1 c) → g2.2 = h.2 → (∀ e, e < 5 → g2.1 73 e = 0 ∧ g2.1 74 e = -1) → E g2) → lp_Guess_clear_7 (k + 1) (nI i) g E := by
  intro k
  induction k with
  | zero =>
    intro i g E hi h1 h2 h3 hE
    unfold lp_Guess_clear_7
    exact ⟨fun _ => hE g h1 h2 (fun e he => h3 e (by omega)), fun z => absurd (nI_le (a := 5) (by omega) (by omega)) z⟩
  | succ k ih =>
    intro i g E hi h1 h2 h3 hE
    unfold lp_Guess_clear_7
    dsimp only [lt]
    rw [nI_1, cl_nI (n := i) (by omega)]
    refine ⟨fun z => absurd z (nI_ge (b := 5) (by omega) (by omega)), fun _ => ⟨vp_in_nI (by omega) (by omega), vp_in_nI (by omega) (by omega), ih (i + 1) _ E (by omega) (fun c c1 c2 => by rw [wi_ne c2, wi_ne c1]; exact h1 c c1 c2) h2 (fun e he => ?_) hE⟩⟩
    rw [wi_ne (show 73 ≠ 74 by omega), wi_eq, wi_eq, wi_ne (show 74 ≠ 73 by omega), upd_a, upd_a]
    by_cases q : e = i
    · rw [if_pos q, if_pos q]; exact ⟨rfl, rfl⟩
    · rw [if_neg q, if_neg q]; exact h3 e (by omega)
theorem clr2_F {h : Hp} : ∀ (k i : Nat) (g : Hp) (E : Hp → Prop), i + k = 25 → (∀ c, c ≠ 75 → g.1 c = h.1 c) → g.2 = h.2 → (∀ e, e < i → g.1 75 e = 0) → (∀ g2 : Hp, (∀ c, c ≠ 75 → g2.1 c = h.1 c) → g2.2 = h.2 → (∀ e, e < 25 → g2.1 75 e = 0) → E g2) → lp_Guess_clear_34 (k + 1) (nI i) g E := by
  intro k
  induction k with
  | zero =>
    intro i g E hi h1 h2 h3 hE
    unfold lp_Guess_clear_34
    exact ⟨fun _ => hE g h1 h2 (fun e he => h3 e (by omega)), fun z => absurd (nI_le (a := 25) (by omega) (by omega)) z⟩
  | succ k ih =>
    intro i g E hi h1 h2 h3 hE
    unfold lp_Guess_clear_34
    dsimp only [lt]
    rw [nI_1, cl_nI (n := i) (by omega)]
    refine ⟨fun z => absurd z (nI_ge (b := 25) (by omega) (by omega)), fun _ => ⟨vp_in_nI (by omega) (by omega), ih (i + 1) _ E (by omega) (fun c c1 => by rw [wi_ne c1]; exact h1 c c1) h2 (fun e he => ?_) hE⟩⟩
    rw [wi_eq, upd_a]
    by_cases q : e = i
    · rw [if_pos q]
    · rw [if_neg q]; exact h3 e (by omega)
theorem clear_F {h : Hp} {P : Hp → Prop} (k : ∀ g : Hp, (∀ c, c ≠ 5 → c ≠ 73 → c ≠ 74 → c ≠ 75 → g.1 c = h.1 c) → g.2 = h.2 → g.1 5 0 = 0 → (∀ e, e < 5 → g.1 73 e = 0 ∧ g.1 74 e = -1) → (∀ e, e < 25 → g.1 75 e = 0) → P g) : wp_Guess_clear h P := by
  unfold wp_Guess_clear
  dsimp only [lt]
  refine ⟨_, clr1_F (h := wi h 5 0 0) 5 0 _ _ (by omega) (fun _ _ _ => rfl) rfl (fun e he => by omega) (fun g h1 h2 h3 => ⟨_, clr2_F (h := g) 25 0 g _ (by omega) (fun _ _ => rfl) rfl (fun e he => by omega) (fun g2 q1 q2 q3 => k g2 (fun c c1 c2 c3 c4 => ?_) ?_ ?_ (fun e he => ?_) q3)⟩)⟩
  · rw [q1 c c4, h1 c c2 c3, wi_ne c1]
  · rw [q2, h2]; rfl
  · rw [q1 5 (by omega), h1 5 (by omega) (by omega), wi_eq, pk_us]
  · rw [q1 73 (by omega), q1 74 (by omega)]; exact h3 e he
/-- the class's state of guessing, behind k orders -/
def GF (n : Nat) (ft : Nat → Bool) (om : Nat → Nat → Nat) (k : Nat) (h : Hp) : Prop := h.1 5 0 = nI (gc ft k) ∧ ∀ e, e < n → h.1 73 e = nI (gs ft om k e) ∧ h.1 74 e = gf ft om k e
theorem add_F {n : Nat} (hn : n ≤ 5) {ft : Nat → Bool} {om : Nat → Nat → Nat} {M : Nat} (hM : M < 2 ^ 20) (hom : ∀ k, k < M → ∀ e, e < n → om k e < 5) {k : Nat} (hk : k < M) (hft : ft k = true) {h : Hp} (hG : GF n ft om k h) (hL : ∀ e, e < n → h.1 72 e = nI (om k e)) {P : Hp → Prop} (K : ∀ g : Hp, (∀ c, c ≠ 5 → c ≠ 73 → c ≠ 74 → g.1 c = h.1 c) → g.2 = h.2 → GF n ft om (k + 1) g → P g) : wp_Guess_add 72 (nI n) h P := by
  have hgc := gc_le (ft := ft) k
  have lp : ∀ (j i : Nat) (g : Hp) (E : Hp → Prop), i + j = n → (∀ c, c ≠ 73 → c ≠ 74 → g.1 c = h.1 c) → g.2 = h.2 → (∀ e, e < i → g.1 73 e = nI (gs ft om (k + 1) e) ∧ g.1 74 e = gf ft om (k + 1) e) → (∀ e, i ≤ e → e < n → g.1 73 e = h.1 73 e ∧ g.1 74 e = h.1 74 e) → (∀ g2 : Hp, (∀ c, c ≠ 73 → c ≠ 74 → g2.1 c = h.1 c) → g2.2 = h.2 → (∀ e, e < n → g2.1 73 e = nI (gs ft om (k + 1) e) ∧ g2.1 74 e = gf ft om (k + 1) e) → E g2) → lp_Guess_add_2 (j + 1) 72 (nI n) (nI i) g E := by
    intro j
    induction j with
    | zero =>
      intro i g E hi h1 h2 h3 h4 hE
      have e : i = n := by omega
      subst e
      unfold lp_Guess_add_2
      exact ⟨fun _ => hE g h1 h2 h3, fun z => absurd (nI_le (by omega) (by omega)) z⟩
    | succ j ih =>
      intro i g E hi h1 h2 h3 h4 hE
      unfold lp_Guess_add_2
      dsimp only [jn, lt]
      obtain ⟨o1, o2⟩ := h4 i (Nat.le_refl _) (by omega)
      obtain ⟨w1, w2⟩ := hG.2 i (by omega)
      have l1 := hom k hk i (by omega)
      have l2 := gs_lt (ft := ft) (e := i) (fun k hk => hom k hk i (by omega)) k (by omega)
      have l3 : 2 ^ om k i < 2 ^ 5 := Nat.pow_lt_pow_right (by omega) l1
      rw [nI_1, cl_nI (n := i) (by omega), h1 72 (by omega) (by omega), hL i (by omega), shl1 (by omega), o1, w1, or_nI (by omega) (by omega), wi_ne (show 5 ≠ 73 by omega), h1 5 (by omega) (by omega), hG.1, nI_zero (by omega), wi_ne (show 72 ≠ 73 by omega), h1 72 (by omega) (by omega), hL i (by omega)]
      have egs : gs ft om (k + 1) i = gs ft om k i ||| 2 ^ om k i := by rw [gs, if_pos hft]
      refine ⟨fun z => absurd z (nI_ge (by omega) (by omega)), fun _ => ⟨fun z => absurd z (nI_ge (b := 5) (by omega) (by omega)), fun _ => ⟨vp_in_nI (by omega) (by omega), vp_in_nI (N := 5) (by omega) (by omega), vp_in_nI (by omega) (by omega), fun z => ?_, fun z => ⟨vp_in_nI (N := 5) (by omega) (by omega), vp_in_nI (by omega) (by omega), ?_⟩⟩⟩⟩
      · have egf : gf ft om (k + 1) i = gf ft om k i := by rw [gf, if_neg (fun q => z q.2)]
        refine ih (i + 1) _ E (by omega) (fun c c1 c2 => by rw [wi_ne c1]; exact h1 c c1 c2) h2 (fun e he => ?_) (fun e he1 he2 => ?_) hE
        · rw [wi_eq, wi_ne (show 74 ≠ 73 by omega), upd_a]
          by_cases q : e = i
          · subst q; rw [if_pos rfl, egs, egf, o2, w2]; exact ⟨rfl, rfl⟩
          · rw [if_neg q]; exact h3 e (by omega)
        · rw [wi_eq, wi_ne (show 74 ≠ 73 by omega), upd_a, if_neg (by omega)]
          exact h4 e (by omega) he2
      · have egf : gf ft om (k + 1) i = nI (om k i) := by rw [gf, if_pos ⟨hft, z⟩]
        refine ih (i + 1) _ E (by omega) (fun c c1 c2 => by rw [wi_ne c2, wi_ne c1]; exact h1 c c1 c2) h2 (fun e he => ?_) (fun e he1 he2 => ?_) hE
        · rw [wi_ne (show 73 ≠ 74 by omega), wi_eq, wi_eq, wi_ne (show 74 ≠ 73 by omega), upd_a, upd_a]
          by_cases q : e = i
          · subst q; rw [if_pos rfl, if_pos rfl, egs, egf]; exact ⟨rfl, rfl⟩
          · rw [if_neg q, if_neg q]; exact h3 e (by omega)
        · rw [wi_ne (show 73 ≠ 74 by omega), wi_eq, wi_eq, wi_ne (show 74 ≠ 73 by omega), upd_a, upd_a, if_neg (by omega), if_neg (by omega)]
          exact h4 e (by omega) he2
  unfold wp_Guess_add
  refine ⟨_, lp n 0 h _ (by omega) (fun _ _ _ => rfl) rfl (fun e he => by omega) (fun _ _ _ => ⟨rfl, rfl⟩) (fun g h1 h2 h3 => ?_)⟩
  dsimp only [lt]
  refine K _ (fun c c1 c2 c3 => by rw [wi_ne c1]; exact h1 c c2 c3) h2 ⟨?_, fun e he => ?_⟩
  · rw [wi_eq, pk_us, h1 5 (by omega) (by omega), hG.1, nI_1, gc, if_pos hft]
  · rw [wi_ne (by omega), wi_ne (by omega)]; exact h3 e he
theorem GF_no {n : Nat} {ft : Nat → Bool} {om : Nat → Nat → Nat} {k : Nat} {h : Hp} (hG : GF n ft om k h) (hft : ¬ ft k = true) : GF n ft om (k + 1) h := by
  unfold GF at *
  refine ⟨by rw [gc, if_neg hft]; exact hG.1, fun e he => ?_⟩
  rw [gs, gf, if_neg hft, if_neg (fun z => hft z.1)]
  exact hG.2 e he
theorem GF.keep {n : Nat} {ft : Nat → Bool} {om : Nat → Nat → Nat} {k : Nat} {h g : Hp} (a : GF n ft om k h) (e1 : g.1 5 = h.1 5) (e2 : g.1 73 = h.1 73) (e3 : g.1 74 = h.1 74) : GF n ft om k g := by
  unfold GF at *
  rw [e1, e2, e3]
  exact a
/-- all the orders, as numbers -/
def om (n : Nat) (k e : Nat) : Nat := gt (oL n k) e
theorem oL_hl {n : Nat} (h2 : 2 ≤ n) (hn : n ≤ 5) : ∀ k, (oL n k).length = 5 := by
  intro k
  induction k with
  | zero => rfl
  | succ k ih =>
    show (adv n (oL n k)).length = 5
    unfold adv
    split
    · exact ih
    · have : ∀ (f : Nat) (L : List Nat) (lo hi : Nat), (fr f L lo hi).length = L.length := by
        intro f
        induction f with
        | zero => intro L lo hi; rfl
        | succ f ihf =>
          intro L lo hi
          unfold fr
          split
          · rfl
          · rw [ihf, sw_len]
      rw [this, sw_len]; exact ih
end
