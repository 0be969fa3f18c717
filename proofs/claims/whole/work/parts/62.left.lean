section
theorem all_in {n p a t : Nat} (hn : n ≤ 5) (hp : p ≤ 1) (ht : t < 2 ^ 11) {B : Nat → Bool} (hB : ∀ b, a < b → b ≤ n → B b = t.testBit (if b = n then 10 else 5 * p + b)) {h : Hp} (hw : h.1 7 0 = nI n) {e2 e3 e4 : Nat} {a7 : Int32} : ∀ (k b : Nat) (s : Nat × Nat) (E : Int32 → Int32 → Prop), b + k = n + 1 → a < b → s.1 < 2 ^ s.2 → s.2 + k ≤ 30 → E (nI (ai B k b s).1) (nI (ai B k b s).2) → lp_Md_allRings_46 (k + 1) (nI p) e2 e3 e4 a7 (nI t) (nI s.1) (nI s.2) (nI b) h E := by
  intro k
  induction k with
  | zero =>
    intro b s E hb hab hs hc hE
    unfold lp_Md_allRings_46
    rw [hw]
    exact ⟨fun _ => hE, fun z => absurd (nI_lt (by omega) (by omega)) z⟩
  | succ k ih =>
    intro b s E hb hab hs hc hE
    have l1 : 2 ^ s.2 ≤ 2 ^ 29 := Nat.pow_le_pow_right (by omega) (by omega)
    unfold lp_Md_allRings_46
    dsimp only [jn, lt]
    have e0 : (0 : Int32) = nI 0 := rfl
    rw [hw, nI_1, nI_1, eq5 hp, nI_add, shl1 (by omega), e0, or_nI (by omega) (by omega), or_nI (by omega) (by omega), nI_eq (by omega) (by omega)]
    have nx : ∀ v : Nat, v = (s.1 ||| (if B b = true then 2 ^ s.2 else 0)) → lp_Md_allRings_46 (k + 1) (nI p) e2 e3 e4 a7 (nI t) (nI v) (nI (s.2 + 1)) (nI (b + 1)) h E := fun v hv => by
      subst hv
      exact ih (b + 1) (s.1 ||| (if B b = true then 2 ^ s.2 else 0), s.2 + 1) E (by omega) (by omega) (st_lt hs) (by (try dsimp only); omega) hE
    refine ⟨fun z => absurd z (nI_nlt (by omega) (by omega)), fun _ => ⟨fun z => has_s (by omega) (by omega) ?_, fun z => has_s (k := 10) (by omega) (by omega) ?_⟩⟩
    · have e := hB b hab (by omega)
      rw [if_neg z] at e
      rw [← e]
      exact ⟨fun y => nx _ (by rw [if_neg y]), fun y => nx _ (by rw [if_pos y])⟩
    · have e := hB b hab (by omega)
      rw [if_pos z] at e
      rw [← e]
      exact ⟨fun y => nx _ (by rw [if_neg y]), fun y => nx _ (by rw [if_pos y])⟩
def Bsp (n p : Nat) (R : Nat → Nat → Prop) (B : Nat → Nat → Bool) : Prop := ∀ a b, a < n → a < b → b ≤ n → (B a b = true ↔ Con R (5 * p + a) (if b = n then 10 else 5 * p + b))
theorem Bsp_ex (n p : Nat) (R : Nat → Nat → Prop) : ∃ B, Bsp n p R B := by
  obtain ⟨f, hf⟩ := toB3 (fun _ a b => Con R (5 * p + a) (if b = n then 10 else 5 * p + b))
  exact ⟨f 0, fun a b _ _ _ => hf 0 a b⟩
theorem allRings_s {n p : Nat} {o m : Nat → Nat} {h0 : Hp} (a1 : R1 n o h0) (a2 : R2 n m h0) (hp : p ≤ 1) {h : Hp} (hs : Sc h0 h) {c1 c3 c4 : Nat} {o2 : Nat → Nat} (ho : ∀ e, e < n → o2 e < n ∧ h.1 c1 e = nI (o2 e)) (hoi : ∀ e f, e < n → f < n → o2 e = o2 f → e = f) (hc1 : al c1 = 5) {N F : Nat → Nat} (hNF : ∀ w, w < n → h.1 c3 w = nI (N w) ∧ h.1 c4 w = nI (F w)) (hNF5 : ∀ w, w < 5 → N w ≤ 5 ∧ F w ≤ 5 ∧ (n ≤ w → N w = 0 ∧ F w = 0)) (hc3 : al c3 = 5) (hc4 : al c4 = 5) {B : Nat → Nat → Bool} (hB : Bsp n p (NR n o2 (m 1) (fun w => m (5 + w)) (m 4) N F) B) {P : Int32 → Prop} (k : P (nI (ao n B n 0 (0, 0)).1)) : wp_Md_allRings (nI p) c1 c3 c4 h P := by
  have hn := a1.2.2.1
  have hw : h.1 7 0 = nI n := by rw [hs.2 7 0 rfl]; exact a1.2.1
  have lp : ∀ (j a : Nat) (s : Nat × Nat) (E : Int32 → Prop), a + j = n → s.1 < 2 ^ s.2 → s.2 ≤ 5 * a → E (nI (ao n B j a s).1) → lp_Md_allRings_9 (j + 1) (nI p) c1 c3 c4 (nI s.1) (nI s.2) (nI a) h E := by
    intro j
    induction j with
    | zero =>
      intro a s E ha hsl hc hE
      unfold lp_Md_allRings_9
      rw [hw]
      exact ⟨fun _ => hE, fun z => absurd (nI_le (by omega) (by omega)) z⟩
    | succ j ih =>
      intro a s E ha hsl hc hE
      unfold lp_Md_allRings_9
      dsimp only [lt]
      rw [hw, nI_1, eq5 hp, nI_add]
      refine ⟨fun z => absurd z (nI_ge (by omega) (by omega)), fun _ => joinedO_s a1 a2 hs ho hoi hc1 hNF hNF5 hc3 hc4 (by omega) (fun t ht => ⟨_, all_in (a := a) (B := B a) hn hp ht.lt (fun b hb1 hb2 => ?_) hw (n - a) (a + 1) s _ (by omega) (by omega) hsl (by omega) ?_⟩)⟩
      · refine iff_b (hB a b (by omega) hb1 hb2) ?_
        rw [ht]
        exact ⟨fun q => q.2, fun q => ⟨by split <;> omega, q⟩⟩
      · obtain ⟨x1, x2⟩ := ai_lt (B := B a) (n - a) (a + 1) s hsl
        exact ih (a + 1) _ E (by omega) x1 (by omega) hE
  unfold wp_Md_allRings
  exact ⟨_, lp n 0 (0, 0) _ (by omega) (Nat.one_pos) (Nat.le_refl _) k⟩
/-! two orders that ring alike -/
def sameR (n p : Nat) (R R' : Nat → Nat → Prop) : Prop := ∀ a, a < n → (∀ b, a < b → b < n → (Con R (5 * p + a) (5 * p + b) ↔ Con R' (5 * p + a) (5 * p + b))) ∧ (Con R (5 * p + a) 10 ↔ Con R' (5 * p + a) 10)
theorem all_same {n p : Nat} {R R' : Nat → Nat → Prop} {B B' : Nat → Nat → Bool} (h : Bsp n p R B) (h' : Bsp n p R' B') : (ao n B n 0 (0, 0)).1 = (ao n B' n 0 (0, 0)).1 ↔ sameR n p R R' := by
  rw [ao_inj n 0 (0, 0) (0, 0) (by omega) (Nat.one_pos) (Nat.one_pos) rfl]
  constructor
  · rintro ⟨_, q⟩ a ha
    refine ⟨fun b hb1 hb2 => ?_, ?_⟩
    · have e := q a b (by omega) ha hb1 (by omega)
      have r1 := h a b ha hb1 (by omega)
      have r2 := h' a b ha hb1 (by omega)
      rw [if_neg (by omega)] at r1 r2
      rw [← r1, ← r2, e]
    · have e := q a n (by omega) ha (by omega) (by omega)
      have r1 := h a n ha (by omega) (by omega)
      have r2 := h' a n ha (by omega) (by omega)
      rw [if_pos rfl] at r1 r2
      rw [← r1, ← r2, e]
  · intro q
    refine ⟨rfl, fun a b _ ha hb1 hb2 => ?_⟩
    have r1 := h a b ha hb1 hb2
    have r2 := h' a b ha hb1 hb2
    by_cases e : b = n
    · rw [if_pos e] at r1 r2
      exact iff_b (r1.trans (q a ha).2) r2
    · rw [if_neg e] at r1 r2
      exact iff_b (r1.trans ((q a ha).1 b hb1 (by omega))) r2
def iso (n p : Nat) (R : Nat → Nat → Prop) : Prop := ∀ b, n ≤ b → b < 5 → ∀ x y, R x y → x ≠ 5 * p + b ∧ y ≠ 5 * p + b
theorem iso_no {n p : Nat} {R : Nat → Nat → Prop} (h : iso n p R) {a b : Nat} (ha : a < n) (h1 : n ≤ b) (h2 : b < 5) : ¬ Con R (5 * p + a) (5 * p + b) := fun q => by
  have := q (fun x => x ≠ 5 * p + b) (fun x y r => ⟨fun _ => (h b h1 h2 x y r).2, fun _ => (h b h1 h2 x y r).1⟩) (by omega)
  exact this rfl
theorem NR_iso {n p : Nat} {o : Nat → Nat} {hr : Nat} {K : Nat → Nat} {T : Nat} {N F : Nat → Nat} (hn : n ≤ 5) (hp : p ≤ 1) (ho : ∀ e, e < n → o e < n) (hT : tmk n T) (hK : ∀ w, n ≤ w → w < 5 → K w ≠ 2) (hNF : ∀ w, w < 5 → n ≤ w → N w = 0 ∧ F w = 0) : iso n p (NR n o hr K T N F) := by
  intro b h1 h2 x y r
  rcases r with (⟨q1, q2, q3⟩ | ⟨q1, q2, q3⟩ | ⟨q1, q2, q3, q4⟩) | ⟨q1, q2, q3, q4⟩
  · have : x < n := Nat.lt_of_not_le (fun z => hK x z q1 q2)
    omega
  · have hxy : x < n ∧ y < n := by
      rcases q3 with q3 | ⟨q3, q4⟩
      · obtain ⟨c, d, r1, r2, r3⟩ := hT.2 _ q3
        unfold pn at r3
        omega
      · exact ⟨Nat.lt_of_not_le (fun z => q3 (hNF x (by omega) z).1), Nat.lt_of_not_le (fun z => q3 (by rw [q4]; exact (hNF y (by omega) z).1))⟩
    omega
  · obtain ⟨r1, r2⟩ := q4
    have hx : x - 5 < n := Nat.lt_of_not_le (fun z => r1 (hNF (x - 5) (by omega) z).2)
    have hy : y - 5 < n := Nat.lt_of_not_le (fun z => r1 (by rw [r2]; exact (hNF (y - 5) (by omega) z).2))
    omega
  · have : x < n := by rw [q3]; exact ho _ q2
    omega
theorem hd_eq {t t' p : Nat} : hd t p = hd t' p ↔ (∀ j, j < 5 → t.testBit (5 * p + j) = t'.testBit (5 * p + j)) ∧ t.testBit 10 = t'.testBit 10 := by
  constructor
  · intro h
    have e : ∀ j, (hd t p).testBit j = (hd t' p).testBit j := fun j => by rw [h]
    refine ⟨fun j hj => ?_, ?_⟩
    · have := e j
      rw [hd_bits, hd_bits] at this
      have h3 : ¬ j = 5 := by omega
      simpa [hj, h3] using this
    · have := e 5
      rw [hd_bits, hd_bits] at this
      simpa using this
  · rintro ⟨h1, h2⟩
    apply Nat.eq_of_testBit_eq
    intro j
    rw [hd_bits, hd_bits, h2]
    by_cases hj : j < 5
    · rw [h1 j hj]
    · simp [hj]
theorem pat_same {n p : Nat} (hn : n ≤ 5) (hp : p ≤ 1) {R R' : Nat → Nat → Prop} {g g' : Nat → Nat} (h : PR R g) (h' : PR R' g') (hi : iso n p R) (hi' : iso n p R') : ptn (fun i => hd (g (5 * p + i)) p) n = ptn (fun i => hd (g' (5 * p + i)) p) n ↔ sameR n p R R' := by
  rw [ptn_inj (fun _ => hd_lt) (fun _ => hd_lt)]
  constructor
  · intro q a ha
    have e := q a ha
    (try dsimp only at e)
    obtain ⟨e1, e2⟩ := hd_eq.mp e
    have x := h (5 * p + a) (by omega)
    have x' := h' (5 * p + a) (by omega)
    refine ⟨fun b hb1 hb2 => ?_, ?_⟩
    · have r1 := x (5 * p + b)
      have r2 := x' (5 * p + b)
      rw [e1 b (by omega)] at r1
      have := r1.symm.trans r2
      exact ⟨fun z => (this.mp ⟨by omega, z⟩).2, fun z => (this.mpr ⟨by omega, z⟩).2⟩
    · have r1 := x 10
      have r2 := x' 10
      rw [e2] at r1
      have := r1.symm.trans r2
      exact ⟨fun z => (this.mp ⟨by omega, z⟩).2, fun z => (this.mpr ⟨by omega, z⟩).2⟩
  · intro q a ha
    (try dsimp only)
    have x := h (5 * p + a) (by omega)
    have x' := h' (5 * p + a) (by omega)
    refine hd_eq.mpr ⟨fun b hb => ?_, ?_⟩
    · refine iff_b (x (5 * p + b)) ((x' (5 * p + b)).trans (and_congr_right (fun _ => ?_)))
      by_cases hbn : b < n
      · rcases Nat.lt_trichotomy a b with z | z | z
        · exact ((q a ha).1 b z hbn).symm
        · rw [z]; exact ⟨fun _ => con_refl _ _, fun _ => con_refl _ _⟩
        · have := (q b hbn).1 a z ha
          exact ⟨fun y => con_symm (this.mpr (con_symm y)), fun y => con_symm (this.mp (con_symm y))⟩
      · exact ⟨fun y => absurd y (iso_no hi' ha (by omega) hb), fun y => absurd y (iso_no hi ha (by omega) hb)⟩
    · exact iff_b (x 10) ((x' 10).trans (and_congr_right (fun _ => (q a ha).2.symm)))
end
