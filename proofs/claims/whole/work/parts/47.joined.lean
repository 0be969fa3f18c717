section
def mN (n : Nat) (N : Nat → Nat) (g a : Nat) : Prop := ∀ j, a.testBit j = true ↔ j < n ∧ N j = g
def mF (n : Nat) (F : Nat → Nat) (g a : Nat) : Prop := ∀ j, a.testBit j = true ↔ 5 ≤ j ∧ j - 5 < n ∧ F (j - 5) = g
theorem mN_lt {n : Nat} {N : Nat → Nat} {g a : Nat} (hn : n ≤ 5) (h : mN n N g a) : a < 2 ^ 11 := Nat.lt_pow_two_of_testBit _ (fun j hj => by
  cases q : a.testBit j
  · rfl
  · have := (h j).mp q; omega)
theorem mF_lt {n : Nat} {N : Nat → Nat} {g a : Nat} (hn : n ≤ 5) (h : mF n N g a) : a < 2 ^ 11 := Nat.lt_pow_two_of_testBit _ (fun j hj => by
  cases q : a.testBit j
  · rfl
  · have := (h j).mp q; omega)
theorem mN_t {w : Nat} {N : Nat → Nat} {g a : Nat} (h : mN w N g a) (e : N w = g) : mN (w + 1) N g (a ||| 2 ^ w) := fun j => by
  rw [Nat.testBit_or, Nat.testBit_two_pow, Bool.or_eq_true, decide_eq_true_eq, h j]
  constructor
  · rintro (⟨h1, h2⟩ | rfl)
    · exact ⟨by omega, h2⟩
    · exact ⟨by omega, e⟩
  · rintro ⟨h1, h2⟩
    by_cases q : w = j
    · exact Or.inr q
    · exact Or.inl ⟨by omega, h2⟩
theorem mN_f {w : Nat} {N : Nat → Nat} {g a : Nat} (h : mN w N g a) (e : ¬ N w = g) : mN (w + 1) N g (a ||| 0) := fun j => by
  rw [Nat.or_zero, h j]
  constructor
  · rintro ⟨h1, h2⟩
    exact ⟨by omega, h2⟩
  · rintro ⟨h1, h2⟩
    by_cases q : j = w
    · rw [q] at h2; exact absurd h2 e
    · exact ⟨by omega, h2⟩
theorem mF_t {w : Nat} {N : Nat → Nat} {g a : Nat} (h : mF w N g a) (e : N w = g) : mF (w + 1) N g (a ||| 2 ^ (5 + w)) := fun j => by
  rw [Nat.testBit_or, Nat.testBit_two_pow, Bool.or_eq_true, decide_eq_true_eq, h j]
  constructor
  · rintro (⟨h1, h2, h3⟩ | rfl)
    · exact ⟨h1, by omega, h3⟩
    · exact ⟨by omega, by omega, by rw [Nat.add_sub_cancel_left]; exact e⟩
  · rintro ⟨h1, h2, h3⟩
    by_cases q : 5 + w = j
    · exact Or.inr q
    · exact Or.inl ⟨h1, by omega, h3⟩
theorem mF_f {w : Nat} {N : Nat → Nat} {g a : Nat} (h : mF w N g a) (e : ¬ N w = g) : mF (w + 1) N g (a ||| 0) := fun j => by
  rw [Nat.or_zero, h j]
  constructor
  · rintro ⟨h1, h2, h3⟩
    exact ⟨h1, by omega, h3⟩
  · rintro ⟨h1, h2, h3⟩
    by_cases q : j - 5 = w
    · rw [q] at h3; exact absurd h3 e
    · exact ⟨h1, by omega, h3⟩
theorem jo_g {n : Nat} {o : Nat → Nat} {c1 T : Nat} {K : Nat → Nat} {cut hr c3 c4 g0 : Nat} {N F : Nat → Nat} {h : Hp} (H : MH n o c1 T K cut hr c3 c4 g0 N F h) {p8 : Int32} {g : Nat} (hg : g ≤ 5) : ∀ (k w a b : Nat) (E : Int32 → Int32 → Prop), w + k = n → mN w N g a → mF w F g b → (∀ a2 b2, mN n N g a2 → mF n F g b2 → E (nI a2) (nI b2)) → lp_Md_joinedOnce_172 (k + 1) c3 c4 (nI g0) p8 (nI g) (nI a) (nI b) (nI w) h E := by
  obtain ⟨⟨hw0, hn, hT, hT2, hcu, hhr⟩, ⟨ho, hoi, hc1, hc2⟩, hK, hNF, hl3, hl3', hl4, hl4'⟩ := id H
  intro k
  induction k with
  | zero =>
    intro w a b E hw ha hb hE
    have e : w = n := by omega
    subst e
    unfold lp_Md_joinedOnce_172
    rw [hw0]
    exact ⟨fun _ => hE a b ha hb, fun z => absurd (nI_le (by omega) (by omega)) z⟩
  | succ k ih =>
    intro w a b E hw ha hb hE
    have la := mN_lt (by omega) ha
    have lb := mF_lt (by omega) hb
    obtain ⟨n1, n2, n3, n4⟩ := hNF w (by omega)
    unfold lp_Md_joinedOnce_172
    dsimp only [jn, lt]
    have e0 : (0 : Int32) = nI 0 := rfl
    have p1 : 2 ^ w < 2 ^ 11 := Nat.pow_lt_pow_right (by omega) (by omega)
    have p2 : 2 ^ (5 + w) < 2 ^ 11 := Nat.pow_lt_pow_right (by omega) (by omega)
    rw [hw0, nI_1, nI_add, cl_nI (n := g0 + w) (by omega), n1, n2, shl1 (by omega), shl32 (by omega), e0, or_nI (by omega) (by omega), or_nI (by omega) (by omega), or_nI (by omega) (by omega), or_nI (by omega) (by omega)]
    have fin : ∀ a2, mN (w + 1) N g a2 → ((vp_in (nI (g0 + w)) (al c4)) ∧ ((¬ nI (F w) = nI g) → lp_Md_joinedOnce_172 (k + 1) c3 c4 (nI g0) p8 (nI g) (nI a2) (nI (b ||| 0)) (nI (w + 1)) h E) ∧ ((nI (F w) = nI g) → lp_Md_joinedOnce_172 (k + 1) c3 c4 (nI g0) p8 (nI g) (nI a2) (nI (b ||| 2 ^ (5 + w))) (nI (w + 1)) h E)) := fun a2 h2 =>
      ⟨vp_in_nI (by omega) (by omega), fun z => ih (w + 1) a2 _ E (by omega) h2 (mF_f hb (fun e => z (by rw [e]))) hE, fun z => ih (w + 1) a2 _ E (by omega) h2 (mF_t hb (nI_inj (by omega) (by omega) z)) hE⟩
    exact ⟨fun z => absurd z (nI_ge (by omega) (by omega)), fun _ => ⟨vp_in_nI (by omega) (by omega), fun z => fin _ (mN_f ha (fun e => z (by rw [e]))), fun z => fin _ (mN_t ha (nI_inj (by omega) (by omega) z))⟩⟩
def Cg (n : Nat) (N F : Nat → Nat) (g : Nat) (S : Nat → Prop) : Prop := (∀ u v, u < n → v < n → N u = g → N v = g → (S u → S v)) ∧ (∀ u v, u < n → v < n → F u = g → F v = g → (S (5 + u) → S (5 + v)))
theorem Un_N {n : Nat} {N : Nat → Nat} {g a : Nat} (h : mN n N g a) {S : Nat → Prop} : Un S a ↔ ∀ u v, u < n → v < n → N u = g → N v = g → (S u → S v) :=
  ⟨fun q u v h1 h2 h3 h4 => q u v ((h u).mpr ⟨h1, h3⟩) ((h v).mpr ⟨h2, h4⟩), fun q u v h1 h2 => q u v ((h u).mp h1).1 ((h v).mp h2).1 ((h u).mp h1).2 ((h v).mp h2).2⟩
theorem Un_F {n : Nat} {N : Nat → Nat} {g a : Nat} (h : mF n N g a) {S : Nat → Prop} : Un S a ↔ ∀ u v, u < n → v < n → N u = g → N v = g → (S (5 + u) → S (5 + v)) := by
  constructor
  · intro q u v h1 h2 h3 h4
    exact q (5 + u) (5 + v) ((h _).mpr ⟨by omega, by omega, by rw [Nat.add_sub_cancel_left]; exact h3⟩) ((h _).mpr ⟨by omega, by omega, by rw [Nat.add_sub_cancel_left]; exact h4⟩)
  · intro q i j h1 h2
    obtain ⟨a1, a2, a3⟩ := (h i).mp h1
    obtain ⟨b1, b2, b3⟩ := (h j).mp h2
    have := q (i - 5) (j - 5) a2 b2 a3 b3
    rw [show 5 + (i - 5) = i by omega, show 5 + (j - 5) = j by omega] at this
    exact this
theorem jo_gs {n : Nat} {o : Nat → Nat} {c1 T : Nat} {K : Nat → Nat} {cut hr c3 c4 g0 : Nat} {N F : Nat → Nat} {h : Hp} (H : MH n o c1 T K cut hr c3 c4 g0 N F h) {C : (Nat → Prop) → Prop} {s : Nat} : ∀ (k g t : Nat) (E : Int32 → Prop), g + k = 6 → 1 ≤ g → Jt (fun S => C S ∧ ∀ i, 1 ≤ i → i < g → Cg n N F i S) s t → (∀ t2, Jt (fun S => C S ∧ ∀ i, 1 ≤ i → i < 6 → Cg n N F i S) s t2 → E (nI t2)) → lp_Md_joinedOnce_157 (k + 1) c3 c4 (nI g0) (nI t) (nI g) h E := by
  have hn := H.1.2.1
  intro k
  induction k with
  | zero =>
    intro g t E hg hg1 hJ hE
    have e : g = 6 := by omega
    subst e
    unfold lp_Md_joinedOnce_157
    exact ⟨fun _ => hE t hJ, fun z => absurd (nI_lt (a := 5) (by omega) (by omega)) z⟩
  | succ k ih =>
    intro g t E hg hg1 hJ hE
    unfold lp_Md_joinedOnce_157
    dsimp only [lt]
    rw [nI_1]
    refine ⟨fun z => absurd z (nI_nlt (a := 5) (by omega) (by omega)), fun _ => ⟨_, jo_g H (g := g) (by omega) n 0 0 0 _ (by omega) (fun j => by simp) (fun j => by simp) (fun a b ha hb => ?_)⟩⟩
    refine together_s hJ (mN_lt hn ha) (fun t2 h2 => together_s h2 (mF_lt hn hb) (fun t3 h3 => ih (g + 1) t3 E (by omega) (by omega) (h3.cg (fun S => ?_)) hE))
    rw [Un_N ha, Un_F hb]
    constructor
    · rintro ⟨⟨⟨q1, q2⟩, q3⟩, q4⟩
      refine ⟨q1, fun i h1 h2 => ?_⟩
      by_cases e : i = g
      · rw [e]; exact ⟨q3, q4⟩
      · exact q2 i h1 (by omega)
    · rintro ⟨q1, q2⟩
      exact ⟨⟨⟨q1, fun i h1 h2 => q2 i h1 (by omega)⟩, (q2 g hg1 (by omega)).1⟩, (q2 g hg1 (by omega)).2⟩
def Cm (n : Nat) (o : Nat → Nat) (T : Nat) (K : Nat → Nat) (cut hr : Nat) (N F : Nat → Nat) (S : Nat → Prop) : Prop := (∀ u, u < n → Cw n o T K cut hr u S) ∧ ∀ i, 1 ≤ i → i < 6 → Cg n N F i S
theorem jo_s {n : Nat} {o : Nat → Nat} {c1 T : Nat} {K : Nat → Nat} {cut hr c3 c4 g0 : Nat} {N F : Nat → Nat} {h : Hp} (H : MH n o c1 T K cut hr c3 c4 g0 N F h) {s : Nat} (hs : s < 2 ^ 11) {P : Int32 → Prop} (k : ∀ t, Jt (Cm n o T K cut hr N F) s t → P (nI t)) : wp_Md_joinedOnce (nI s) c1 (nI hr) c3 c4 (nI g0) (nI cut) h P := by
  unfold wp_Md_joinedOnce
  refine ⟨_, jo_w H n 0 s _ (by omega) ⟨hs, fun j q => q, fun S _ q => q, fun _ u hu => by omega⟩ (fun t h1 => ⟨_, jo_gs H 5 1 t _ (by omega) (by omega) (h1.cg (fun S => ⟨fun q => ⟨q, fun i a b => by omega⟩, fun q => q.1⟩)) (fun t2 h2 => k t2 h2)⟩)⟩
theorem sub_le {s t : Nat} (h : Sub s (fun j => t.testBit j = true)) : s ≤ t := by
  have : s ||| t = t := by
    apply Nat.eq_of_testBit_eq
    intro j
    rw [Nat.testBit_or]
    cases q : s.testBit j
    · rfl
    · have := h j q; simp [this]
  rw [← this]
  exact Nat.left_le_or
theorem jd_lp {n : Nat} {o : Nat → Nat} {c1 T : Nat} {K : Nat → Nat} {cut hr c3 c4 g0 : Nat} {N F : Nat → Nat} {h : Hp} (H : MH n o c1 T K cut hr c3 c4 g0 N F h) {i : Nat} : ∀ (k s t : Nat) (E : Int32 → Prop), 2 ^ 11 ≤ s + k → s < 2 ^ 11 → s.testBit i = true → (∀ S, Cm n o T K cut hr N F S → S i → Sub s S) → Jt (Cm n o T K cut hr N F) s t → (∀ t2, t2 < 2 ^ 11 → t2.testBit i = true → (∀ S, Cm n o T K cut hr N F S → S i → Sub t2 S) → Cm n o T K cut hr N F (fun j => t2.testBit j = true) → E (nI t2)) → lp_Md_joined_23 (k + 1) c1 (nI hr) c3 c4 (nI g0) (nI cut) (nI s) (nI t) h E := by
  intro k
  induction k with
  | zero => intro s t E h1 h2; omega
  | succ k ih =>
    intro s t E h1 h2 h3 h4 hJ hE
    obtain ⟨j1, j2, j3, j4⟩ := id hJ
    unfold lp_Md_joined_23
    refine ⟨fun z => ?_, fun z => ?_⟩
    · exact hE s h2 h3 h4 (j4 (nI_inj (by omega) (by omega) z))
    · have hle := sub_le j2
      have hne : t ≠ s := fun e => z (by rw [e])
      exact jo_s H j1 (fun u hu => ih t u E (by omega) j1 (j2 i h3) (fun S hS hi => j3 S hS (h4 S hS hi)) hu hE)
/-- all that is joined with an end, by the model -/
theorem joined_s {n : Nat} {o : Nat → Nat} {c1 T : Nat} {K : Nat → Nat} {cut hr c3 c4 g0 : Nat} {N F : Nat → Nat} {h : Hp} (H : MH n o c1 T K cut hr c3 c4 g0 N F h) {R : Nat → Nat → Prop} (hR : ∀ S, Cm n o T K cut hr N F S ↔ Cld R S) {i : Nat} (hi : i < 11) {P : Int32 → Prop} (k : ∀ t, NT R i t → P (nI t)) : wp_Md_joined (nI i) c1 (nI hr) c3 c4 (nI g0) (nI cut) h P := by
  unfold wp_Md_joined
  dsimp only [lt]
  have hp : 2 ^ i < 2 ^ 11 := Nat.pow_lt_pow_right (by omega) hi
  rw [shl1 (by omega)]
  refine jo_s H hp (fun t hJ => ⟨_, jd_lp H (i := i) (2 ^ 11) (2 ^ i) t _ (Nat.le_add_left _ _) hp (by simp) (fun S _ q j hj => ?_) hJ (fun t2 h1 h2 h3 h4 => k t2 (fun j => ⟨fun q => ⟨?_, ?_⟩, fun q => ?_⟩))⟩)
  · rw [Nat.testBit_two_pow, decide_eq_true_eq] at hj
    rw [← hj]; exact q
  · exact Nat.lt_of_not_le (fun z => by
      rw [Nat.testBit_lt_two_pow (Nat.lt_of_lt_of_le h1 (Nat.pow_le_pow_right (by omega) z))] at q
      exact absurd q (by decide))
  · exact h3 (Con R i) ((hR _).mpr (con_cld R i)) (con_refl R i) j q
  · exact q.2 (fun j => t2.testBit j = true) ((hR _).mp h4) h2
end
