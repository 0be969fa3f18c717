section
/-! the model's: a set that grows -/
def Sub (t : Nat) (S : Nat → Prop) : Prop := ∀ j, t.testBit j = true → S j
def Un (S : Nat → Prop) (m : Nat) : Prop := ∀ i j, m.testBit i = true → m.testBit j = true → (S i → S j)
def Jt (C : (Nat → Prop) → Prop) (s t : Nat) : Prop := t < 2 ^ 11 ∧ Sub s (fun j => t.testBit j = true) ∧ (∀ S, C S → Sub s S → Sub t S) ∧ (t = s → C (fun j => s.testBit j = true))
theorem Jt.cg {C D : (Nat → Prop) → Prop} {s t : Nat} (a : Jt C s t) (h : ∀ S, C S ↔ D S) : Jt D s t := ⟨a.1, a.2.1, fun S q => a.2.2.1 S ((h S).mpr q), fun q => (h _).mp (a.2.2.2 q)⟩
theorem sub_anti {s t : Nat} (h1 : Sub s (fun j => t.testBit j = true)) (h2 : Sub t (fun j => s.testBit j = true)) : t = s := by
  apply Nat.eq_of_testBit_eq
  intro j
  have a := h1 j
  have b := h2 j
  cases q1 : t.testBit j <;> cases q2 : s.testBit j
  · rfl
  · have := a q2; simp [q1] at this
  · have := b q1; simp [q2] at this
  · rfl
theorem together_s {C : (Nat → Prop) → Prop} {s t m : Nat} (a : Jt C s t) (hm : m < 2 ^ 11) {P : Int32 → Prop} (k : ∀ t2, Jt (fun S => C S ∧ Un S m) s t2 → P (nI t2)) : wp_Md_together (nI t) (nI m) P := by
  obtain ⟨a1, a2, a3, a4⟩ := a
  have hand : t &&& m < 2 ^ 11 := Nat.lt_of_le_of_lt Nat.and_le_left a1
  unfold wp_Md_together
  rw [and_nI (by omega) (by omega), or_nI (by omega) (by omega), nI_zero (by omega)]
  refine ⟨fun z => k _ ⟨Nat.or_lt_two_pow a1 hm, fun j q => ?_, fun S hS q j hj => ?_, fun q => ?_⟩, fun z => k t ⟨a1, a2, fun S hS q => a3 S hS.1 q, fun q => ⟨a4 q, fun i j h1 h2 h3 => ?_⟩⟩⟩
  · have := a2 j q
    show (t ||| m).testBit j = true
    rw [Nat.testBit_or]; simp [this]
  · have ht := a3 S hS.1 q
    rw [Nat.testBit_or, Bool.or_eq_true] at hj
    rcases hj with hj | hj
    · exact ht j hj
    · obtain ⟨i, hi⟩ := Nat.exists_testBit_of_ne_zero z
      rw [Nat.testBit_and, Bool.and_eq_true] at hi
      exact hS.2 i j hi.2 hj (ht i hi.1)
  · have e : t = s := sub_anti a2 (fun j hj => by
      show s.testBit j = true
      rw [← q, Nat.testBit_or, hj]; rfl)
    refine ⟨a4 e, fun i j h1 h2 h3 => ?_⟩
    show s.testBit j = true
    rw [← q, Nat.testBit_or, h2, Bool.or_true]
  · have h3' : s.testBit i = true := h3
    rw [← q] at h3'
    have : (t &&& m).testBit i = true := by rw [Nat.testBit_and, h3', h1]; rfl
    rw [z] at this
    simp at this
theorem Un_pair {S : Nat → Prop} {a b : Nat} : Un S (2 ^ a ||| 2 ^ b) ↔ (S a ↔ S b) := by
  have hb : ∀ i, (2 ^ a ||| 2 ^ b).testBit i = true ↔ (i = a ∨ i = b) := fun i => by
    rw [Nat.testBit_or, Nat.testBit_two_pow, Nat.testBit_two_pow, Bool.or_eq_true, decide_eq_true_eq, decide_eq_true_eq]
    exact ⟨fun z => z.elim (fun z => Or.inl z.symm) (fun z => Or.inr z.symm), fun z => z.elim (fun z => Or.inl z.symm) (fun z => Or.inr z.symm)⟩
  constructor
  · intro h
    exact ⟨h a b ((hb a).mpr (Or.inl rfl)) ((hb b).mpr (Or.inr rfl)), h b a ((hb b).mpr (Or.inr rfl)) ((hb a).mpr (Or.inl rfl))⟩
  · intro h i j hi hj
    rcases (hb i).mp hi with rfl | rfl <;> rcases (hb j).mp hj with rfl | rfl
    · exact id
    · exact h.mp
    · exact h.mpr
    · exact id
theorem or2_lt {a b : Nat} (ha : a < 11) (hb : b < 11) : 2 ^ a ||| 2 ^ b < 2 ^ 11 := Nat.or_lt_two_pow (Nat.pow_lt_pow_right (by omega) ha) (Nat.pow_lt_pow_right (by omega) hb)
theorem or2_nI {a b : Nat} (ha : a < 11) (hb : b < 11) : nI (2 ^ a) ||| nI (2 ^ b) = nI (2 ^ a ||| 2 ^ b) := by
  have h1 : 2 ^ a < 2 ^ 11 := Nat.pow_lt_pow_right (by omega) ha
  have h2 : 2 ^ b < 2 ^ 11 := Nat.pow_lt_pow_right (by omega) hb
  exact or_nI (by omega) (by omega)
theorem shl32 {k : Nat} (hk : k < 5) : (32 : Int32) <<< (nI k &&& 31) = nI (2 ^ (5 + k)) := by
  rcases (show k = 0 ∨ k = 1 ∨ k = 2 ∨ k = 3 ∨ k = 4 by omega) with rfl | rfl | rfl | rfl | rfl <;> decide
def MH (n : Nat) (o : Nat → Nat) (c1 : Nat) (T : Nat) (K0 : Nat → Nat) (cut hr : Nat) (c3 c4 g0 : Nat) (N F : Nat → Nat) (h : Hp) : Prop :=
  (h.1 7 0 = nI n ∧ n ≤ 5 ∧ h.1 7 6 = nI T ∧ T < 2 ^ 31 ∧ cut < 2 ^ 31 ∧ hr < 2 ^ 31) ∧ ((∀ e, e < n → o e < n ∧ h.1 c1 e = nI (o e)) ∧ (∀ e f, e < n → f < n → o e = o f → e = f) ∧ 5 ≤ al c1 ∧ al c1 < 2 ^ 31) ∧ (∀ w, w < n → h.1 78 w = nI (K0 w) ∧ K0 w < 4) ∧ (∀ w, w < n → h.1 c3 (g0 + w) = nI (N w) ∧ h.1 c4 (g0 + w) = nI (F w) ∧ N w ≤ 5 ∧ F w ≤ 5) ∧ g0 + 5 ≤ al c3 ∧ al c3 < 2 ^ 31 ∧ g0 + 5 ≤ al c4 ∧ al c4 < 2 ^ 31
def kc (K : Nat → Nat) (cut w : Nat) : Nat := if cut.testBit w = true then 1 else K w
/-- what a wire asks of a closed set -/
def Cw (n : Nat) (o : Nat → Nat) (T : Nat) (K : Nat → Nat) (cut hr u : Nat) (S : Nat → Prop) : Prop := (pss (kc K cut u) hr = true → ∀ e, e < n → o e = u → (S u ↔ S (5 + e))) ∧ (kc K cut u = 2 → (S u ↔ S 10)) ∧ ∀ v, v < u → T.testBit (pn v u) = true → (S v ↔ S u)
theorem jo_in {n : Nat} {o : Nat → Nat} {c1 T : Nat} {K : Nat → Nat} {cut hr c3 c4 g0 : Nat} {N F : Nat → Nat} {h : Hp} (H : MH n o c1 T K cut hr c3 c4 g0 N F h) {w : Nat} (hw : w < n) {p3 : Int32} {p6 p7 : Int32} {C : (Nat → Prop) → Prop} {s : Nat} : ∀ (k v t : Nat) (E : Int32 → Prop), v + k = w → Jt (fun S => C S ∧ ∀ u, u < v → T.testBit (pn u w) = true → (S u ↔ S w)) s t → (∀ t2, Jt (fun S => C S ∧ ∀ u, u < w → T.testBit (pn u w) = true → (S u ↔ S w)) s t2 → E (nI t2)) → lp_Md_joinedOnce_103 (k + 1) c1 p3 c3 c4 p6 p7 (nI w) (nI t) (nI v) h E := by
  obtain ⟨⟨hw0, hn, hT, hT2, hcu, hhr⟩, _⟩ := H
  intro k
  induction k with
  | zero =>
    intro v t E hv hJ hE
    have e : v = w := by omega
    subst e
    unfold lp_Md_joinedOnce_103
    exact ⟨fun _ => hE t hJ, fun z => absurd (nI_le (by omega) (by omega)) z⟩
  | succ k ih =>
    intro v t E hv hJ hE
    unfold lp_Md_joinedOnce_103
    dsimp only [jn, lt]
    rw [nI_1, shl1 (by omega), shl1 (by omega), or2_nI (by omega) (by omega)]
    refine ⟨fun z => absurd z (nI_ge (by omega) (by omega)), fun _ => doTouch_s hT hT2 (by omega) (by omega) ⟨fun z => ?_, fun z => ?_⟩⟩
    · refine ih (v + 1) t E (by omega) (hJ.cg (fun S => and_congr_right (fun _ => ⟨fun q u hu hb => ?_, fun q u hu hb => q u (by omega) hb⟩))) hE
      by_cases e : u = v
      · rw [e] at hb; exact absurd hb z
      · exact q u (by omega) hb
    · refine together_s hJ (or2_lt (by omega) (by omega)) (fun t2 h2 => ih (v + 1) t2 E (by omega) (h2.cg (fun S => ?_)) hE)
      rw [Un_pair]
      constructor
      · rintro ⟨⟨q1, q2⟩, q3⟩
        refine ⟨q1, fun u hu hb => ?_⟩
        by_cases e : u = v
        · rw [e]; exact q3
        · exact q2 u (by omega) hb
      · rintro ⟨q1, q2⟩
        exact ⟨⟨q1, fun u hu hb => q2 u (by omega) hb⟩, q2 v (by omega) z⟩
theorem jo_w {n : Nat} {o : Nat → Nat} {c1 T : Nat} {K : Nat → Nat} {cut hr c3 c4 g0 : Nat} {N F : Nat → Nat} {h : Hp} (H : MH n o c1 T K cut hr c3 c4 g0 N F h) {p6 : Int32} {s : Nat} : ∀ (k w t : Nat) (E : Int32 → Prop), w + k = n → Jt (fun S => ∀ u, u < w → Cw n o T K cut hr u S) s t → (∀ t2, Jt (fun S => ∀ u, u < n → Cw n o T K cut hr u S) s t2 → E (nI t2)) → lp_Md_joinedOnce_6 (k + 1) c1 (nI hr) c3 c4 p6 (nI cut) (nI t) (nI w) h E := by
  obtain ⟨⟨hw0, hn, hT, hT2, hcu, hhr⟩, ⟨ho, hoi, hc1, hc2⟩, hK, _⟩ := id H
  intro k
  induction k with
  | zero =>
    intro w t E hv hJ hE
    have e : w = n := by omega
    subst e
    unfold lp_Md_joinedOnce_6
    rw [hw0]
    exact ⟨fun _ => hE t hJ, fun z => absurd (nI_le (by omega) (by omega)) z⟩
  | succ k ih =>
    intro w t E hv hJ hE
    have hwn : w < n := by omega
    obtain ⟨k1, k2⟩ := hK w hwn
    unfold lp_Md_joinedOnce_6
    dsimp only [jn, lt]
    have e1024 : (1024 : Int32) = nI (2 ^ 10) := rfl
    rw [hw0, nI_1, shl1 (by omega), e1024, or2_nI (by omega) (by omega), cl_nI (n := w) (by omega), k1]
    let D (S : Nat → Prop) : Prop := ∀ u, u < w → Cw n o T K cut hr u S
    let C1 (S : Nat → Prop) : Prop := D S ∧ (pss (kc K cut w) hr = true → ∀ e, e < n → o e = w → (S w ↔ S (5 + e)))
    let C2 (S : Nat → Prop) : Prop := C1 S ∧ (kc K cut w = 2 → (S w ↔ S 10))
    have b98 : ∀ t, Jt C2 s t → ∃ n103, lp_Md_joinedOnce_103 n103 c1 (nI hr) c3 c4 p6 (nI cut) (nI w) (nI t) (0 : Int32) h (fun (w103_8 : Int32) => lp_Md_joinedOnce_6 (k + 1) c1 (nI hr) c3 c4 p6 (nI cut) w103_8 (nI (w + 1)) h E) := fun t hJ => by
      refine ⟨_, jo_in H hwn w 0 t _ (by omega) (hJ.cg (fun S => ⟨fun q => ⟨q, fun u hu => by omega⟩, fun q => q.1⟩)) (fun t2 h2 => ih (w + 1) t2 E (by omega) (h2.cg (fun S => ?_)) hE)⟩
      constructor
      · rintro ⟨⟨⟨q1, q2⟩, q3⟩, q4⟩ u hu
        by_cases e : u = w
        · rw [e]; exact ⟨q2, q3, q4⟩
        · exact q1 u (by omega)
      · intro q
        obtain ⟨q2, q3, q4⟩ := q w (by omega)
        exact ⟨⟨⟨fun u hu => q u (by omega), q2⟩, q3⟩, q4⟩
    have b72 : ∀ t, Jt C1 s t → ((¬ nI (kc K cut w) = (2 : Int32)) → ∃ n103, lp_Md_joinedOnce_103 n103 c1 (nI hr) c3 c4 p6 (nI cut) (nI w) (nI t) (0 : Int32) h (fun (w103_8 : Int32) => lp_Md_joinedOnce_6 (k + 1) c1 (nI hr) c3 c4 p6 (nI cut) w103_8 (nI (w + 1)) h E)) ∧ ((nI (kc K cut w) = (2 : Int32)) → wp_Md_together (nI t) (nI (2 ^ w ||| 2 ^ 10)) (fun (v90 : Int32) => ∃ n103, lp_Md_joinedOnce_103 n103 c1 (nI hr) c3 c4 p6 (nI cut) (nI w) v90 (0 : Int32) h (fun (w103_8 : Int32) => lp_Md_joinedOnce_6 (k + 1) c1 (nI hr) c3 c4 p6 (nI cut) w103_8 (nI (w + 1)) h E))) := fun t hJ => by
      have hk8 : kc K cut w < 4 := by unfold kc; split <;> omega
      refine ⟨fun z => b98 t (hJ.cg (fun S => ⟨fun q => ⟨q, fun e => absurd (by rw [e]; rfl) z⟩, fun q => q.1⟩)), fun z => together_s hJ (or2_lt (by omega) (by omega)) (fun t2 h2 => b98 t2 (h2.cg (fun S => ?_)))⟩
      have e2 : kc K cut w = 2 := nI_inj (b := 2) (by omega) (by omega) z
      rw [Un_pair]
      exact ⟨fun q => ⟨q.1, fun _ => q.2⟩, fun q => ⟨q.1, q.2 e2⟩⟩
    have body : ∀ z : Int32, z = nI (kc K cut w) → wp_Md_passesBy z (nI hr) (fun (v41 : Bool) => ((¬ v41 = true) → ((¬ z = (2 : Int32)) → ∃ n103, lp_Md_joinedOnce_103 n103 c1 (nI hr) c3 c4 p6 (nI cut) (nI w) (nI t) (0 : Int32) h (fun (w103_8 : Int32) => lp_Md_joinedOnce_6 (k + 1) c1 (nI hr) c3 c4 p6 (nI cut) w103_8 (nI (w + 1)) h E)) ∧ ((z = (2 : Int32)) → wp_Md_together (nI t) (nI (2 ^ w ||| 2 ^ 10)) (fun (v90 : Int32) => ∃ n103, lp_Md_joinedOnce_103 n103 c1 (nI hr) c3 c4 p6 (nI cut) (nI w) v90 (0 : Int32) h (fun (w103_8 : Int32) => lp_Md_joinedOnce_6 (k + 1) c1 (nI hr) c3 c4 p6 (nI cut) w103_8 (nI (w + 1)) h E)))) ∧ ((v41 = true) → wp_Md_farEndOf c1 (nI w) h (fun (v59 : Int32) => wp_Md_together (nI t) (nI (2 ^ w) ||| ((32 : Int32) <<< (v59 &&& 31))) (fun (v64 : Int32) => ((¬ z = (2 : Int32)) → ∃ n103, lp_Md_joinedOnce_103 n103 c1 (nI hr) c3 c4 p6 (nI cut) (nI w) v64 (0 : Int32) h (fun (w103_8 : Int32) => lp_Md_joinedOnce_6 (k + 1) c1 (nI hr) c3 c4 p6 (nI cut) w103_8 (nI (w + 1)) h E)) ∧ ((z = (2 : Int32)) → wp_Md_together v64 (nI (2 ^ w ||| 2 ^ 10)) (fun (v90 : Int32) => ∃ n103, lp_Md_joinedOnce_103 n103 c1 (nI hr) c3 c4 p6 (nI cut) (nI w) v90 (0 : Int32) h (fun (w103_8 : Int32) => lp_Md_joinedOnce_6 (k + 1) c1 (nI hr) c3 c4 p6 (nI cut) w103_8 (nI (w + 1)) h E))))))) := fun z hz => by
      subst hz
      have hk8 : kc K cut w < 4 := by unfold kc; split <;> omega
      refine passesBy_s hk8 hhr ⟨fun q => b72 t (hJ.cg (fun S => ⟨fun y => ⟨y, fun e => absurd e q⟩, fun y => y.1⟩)), fun q => farEnd_s hw0 hn hc1 hc2 ho hwn (fun v hv => ?_)⟩
      obtain ⟨e, he, hoe⟩ := surj n o (fun e he => (ho e he).1) hoi w hwn
      have ev : v = nI e := by
        rcases hv with ⟨f, y1, y2, y3⟩ | ⟨y1, _⟩
        · rw [y3, hoi f e y1 he (by rw [y2, hoe])]
        · exact absurd hoe (y1 e he)
      rw [ev, shl32 (by omega), or2_nI (by omega) (by omega)]
      refine together_s hJ (or2_lt (by omega) (by omega)) (fun t2 h2 => b72 t2 (h2.cg (fun S => ?_)))
      rw [Un_pair]
      exact ⟨fun y => ⟨y.1, fun _ f hf hof => by rw [hoi f e hf he (by rw [hof, hoe])]; exact y.2⟩, fun y => ⟨y.1, y.2 q e he hoe⟩⟩
    refine ⟨fun z => absurd z (nI_ge (by omega) (by omega)), fun _ => has_s hcu (by omega) ⟨fun z => ⟨vp_in_nI (by omega) (by omega), body _ ?_⟩, fun z => body _ ?_⟩⟩
    · unfold kc; rw [if_neg z]
    · unfold kc; rw [if_pos z]; rfl
end
