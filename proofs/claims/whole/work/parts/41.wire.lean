section
def pss (k t : Nat) : Bool := k == 0 || k == 2 || (k == 3 && t % 2 == 0)
def pset (g : Nat → Nat) (t : Nat) : Nat := (pss (g 0) t).toNat + 2 * (pss (g 1) t).toNat + 4 * (pss (g 2) t).toNat + 8 * (pss (g 3) t).toNat + 16 * (pss (g 4) t).toNat
theorem pset_lt (g : Nat → Nat) (t : Nat) : pset g t < 32 := by
  unfold pset
  have h : ∀ b : Bool, b.toNat ≤ 1 := by intro b; cases b <;> decide
  have := h (pss (g 0) t); have := h (pss (g 1) t); have := h (pss (g 2) t); have := h (pss (g 3) t); have := h (pss (g 4) t)
  omega
theorem pset_bits : ∀ b0 b1 b2 b3 b4 : Bool, (List.range 5).map (b0.toNat + 2 * b1.toNat + 4 * b2.toNat + 8 * b3.toNat + 16 * b4.toNat).testBit = [b0, b1, b2, b3, b4] := by decide +kernel
theorem pset_bit {g : Nat → Nat} {t w : Nat} (hw : w < 5) : (pset g t).testBit w = pss (g w) t := by
  have e := congrArg (fun l => l[w]?) (pset_bits (pss (g 0) t) (pss (g 1) t) (pss (g 2) t) (pss (g 3) t) (pss (g 4) t))
  simp only [List.getElem?_map, List.getElem?_range hw, Option.map_some] at e
  rcases (show w = 0 ∨ w = 1 ∨ w = 2 ∨ w = 3 ∨ w = 4 by omega) with rfl | rfl | rfl | rfl | rfl <;> exact Option.some.inj e
theorem odd1 {t : Nat} (h : t < 2 ^ 31) : (nI t &&& 1) = 0 ↔ t % 2 = 0 := by
  rw [pk_andN (by omega) 1 (by decide), nI_zero (by omega)]
theorem irm2 {t : Nat} (h : t < 2 ^ 31) : irm (nI t) 2 = 0 ↔ t % 2 = 0 := by
  have : irm (nI t) 2 = nI (t % 2) := pk_rem (a := t) (d := 2) h (by omega) (by omega)
  rw [this, nI_zero (by omega)]
theorem pass_lp {g : Nat → Nat} {t : Nat} (hg : ∀ w, w < 5 → g w < 4) (ht : t < 2 ^ 31) : ∀ (k i acc : Nat) (E : Int32 → Prop), i + k = 5 → acc < 2 ^ i → (∀ acc2, acc2 = acc + (if 0 ≥ i then (pss (g 0) t).toNat else 0) + (if 1 ≥ i then 2 * (pss (g 1) t).toNat else 0) + (if 2 ≥ i then 4 * (pss (g 2) t).toNat else 0) + (if 3 ≥ i then 8 * (pss (g 3) t).toNat else 0) + (if 4 ≥ i then 16 * (pss (g 4) t).toNat else 0) → E (nI acc2)) → ∃ N, lp_Fe_passing_4 N (nI (pk g)) (nI t) (nI acc) (nI i) E := by
  intro k
  induction k with
  | zero =>
    intro i acc E hi hacc hE
    have e : i = 5 := by omega
    subst e
    refine ⟨1, ?_⟩
    unfold lp_Fe_passing_4
    exact ⟨fun _ => hE acc (by simp), fun z => absurd (nI_le (a := 5) (b := 5) (by omega) (by omega)) z⟩
  | succ k ih =>
    intro i acc E hi hacc hE
    have hb : ∀ b : Bool, b.toNat ≤ 1 := by intro b; cases b <;> decide
    have h2i : 2 ^ (i + 1) = 2 * 2 ^ i := by rw [Nat.pow_succ, Nat.mul_comm]
    have hpi : 2 ^ i ≤ 16 := by
      have := Nat.pow_le_pow_right (n := 2) (by omega) (show i ≤ 4 by omega)
      simpa using this
    have hacc2 : acc + 2 ^ i * (pss (g i) t).toNat < 2 ^ (i + 1) := by
      have := hb (pss (g i) t)
      cases e : pss (g i) t <;> simp <;> omega
    obtain ⟨N, hN⟩ := ih (i + 1) (acc + 2 ^ i * (pss (g i) t).toNat) E (by omega) hacc2 (fun acc2 e2 => hE acc2 (by
      rw [e2]
      rcases (show i = 0 ∨ i = 1 ∨ i = 2 ∨ i = 3 ∨ i = 4 by omega) with rfl | rfl | rfl | rfl | rfl <;> simp <;> omega))
    refine ⟨N + 1, ?_⟩
    unfold lp_Fe_passing_4
    refine ⟨fun z => absurd z (nI_ge (a := i) (b := 5) (by omega) (by omega)), fun _ => part_s hg (by omega) ?_⟩
    dsimp only [jn, lt]
    rw [nI_1, shl1 (by omega), or_nI (by omega) (by omega)]
    have hno : pss (g i) t = false → lp_Fe_passing_4 N (nI (pk g)) (nI t) (nI acc) (nI (i + 1)) E := fun e => by
      rw [e] at hN; simpa using hN
    have hyes : pss (g i) t = true → lp_Fe_passing_4 N (nI (pk g)) (nI t) (nI (acc ||| 2 ^ i)) (nI (i + 1)) E := fun e => by
      rw [e] at hN
      rw [Nat.or_two_pow_eq_add_of_lt hacc]
      simpa using hN
    have gi := hg i (by omega)
    have one : (((1 : Int32) = 0 → lp_Fe_passing_4 N (nI (pk g)) (nI t) (nI acc) (nI (i + 1)) E) ∧ (¬ (1 : Int32) = 0 → lp_Fe_passing_4 N (nI (pk g)) (nI t) (nI (acc ||| 2 ^ i)) (nI (i + 1)) E)) ↔ lp_Fe_passing_4 N (nI (pk g)) (nI t) (nI (acc ||| 2 ^ i)) (nI (i + 1)) E := ⟨fun q => q.2 (by decide), fun q => ⟨fun z => absurd z (by decide), fun _ => q⟩⟩
    have zer : (((0 : Int32) = 0 → lp_Fe_passing_4 N (nI (pk g)) (nI t) (nI acc) (nI (i + 1)) E) ∧ (¬ (0 : Int32) = 0 → lp_Fe_passing_4 N (nI (pk g)) (nI t) (nI (acc ||| 2 ^ i)) (nI (i + 1)) E)) ↔ lp_Fe_passing_4 N (nI (pk g)) (nI t) (nI acc) (nI (i + 1)) E := ⟨fun q => q.1 rfl, fun q => ⟨fun _ => q, fun z => absurd rfl z⟩⟩
    rw [one, zer, odd1 ht]
    have e0 : nI (g i) = 0 ↔ g i = 0 := nI_zero (by omega)
    have e2 : nI (g i) = 2 ↔ g i = 2 := nI_eq (b := 2) (by omega) (by omega)
    have e3 : nI (g i) = 3 ↔ g i = 3 := nI_eq (b := 3) (by omega) (by omega)
    rw [e0, e2, e3]
    refine ⟨fun q => hyes (by simp [pss, q]), fun q0 => ⟨fun q => hyes (by simp [pss, q]), fun q2 => ⟨fun q => hno (by simp [pss, q0, q2, q]), fun q3 => ⟨fun q => hno (by simp [pss, q3, q]), fun q => hyes (by simp [pss, q3, q])⟩⟩⟩⟩
theorem passing_s {g : Nat → Nat} {t : Nat} (hg : ∀ w, w < 5 → g w < 4) (ht : t < 2 ^ 31) {P : Int32 → Prop} (k : P (nI (pset g t))) : wp_Fe_passing (nI (pk g)) (nI t) P := by
  refine pass_lp hg ht 5 0 0 _ (by omega) (by omega) (fun acc2 e => ?_)
  have : acc2 = pset g t := by rw [e]; simp [pset]
  rw [this]; exact k
theorem passesBy_s {k t : Nat} (hk : k < 4) (ht : t < 2 ^ 31) {P : Bool → Prop} (q : P (pss k t)) : wp_Md_passesBy (nI k) (nI t) P := by
  unfold wp_Md_passesBy
  dsimp only [jn]
  have e0 : nI k = 0 ↔ k = 0 := nI_zero (by omega)
  have e2 : nI k = 2 ↔ k = 2 := nI_eq (b := 2) (by omega) (by omega)
  have e3 : nI k = 3 ↔ k = 3 := nI_eq (b := 3) (by omega) (by omega)
  rw [e0, e2, e3, irm2 ht]
  have y : ∀ b, pss k t = b → P b := fun b e => by rw [← e]; exact q
  refine ⟨fun z => y true (by simp [pss, z]), fun z0 => ⟨fun z => y true (by simp [pss, z]), fun z2 => ⟨fun z => y false (by simp [pss, z0, z2, z]), fun z3 => ⟨fun z => y false (by simp [pss, z3, z]), fun z => y true (by simp [pss, z3, z])⟩⟩⟩⟩
/-! the far end of a wire -/
theorem far_F {h : Hp} {n w : Nat} {o : Nat → Nat} (hw : h.1 0 1 = nI n) (hn : n ≤ 5) (ho : ∀ e, e < n → o e < n ∧ h.1 69 e = nI (o e)) (hwn : w < n) : ∀ (k i : Nat) (P : Int32 → Prop), i + k = n → (∀ e, i ≤ e → e < n → o e = w → (∀ f, i ≤ f → f < e → o f ≠ w) → P (nI e)) → ((∀ e, i ≤ e → e < n → o e ≠ w) → P (-1)) → ∃ N, lp_Fe_farEndOf_2 N (nI w) (nI i) h (P (-1)) P := by
  intro k
  induction k with
  | zero =>
    intro i P hi h1 h2
    refine ⟨1, ?_⟩
    unfold lp_Fe_farEndOf_2
    rw [hw]
    exact ⟨fun _ => h2 (fun e q1 q2 => by omega), fun z => absurd (nI_le (by omega) (by omega)) z⟩
  | succ k ih =>
    intro i P hi h1 h2
    obtain ⟨q1, q2⟩ := ho i (by omega)
    by_cases e : o i = w
    · refine ⟨1, ?_⟩
      unfold lp_Fe_farEndOf_2
      rw [hw, cl_nI (n := i) (by omega), q2]
      refine ⟨fun z => absurd z (nI_ge (by omega) (by omega)), fun _ => ⟨fun z => absurd z (nI_ge (b := 5) (by omega) (by omega)), fun _ => ⟨vp_in_nI (by omega) (by omega), fun z => absurd (by rw [e]) z, fun _ => h1 i (Nat.le_refl i) (by omega) e (fun f z1 z2 => by omega)⟩⟩⟩
    · obtain ⟨N, hN⟩ := ih (i + 1) P (by omega) (fun f z1 z2 z3 z4 => h1 f (by omega) z2 z3 (fun d y1 y2 => by
        by_cases ed : d = i
        · rw [ed]; exact e
        · exact z4 d (by omega) y2)) (fun z => h2 (fun f y1 y2 => by
        by_cases ed : f = i
        · rw [ed]; exact e
        · exact z f (by omega) y2))
      refine ⟨N + 1, ?_⟩
      unfold lp_Fe_farEndOf_2
      dsimp only [lt]
      rw [hw, cl_nI (n := i) (by omega), q2, nI_1]
      exact ⟨fun z => absurd z (nI_ge (by omega) (by omega)), fun _ => ⟨fun z => absurd z (nI_ge (b := 5) (by omega) (by omega)), fun _ => ⟨vp_in_nI (by omega) (by omega), fun _ => hN, fun z => absurd (nI_inj (by omega) (by omega) z) e⟩⟩⟩
/-- the model's: the last one, of an order at cell c -/
theorem far_M {h : Hp} {c n w : Nat} {o : Nat → Nat} (hw : h.1 7 0 = nI n) (hn : n ≤ 5) (hc : 5 ≤ al c) (hc2 : al c < 2 ^ 31) (ho : ∀ e, e < n → o e < n ∧ h.1 c e = nI (o e)) (hwn : w < n) : ∀ (k i : Nat) (acc : Int32) (E : Int32 → Prop), i + k = n → (∀ v, ((∃ e, i ≤ e ∧ e < n ∧ o e = w ∧ v = nI e) ∨ ((∀ e, i ≤ e → e < n → o e ≠ w) ∧ v = acc)) → E v) → ∃ N, lp_Md_farEndOf_5 N c (nI w) acc (nI i) h E := by
  intro k
  induction k with
  | zero =>
    intro i acc E hi h1
    refine ⟨1, ?_⟩
    unfold lp_Md_farEndOf_5
    rw [hw]
    exact ⟨fun _ => h1 acc (Or.inr ⟨fun e q1 q2 => by omega, rfl⟩), fun z => absurd (nI_le (by omega) (by omega)) z⟩
  | succ k ih =>
    intro i acc E hi h1
    obtain ⟨q1, q2⟩ := ho i (by omega)
    obtain ⟨N, hN⟩ := ih (i + 1) (if o i = w then nI i else acc) E (by omega) (fun v hv => h1 v (by
      rcases hv with ⟨e, z1, z2, z3, z4⟩ | ⟨z1, z2⟩
      · exact Or.inl ⟨e, by omega, z2, z3, z4⟩
      · by_cases e : o i = w
        · rw [if_pos e] at z2; exact Or.inl ⟨i, Nat.le_refl i, by omega, e, z2⟩
        · rw [if_neg e] at z2
          refine Or.inr ⟨fun f y1 y2 => ?_, z2⟩
          by_cases ed : f = i
          · rw [ed]; exact e
          · exact z1 f (by omega) y2))
    refine ⟨N + 1, ?_⟩
    unfold lp_Md_farEndOf_5
    dsimp only [lt, jn]
    rw [hw, cl_nI (n := i) (by omega), q2, nI_1]
    refine ⟨fun z => absurd z (nI_ge (by omega) (by omega)), fun _ => ⟨vp_in_nI (by omega) hc2, fun z => ?_, fun z => ?_⟩⟩
    · rw [if_neg (fun e => z (by rw [e]))] at hN; exact hN
    · rw [if_pos (nI_inj (by omega) (by omega) z)] at hN; exact hN
theorem farEnd_s {h : Hp} {c n w : Nat} {o : Nat → Nat} (hw : h.1 7 0 = nI n) (hn : n ≤ 5) (hc : 5 ≤ al c) (hc2 : al c < 2 ^ 31) (ho : ∀ e, e < n → o e < n ∧ h.1 c e = nI (o e)) (hwn : w < n) {P : Int32 → Prop} (k : ∀ v, ((∃ e, e < n ∧ o e = w ∧ v = nI e) ∨ ((∀ e, e < n → o e ≠ w) ∧ v = -1)) → P v) : wp_Md_farEndOf c (nI w) h P := by
  refine far_M hw hn hc hc2 ho hwn n 0 (-1) _ (by omega) (fun v hv => k v ?_)
  rcases hv with ⟨e, z1, z2, z3, z4⟩ | ⟨z1, z2⟩
  · exact Or.inl ⟨e, z2, z3, z4⟩
  · exact Or.inr ⟨fun e y => z1 e (by omega) y, z2⟩
theorem G4 : ∀ (h : Hp) (p0 p1 : Int32), Rel h → wp_Fe_wire p0 p1 h (fun v1 => wp_Md_wire p0 p1 h (fun v2 => v1 = v2 ∧ Rel h)) := by
  intro h p0 p1 hR
  obtain ⟨n, o, a1, ⟨m, a2⟩, a3, a4, a5, a6, a7, a8, a9⟩ := id hR
  obtain ⟨hcs, hml, hwf⟩ := id a2
  have hw := a1.1
  have hw2 := a1.2.1
  have hn := a1.2.2.1
  unfold wp_Fe_wire
  by_cases hv0 : vld n p0
  · rw [isN_t hw hn hv0]
    refine ⟨fun _ => ?_, fun z => absurd rfl z⟩
    obtain ⟨w, hwn, rfl⟩ := hv0
    have v5 : vp_in (nI w) 5 := vp_in_nI (by omega) (by omega)
    have hw5 : w < 5 := by omega
    obtain ⟨m1, m2, m3⟩ := hml.2.2.2.2.2 w hw5
    have hk4 : ∀ w, w < 5 → (fun w => m (5 + w)) w < 4 := fun w hw => (hwf.2.2.2.2.2 w hw).1
    have hn4 : ∀ w, w < 5 → (fun w => m (10 + w)) w < 4 := fun w hw => (hwf.2.2.2.2.2 w hw).2.1
    have ht : m 1 < 2 ^ 31 := Nat.lt_of_le_of_lt hwf.2.1 (by omega)
    -- the model's side for each question
    have mo : ∀ v : Int32, (p1 = 0 → v = nI (m (5 + w))) → (p1 = 1 → ∀ u, ((∃ e, e < n ∧ o e = w ∧ u = nI e) ∨ ((∀ e, e < n → o e ≠ w) ∧ u = -1)) → v = u) → (p1 = 2 → v = nI (pss (m (5 + w)) (m 1)).toNat) → (p1 = 3 → v = nI (m (10 + w))) → ((¬ p1 = 0 ∧ ¬ p1 = 1 ∧ ¬ p1 = 2 ∧ ¬ p1 = 3) → v = -1000000002) → wp_Md_wire (nI w) p1 h (fun v2 => v = v2 ∧ Rel h) := fun v e0 e1 e2 e3 e4 => by
      unfold wp_Md_wire
      rw [isW_t hw2 hn ⟨w, hwn, rfl⟩]
      refine ⟨fun _ => ?_, fun z => absurd rfl z⟩
      by_cases hv1 : vld 4 p1
      · obtain ⟨q, hq, rfl⟩ := hv1
        rw [in03 hq]
        refine ⟨fun _ => ?_, fun z => absurd rfl z⟩
        rw [cl_nI (n := w) (by omega), m1, m2, hml.2.1]
        refine ⟨fun z0 => ⟨fun z1 => ⟨fun z2 => ⟨v5, e3 ?_, hR⟩, fun z2 => ⟨v5, passesBy_s (hk4 w hw5) ht ⟨fun z => ⟨?_, hR⟩, fun z => ⟨?_, hR⟩⟩⟩⟩, fun z1 => farEnd_s hw2 hn (by decide) (by decide) (fun e he => ⟨(a1.2.2.2.2.1 e he).1, (a1.2.2.2.2.1 e he).2.2⟩) hwn (fun u hu => ⟨e1 z1 u hu, hR⟩)⟩, fun z0 => ⟨v5, e0 z0, hR⟩⟩
        · have h0 : q ≠ 0 := fun e => z0 (by rw [e]; rfl)
          have h1 : q ≠ 1 := fun e => z1 (by rw [e]; rfl)
          have h2 : q ≠ 2 := fun e => z2 (by rw [e]; rfl)
          rw [show q = 3 by omega]; rfl
        · have := e2 z2
          have z' : pss (m (5 + w)) (m 1) = false := by simpa using z
          rw [this, z']; rfl
        · have := e2 z2
          rw [this, z]; rfl
      · have hno := vld_no (n := 4) (by omega) hv1
        rw [in_f (hno.imp id (fun z => lt4 (Int32.not_lt.mpr z)))]
        refine ⟨fun z => absurd z (by decide), fun _ => ⟨e4 ⟨fun z => hv1 ⟨0, by omega, z⟩, fun z => hv1 ⟨1, by omega, z⟩, fun z => hv1 ⟨2, by omega, z⟩, fun z => hv1 ⟨3, by omega, z⟩⟩, hR⟩⟩
    have lit : ∀ {a b : Int32} {Q : Prop}, p1 = a → p1 = b → a ≠ b → Q := fun h1 h2 h3 => absurd (h1.symm.trans h2) h3
    refine ⟨fun z => ?_, fun z0 => ⟨fun z => ?_, fun z1 => ⟨fun z => ?_, fun z2 => ⟨fun z => ?_, fun z3 => mo _ (fun q => absurd q z0) (fun q => absurd q z1) (fun q => absurd q z2) (fun q => absurd q z3) (fun _ => rfl)⟩⟩⟩⟩
    · rw [hcs.1]
      exact part_s hk4 hw5 (mo _ (fun _ => rfl) (fun q => lit z q (by decide)) (fun q => lit z q (by decide)) (fun q => lit z q (by decide)) (fun q => absurd z q.1))
    · refine far_F hw hn (fun e he => ⟨(a1.2.2.2.2.1 e he).1, (a1.2.2.2.2.1 e he).2.1⟩) hwn n 0 (fun v => wp_Md_wire (nI w) p1 h (fun v2 => v = v2 ∧ Rel h)) (by omega) (fun e _ he eo _ => mo _ (fun q => lit z q (by decide)) (fun _ u hu => ?_) (fun q => lit z q (by decide)) (fun q => lit z q (by decide)) (fun q => absurd z q.2.1)) (fun hno => mo _ (fun q => lit z q (by decide)) (fun _ u hu => ?_) (fun q => lit z q (by decide)) (fun q => lit z q (by decide)) (fun q => absurd z q.2.1))
      · rcases hu with ⟨f, hf, fo, rfl⟩ | ⟨hno, _⟩
        · rw [a1.2.2.2.2.2 e f he hf (eo.trans fo.symm)]
        · exact absurd eo (hno e he)
      · rcases hu with ⟨f, hf, fo, rfl⟩ | ⟨_, rfl⟩
        · exact absurd fo (hno f (by omega) hf)
        · rfl
    · rw [hcs.1, hcs.2.2.2.2.2.1]
      refine passing_s hk4 ht ?_
      rw [bit_shr (Nat.lt_trans (pset_lt _ _) (by omega)) (by omega), pset_bit hw5]
      exact mo _ (fun q => lit z q (by decide)) (fun q => lit z q (by decide)) (fun _ => rfl) (fun q => lit z q (by decide)) (fun q => absurd z q.2.2.1)
    · rw [hcs.2.2.1]
      exact part_s hn4 hw5 (mo _ (fun q => lit z q (by decide)) (fun q => lit z q (by decide)) (fun q => lit z q (by decide)) (fun _ => rfl) (fun q => absurd z q.2.2.2))
  · rw [isN_f hw hn hv0]
    refine ⟨fun z => absurd z (by decide), fun _ => ?_⟩
    (try dsimp only [lt])
    unfold wp_Md_wire
    rw [isW_f hw2 hn hv0]
    exact ⟨fun z => absurd z (by decide), fun _ => ⟨rfl, hR⟩⟩
end
