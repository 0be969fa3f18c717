section
/-! what is joined with what, by the sets that are closed -/
def Cld (R : Nat → Nat → Prop) (S : Nat → Prop) : Prop := ∀ a b, R a b → (S a ↔ S b)
def Con (R : Nat → Nat → Prop) (i j : Nat) : Prop := ∀ S : Nat → Prop, Cld R S → S i → S j
theorem con_refl (R : Nat → Nat → Prop) (i : Nat) : Con R i i := fun _ _ q => q
theorem con_trans {R : Nat → Nat → Prop} {i j k : Nat} (a : Con R i j) (b : Con R j k) : Con R i k := fun S hS q => b S hS (a S hS q)
theorem con_symm {R : Nat → Nat → Prop} {i j : Nat} (a : Con R i j) : Con R j i := fun S hS q => by
  apply Classical.byContradiction
  intro hn
  exact a (fun x => ¬ S x) (fun x y r => not_congr (hS x y r)) hn q
theorem con_of {R : Nat → Nat → Prop} {i j : Nat} (r : R i j) : Con R i j := fun S hS q => (hS i j r).mp q
theorem con_cld (R : Nat → Nat → Prop) (i : Nat) : Cld R (Con R i) := fun _ _ r => ⟨fun q => con_trans q (con_of r), fun q => con_trans q (con_symm (con_of r))⟩
theorem con_mono {R Q : Nat → Nat → Prop} (h : ∀ a b, R a b → Con Q a b) {i j : Nat} (q : Con R i j) : Con Q i j :=
  q (Con Q i) (fun a b r => ⟨fun z => con_trans z (h a b r), fun z => con_trans z (con_symm (h a b r))⟩) (con_refl Q i)
theorem con_cg {R Q : Nat → Nat → Prop} (h : ∀ a b, R a b ↔ Q a b) {i j : Nat} : Con R i j ↔ Con Q i j :=
  ⟨con_mono (fun a b r => con_of ((h a b).mp r)), con_mono (fun a b r => con_of ((h a b).mpr r))⟩
def NT (R : Nat → Nat → Prop) (i t : Nat) : Prop := ∀ j, t.testBit j = true ↔ j < 11 ∧ Con R i j
theorem NT.uniq {R : Nat → Nat → Prop} {i t u : Nat} (a : NT R i t) (b : NT R i u) : t = u := by
  apply Nat.eq_of_testBit_eq
  intro j
  have := a j
  have := b j
  cases h1 : t.testBit j <;> cases h2 : u.testBit j <;> simp_all
theorem NT.lt {R : Nat → Nat → Prop} {i t : Nat} (a : NT R i t) : t < 2 ^ 11 := by
  apply Nat.lt_pow_two_of_testBit
  intro j hj
  cases h1 : t.testBit j
  · rfl
  · have := ((a j).mp h1).1
    omega
theorem NT.cg {R Q : Nat → Nat → Prop} {i t : Nat} (h : ∀ a b, R a b ↔ Q a b) (a : NT R i t) : NT Q i t := fun j => by rw [a j, con_cg h]
def PR (R : Nat → Nat → Prop) (f : Nat → Nat) : Prop := ∀ i, i < 11 → NT R i (f i)
theorem PR.cg {R Q : Nat → Nat → Prop} {f : Nat → Nat} (h : ∀ a b, R a b ↔ Q a b) (a : PR R f) : PR Q f := fun i hi => (a i hi).cg h
theorem PR.cgf {R : Nat → Nat → Prop} {f g : Nat → Nat} (h : ∀ k, k < 11 → g k = f k) (a : PR R f) : PR R g := fun i hi => by rw [h i hi]; exact a i hi
def ad (R : Nat → Nat → Prop) (i j : Nat) : Nat → Nat → Prop := fun a b => R a b ∨ (a = i ∧ b = j)
def mg (f : Nat → Nat) (i j : Nat) : Nat → Nat := fun k => if (f i ||| f j).testBit k = true then f i ||| f j else f k
theorem PR.mrg {R : Nat → Nat → Prop} {f : Nat → Nat} (hf : PR R f) {i j : Nat} (hi : i < 11) (hj : j < 11) : PR (ad R i j) (mg f i j) := by
  have m1 : ∀ a b, Con R a b → Con (ad R i j) a b := fun a b => con_mono (fun x y r => con_of (Or.inl r))
  have mij : Con (ad R i j) i j := con_of (Or.inr ⟨rfl, rfl⟩)
  have hb : ∀ l, (f i ||| f j).testBit l = true ↔ l < 11 ∧ (Con R i l ∨ Con R j l) := fun l => by
    rw [Nat.testBit_or, Bool.or_eq_true, hf i hi l, hf j hj l]
    exact ⟨fun z => z.elim (fun z => ⟨z.1, Or.inl z.2⟩) (fun z => ⟨z.1, Or.inr z.2⟩), fun z => z.2.elim (fun y => Or.inl ⟨z.1, y⟩) (fun y => Or.inr ⟨z.1, y⟩)⟩
  intro k hk l
  unfold mg
  by_cases hB : (f i ||| f j).testBit k = true
  · rw [if_pos hB, hb l]
    have hk2 := ((hb k).mp hB).2
    refine and_congr_right (fun hl => ⟨fun z => ?_, fun z => ?_⟩)
    · have e1 : Con (ad R i j) i k := hk2.elim (m1 _ _) (fun y => con_trans mij (m1 _ _ y))
      have e2 : Con (ad R i j) i l := z.elim (m1 _ _) (fun y => con_trans mij (m1 _ _ y))
      exact con_trans (con_symm e1) e2
    · refine z (fun x => Con R i x ∨ Con R j x) (fun a b r => ?_) hk2
      rcases r with r | ⟨rfl, rfl⟩
      · exact or_congr (con_cld R i a b r) (con_cld R j a b r)
      · exact ⟨fun _ => Or.inr (con_refl R _), fun _ => Or.inl (con_refl R _)⟩
  · rw [if_neg hB, hf k hk l]
    refine and_congr_right (fun hl => ⟨m1 k l, fun z => ?_⟩)
    have n1 : ¬ Con R k i := fun y => hB ((hb k).mpr ⟨hk, Or.inl (con_symm y)⟩)
    have n2 : ¬ Con R k j := fun y => hB ((hb k).mpr ⟨hk, Or.inr (con_symm y)⟩)
    refine z (Con R k) (fun a b r => ?_) (con_refl R k)
    rcases r with r | ⟨rfl, rfl⟩
    · exact con_cld R k a b r
    · exact ⟨fun y => absurd y n1, fun y => absurd y n2⟩
theorem PR.mrg_eq {R : Nat → Nat → Prop} {f : Nat → Nat} (hf : PR R f) {i j : Nat} (hi : i < 11) (hj : j < 11) (he : f i = f j) : ∀ k, k < 11 → mg f i j k = f k := by
  intro k hk
  unfold mg
  rw [← he, Nat.or_self]
  by_cases hB : (f i).testBit k = true
  · rw [if_pos hB]
    have c := ((hf i hi k).mp hB).2
    refine NT.uniq (R := R) (i := k) (fun l => ?_) (hf k hk)
    rw [hf i hi l]
    exact and_congr_right (fun _ => ⟨fun y => con_trans (con_symm c) y, fun y => con_trans c y⟩)
  · rw [if_neg hB]
theorem surj : ∀ (n : Nat) (o : Nat → Nat), (∀ e, e < n → o e < n) → (∀ e f, e < n → f < n → o e = o f → e = f) → ∀ w, w < n → ∃ e, e < n ∧ o e = w := by
  intro n
  induction n with
  | zero => intro o _ _ w hw; omega
  | succ n ih =>
    intro o h1 h2 w hw
    have hin : ∀ e, e < n → o e ≠ o n := fun e he q => by have := h2 e n (by omega) (by omega) q; omega
    have ih2 := ih (fun e => if o e = n then o n else o e) (fun e he => by
      have a1 := h1 e (by omega)
      have a2 := h1 n (by omega)
      have a3 := hin e he
      (try dsimp only)
      split
      · rename_i q; rw [q] at a3; omega
      · omega) (fun e f he hf q => by
      (try dsimp only at q)
      have b1 := hin e he
      have b2 := hin f hf
      by_cases q1 : o e = n <;> by_cases q2 : o f = n
      · exact h2 e f (by omega) (by omega) (by rw [q1, q2])
      · rw [if_pos q1, if_neg q2] at q; exact absurd q.symm b2
      · rw [if_neg q1, if_pos q2] at q; exact absurd q b1
      · rw [if_neg q1, if_neg q2] at q; exact h2 e f (by omega) (by omega) q)
    by_cases e1 : w = o n
    · exact ⟨n, by omega, e1.symm⟩
    · by_cases e2 : w = n
      · have hv : o n < n := by have := h1 n (by omega); omega
        obtain ⟨e, he, q⟩ := ih2 (o n) hv
        (try dsimp only at q)
        by_cases q1 : o e = n
        · exact ⟨e, by omega, by rw [q1, e2]⟩
        · rw [if_neg q1] at q; exact absurd q (hin e he)
      · obtain ⟨e, he, q⟩ := ih2 w (by omega)
        (try dsimp only at q)
        by_cases q1 : o e = n
        · rw [if_pos q1] at q; exact absurd q.symm e1
        · rw [if_neg q1] at q; exact ⟨e, by omega, q⟩
/-! the class's nets -/
theorem merge_lp {c : Nat} (hc : al c = 11) {B : Nat} (hb : B < 2 ^ 11) {h : Hp} : ∀ (k i : Nat) (F : Nat → Int32) (E : Hp → Prop), i + k = 11 → (∀ F2 : Nat → Int32, (∀ j, j < 11 → F2 j = if i ≤ j ∧ B.testBit j = true then nI B else F j) → E (sr h c F2)) → ∃ N, lp_Nets_merge_41 N c (nI B) (nI i) (sr h c F) E := by
  intro k
  induction k with
  | zero =>
    intro i F E hi hE
    refine ⟨1, ?_⟩
    unfold lp_Nets_merge_41
    rw [hc]
    exact ⟨fun _ => hE F (fun j hj => by rw [if_neg (by omega)]), fun z => absurd (nI_le (a := 11) (by omega) (by omega)) z⟩
  | succ k ih =>
    intro i F E hi hE
    obtain ⟨N, hN⟩ := ih (i + 1) (if B.testBit i = true then upd F i (nI B) else F) E (by omega) (fun F2 h2 => hE F2 (fun j hj => by
      rw [h2 j hj]
      by_cases hB : B.testBit i = true
      · rw [if_pos hB]
        by_cases ej : j = i
        · subst ej
          rw [if_neg (by omega), if_pos ⟨Nat.le_refl _, hB⟩, upd_a, if_pos rfl]
        · rw [upd_a, if_neg ej]
          by_cases hT : B.testBit j = true
          · by_cases q : i + 1 ≤ j
            · rw [if_pos ⟨q, hT⟩, if_pos ⟨by omega, hT⟩]
            · rw [if_neg (fun z => q z.1), if_neg (fun z => q (by omega))]
          · rw [if_neg (fun z => hT z.2), if_neg (fun z => hT z.2)]
      · rw [if_neg hB]
        by_cases ej : j = i
        · subst ej
          rw [if_neg (by omega), if_neg (fun z => hB z.2)]
        · by_cases hT : B.testBit j = true
          · by_cases q : i + 1 ≤ j
            · rw [if_pos ⟨q, hT⟩, if_pos ⟨by omega, hT⟩]
            · rw [if_neg (fun z => q z.1), if_neg (fun z => q (by omega))]
          · rw [if_neg (fun z => hT z.2), if_neg (fun z => hT z.2)]))
    refine ⟨N + 1, ?_⟩
    unfold lp_Nets_merge_41
    dsimp only [jn, lt]
    rw [hc, cl_nI (n := i) (by omega), nI_1, sr_wi, bit_shr (by omega) (by omega)]
    refine ⟨fun z => absurd z (nI_ge (b := 11) (by omega) (by omega)), fun _ => ⟨fun z => ?_, fun z => ⟨vp_in_nI (by omega) (by omega), ?_⟩⟩⟩
    · have hB : ¬ B.testBit i = true := fun q => by rw [q] at z; exact absurd z (by decide)
      rw [if_neg hB] at hN; exact hN
    · have hB : B.testBit i = true := by
        cases q : B.testBit i
        · rw [q] at z; exact absurd rfl z
        · rfl
      rw [if_pos hB] at hN; exact hN
theorem merge_s {c : Nat} (hc : al c = 11) {R : Nat → Nat → Prop} {f : Nat → Nat} (hf : PR R f) {h : Hp} (hr : ∀ k, k < 11 → h.1 c k = nI (f k)) {i j : Nat} (hi : i < 11) (hj : j < 11) {P : Hp → Prop} (k : ∀ (G : Nat → Int32) (g : Nat → Nat), (∀ k, k < 11 → G k = nI (g k)) → PR (ad R i j) g → P (sr h c G)) : wp_Nets_merge c (nI i) (nI j) h P := by
  have l1 := (hf i hi).lt
  have l2 := (hf j hj).lt
  unfold wp_Nets_merge
  dsimp only [lt]
  rw [hc, cl_nI (n := i) (by omega), cl_nI (n := j) (by omega), hr i hi, hr j hj]
  refine ⟨fun z => absurd z (nI_pos (by omega)), fun _ => ⟨fun z => absurd z (nI_ge (b := 11) hi (by omega)), fun _ => ⟨fun z => absurd z (nI_pos (by omega)), fun _ => ⟨fun z => absurd z (nI_ge (b := 11) hj (by omega)), fun _ => ⟨vp_in_nI hi (by omega), vp_in_nI hj (by omega), fun z => ⟨vp_in_nI hi (by omega), vp_in_nI hj (by omega), ?_⟩, fun z => ?_⟩⟩⟩⟩⟩
  · rw [or_nI (by omega) (by omega)]
    have := merge_lp hc (B := f i ||| f j) (Nat.or_lt_two_pow l1 l2) (h := h) 11 0 (h.1 c) P (by omega) (fun F2 h2 => k F2 (mg f i j) (fun l hl => by
      rw [h2 l hl, hr l hl]
      unfold mg
      by_cases q : (f i ||| f j).testBit l = true
      · rw [if_pos ⟨by omega, q⟩, if_pos q]
      · rw [if_neg (fun z => q z.2), if_neg q]) (hf.mrg hi hj))
    rw [sr_self] at this
    exact this
  · have he := nI_inj (by omega) (by omega) z
    have := k (h.1 c) f hr ((hf.mrg hi hj).cgf (fun l hl => (hf.mrg_eq hi hj he l hl).symm))
    rw [sr_self] at this
    exact this
end
