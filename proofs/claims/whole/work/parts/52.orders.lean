section
/-! orders, one after the other: a row of five numbers -/
def gt (L : List Nat) (e : Nat) : Nat := L.getD e 0
theorem gt_set {L : List Nat} {i v : Nat} (hi : i < L.length) (j : Nat) : gt (L.set i v) j = if j = i then v else gt L j := by
  unfold gt
  rw [List.getD_eq_getElem?_getD, List.getD_eq_getElem?_getD, List.getElem?_set]
  by_cases e : i = j
  · rw [if_pos e, if_pos e.symm, e, if_pos (by omega)]; rfl
  · rw [if_neg e, if_neg (fun z => e z.symm)]
def fa (L : List Nat) : Nat → Nat
  | 0 => 0
  | i + 1 => if gt L i ≤ gt L (i + 1) then i + 1 else fa L i
def fb (L : List Nat) (a : Nat) : Nat → Nat
  | 0 => a + 1
  | k + 1 => if gt L a ≤ gt L (a + 1 + (k + 1)) then a + 1 + (k + 1) else fb L a k
def sw (L : List Nat) (i j : Nat) : List Nat := (L.set i (gt L j)).set j (gt L i)
def fr : Nat → List Nat → Nat → Nat → List Nat
  | 0, L, _, _ => L
  | f + 1, L, lo, hi => if hi ≤ lo then L else fr f (sw L lo hi) (lo + 1) (hi - 1)
def adv (n : Nat) (L : List Nat) : List Nat := match fa L (n - 1) with
  | 0 => L
  | a + 1 => fr 5 (sw L a (fb L a (n - 1 - (a + 1)))) (a + 1) (n - 1)
def hl (h : Hp) (c : Nat) (L : List Nat) : Prop := L.length = 5 ∧ (∀ e, e < 5 → h.1 c e = nI (gt L e)) ∧ ∀ e, e < 5 → gt L e < 5
theorem sw_len {L : List Nat} {i j : Nat} : (sw L i j).length = L.length := by unfold sw; rw [List.length_set, List.length_set]
theorem sw_gt {L : List Nat} {i j : Nat} (hi : i < L.length) (hj : j < L.length) (e : Nat) : gt (sw L i j) e = if e = j then gt L i else if e = i then gt L j else gt L e := by
  unfold sw
  rw [gt_set (by rw [List.length_set]; exact hj), gt_set hi]
theorem hl_sw {h : Hp} {c : Nat} {L : List Nat} {f : Nat → Int32} (H : hl (sr h c f) c L) {i j : Nat} (hi : i < 5) (hj : j < 5) : hl (sr h c (upd (upd f i (f j)) j (f i))) c (sw L i j) := by
  obtain ⟨h1, h2, h3⟩ := H
  refine ⟨by rw [sw_len]; exact h1, fun e he => ?_, fun e he => ?_⟩
  · rw [sr_eq, sw_gt (by omega) (by omega), upd_a, upd_a]
    have q : ∀ e, e < 5 → f e = nI (gt L e) := fun e he => by have := h2 e he; rw [sr_eq] at this; exact this
    rw [q i hi, q j hj]
    split
    · rfl
    · split
      · rfl
      · exact q e he
  · rw [sw_gt (by omega) (by omega)]
    split
    · exact h3 i hi
    · split
      · exact h3 j hj
      · exact h3 e he
theorem fa_le {L : List Nat} : ∀ i, fa L i ≤ i := by
  intro i
  induction i with
  | zero => exact Nat.le_refl _
  | succ i ih => unfold fa; split <;> omega
theorem fa_ok {L : List Nat} : ∀ i a, fa L i = a + 1 → gt L a ≤ gt L (a + 1) := by
  intro i
  induction i with
  | zero => intro a h; exact absurd h (by unfold fa; omega)
  | succ i ih =>
    intro a h
    unfold fa at h
    split at h
    · have : i = a := by omega
      subst this; assumption
    · exact ih a h
theorem fb_in {L : List Nat} {a : Nat} : ∀ k, a + 1 ≤ fb L a k ∧ fb L a k ≤ a + 1 + k := by
  intro k
  induction k with
  | zero => unfold fb; omega
  | succ k ih => unfold fb; split <;> omega
theorem pred_nI {a : Nat} (ha : a < 2 ^ 31) : nI (a + 1) + (-1 : Int32) = nI a := by
  have : nI (a + 1) = nI a + 1 := (nI_1 a).symm
  rw [this, Int32.add_assoc]
  show nI a + (1 + -1) = nI a
  rw [show (1 : Int32) + -1 = 0 by decide, Int32.add_zero]
theorem adv1_F {h : Hp} {L : List Nat} (H : hl h 72 L) {p : Int32} : ∀ (i : Nat) (E : Int32 → Prop), i < 5 → (fa L i = 0 → E (-1)) → (∀ a, fa L i = a + 1 → E (nI a)) → lp_Orders_advance_10 (i + 1) p (nI i - 1) h E := by
  intro i
  induction i with
  | zero =>
    intro E hi e0 e1
    unfold lp_Orders_advance_10
    exact ⟨fun _ => e0 rfl, fun z => absurd (by decide) z⟩
  | succ i ih =>
    intro E hi e0 e1
    unfold lp_Orders_advance_10
    dsimp only [lt]
    have l1 := H.2.2 i (by omega)
    have l2 := H.2.2 (i + 1) (by omega)
    have es : nI (i + 1) - 1 = nI i := by rw [Int32.sub_eq_add_neg]; exact pred_nI (by omega)
    rw [es, nI_1, cl_nI (n := i) (by omega), cl_nI (n := i + 1) (by omega), H.2.1 i (by omega), H.2.1 (i + 1) (by omega), nI_leI (by omega) (by omega)]
    refine ⟨fun z => absurd z (nI_pos (by omega)), fun _ => ⟨vp_in_nI (by omega) (by omega), vp_in_nI (by omega) (by omega), fun z => e1 i (by unfold fa; rw [if_pos z]), fun z => ?_⟩⟩
    have e : fa L (i + 1) = fa L i := by rw [fa, if_neg z]
    rw [e] at e0 e1
    have := ih E (by omega) e0 e1
    rw [Int32.sub_eq_add_neg] at this
    exact this
theorem adv2_F {h : Hp} {L : List Nat} (H : hl h 72 L) {p : Int32} {a : Nat} : ∀ (k : Nat) (E : Int32 → Prop), a + 1 + k < 5 → E (nI (fb L a k)) → lp_Orders_advance_47 (k + 1) p (nI a) (nI (a + 1 + k)) h E := by
  intro k
  induction k with
  | zero =>
    intro E hk hE
    unfold lp_Orders_advance_47
    rw [nI_1]
    exact ⟨fun _ => hE, fun z => absurd (nI_le (by omega) (by omega)) z⟩
  | succ k ih =>
    intro E hk hE
    unfold lp_Orders_advance_47
    dsimp only [lt]
    have l1 := H.2.2 a (by omega)
    have l2 := H.2.2 (a + 1 + (k + 1)) (by omega)
    rw [nI_1, cl_nI (n := a) (by omega), cl_nI (n := a + 1 + (k + 1)) (by omega), H.2.1 a (by omega), H.2.1 (a + 1 + (k + 1)) (by omega), nI_leI (a := gt L a) (b := gt L (a + 1 + (k + 1))) (by omega) (by omega), show nI (a + 1 + (k + 1)) + (-1 : Int32) = nI (a + 1 + k) from pred_nI (a := a + 1 + k) (by omega)]
    refine ⟨fun z => absurd z (nI_ge (by omega) (by omega)), fun _ => ⟨vp_in_nI (by omega) (by omega), vp_in_nI (by omega) (by omega), fun z => ?_, fun z => ?_⟩⟩
    · have e : fb L a (k + 1) = a + 1 + (k + 1) := by rw [fb, if_pos z]
      rw [e] at hE; exact hE
    · have e : fb L a (k + 1) = fb L a k := by rw [fb, if_neg z]
      rw [e] at hE; exact ih E (by omega) hE
theorem swap_F {h : Hp} {L : List Nat} {f : Nat → Int32} (H : hl (sr h 72 f) 72 L) {i j : Nat} (hi : i < 5) (hj : j < 5) {P : Hp → Prop} (k : ∀ f2, hl (sr h 72 f2) 72 (sw L i j) → P (sr h 72 f2)) : wp_Orders_swap (nI i) (nI j) (sr h 72 f) P := by
  unfold wp_Orders_swap
  dsimp only [lt]
  rw [cl_nI (n := i) (by omega), cl_nI (n := j) (by omega), sr_eq, sr_wi, sr_wi]
  exact ⟨vp_in_nI hi (by omega), vp_in_nI hj (by omega), vp_in_nI hi (by omega), vp_in_nI hj (by omega), k _ (hl_sw H hi hj)⟩
theorem adv3_F {h : Hp} : ∀ (g : Nat) (L : List Nat) (f : Nat → Int32) (lo hi : Nat) (E : Hp → Prop), hl (sr h 72 f) 72 L → hi < 5 → lo ≤ 5 → hi < lo + g → (∀ f2, hl (sr h 72 f2) 72 (fr g L lo hi) → E (sr h 72 f2)) → lp_Orders_advance_94 (g + 1) (nI lo) (nI hi) (sr h 72 f) E := by
  intro g
  induction g with
  | zero =>
    intro L f lo hi E H h1 h2 h3 hE
    unfold lp_Orders_advance_94
    exact ⟨fun _ => hE f H, fun z => absurd (nI_le (by omega) (by omega)) z⟩
  | succ g ih =>
    intro L f lo hi E H h1 h2 h3 hE
    unfold lp_Orders_advance_94
    dsimp only [lt]
    rw [nI_1, nI_leI (by omega) (by omega)]
    refine ⟨fun z => hE f (by rw [fr, if_pos z]; exact H), fun z => swap_F H (by omega) (by omega) (fun f2 H2 => ?_)⟩
    have e : fr (g + 1) L lo hi = fr g (sw L lo hi) (lo + 1) (hi - 1) := by rw [fr, if_neg z]
    rw [e] at hE
    have eh : nI hi + (-1 : Int32) = nI (hi - 1) := by
      obtain ⟨x, rfl⟩ : ∃ x, hi = x + 1 := ⟨hi - 1, by omega⟩
      rw [pred_nI (by omega), Nat.add_sub_cancel]
    rw [eh]
    exact ih (sw L lo hi) f2 (lo + 1) (hi - 1) E H2 (by omega) (by omega) (by omega) hE
theorem sub_nI {a b : Nat} (h : b ≤ a) (ha : a < 2 ^ 31) : nI a - nI b = nI (a - b) := by
  have e : nI a = nI (a - b) + nI b := by rw [nI_add, Nat.sub_add_cancel h]
  rw [e, Int32.add_sub_cancel]
theorem advance_s {h : Hp} {L : List Nat} {n : Nat} (H : hl h 72 L) (h2 : 2 ≤ n) (hn : n ≤ 5) {P : Hp → Prop} (k : ∀ f, hl (sr h 72 f) 72 (adv n L) → P (sr h 72 f)) : wp_Orders_advance (nI n) h P := by
  unfold wp_Orders_advance
  dsimp only [lt]
  have em : jmin (nI n) (5 : Int32) = nI n := by
    have := jmin_nI (a := n) (b := 5) (by omega) (by omega)
    rw [Nat.min_eq_left hn] at this
    exact this
  have hself : sr h 72 (h.1 72) = h := sr_self
  rw [em, show nI n - (1 : Int32) = nI (n - 1) from sub_nI (b := 1) (by omega) (by omega), show nI n - (2 : Int32) = nI (n - 1) - 1 by rw [show nI (n - 1) - 1 = nI (n - 1 - 1) from sub_nI (b := 1) (by omega) (by omega), show nI n - (2 : Int32) = nI (n - 2) from sub_nI (b := 2) (by omega) (by omega)]; rfl]
  refine ⟨_, adv1_F H (n - 1) _ (by omega) (fun e => ⟨fun z => absurd z (by decide), fun _ => ?_⟩) (fun a e => ⟨fun _ => ?_, fun z => absurd (nI_le (a := 0) (by omega) (by have := fa_le (L := L) (n - 1); omega)) z⟩)⟩
  · have := k (h.1 72) (by rw [hself]; unfold adv; rw [e]; exact H)
    rw [hself] at this; exact this
  · have hl1 : a + 1 ≤ n - 1 := by rw [← e]; exact fa_le _
    have hfb := fb_in (L := L) (a := a) (n - 1 - (a + 1))
    have e1 : nI (n - 1) = nI (a + 1 + (n - 1 - (a + 1))) := by rw [show a + 1 + (n - 1 - (a + 1)) = n - 1 by omega]
    have ea : adv n L = fr 5 (sw L a (fb L a (n - 1 - (a + 1)))) (a + 1) (n - 1) := by unfold adv; rw [e]
    refine ⟨n - 1 - (a + 1) + 1, ?_⟩
    rw [nI_1]
    have inner : wp_Orders_swap (nI a) (nI (fb L a (n - 1 - (a + 1)))) h (fun (h81 : Hp) => ∃ n94, lp_Orders_advance_94 n94 (nI (a + 1)) (nI (n - 1)) h81 (fun (h94x : Hp) => P h94x)) := by
      have := swap_F (h := h) (f := h.1 72) (L := L) (i := a) (j := fb L a (n - 1 - (a + 1))) (P := fun (h81 : Hp) => ∃ n94, lp_Orders_advance_94 n94 (nI (a + 1)) (nI (n - 1)) h81 (fun (h94x : Hp) => P h94x)) (by rw [hself]; exact H) (by omega) (by omega) (fun f2 H2 => ⟨_, adv3_F 5 _ f2 (a + 1) (n - 1) P H2 (by omega) (by omega) (by omega) (fun f3 H3 => k f3 (by rw [ea]; exact H3))⟩)
      rw [hself] at this; exact this
    have := adv2_F H (p := nI n) (a := a) (n - 1 - (a + 1)) (fun (w47_4 : Int32) => wp_Orders_swap (nI a) w47_4 h (fun (h81 : Hp) => ∃ n94, lp_Orders_advance_94 n94 (nI (a + 1)) (nI (n - 1)) h81 (fun (h94x : Hp) => P h94x))) (by omega) inner
    rw [← e1] at this
    exact this
end
