section
theorem hl_swM {h : Hp} {L : List Nat} {f : Nat → Int32} (H : hl (sr h 91 f) 91 L) {i j : Nat} (hi : i < 5) (hj : j < 5) {P : Hp → Prop} (k : ∀ f2, hl (sr h 91 f2) 91 (sw L i j) → P (sr h 91 f2)) : P (wi (wi (sr h 91 f) 91 i (f j)) 91 j (f i)) := by
  rw [sr_wi, sr_wi]
  exact k _ (hl_sw H hi hj)
theorem nx1_M {h : Hp} {L : List Nat} (H : hl h 91 L) : ∀ (i : Nat) (E : Int32 → Prop), i < 5 → (fa L i = 0 → E (-1)) → (∀ a, fa L i = a + 1 → E (nI a)) → lp_Md_nextOrder_7 (i + 1) (nI i - 1) h E := by
  intro i
  induction i with
  | zero =>
    intro E hi e0 e1
    unfold lp_Md_nextOrder_7
    exact ⟨fun _ => e0 rfl, fun z => absurd (by decide) z⟩
  | succ i ih =>
    intro E hi e0 e1
    unfold lp_Md_nextOrder_7
    dsimp only [lt]
    have l1 := H.2.2 i (by omega)
    have l2 := H.2.2 (i + 1) (by omega)
    have es : nI (i + 1) - 1 = nI i := by rw [Int32.sub_eq_add_neg]; exact pred_nI (by omega)
    rw [es, nI_1, cl_nI (n := i) (by omega), cl_nI (n := i + 1) (by omega), H.2.1 i (by omega), H.2.1 (i + 1) (by omega), nI_leI (by omega) (by omega)]
    refine ⟨fun z => absurd z (nI_pos (by omega)), fun _ => ⟨vp_in_nI (by omega) (by omega), vp_in_nI (by omega) (by omega), fun z => e1 i (by unfold fa; rw [if_pos z]), fun z => ?_⟩⟩
    have e : fa L (i + 1) = fa L i := by rw [fa, if_neg z]
    rw [e] at e0 e1
    have := ih E (by omega) e0 e1
    rw [Int32.sub_eq_add_neg] at this
    exact this
theorem nx2_M {h : Hp} {L : List Nat} (H : hl h 91 L) {a : Nat} (hle : gt L a ≤ gt L (a + 1)) : ∀ (k : Nat) (E : Int32 → Prop), a + 1 + k < 5 → E (nI (fb L a k)) → lp_Md_nextOrder_47 (k + 1) (nI a) (nI (a + 1 + k)) h E := by
  intro k
  induction k with
  | zero =>
    intro E hk hE
    unfold lp_Md_nextOrder_47
    have l1 := H.2.2 a (by omega)
    have l2 := H.2.2 (a + 1) (by omega)
    rw [Nat.add_zero, cl_nI (n := a) (by omega), cl_nI (n := a + 1) (by omega), H.2.1 a (by omega), H.2.1 (a + 1) (by omega), nI_leI (a := gt L a) (b := gt L (a + 1)) (by omega) (by omega)]
    exact ⟨vp_in_nI (by omega) (by omega), vp_in_nI (by omega) (by omega), fun _ => hE, fun z => absurd hle z⟩
  | succ k ih =>
    intro E hk hE
    unfold lp_Md_nextOrder_47
    dsimp only [lt]
    have l1 := H.2.2 a (by omega)
    have l2 := H.2.2 (a + 1 + (k + 1)) (by omega)
    rw [cl_nI (n := a) (by omega), cl_nI (n := a + 1 + (k + 1)) (by omega), H.2.1 a (by omega), H.2.1 (a + 1 + (k + 1)) (by omega), nI_leI (a := gt L a) (b := gt L (a + 1 + (k + 1))) (by omega) (by omega), show nI (a + 1 + (k + 1)) + (-1 : Int32) = nI (a + 1 + k) from pred_nI (a := a + 1 + k) (by omega)]
    refine ⟨vp_in_nI (by omega) (by omega), vp_in_nI (by omega) (by omega), fun z => ?_, fun z => ?_⟩
    · have e : fb L a (k + 1) = a + 1 + (k + 1) := by rw [fb, if_pos z]
      rw [e] at hE; exact hE
    · have e : fb L a (k + 1) = fb L a k := by rw [fb, if_neg z]
      rw [e] at hE; exact ih E (by omega) hE
theorem nx3_M {h : Hp} : ∀ (g : Nat) (L : List Nat) (f : Nat → Int32) (lo hi : Nat) (E : Hp → Prop), hl (sr h 91 f) 91 L → hi < 5 → lo ≤ 5 → hi < lo + g → (∀ f2, hl (sr h 91 f2) 91 (fr g L lo hi) → E (sr h 91 f2)) → lp_Md_nextOrder_107 (g + 1) (nI hi) (nI lo) (sr h 91 f) E := by
  intro g
  induction g with
  | zero =>
    intro L f lo hi E H h1 h2 h3 hE
    unfold lp_Md_nextOrder_107
    exact ⟨fun _ => hE f H, fun z => absurd (nI_le (by omega) (by omega)) z⟩
  | succ g ih =>
    intro L f lo hi E H h1 h2 h3 hE
    unfold lp_Md_nextOrder_107
    dsimp only [lt]
    rw [nI_1, nI_leI (by omega) (by omega)]
    refine ⟨fun z => hE f (by rw [fr, if_pos z]; exact H), fun z => ?_⟩
    have e : fr (g + 1) L lo hi = fr g (sw L lo hi) (lo + 1) (hi - 1) := by rw [fr, if_neg z]
    rw [e] at hE
    have eh : nI hi + (-1 : Int32) = nI (hi - 1) := by
      obtain ⟨x, rfl⟩ : ∃ x, hi = x + 1 := ⟨hi - 1, by omega⟩
      rw [pred_nI (by omega), Nat.add_sub_cancel]
    rw [eh, cl_nI (n := lo) (by omega), cl_nI (n := hi) (by omega), sr_eq]
    refine ⟨vp_in_nI (by omega) (by omega), vp_in_nI (by omega) (by omega), vp_in_nI (by omega) (by omega), vp_in_nI (by omega) (by omega), ?_⟩
    exact hl_swM (P := fun h145 => lp_Md_nextOrder_107 (g + 1) (nI (hi - 1)) (nI (lo + 1)) h145 E) H (by omega) (by omega) (fun f2 H2 => ih (sw L lo hi) f2 (lo + 1) (hi - 1) E H2 (by omega) (by omega) (by omega) hE)
theorem next_s {h : Hp} {L : List Nat} {n : Nat} (H : hl h 91 L) (hw : h.1 7 0 = nI n) (h2 : 2 ≤ n) (hn : n ≤ 5) {P : Bool → Hp → Prop} (k : ∀ f, hl (sr h 91 f) 91 (adv n L) → P (fa L (n - 1) != 0) (sr h 91 f)) : wp_Md_nextOrder h P := by
  unfold wp_Md_nextOrder
  dsimp only [lt]
  have hself : sr h 91 (h.1 91) = h := sr_self
  rw [hw, show nI n - (1 : Int32) = nI (n - 1) from sub_nI (b := 1) (by omega) (by omega), show nI n - (2 : Int32) = nI (n - 1) - 1 by rw [show nI (n - 1) - 1 = nI (n - 1 - 1) from sub_nI (b := 1) (by omega) (by omega), show nI n - (2 : Int32) = nI (n - 2) from sub_nI (b := 2) (by omega) (by omega)]; rfl]
  refine ⟨_, nx1_M H (n - 1) _ (by omega) (fun e => ⟨fun z => absurd z (by decide), fun _ => ?_⟩) (fun a e => ⟨fun _ => ?_, fun z => absurd (nI_le (a := 0) (by omega) (by have := fa_le (L := L) (n - 1); omega)) z⟩)⟩
  · have := k (h.1 91) (by rw [hself]; unfold adv; rw [e]; exact H)
    rw [hself, e] at this; exact this
  · have hl1 : a + 1 ≤ n - 1 := by rw [← e]; exact fa_le _
    have hfb := fb_in (L := L) (a := a) (n - 1 - (a + 1))
    have e1 : nI (n - 1) = nI (a + 1 + (n - 1 - (a + 1))) := by rw [show a + 1 + (n - 1 - (a + 1)) = n - 1 by omega]
    have ea : adv n L = fr 5 (sw L a (fb L a (n - 1 - (a + 1)))) (a + 1) (n - 1) := by unfold adv; rw [e]
    refine ⟨n - 1 - (a + 1) + 1, ?_⟩
    have := nx2_M H (a := a) (fa_ok _ a e) (n - 1 - (a + 1)) (fun (w47_2 : Int32) => (vp_in (nI a) 5) ∧ (vp_in w47_2 5) ∧ (vp_in (nI a) 5) ∧ (vp_in w47_2 5) ∧ ∃ n107, lp_Md_nextOrder_107 n107 ((wi (wi h 91 a (h.1 91 (w47_2).toNatClampNeg)) 91 (w47_2).toNatClampNeg (h.1 91 a)).1 7 0 - 1) (nI a + 1) (wi (wi h 91 a (h.1 91 (w47_2).toNatClampNeg)) 91 (w47_2).toNatClampNeg (h.1 91 a)) (fun (h107x : Hp) => P true h107x)) (by omega) ⟨vp_in_nI (by omega) (by omega), vp_in_nI (by omega) (by omega), vp_in_nI (by omega) (by omega), vp_in_nI (by omega) (by omega), by
      rw [cl_nI (n := fb L a (n - 1 - (a + 1))) (by omega), nI_1, wi_ne (by omega), wi_ne (by omega), hw, show nI n - (1 : Int32) = nI (n - 1) from sub_nI (b := 1) (by omega) (by omega)]
      have q := hl_swM (h := h) (f := h.1 91) (L := L) (i := a) (j := fb L a (n - 1 - (a + 1))) (P := fun (h81 : Hp) => ∃ n94, lp_Md_nextOrder_107 n94 (nI (n - 1)) (nI (a + 1)) h81 (fun (h94x : Hp) => P true h94x)) (by rw [hself]; exact H) (by omega) (by omega) (fun f2 H2 => ⟨_, nx3_M 5 _ f2 (a + 1) (n - 1) (P true) H2 (by omega) (by omega) (by omega) (fun f3 H3 => by
        have := k f3 (by rw [ea]; exact H3)
        rw [e] at this; exact this)⟩)
      rw [hself] at q; exact q⟩
    rw [← e1, cl_nI (n := a) (by omega)] at *
    exact this
/-! the table of orders -/
def oL (n : Nat) : Nat → List Nat
  | 0 => [0, 1, 2, 3, 4]
  | k + 1 => adv n (oL n k)
def fc : Nat → Nat
  | 0 => 0
  | 2 => 2
  | 3 => 6
  | 4 => 24
  | 5 => 120
  | _ => 0
def gdL (n : Nat) (L : List Nat) : Bool := (List.range n).all (fun e => gt L e < n && (List.range n).all (fun f => e == f || gt L e != gt L f))
def chk (n : Nat) : Nat → List Nat → Bool
  | 0, _ => true
  | f + 1, L => gdL n L && ((fa L (n - 1) != 0) == (f != 0)) && chk n f (adv n L)
theorem chk_ok : chk 2 2 [0, 1, 2, 3, 4] = true ∧ chk 3 6 [0, 1, 2, 3, 4] = true ∧ chk 4 24 [0, 1, 2, 3, 4] = true ∧ chk 5 120 [0, 1, 2, 3, 4] = true := by decide +kernel
theorem chk_at {n : Nat} : ∀ (f i : Nat), chk n f (oL n i) = true → ∀ k, k < f → gdL n (oL n (i + k)) = true ∧ (fa (oL n (i + k)) (n - 1) != 0) = (k + 1 != f) := by
  intro f
  induction f with
  | zero => intro i _ k hk; omega
  | succ f ih =>
    intro i h k hk
    unfold chk at h
    rw [Bool.and_eq_true, Bool.and_eq_true] at h
    obtain ⟨⟨h1, h2⟩, h3⟩ := h
    cases k with
    | zero =>
      refine ⟨h1, ?_⟩
      rw [Nat.add_zero, eq_of_beq h2]
      cases f <;> simp
    | succ k =>
      obtain ⟨r1, r2⟩ := ih (i + 1) h3 k (by omega)
      rw [show i + 1 + k = i + (k + 1) by omega] at r1 r2
      refine ⟨r1, ?_⟩
      rw [r2]
      simp
theorem orders {n : Nat} (h2 : 2 ≤ n) (hn : n ≤ 5) : ∀ k, k < fc n → (∀ e, e < n → gt (oL n k) e < n) ∧ (∀ e f, e < n → f < n → gt (oL n k) e = gt (oL n k) f → e = f) ∧ (fa (oL n k) (n - 1) != 0) = (k + 1 != fc n) := by
  have hc : chk n (fc n) (oL n 0) = true := by
    rcases (show n = 2 ∨ n = 3 ∨ n = 4 ∨ n = 5 by omega) with rfl | rfl | rfl | rfl
    · exact chk_ok.1
    · exact chk_ok.2.1
    · exact chk_ok.2.2.1
    · exact chk_ok.2.2.2
  intro k hk
  obtain ⟨r1, r2⟩ := chk_at (fc n) 0 hc k hk
  rw [Nat.zero_add] at r1 r2
  unfold gdL at r1
  rw [List.all_eq_true] at r1
  refine ⟨fun e he => ?_, fun e f he hf q => ?_, r2⟩
  · have := r1 e (List.mem_range.mpr he)
    rw [Bool.and_eq_true] at this
    simpa using this.1
  · have := r1 e (List.mem_range.mpr he)
    rw [Bool.and_eq_true, List.all_eq_true] at this
    have := this.2 f (List.mem_range.mpr hf)
    rw [Bool.or_eq_true] at this
    rcases this with z | z
    · simpa using z
    · rw [q] at z; simp at z
theorem fc_le {n : Nat} : fc n ≤ 120 := by unfold fc; split <;> omega
theorem countOrders_s {n : Nat} {h : Hp} (hw : h.1 0 1 = nI n) (hn : n ≤ 5) (h1 : n ≠ 1) {P : Int32 → Prop} (k : P (nI (fc n))) : wp_Fe_countOrders h P := by
  unfold wp_Fe_countOrders
  rw [hw]
  refine ⟨fun z => ?_, fun z => ?_⟩
  · unfold wp_Fe_factorial
    have h0 : n ≠ 0 := fun e => z (by rw [e]; rfl)
    rw [cl_nI (n := n) (by omega)]
    have ef : fac n = nI (fc n) := by
      rcases (show n = 2 ∨ n = 3 ∨ n = 4 ∨ n = 5 by omega) with rfl | rfl | rfl | rfl <;> rfl
    rw [ef]
    exact ⟨fun y => absurd y (nI_pos (by omega)), fun _ => ⟨fun y => absurd y (nI_ge (b := 6) (by omega) (by omega)), fun _ => ⟨vp_in_nI (by omega) (by omega), k⟩⟩⟩
  · have e : n = 0 := (nI_zero (by omega)).mp z
    subst e
    exact k
theorem start_lp {h : Hp} : ∀ (k i : Nat) (f : Nat → Int32) (E : Hp → Prop), i + k = 5 → (∀ f2 : Nat → Int32, (∀ e, e < 5 → f2 e = if i ≤ e then nI e else f e) → E (sr h 72 f2)) → lp_Orders_start_2 (k + 1) (nI i) (sr h 72 f) E := by
  intro k
  induction k with
  | zero =>
    intro i f E hi hE
    unfold lp_Orders_start_2
    exact ⟨fun _ => hE f (fun e he => by rw [if_neg (by omega)]), fun z => absurd (nI_le (a := 5) (by omega) (by omega)) z⟩
  | succ k ih =>
    intro i f E hi hE
    unfold lp_Orders_start_2
    dsimp only [lt]
    rw [nI_1, cl_nI (n := i) (by omega), sr_wi]
    refine ⟨fun z => absurd z (nI_ge (b := 5) (by omega) (by omega)), fun _ => ⟨vp_in_nI (by omega) (by omega), ih (i + 1) _ E (by omega) (fun f2 h2 => hE f2 (fun e he => ?_))⟩⟩
    rw [h2 e he, upd_a]
    by_cases q : e = i
    · subst q; rw [if_neg (by omega), if_pos rfl, if_pos (Nat.le_refl _)]
    · rw [if_neg q]
      by_cases q2 : i + 1 ≤ e
      · rw [if_pos q2, if_pos (by omega)]
      · rw [if_neg q2, if_neg (by omega)]
theorem first_lp {h : Hp} : ∀ (k i : Nat) (f : Nat → Int32) (E : Hp → Prop), i + k = 5 → (∀ f2 : Nat → Int32, (∀ e, e < 5 → f2 e = if i ≤ e then nI e else f e) → E (sr h 91 f2)) → lp_Md_firstOrder_2 (k + 1) (nI i) (sr h 91 f) E := by
  intro k
  induction k with
  | zero =>
    intro i f E hi hE
    unfold lp_Md_firstOrder_2
    exact ⟨fun _ => hE f (fun e he => by rw [if_neg (by omega)]), fun z => absurd (nI_le (a := 5) (by omega) (by omega)) z⟩
  | succ k ih =>
    intro i f E hi hE
    unfold lp_Md_firstOrder_2
    dsimp only [lt]
    rw [nI_1, cl_nI (n := i) (by omega), sr_wi]
    refine ⟨fun z => absurd z (nI_ge (b := 5) (by omega) (by omega)), fun _ => ⟨vp_in_nI (by omega) (by omega), ih (i + 1) _ E (by omega) (fun f2 h2 => hE f2 (fun e he => ?_))⟩⟩
    rw [h2 e he, upd_a]
    by_cases q : e = i
    · subst q; rw [if_neg (by omega), if_pos rfl, if_pos (Nat.le_refl _)]
    · rw [if_neg q]
      by_cases q2 : i + 1 ≤ e
      · rw [if_pos q2, if_pos (by omega)]
      · rw [if_neg q2, if_neg (by omega)]
theorem oL0 {n e : Nat} (he : e < 5) : gt (oL n 0) e = e := by
  rcases (show e = 0 ∨ e = 1 ∨ e = 2 ∨ e = 3 ∨ e = 4 by omega) with rfl | rfl | rfl | rfl | rfl <;> rfl
theorem start_s {h : Hp} {n : Nat} {P : Hp → Prop} (k : ∀ f, hl (sr h 72 f) 72 (oL n 0) → P (sr h 72 f)) : wp_Orders_start h P := by
  unfold wp_Orders_start
  have := start_lp (h := h) 5 0 (h.1 72) P (by omega) (fun f2 h2 => k f2 ⟨rfl, fun e he => by rw [sr_eq, h2 e he, if_pos (by omega), oL0 he], fun e he => by rw [oL0 he]; exact he⟩)
  rw [sr_self] at this
  exact ⟨_, this⟩
theorem first_s {h : Hp} {n : Nat} {P : Hp → Prop} (k : ∀ f, hl (sr h 91 f) 91 (oL n 0) → P (sr h 91 f)) : wp_Md_firstOrder h P := by
  unfold wp_Md_firstOrder
  have := first_lp (h := h) 5 0 (h.1 91) P (by omega) (fun f2 h2 => k f2 ⟨rfl, fun e he => by rw [sr_eq, h2 e he, if_pos (by omega), oL0 he], fun e he => by rw [oL0 he]; exact he⟩)
  rw [sr_self] at this
  exact ⟨_, this⟩
end
