section
def mx (W : List Nat) : Nat → Nat
  | 0 => 0
  | k + 1 => max (mx W k) (gt W k)
def wa : Nat → List Nat → Bool × List Nat
  | 0, W => (false, W)
  | k + 1, W => if mx W (k + 1) < gt W (k + 1) then wa k (W.set (k + 1) 1) else (true, W.set (k + 1) (gt W (k + 1) + 1))
def okW (W : List Nat) : Prop := W.length = 5 ∧ ∀ e, e < 5 → 1 ≤ gt W e ∧ gt W e ≤ 5
def h76 (h : Hp) (W : List Nat) : Prop := ∀ e, e < 5 → h.1 76 e = nI (gt W e - 1)
def h96 (h : Hp) (W : List Nat) : Prop := ∀ e, e < 5 → h.1 96 e = nI (gt W e)
theorem mx_le {W : List Nat} (hW : okW W) : ∀ k, k ≤ 5 → mx W k ≤ 5 := by
  intro k
  induction k with
  | zero => intro _; exact Nat.zero_le _
  | succ k ih =>
    intro hk
    have := ih (by omega)
    have := (hW.2 k (by omega)).2
    show max (mx W k) (gt W k) ≤ 5
    omega
theorem mx_pos {W : List Nat} (hW : okW W) {k : Nat} (h1 : 1 ≤ k) (hk : k ≤ 5) : 1 ≤ mx W k := by
  obtain ⟨j, rfl⟩ : ∃ j, k = j + 1 := ⟨k - 1, by omega⟩
  have := (hW.2 j (by omega)).1
  show 1 ≤ max (mx W j) (gt W j)
  omega
theorem okW_set {W : List Nat} (hW : okW W) {i : Nat} (hi : i < 5) : okW (W.set i 1) := by
  refine ⟨by rw [List.length_set]; exact hW.1, fun e he => ?_⟩
  rw [gt_set (by rw [hW.1]; exact hi)]
  split
  · exact ⟨Nat.le_refl _, by omega⟩
  · exact hW.2 e he
theorem most_F {h : Hp} {W : List Nat} (hW : okW W) (hc : h76 h W) {p : Nat} (hp : p ≤ 5) {P : Int32 → Prop} (K : P (nI (mx W p - 1))) : wp_Ways_mostAhead (nI p) h P := by
  have lp : ∀ (j i : Nat) (E : Int32 → Prop), i + j = p → E (nI (mx W p - 1)) → lp_Ways_mostAhead_4 (j + 1) (nI p) (nI (mx W i - 1)) (nI i) h E := by
    intro j
    induction j with
    | zero =>
      intro i E hi hE
      have e : i = p := by omega
      subst e
      unfold lp_Ways_mostAhead_4
      exact ⟨fun _ => hE, fun z => absurd (nI_le (by omega) (by omega)) z⟩
    | succ j ih =>
      intro i E hi hE
      have l1 := mx_le hW i (by omega)
      have l2 := (hW.2 i (by omega)).2
      unfold lp_Ways_mostAhead_4
      dsimp only [lt]
      rw [nI_1, cl_nI (n := i) (by omega), hc i (by omega), jmax_nI (by omega) (by omega)]
      refine ⟨fun z => absurd z (nI_ge (by omega) (by omega)), fun _ => ⟨fun z => absurd z (nI_ge (b := 5) (by omega) (by omega)), fun _ => ⟨vp_in_nI (by omega) (by omega), ?_⟩⟩⟩
      have e : max (mx W i - 1) (gt W i - 1) = mx W (i + 1) - 1 := by show _ = max (mx W i) (gt W i) - 1; omega
      rw [e]
      exact ih (i + 1) E (by omega) hE
  unfold wp_Ways_mostAhead
  exact ⟨_, lp p 0 _ (by omega) K⟩
theorem wadv_F {h : Hp} : ∀ (k : Nat) (W : List Nat) (f : Nat → Int32) (E : Hp → Prop) (P : Bool → Hp → Prop), k < 5 → okW W → h76 (sr h 76 f) W → ((wa k W).1 = false → ∀ f2, h76 (sr h 76 f2) (wa k W).2 → E (sr h 76 f2)) → ((wa k W).1 = true → ∀ f2, h76 (sr h 76 f2) (wa k W).2 → P true (sr h 76 f2)) → lp_Ways_advance_8 (k + 1) (nI k) (sr h 76 f) E P := by
  intro k
  induction k with
  | zero =>
    intro W f E P hk hW hc e0 e1
    unfold lp_Ways_advance_8
    exact ⟨fun _ => e0 rfl f hc, fun z => absurd (by decide) z⟩
  | succ k ih =>
    intro W f E P hk hW hc e0 e1
    obtain ⟨g1, g2⟩ := hW.2 (k + 1) hk
    have l1 := mx_le hW (k + 1) (by omega)
    have l2 := mx_pos hW (k := k + 1) (by omega) (by omega)
    unfold lp_Ways_advance_8
    dsimp only [lt]
    rw [cl_nI (n := k + 1) (by omega), pred_nI (by omega), hc (k + 1) hk, nI_1, sr_wi, sr_wi]
    refine ⟨fun z => absurd z (nI_ge (a := 0) (b := k + 1) (by omega) (by omega)), fun _ => ⟨vp_in_nI (by omega) (by omega), most_F hW hc (by omega) ?_⟩⟩
    rw [nI_ltI (by omega) (by omega)]
    refine ⟨fun z => ⟨vp_in_nI (by omega) (by omega), ?_⟩, fun z => ⟨vp_in_nI (by omega) (by omega), vp_in_nI (by omega) (by omega), ?_⟩⟩
    · have e : wa (k + 1) W = wa k (W.set (k + 1) 1) := by rw [wa, if_pos (by omega)]
      rw [e] at e0 e1
      refine ih (W.set (k + 1) 1) _ E P (by omega) (okW_set hW hk) (fun e he => ?_) e0 e1
      have := hc e he
      rw [sr_eq] at this ⊢
      rw [upd_a, gt_set (by rw [hW.1]; exact hk)]
      by_cases q : e = k + 1
      · rw [if_pos q, if_pos q]; rfl
      · rw [if_neg q, if_neg q]; exact this
    · have e : wa (k + 1) W = (true, W.set (k + 1) (gt W (k + 1) + 1)) := by rw [wa, if_neg (by omega)]
      rw [e] at e1
      refine e1 rfl _ (fun e he => ?_)
      have := hc e he
      rw [sr_eq] at this ⊢
      rw [upd_a, gt_set (by rw [hW.1]; exact hk)]
      by_cases q : e = k + 1
      · rw [if_pos q, if_pos q, show gt W (k + 1) - 1 + 1 = gt W (k + 1) + 1 - 1 by omega]
      · rw [if_neg q, if_neg q]; exact this
theorem advW_F {h : Hp} {W : List Nat} {n : Nat} (h2 : 2 ≤ n) (hn : n ≤ 5) (hW : okW W) (hc : h76 h W) {P : Bool → Hp → Prop} (K : ∀ f, h76 (sr h 76 f) (wa (n - 1) W).2 → P (wa (n - 1) W).1 (sr h 76 f)) : wp_Ways_advance (nI n) h P := by
  unfold wp_Ways_advance
  dsimp only [lt]
  have em : jmin (nI n) (5 : Int32) = nI n := by
    have := jmin_nI (a := n) (b := 5) (by omega) (by omega)
    rw [Nat.min_eq_left hn] at this
    exact this
  rw [em, show nI n - (1 : Int32) = nI (n - 1) from sub_nI (b := 1) (by omega) (by omega)]
  have hself : sr h 76 (h.1 76) = h := sr_self
  have := wadv_F (h := h) (n - 1) W (h.1 76) (fun h8x => P false h8x) P (by omega) hW (by rw [hself]; exact hc) (fun e f2 q => by have := K f2 q; rw [e] at this; exact this) (fun e f2 q => by have := K f2 q; rw [e] at this; exact this)
  rw [hself] at this
  exact ⟨_, this⟩
/-! the model's -/
theorem most_M {h : Hp} {W : List Nat} (hW : okW W) (hc : h96 h W) {p : Nat} (hp : p ≤ 5) : ∀ (j i : Nat) (E : Int32 → Prop), i + j = p → E (nI (mx W p)) → lp_Md_nextWay_15 (j + 1) (nI p) (nI (mx W i)) (nI i) h E := by
  intro j
  induction j with
  | zero =>
    intro i E hi hE
    have e : i = p := by omega
    subst e
    unfold lp_Md_nextWay_15
    exact ⟨fun _ => hE, fun z => absurd (nI_le (by omega) (by omega)) z⟩
  | succ j ih =>
    intro i E hi hE
    have l1 := mx_le hW i (by omega)
    have l2 := (hW.2 i (by omega)).2
    have nx := ih (i + 1) E (by omega) hE
    unfold lp_Md_nextWay_15
    dsimp only [jn, lt]
    rw [nI_1, cl_nI (n := i) (by omega), hc i (by omega), nI_leI (a := gt W i) (by omega) (by omega)]
    refine ⟨fun z => absurd z (nI_ge (by omega) (by omega)), fun _ => ⟨vp_in_nI (by omega) (by omega), fun z => ?_, fun z => ⟨vp_in_nI (by omega) (by omega), ?_⟩⟩⟩
    · have e : mx W (i + 1) = mx W i := by show max (mx W i) (gt W i) = _; omega
      rw [e] at nx; exact nx
    · have e : mx W (i + 1) = gt W i := by show max (mx W i) (gt W i) = _; omega
      rw [e] at nx; exact nx
theorem wadv_M {h : Hp} : ∀ (k : Nat) (W : List Nat) (f : Nat → Int32) (E : Hp → Prop) (P : Bool → Hp → Prop), k < 5 → okW W → h96 (sr h 96 f) W → ((wa k W).1 = false → ∀ f2, h96 (sr h 96 f2) (wa k W).2 → E (sr h 96 f2)) → ((wa k W).1 = true → ∀ f2, h96 (sr h 96 f2) (wa k W).2 → P true (sr h 96 f2)) → lp_Md_nextWay_7 (k + 1) (nI k) (sr h 96 f) E P := by
  intro k
  induction k with
  | zero =>
    intro W f E P hk hW hc e0 e1
    unfold lp_Md_nextWay_7
    exact ⟨fun _ => e0 rfl f hc, fun z => absurd (by decide) z⟩
  | succ k ih =>
    intro W f E P hk hW hc e0 e1
    obtain ⟨g1, g2⟩ := hW.2 (k + 1) hk
    have l1 := mx_le hW (k + 1) (by omega)
    unfold lp_Md_nextWay_7
    dsimp only [lt]
    rw [cl_nI (n := k + 1) (by omega), pred_nI (by omega), hc (k + 1) hk, nI_1, sr_wi, sr_wi]
    refine ⟨fun z => absurd z (nI_ge (a := 0) (b := k + 1) (by omega) (by omega)), fun _ => ⟨_, most_M hW hc (p := k + 1) (by omega) (k + 1) 0 _ (by omega) ⟨vp_in_nI (by omega) (by omega), ?_⟩⟩⟩
    rw [nI_ltI (by omega) (by omega)]
    refine ⟨fun z => ⟨vp_in_nI (by omega) (by omega), ?_⟩, fun z => ⟨vp_in_nI (by omega) (by omega), vp_in_nI (by omega) (by omega), ?_⟩⟩
    · have e : wa (k + 1) W = wa k (W.set (k + 1) 1) := by rw [wa, if_pos z]
      rw [e] at e0 e1
      refine ih (W.set (k + 1) 1) _ E P (by omega) (okW_set hW hk) (fun e he => ?_) e0 e1
      have := hc e he
      rw [sr_eq] at this ⊢
      rw [upd_a, gt_set (by rw [hW.1]; exact hk)]
      by_cases q : e = k + 1
      · rw [if_pos q, if_pos q]; rfl
      · rw [if_neg q, if_neg q]; exact this
    · have e : wa (k + 1) W = (true, W.set (k + 1) (gt W (k + 1) + 1)) := by rw [wa, if_neg z]
      rw [e] at e1
      refine e1 rfl _ (fun e he => ?_)
      have := hc e he
      rw [sr_eq] at this ⊢
      rw [upd_a, gt_set (by rw [hW.1]; exact hk)]
      by_cases q : e = k + 1
      · rw [if_pos q, if_pos q]
      · rw [if_neg q, if_neg q]; exact this
theorem advW_M {h : Hp} {W : List Nat} {n : Nat} (hw : h.1 7 0 = nI n) (h2 : 2 ≤ n) (hn : n ≤ 5) (hW : okW W) (hc : h96 h W) {P : Bool → Hp → Prop} (K : ∀ f, h96 (sr h 96 f) (wa (n - 1) W).2 → P (wa (n - 1) W).1 (sr h 96 f)) : wp_Md_nextWay h P := by
  unfold wp_Md_nextWay
  dsimp only [lt]
  rw [hw, show nI n - (1 : Int32) = nI (n - 1) from sub_nI (b := 1) (by omega) (by omega)]
  have hself : sr h 96 (h.1 96) = h := sr_self
  have := wadv_M (h := h) (n - 1) W (h.1 96) (fun h8x => P false h8x) P (by omega) hW (by rw [hself]; exact hc) (fun e f2 q => by have := K f2 q; rw [e] at this; exact this) (fun e f2 q => by have := K f2 q; rw [e] at this; exact this)
  rw [hself] at this
  exact ⟨_, this⟩
/-! the table of ways -/
def wL (n : Nat) : Nat → List Nat
  | 0 => [1, 1, 1, 1, 1]
  | i + 1 => (wa (n - 1) (wL n i)).2
def bl : Nat → Nat
  | 2 => 2
  | 3 => 5
  | 4 => 15
  | 5 => 52
  | _ => 0
def wchk (n : Nat) : Nat → List Nat → Bool
  | 0, _ => true
  | f + 1, W => (W.length == 5) && (List.range 5).all (fun e => decide (1 ≤ gt W e) && decide (gt W e ≤ 5)) && ((wa (n - 1) W).1 == (f != 0)) && wchk n f (wa (n - 1) W).2
theorem wchk_ok : wchk 2 2 [1, 1, 1, 1, 1] = true ∧ wchk 3 5 [1, 1, 1, 1, 1] = true ∧ wchk 4 15 [1, 1, 1, 1, 1] = true ∧ wchk 5 52 [1, 1, 1, 1, 1] = true := by decide +kernel
theorem wchk_at {n : Nat} : ∀ (f i : Nat), wchk n f (wL n i) = true → ∀ k, k < f → okW (wL n (i + k)) ∧ (wa (n - 1) (wL n (i + k))).1 = (k + 1 != f) := by
  intro f
  induction f with
  | zero => intro i _ k hk; omega
  | succ f ih =>
    intro i h k hk
    unfold wchk at h
    rw [Bool.and_eq_true, Bool.and_eq_true, Bool.and_eq_true] at h
    obtain ⟨⟨⟨h1, h2⟩, h3⟩, h4⟩ := h
    cases k with
    | zero =>
      refine ⟨⟨by simpa using h1, fun e he => ?_⟩, ?_⟩
      · have := List.all_eq_true.mp h2 e (List.mem_range.mpr he)
        rw [Bool.and_eq_true, decide_eq_true_eq, decide_eq_true_eq] at this
        exact this
      · rw [Nat.add_zero, eq_of_beq h3]
        cases f <;> simp
    | succ k =>
      obtain ⟨r1, r2⟩ := ih (i + 1) h4 k (by omega)
      rw [show i + 1 + k = i + (k + 1) by omega] at r1 r2
      refine ⟨r1, ?_⟩
      rw [r2]
      simp
theorem ways {n : Nat} (h2 : 2 ≤ n) (hn : n ≤ 5) : ∀ k, k < bl n → okW (wL n k) ∧ (wa (n - 1) (wL n k)).1 = (k + 1 != bl n) := by
  have hc : wchk n (bl n) (wL n 0) = true := by
    rcases (show n = 2 ∨ n = 3 ∨ n = 4 ∨ n = 5 by omega) with rfl | rfl | rfl | rfl
    · exact wchk_ok.1
    · exact wchk_ok.2.1
    · exact wchk_ok.2.2.1
    · exact wchk_ok.2.2.2
  intro k hk
  have := wchk_at (bl n) 0 hc k hk
  rw [Nat.zero_add] at this
  exact this
theorem bl_in {n : Nat} (h2 : 2 ≤ n) (hn : n ≤ 5) : 2 ≤ bl n ∧ bl n ≤ 52 := by
  rcases (show n = 2 ∨ n = 3 ∨ n = 4 ∨ n = 5 by omega) with rfl | rfl | rfl | rfl <;> decide
def Nw (n : Nat) (W : List Nat) (e : Nat) : Nat := if e < n then gt W e else 0
theorem row_s {n : Nat} (hn : n ≤ 5) {h : Hp} {W : List Nat} (hW : okW W) (hc : h76 h W) {P : Int32 → Prop} (K : P (nI (pk (Nw n W)))) : wp_Ways_row (nI n) h P := by
  have lp : ∀ (j i : Nat) (E : Int32 → Prop), i + j = n → E (nI (pk (Nw n W))) → lp_Ways_row_4 (j + 1) (nI n) (nI (pk (Nw i W))) (nI i) h E := by
    intro j
    induction j with
    | zero =>
      intro i E hi hE
      have e : i = n := by omega
      subst e
      unfold lp_Ways_row_4
      exact ⟨fun _ => hE, fun z => absurd (nI_le (by omega) (by omega)) z⟩
    | succ j ih =>
      intro i E hi hE
      obtain ⟨g1, g2⟩ := hW.2 i (by omega)
      unfold lp_Ways_row_4
      dsimp only [lt]
      rw [nI_1, cl_nI (n := i) (by omega), hc i (by omega), nI_1, show gt W i - 1 + 1 = gt W i by omega]
      refine ⟨fun z => absurd z (nI_ge (by omega) (by omega)), fun _ => ⟨fun z => absurd z (nI_ge (b := 5) (by omega) (by omega)), fun _ => ⟨vp_in_nI (by omega) (by omega), ?_⟩⟩⟩
      unfold wp_Fe_withPart
      rw [with_pack (g := Nw i W) (fun w hw => by unfold Nw; split; · have := (hW.2 w hw).2; omega
                                                  · omega) (by omega) (by omega)]
      have e : pk (setd (Nw i W) i (gt W i)) = pk (Nw (i + 1) W) := pack_cg (fun w hw => by
        unfold setd Nw
        (try dsimp only)
        by_cases q : w = i
        · subst q; rw [if_pos rfl, if_pos (by omega)]
        · rw [if_neg q]
          by_cases q2 : w < i
          · rw [if_pos q2, if_pos (by omega)]
          · rw [if_neg q2, if_neg (by omega)])
      rw [e]
      exact ih (i + 1) E (by omega) hE
  unfold wp_Ways_row
  have := lp n 0 P (by omega) K
  have e : pk (Nw 0 W) = 0 := by
    have : pk (Nw 0 W) = pk (fun _ => 0) := pack_cg (fun w _ => by unfold Nw; rw [if_neg (by omega)])
    rw [this]; rfl
  rw [e] at this
  exact ⟨_, this⟩
def bst (val : Nat → Nat) : Nat → Nat
  | 0 => 0
  | i + 1 => if val (i + 1) < val (bst val i) then i + 1 else bst val i
theorem bst_le {val : Nat → Nat} : ∀ i, bst val i ≤ i := by
  intro i
  induction i with
  | zero => exact Nat.le_refl _
  | succ i ih => unfold bst; split <;> omega
theorem wstart_s {h : Hp} {n : Nat} {P : Hp → Prop} (k : ∀ f, h76 (sr h 76 f) (wL n 0) → P (sr h 76 f)) : wp_Ways_start h P := by
  have lp : ∀ (j i : Nat) (f : Nat → Int32), i + j = 5 → (∀ e, e < i → f e = 0) → lp_Ways_start_2 (j + 1) (nI i) (sr h 76 f) (fun h2x => P h2x) := by
    intro j
    induction j with
    | zero =>
      intro i f hi hf
      unfold lp_Ways_start_2
      refine ⟨fun _ => k f (fun e he => ?_), fun z => absurd (nI_le (a := 5) (by omega) (by omega)) z⟩
      rw [sr_eq, hf e (by omega)]
      rcases (show e = 0 ∨ e = 1 ∨ e = 2 ∨ e = 3 ∨ e = 4 by omega) with rfl | rfl | rfl | rfl | rfl <;> rfl
    | succ j ih =>
      intro i f hi hf
      unfold lp_Ways_start_2
      dsimp only [lt]
      rw [nI_1, cl_nI (n := i) (by omega), sr_wi]
      refine ⟨fun z => absurd z (nI_ge (b := 5) (by omega) (by omega)), fun _ => ⟨vp_in_nI (by omega) (by omega), ih (i + 1) _ (by omega) (fun e he => ?_)⟩⟩
      rw [upd_a]
      by_cases q : e = i
      · rw [if_pos q]
      · rw [if_neg q]; exact hf e (by omega)
  unfold wp_Ways_start
  have := lp 5 0 (h.1 76) (by omega) (fun e he => by omega)
  rw [sr_self] at this
  exact ⟨_, this⟩
end
