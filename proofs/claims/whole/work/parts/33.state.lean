section
def sr (h : Hp) (c : Nat) (f : Nat → Int32) : Hp := (fun c' => if c' = c then f else h.1 c', h.2)
def row8 (f g : Nat → Int32) : Nat → Int32 := fun j => if j < 8 then f j else g j
theorem sr1 (h : Hp) (c : Nat) (f : Nat → Int32) (c' : Nat) : (sr h c f).1 c' = if c' = c then f else h.1 c' := rfl
theorem sr_ne {h : Hp} {c : Nat} {f : Nat → Int32} {i : Nat} (hi : i ≠ c) : (sr h c f).1 i = h.1 i := by simp [sr, hi]
theorem sr_eq {h : Hp} {c : Nat} {f : Nat → Int32} : (sr h c f).1 c = f := by simp [sr]
theorem sr_wi {h : Hp} {c k : Nat} {v : Int32} {f : Nat → Int32} : wi (sr h c f) c k v = sr h c (upd f k v) := by
  refine Prod.ext (funext fun c' => ?_) rfl
  simp only [wi1, sr1]
  by_cases e : c' = c <;> simp [e]
theorem sr_self {h : Hp} {c : Nat} : sr h c (h.1 c) = h := by
  refine Prod.ext (funext fun c' => ?_) rfl
  simp only [sr1]
  by_cases e : c' = c <;> simp [e]
theorem hp_ext {h g : Hp} (e1 : ∀ c, h.1 c = g.1 c) (e2 : h.2 = g.2) : h = g := Prod.ext (funext e1) e2
theorem hp_sub {P : Hp → Prop} {h g : Hp} (k : P g) (e1 : ∀ c, h.1 c = g.1 c) (e2 : h.2 = g.2) : P h := by rw [hp_ext e1 e2]; exact k
theorem become_s {r c0 : Nat} {h : Hp} {P : Hp → Prop} (hne : c0 ≠ r) (k : P (sr h r (row8 (h.1 c0) (h.1 r)))) : wp_State_become r c0 h P := by
  unfold wp_State_become
  dsimp only [lt]
  simp only [wi1, if_neg hne]
  refine hp_sub k (fun c => ?_) rfl
  simp only [wi1, sr1]
  by_cases e : c = r
  · subst e
    simp only [if_true]
    funext j
    simp only [upd_a, row8]
    rcases (show j = 0 ∨ j = 1 ∨ j = 2 ∨ j = 3 ∨ j = 4 ∨ j = 5 ∨ j = 6 ∨ j = 7 ∨ 8 ≤ j by omega) with q | q | q | q | q | q | q | q | q
    all_goals first
      | (subst q; simp; done)
      | (rw [if_neg (by omega), if_neg (by omega), if_neg (by omega), if_neg (by omega), if_neg (by omega), if_neg (by omega), if_neg (by omega), if_neg (by omega), if_neg (by omega)])
  · simp [e]
theorem irm16 {nx : Nat} (h : nx < 16) : irm (nI nx + 1) 16 = nI ((nx + 1) % 16) := by
  unfold irm
  rw [nI_1]
  exact pk_rem (a := nx + 1) (d := 16) (by omega) (by omega) (by omega)
theorem jmin_nI {a b : Nat} (ha : a < 2 ^ 31) (hb : b < 2 ^ 31) : jmin (nI a) (nI b) = nI (min a b) := by
  unfold jmin
  by_cases h : b < a
  · rw [if_pos ((nI_ltI hb ha).mpr h), Nat.min_eq_right (by omega)]
  · rw [if_neg (fun q => h ((nI_ltI hb ha).mp q)), Nat.min_eq_left (by omega)]
theorem jmax_nI {a b : Nat} (ha : a < 2 ^ 31) (hb : b < 2 ^ 31) : jmax (nI a) (nI b) = nI (max a b) := by
  unfold jmax
  by_cases h : a < b
  · rw [if_pos ((nI_ltI ha hb).mpr h), Nat.max_eq_right (by omega)]
  · rw [if_neg (fun q => h ((nI_ltI ha hb).mp q)), Nat.max_eq_left (by omega)]
def rem (h : Hp) (nx uc : Nat) : Hp := (fun c => if c = 2 then upd (upd (h.1 2) 2 (nI ((nx + 1) % 16))) 1 (nI (min (uc + 1) 16)) else if c = 10 + nx then row8 (h.1 26) (h.1 (10 + nx)) else h.1 c, h.2)
theorem rem_ne {h : Hp} {nx uc c : Nat} (h2 : c ≠ 2) (h3 : c ≠ 10 + nx) : (rem h nx uc).1 c = h.1 c := by simp [rem, h2, h3]
theorem remember_s {nx uc : Nat} {h : Hp} {P : Hp → Prop} (h1 : h.1 2 2 = nI nx) (hnx : nx < 16) (h2 : h.1 2 1 = nI uc) (huc : uc ≤ 16) (k : P (rem h nx uc)) : wp_Past_remember 26 h P := by
  unfold wp_Past_remember
  dsimp only [jn, lt]
  have g1 : ¬ h.1 2 2 < 0 := by rw [h1]; exact nI_pos (by omega)
  have g2 : h.1 2 2 < 16 := by rw [h1]; exact (nI_ltI (b := 16) (by omega) (by omega)).mpr hnx
  refine ⟨fun z => absurd z g1, fun _ => ⟨fun _ => ⟨by rw [h1]; exact vp_in_nI hnx (by omega), ?_⟩, fun z => absurd g2 z⟩⟩
  have e1 : (h.1 2 2).toNatClampNeg = nx := by rw [h1]; exact cl_nI (by omega)
  rw [e1]
  refine become_s (by omega) ?_
  refine hp_sub k (fun c => ?_) rfl
  have r2 : (sr h (10 + nx) (row8 (h.1 26) (h.1 (10 + nx)))).1 2 = h.1 2 := sr_ne (by omega)
  simp only [wi1, r2, if_true, upd_a, h1, h2, irm16 hnx]
  have e3 : jmin (nI uc + 1) 16 = nI (min (uc + 1) 16) := by rw [nI_1]; exact jmin_nI (b := 16) (by omega) (by omega)
  simp only [rem, sr1]
  by_cases c2 : c = 2
  · subst c2
    simp only [if_true]
    funext j
    simp only [upd_a]
    by_cases j1 : j = 1
    · subst j1; simp [e3]
    · simp [j1]
  · simp [c2]
def live (h : Hp) (j : Nat) : Int32 := if j = 0 then h.1 7 2 else if j = 1 then h.1 7 3 else if j = 2 then h.1 7 4 else if j = 3 then h.1 7 5 else if j = 4 then h.1 7 6 else if j < 10 then h.1 78 (j - 5) else if j < 15 then h.1 79 (j - 10) else h.1 80 (j - 15)
theorem lays_lp {c0 b : Nat} {h : Hp} (hc : c0 = 87 ∨ c0 = 88) (hk : b + 20 ≤ al c0) : ∀ (k i : Nat) (f : Nat → Int32) (E : Hp → Prop), i + k = 5 → (∀ f2 : Nat → Int32, (∀ w, i ≤ w → w < 5 → f2 (b + 5 + w) = h.1 78 w ∧ f2 (b + 10 + w) = h.1 79 w ∧ f2 (b + 15 + w) = h.1 80 w) → (∀ j, (∀ w, i ≤ w → w < 5 → j ≠ b + 5 + w ∧ j ≠ b + 10 + w ∧ j ≠ b + 15 + w) → f2 j = f j) → E (sr h c0 f2)) → ∃ n, lp_Md_lays_45 n c0 (nI b) (nI i) (sr h c0 f) E := by
  have hal : al c0 ≤ 320 := by rcases hc with rfl | rfl <;> decide
  intro k
  induction k with
  | zero =>
    intro i f E hi hE
    refine ⟨1, ?_⟩
    unfold lp_Md_lays_45
    have e : i = 5 := by omega
    subst e
    refine ⟨fun _ => hE f (fun w h1 h2 => by omega) (fun j _ => rfl), fun z => absurd (nI_le (a := 5) (b := 5) (by omega) (by omega)) z⟩
  | succ k ih =>
    intro i f E hi hE
    obtain ⟨n, hn⟩ := ih (i + 1) (upd (upd (upd f (b + 5 + i) (h.1 78 i)) (b + 10 + i) (h.1 79 i)) (b + 15 + i) (h.1 80 i)) E (by omega) (fun f2 g1 g2 => hE f2 (fun w h1 h2 => by
      by_cases e : w = i
      · subst e
        have q1 := g2 (b + 5 + w) (fun v _ _ => by omega)
        have q2 := g2 (b + 10 + w) (fun v _ _ => by omega)
        have q3 := g2 (b + 15 + w) (fun v _ _ => by omega)
        rw [q1, q2, q3]
        refine ⟨?_, ?_, ?_⟩
        · rw [pk_un (by omega), pk_un (by omega), pk_us]
        · rw [pk_un (by omega), pk_us]
        · rw [pk_us]
      · exact g1 w (by omega) h2) (fun j hj => by
      rw [g2 j (fun w h1 h2 => hj w (by omega) h2)]
      obtain ⟨z1, z2, z3⟩ := hj i (Nat.le_refl i) (by omega)
      rw [pk_un z3, pk_un z2, pk_un z1]))
    refine ⟨n + 1, ?_⟩
    unfold lp_Md_lays_45
    refine ⟨fun z => absurd z (nI_ge (a := i) (b := 5) (by omega) (by omega)), fun _ => ?_⟩
    have v0 : vp_in (nI i) 5 := vp_in_nI (by omega) (by omega)
    have e5 : nI b + 5 + nI i = nI (b + 5 + i) := by rw [show nI b + 5 = nI (b + 5) from nI_add b 5, nI_add]
    have e10 : nI b + 10 + nI i = nI (b + 10 + i) := by rw [show nI b + 10 = nI (b + 10) from nI_add b 10, nI_add]
    have e15 : nI b + 15 + nI i = nI (b + 15 + i) := by rw [show nI b + 15 = nI (b + 15) from nI_add b 15, nI_add]
    have n78 : (78 : Nat) ≠ c0 := by rcases hc with rfl | rfl <;> decide
    have n79 : (79 : Nat) ≠ c0 := by rcases hc with rfl | rfl <;> decide
    have n80 : (80 : Nat) ≠ c0 := by rcases hc with rfl | rfl <;> decide
    dsimp only [lt]
    rw [e5, e10, e15, cl_nI (n := i) (by omega), cl_nI (n := b + 5 + i) (by omega), cl_nI (n := b + 10 + i) (by omega), cl_nI (n := b + 15 + i) (by omega), nI_1]
    refine ⟨v0, vp_in_nI (by omega) (by omega), v0, vp_in_nI (by omega) (by omega), v0, vp_in_nI (by omega) (by omega), ?_⟩
    rw [sr_ne n78, wi_ne n79, sr_ne n79, wi_ne n80, wi_ne n80, sr_ne n80, sr_wi, sr_wi, sr_wi]
    exact hn
theorem lays_s {c0 b : Nat} {h : Hp} {m : Nat → Nat} {P : Hp → Prop} (hc : c0 = 87 ∨ c0 = 88) (hk : b + 20 ≤ al c0) (hm : ML h m) (k : ∀ f : Nat → Int32, (∀ j, j < 20 → f (b + j) = nI (m j)) → (∀ j, j < b ∨ b + 20 ≤ j → f j = h.1 c0 j) → P (sr h c0 f)) : wp_Md_lays c0 (nI b) h P := by
  have hal : al c0 ≤ 320 := by rcases hc with rfl | rfl <;> decide
  have n7 : (7 : Nat) ≠ c0 := by rcases hc with rfl | rfl <;> decide
  obtain ⟨m0, m1, m2, m3, m4, m5⟩ := hm
  unfold wp_Md_lays
  dsimp only [lt]
  have e1 : nI b + 1 = nI (b + 1) := nI_add b 1
  have e2 : nI b + 2 = nI (b + 2) := nI_add b 2
  have e3 : nI b + 3 = nI (b + 3) := nI_add b 3
  have e4 : nI b + 4 = nI (b + 4) := nI_add b 4
  rw [e1, e2, e3, e4, cl_nI (n := b) (by omega), cl_nI (n := b + 1) (by omega), cl_nI (n := b + 2) (by omega), cl_nI (n := b + 3) (by omega), cl_nI (n := b + 4) (by omega)]
  refine ⟨vp_in_nI (by omega) (by omega), vp_in_nI (by omega) (by omega), vp_in_nI (by omega) (by omega), vp_in_nI (by omega) (by omega), vp_in_nI (by omega) (by omega), ?_⟩
  have hs : h = sr h c0 (h.1 c0) := sr_self.symm
  have key : wi (wi (wi (wi (wi h c0 b (h.1 7 2)) c0 (b + 1) ((wi h c0 b (h.1 7 2)).1 7 3)) c0 (b + 2) ((wi (wi h c0 b (h.1 7 2)) c0 (b + 1) ((wi h c0 b (h.1 7 2)).1 7 3)).1 7 4)) c0 (b + 3) ((wi (wi (wi h c0 b (h.1 7 2)) c0 (b + 1) ((wi h c0 b (h.1 7 2)).1 7 3)) c0 (b + 2) ((wi (wi h c0 b (h.1 7 2)) c0 (b + 1) ((wi h c0 b (h.1 7 2)).1 7 3)).1 7 4)).1 7 5)) c0 (b + 4) ((wi (wi (wi (wi h c0 b (h.1 7 2)) c0 (b + 1) ((wi h c0 b (h.1 7 2)).1 7 3)) c0 (b + 2) ((wi (wi h c0 b (h.1 7 2)) c0 (b + 1) ((wi h c0 b (h.1 7 2)).1 7 3)).1 7 4)) c0 (b + 3) ((wi (wi (wi h c0 b (h.1 7 2)) c0 (b + 1) ((wi h c0 b (h.1 7 2)).1 7 3)) c0 (b + 2) ((wi (wi h c0 b (h.1 7 2)) c0 (b + 1) ((wi h c0 b (h.1 7 2)).1 7 3)).1 7 4)).1 7 5)).1 7 6) = sr h c0 (upd (upd (upd (upd (upd (h.1 c0) b (nI (m 0))) (b + 1) (nI (m 1))) (b + 2) (nI (m 2))) (b + 3) (nI (m 3))) (b + 4) (nI (m 4))) := by
    simp only [wi1, if_neg n7, m0, m1, m2, m3, m4]
    refine hp_ext (fun c => ?_) rfl
    simp only [wi1, sr1]
    by_cases e : c = c0 <;> simp [e]
  rw [key]
  obtain ⟨n, hn⟩ := lays_lp (h := h) hc hk 5 0 (upd (upd (upd (upd (upd (h.1 c0) b (nI (m 0))) (b + 1) (nI (m 1))) (b + 2) (nI (m 2))) (b + 3) (nI (m 3))) (b + 4) (nI (m 4))) P (by omega) (fun f2 g1 g2 => k f2 (fun j hj => by
    by_cases j5 : j < 5
    · rw [g2 (b + j) (fun w _ _ => by omega)]
      rcases (show j = 0 ∨ j = 1 ∨ j = 2 ∨ j = 3 ∨ j = 4 by omega) with rfl | rfl | rfl | rfl | rfl
      · rw [pk_un (by omega), pk_un (by omega), pk_un (by omega), pk_un (by omega)]; exact pk_us
      · rw [pk_un (by omega), pk_un (by omega), pk_un (by omega), pk_us]
      · rw [pk_un (by omega), pk_un (by omega), pk_us]
      · rw [pk_un (by omega), pk_us]
      · rw [pk_us]
    · by_cases j10 : j < 10
      · have := (g1 (j - 5) (by omega) (by omega)).1
        rw [show b + 5 + (j - 5) = b + j by omega] at this
        rw [this, (m5 (j - 5) (by omega)).1, show 5 + (j - 5) = j by omega]
      · by_cases j15 : j < 15
        · have := (g1 (j - 10) (by omega) (by omega)).2.1
          rw [show b + 10 + (j - 10) = b + j by omega] at this
          rw [this, (m5 (j - 10) (by omega)).2.1, show 10 + (j - 10) = j by omega]
        · have := (g1 (j - 15) (by omega) (by omega)).2.2
          rw [show b + 15 + (j - 15) = b + j by omega] at this
          rw [this, (m5 (j - 15) (by omega)).2.2, show 15 + (j - 15) = j by omega]) (fun j hj => by
    rw [g2 j (fun w _ _ => by omega), pk_un (by omega), pk_un (by omega), pk_un (by omega), pk_un (by omega), pk_un (by omega)]))
  exact ⟨n, hn⟩
end
