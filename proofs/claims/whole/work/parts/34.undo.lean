section
theorem takes_lp {c0 b : Nat} (hc : c0 = 87 ∨ c0 = 88) (hk : b + 20 ≤ al c0) : ∀ (k i : Nat) (g : Hp) (E : Hp → Prop), i + k = 5 → (∀ g2 : Hp, (∀ w, i ≤ w → w < 5 → g2.1 78 w = g.1 c0 (b + 5 + w) ∧ g2.1 79 w = g.1 c0 (b + 10 + w) ∧ g2.1 80 w = g.1 c0 (b + 15 + w)) → (∀ w, w < i → g2.1 78 w = g.1 78 w ∧ g2.1 79 w = g.1 79 w ∧ g2.1 80 w = g.1 80 w) → (∀ c, c ≠ 78 → c ≠ 79 → c ≠ 80 → g2.1 c = g.1 c) → g2.2 = g.2 → E g2) → ∃ n, lp_Md_takes_45 n c0 (nI b) (nI i) g E := by
  have hal : al c0 ≤ 320 := by rcases hc with rfl | rfl <;> decide
  have n78 : c0 ≠ 78 := by rcases hc with rfl | rfl <;> decide
  have n79 : c0 ≠ 79 := by rcases hc with rfl | rfl <;> decide
  have n80 : c0 ≠ 80 := by rcases hc with rfl | rfl <;> decide
  intro k
  induction k with
  | zero =>
    intro i g E hi hE
    refine ⟨1, ?_⟩
    unfold lp_Md_takes_45
    have e : i = 5 := by omega
    subst e
    exact ⟨fun _ => hE g (fun w h1 h2 => by omega) (fun w _ => ⟨rfl, rfl, rfl⟩) (fun c _ _ _ => rfl) rfl, fun z => absurd (nI_le (a := 5) (b := 5) (by omega) (by omega)) z⟩
  | succ k ih =>
    intro i g E hi hE
    have r0 : ∀ c, c ≠ 78 → c ≠ 79 → c ≠ 80 → (wi (wi (wi g 78 i (g.1 c0 (b + 5 + i))) 79 i (g.1 c0 (b + 10 + i))) 80 i (g.1 c0 (b + 15 + i))).1 c = g.1 c := fun c h1 h2 h3 => by rw [wi_ne h3, wi_ne h2, wi_ne h1]
    have r78 : (wi (wi (wi g 78 i (g.1 c0 (b + 5 + i))) 79 i (g.1 c0 (b + 10 + i))) 80 i (g.1 c0 (b + 15 + i))).1 78 = upd (g.1 78) i (g.1 c0 (b + 5 + i)) := rfl
    have r79 : (wi (wi (wi g 78 i (g.1 c0 (b + 5 + i))) 79 i (g.1 c0 (b + 10 + i))) 80 i (g.1 c0 (b + 15 + i))).1 79 = upd (g.1 79) i (g.1 c0 (b + 10 + i)) := rfl
    have r80 : (wi (wi (wi g 78 i (g.1 c0 (b + 5 + i))) 79 i (g.1 c0 (b + 10 + i))) 80 i (g.1 c0 (b + 15 + i))).1 80 = upd (g.1 80) i (g.1 c0 (b + 15 + i)) := rfl
    obtain ⟨n, hn⟩ := ih (i + 1) (wi (wi (wi g 78 i (g.1 c0 (b + 5 + i))) 79 i (g.1 c0 (b + 10 + i))) 80 i (g.1 c0 (b + 15 + i))) E (by omega) (fun g2 q1 q2 q3 q4 => hE g2 (fun w h1 h2 => by
      by_cases e : w = i
      · subst e
        have q := q2 w (by omega)
        rw [r78, r79, r80] at q
        rw [q.1, q.2.1, q.2.2]
        exact ⟨pk_us, pk_us, pk_us⟩
      · have q := q1 w (by omega) h2
        rw [r0 c0 n78 n79 n80] at q
        exact q) (fun w hw => by
        have q := q2 w (by omega)
        rw [r78, r79, r80, pk_un (by omega), pk_un (by omega), pk_un (by omega)] at q
        exact q) (fun c h1 h2 h3 => by rw [q3 c h1 h2 h3, r0 c h1 h2 h3]) q4)
    refine ⟨n + 1, ?_⟩
    unfold lp_Md_takes_45
    refine ⟨fun z => absurd z (nI_ge (a := i) (b := 5) (by omega) (by omega)), fun _ => ?_⟩
    have v0 : vp_in (nI i) 5 := vp_in_nI (by omega) (by omega)
    have e5 : nI b + 5 + nI i = nI (b + 5 + i) := by rw [show nI b + 5 = nI (b + 5) from nI_add b 5, nI_add]
    have e10 : nI b + 10 + nI i = nI (b + 10 + i) := by rw [show nI b + 10 = nI (b + 10) from nI_add b 10, nI_add]
    have e15 : nI b + 15 + nI i = nI (b + 15 + i) := by rw [show nI b + 15 = nI (b + 15) from nI_add b 15, nI_add]
    dsimp only [lt]
    rw [e5, e10, e15, cl_nI (n := i) (by omega), cl_nI (n := b + 5 + i) (by omega), cl_nI (n := b + 10 + i) (by omega), cl_nI (n := b + 15 + i) (by omega), nI_1]
    refine ⟨vp_in_nI (by omega) (by omega), v0, vp_in_nI (by omega) (by omega), v0, vp_in_nI (by omega) (by omega), v0, ?_⟩
    rw [wi_ne n78, wi_ne n79, wi_ne n78]
    exact hn
theorem takes_s {c0 b : Nat} {h : Hp} {m : Nat → Nat} {P : Hp → Prop} (hc : c0 = 87 ∨ c0 = 88) (hk : b + 20 ≤ al c0) (hm : MR (h.1 c0) b m) (k : ∀ g : Hp, ML g m → (∀ c, c ≠ 7 → c ≠ 78 → c ≠ 79 → c ≠ 80 → g.1 c = h.1 c) → (∀ j, j < 2 ∨ 6 < j → g.1 7 j = h.1 7 j) → g.2 = h.2 → P g) : wp_Md_takes c0 (nI b) h P := by
  have hal : al c0 ≤ 320 := by rcases hc with rfl | rfl <;> decide
  have n7 : c0 ≠ 7 := by rcases hc with rfl | rfl <;> decide
  unfold wp_Md_takes
  dsimp only [lt]
  have e1 : nI b + 1 = nI (b + 1) := nI_add b 1
  have e2 : nI b + 2 = nI (b + 2) := nI_add b 2
  have e3 : nI b + 3 = nI (b + 3) := nI_add b 3
  have e4 : nI b + 4 = nI (b + 4) := nI_add b 4
  rw [e1, e2, e3, e4, cl_nI (n := b) (by omega), cl_nI (n := b + 1) (by omega), cl_nI (n := b + 2) (by omega), cl_nI (n := b + 3) (by omega), cl_nI (n := b + 4) (by omega)]
  refine ⟨vp_in_nI (by omega) (by omega), vp_in_nI (by omega) (by omega), vp_in_nI (by omega) (by omega), vp_in_nI (by omega) (by omega), vp_in_nI (by omega) (by omega), ?_⟩
  simp only [wi1, if_neg n7]
  obtain ⟨g, hg⟩ : ∃ g : Hp, g = wi (wi (wi (wi (wi h 7 2 (h.1 c0 b)) 7 3 (h.1 c0 (b + 1))) 7 4 (h.1 c0 (b + 2))) 7 5 (h.1 c0 (b + 3))) 7 6 (h.1 c0 (b + 4)) := ⟨_, rfl⟩
  rw [← hg]
  have gc : ∀ c, c ≠ 7 → g.1 c = h.1 c := fun c hc => by rw [hg, wi_ne hc, wi_ne hc, wi_ne hc, wi_ne hc, wi_ne hc]
  have g7 : ∀ j, g.1 7 j = if j = 6 then h.1 c0 (b + 4) else if j = 5 then h.1 c0 (b + 3) else if j = 4 then h.1 c0 (b + 2) else if j = 3 then h.1 c0 (b + 1) else if j = 2 then h.1 c0 b else h.1 7 j := fun j => by rw [hg]; rfl
  refine takes_lp hc hk 5 0 g P (by omega) (fun g2 q1 q2 q3 q4 => k g2 ⟨?_, ?_, ?_, ?_, ?_, fun w hw => ?_⟩ (fun c h1 h2 h3 h4 => by rw [q3 c h2 h3 h4, gc c h1]) (fun j hj => ?_) (by rw [q4, hg]; rfl))
  · rw [q3 7 (by decide) (by decide) (by decide), g7]; exact hm 0 (by omega)
  · rw [q3 7 (by decide) (by decide) (by decide), g7]; exact hm 1 (by omega)
  · rw [q3 7 (by decide) (by decide) (by decide), g7]; exact hm 2 (by omega)
  · rw [q3 7 (by decide) (by decide) (by decide), g7]; exact hm 3 (by omega)
  · rw [q3 7 (by decide) (by decide) (by decide), g7]; exact hm 4 (by omega)
  · obtain ⟨z1, z2, z3⟩ := q1 w (by omega) hw
    rw [z1, z2, z3, gc c0 n7]
    exact ⟨by rw [Nat.add_assoc]; exact hm (5 + w) (by omega), by rw [Nat.add_assoc]; exact hm (10 + w) (by omega), by rw [Nat.add_assoc]; exact hm (15 + w) (by omega)⟩
  · rw [q3 7 (by decide) (by decide) (by decide), g7, if_neg (by omega), if_neg (by omega), if_neg (by omega), if_neg (by omega), if_neg (by omega)]
theorem notes_lp {h : Hp} : ∀ (k i : Nat) (f : Nat → Int32) (E : Hp → Prop), i + k = 300 → (∀ f2 : Nat → Int32, (∀ j, i ≤ j → j < 300 → f2 j = f (j + 20)) → (∀ j, j < i ∨ 300 ≤ j → f2 j = f j) → E (sr h 87 f2)) → ∃ n, lp_Md_notes_11 n (nI i) (sr h 87 f) E := by
  intro k
  induction k with
  | zero =>
    intro i f E hi hE
    refine ⟨1, ?_⟩
    unfold lp_Md_notes_11
    have e : i = 300 := by omega
    subst e
    exact ⟨fun _ => hE f (fun j h1 h2 => by omega) (fun j _ => rfl), fun z => absurd (nI_le (a := 300) (b := 300) (by omega) (by omega)) z⟩
  | succ k ih =>
    intro i f E hi hE
    obtain ⟨n, hn⟩ := ih (i + 1) (upd f i (f (i + 20))) E (by omega) (fun f2 q1 q2 => hE f2 (fun j h1 h2 => by
      by_cases e : j = i
      · subst e
        rw [q2 j (by omega), pk_us]
      · rw [q1 j (by omega) h2, pk_un (by omega)]) (fun j hj => by
      rw [q2 j (by omega), pk_un (by omega)]))
    refine ⟨n + 1, ?_⟩
    unfold lp_Md_notes_11
    refine ⟨fun z => absurd z (nI_ge (a := i) (b := 300) (by omega) (by omega)), fun _ => ?_⟩
    dsimp only [lt]
    rw [show nI i + 20 = nI (i + 20) from nI_add i 20, nI_1, cl_nI (n := i) (by omega), cl_nI (n := i + 20) (by omega), sr_eq, sr_wi]
    exact ⟨vp_in_nI (by omega) (by omega), vp_in_nI (by omega) (by omega), hn⟩
/-- the model's note of the state m: one more is kept, of 16 the oldest is lost -/
theorem notes_s {uc : Nat} {h : Hp} {m : Nat → Nat} {P : Hp → Prop} (hu : h.1 7 28 = nI uc) (huc : uc ≤ 16) (hm : ML h m) (k : ∀ g : Hp, (∀ j, j < 20 → g.1 87 (20 * min uc 15 + j) = nI (m j)) → (∀ q, q < min uc 15 → ∀ j, j < 20 → g.1 87 (20 * q + j) = h.1 87 (20 * (q + (if uc = 16 then 1 else 0)) + j)) → (∀ c, c ≠ 7 → c ≠ 87 → g.1 c = h.1 c) → (∀ j, j ≠ 28 → g.1 7 j = h.1 7 j) → g.1 7 28 = nI (min (uc + 1) 16) → g.2 = h.2 → P g) : wp_Md_notes h P := by
  unfold wp_Md_notes
  dsimp only [jn, lt]
  by_cases h16 : uc = 16
  · subst h16
    refine ⟨fun z => absurd hu z, fun _ => ?_⟩
    have key := notes_lp (h := h) 300 0 (h.1 87) (fun g => wp_Md_lays 87 (20 * (wi g 7 28 (g.1 7 28 - 1)).1 7 28) (wi g 7 28 (g.1 7 28 - 1)) fun h61 => P (wi h61 7 28 (h61.1 7 28 + 1))) (by omega) (fun f q1 q2 => ?_)
    · rw [sr_self] at key
      exact key
    · have e1 : (sr h 87 f).1 7 28 - 1 = nI 15 := by rw [sr_ne (by decide), hu]; exact nI_pred 15
      have e2 : (wi (sr h 87 f) 7 28 ((sr h 87 f).1 7 28 - 1)).1 7 28 = nI 15 := by rw [wi_eq, pk_us, e1]
      rw [e2, show (20 : Int32) * nI 15 = nI 300 from pk_mul 20 15]
      refine lays_s (b := 300) (m := m) (Or.inl rfl) (by decide) (ML.keep (h := h) hm rfl rfl rfl rfl rfl rfl rfl rfl) (fun f2 w1 w2 => ?_)
      refine k _ (fun j hj => ?_) (fun q hq j hj => ?_) (fun c h1 h2 => ?_) (fun j hj => ?_) ?_ rfl
      · rw [wi_ne (by decide), sr_eq]; exact w1 j hj
      · have hq2 : q < 15 := hq
        rw [wi_ne (by decide), sr_eq, w2 _ (by omega), wi_ne (by decide), sr_eq, q1 _ (by omega) (by omega), if_pos rfl]
        rw [show 20 * (q + 1) + j = 20 * q + j + 20 by omega]
      · rw [wi_ne h1, sr_ne h2, wi_ne h1, sr_ne h2]
      · rw [wi_eq, pk_un hj, sr_ne (by decide), wi_eq, pk_un hj, sr_ne (by decide)]
      · rw [wi_eq, pk_us, sr_ne (by decide), e2]; exact nI_1 15
  · refine ⟨fun _ => ?_, fun z => absurd (nI_inj (a := uc) (b := 16) (by omega) (by omega) (by rw [← hu]; exact z)) h16⟩
    rw [hu, show (20 : Int32) * nI uc = nI (20 * uc) from pk_mul 20 uc]
    have hm15 : min uc 15 = uc := by omega
    refine lays_s (b := 20 * uc) (m := m) (Or.inl rfl) (by show 20 * uc + 20 ≤ 320; omega) hm (fun f2 w1 w2 => ?_)
    refine k _ (fun j hj => ?_) (fun q hq j hj => ?_) (fun c h1 h2 => ?_) (fun j hj => ?_) ?_ rfl
    · rw [wi_ne (by decide), sr_eq, hm15]; exact w1 j hj
    · rw [wi_ne (by decide), sr_eq, w2 _ (by omega), if_neg h16, Nat.add_zero]
    · rw [wi_ne h1, sr_ne h2]
    · rw [wi_eq, pk_un hj, sr_ne (by decide)]
    · rw [wi_eq, pk_us, sr_ne (by decide), hu, nI_1, Nat.min_eq_left (by omega)]
theorem CS.keep8 {f g : Nat → Int32} {m : Nat → Nat} (a : CS f m) (e : ∀ j, j < 8 → g j = f j) : CS g m := by
  unfold CS at *; rw [e 0 (by omega), e 1 (by omega), e 2 (by omega), e 3 (by omega), e 4 (by omega), e 5 (by omega), e 6 (by omega), e 7 (by omega)]; exact a
/-- one more state can be undone -/
theorem R3_push {n uc nx : Nat} {un : Nat → Nat → Nat} {m : Nat → Nat} {h g : Hp} (huc : uc ≤ 16) (hnx : nx < 16) (hun : ∀ k, k < uc → CS (h.1 (10 + (nx + 16 - uc + k) % 16)) (un k) ∧ MR (h.1 87) (20 * k) (un k) ∧ WF n (un k)) (hcs : CS (h.1 26) m) (hwf : WF n m)
    (e2 : ∀ c, 2 ≤ c → c < 26 → (c = 2 ∨ 10 ≤ c) → g.1 c = (rem h nx uc).1 c) (e3 : g.1 7 28 = nI (min (uc + 1) 16)) (e4 : ∀ j, j < 20 → g.1 87 (20 * min uc 15 + j) = nI (m j)) (e5 : ∀ q, q < min uc 15 → ∀ j, j < 20 → g.1 87 (20 * q + j) = h.1 87 (20 * (q + (if uc = 16 then 1 else 0)) + j)) : R3 n g := by
  have r2 := e2 2 (by omega) (by omega) (Or.inl rfl)
  refine ⟨min (uc + 1) 16, (nx + 1) % 16, fun k => if k < min uc 15 then un (k + (if uc = 16 then 1 else 0)) else m, by omega, by omega, ?_, e3, ?_, fun k hk => ?_⟩
  · rw [r2]; simp [rem, upd_a]
  · rw [r2]; simp [rem, upd_a]
  · by_cases hlt : k < min uc 15
    · simp only [if_pos hlt]
      obtain ⟨q1, q2, q3⟩ := hun (k + (if uc = 16 then 1 else 0)) (by split <;> omega)
      have hidx : ((nx + 1) % 16 + 16 - min (uc + 1) 16 + k) % 16 = (nx + 16 - uc + (k + (if uc = 16 then 1 else 0))) % 16 := by
        by_cases h16 : uc = 16
        · subst h16; simp only [if_true]; omega
        · simp only [if_neg h16]; omega
      rw [hidx]
      have hne : (nx + 16 - uc + (k + (if uc = 16 then 1 else 0))) % 16 ≠ nx := by
        by_cases h16 : uc = 16
        · subst h16; simp only [if_true]; omega
        · simp only [if_neg h16]; omega
      refine ⟨?_, fun j hj => ?_, q3⟩
      · rw [e2 _ (by omega) (by omega) (Or.inr (by omega)), rem_ne (by omega) (by omega)]
        exact q1
      · rw [e5 k hlt j hj]
        exact q2 j hj
    · simp only [if_neg hlt]
      have hk2 : k = min uc 15 := by omega
      have hidx : ((nx + 1) % 16 + 16 - min (uc + 1) 16 + k) % 16 = nx := by omega
      rw [hidx]
      refine ⟨?_, fun j hj => by rw [hk2]; exact e4 j hj, hwf⟩
      rw [e2 _ (by omega) (by omega) (Or.inr (by omega))]
      refine hcs.keep8 (fun j hj => ?_)
      simp only [rem, row8]
      rw [if_neg (by omega), if_pos trivial]
      show (if j < 8 then h.1 26 j else _) = _
      rw [if_pos hj]
end
