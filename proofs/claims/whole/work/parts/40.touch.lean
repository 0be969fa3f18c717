section
theorem WF_tch {n : Nat} {m : Nat → Nat} {t : Nat} (a : WF n m) (ht : tmk n t) : WF n (um m 4 t) := by
  obtain ⟨a0, a1, a2, a3, a4, a5⟩ := a
  refine ⟨by rw [um_ne (by omega)]; exact a0, by rw [um_ne (by omega)]; exact a1, by rw [um_ne (by omega)]; exact a2, by rw [um_ne (by omega)]; exact a3, by rw [um_eq]; exact ht, fun w hw => by rw [um_ne (by omega), um_ne (by omega), um_ne (by omega)]; exact a5 w hw⟩
theorem tmk_xor {n T a b : Nat} (h : tmk n T) (ha : a < n) (hb : b < n) (hne : a ≠ b) (hn : n ≤ 5) : tmk n (T ^^^ 2 ^ pn a b) := by
  have hp := pn_lt (a := a) (b := b) (by omega) (by omega)
  refine ⟨Nat.xor_lt_two_pow h.1 (Nat.pow_lt_pow_right (by omega) hp), fun i hi => ?_⟩
  rw [Nat.testBit_xor, Nat.testBit_two_pow] at hi
  by_cases e : pn a b = i
  · refine ⟨min a b, max a b, by omega, by omega, ?_⟩
    rw [← e]; rfl
  · simp [e] at hi
    exact h.2 i hi
theorem G14 : ∀ (h : Hp) (p0 p1 p2 : Int32), Rel h → (p2 = 0 ∨ p2 = 1) → wp_Fe_touch p0 p1 p2 h (fun v1 h1 => wp_Md_touch p0 p1 p2 h1 (fun v2 h2 => v1 = v2 ∧ Rel h2)) := by
  intro h p0 p1 p2 hR _
  obtain ⟨n, o, a1, ⟨m, a2⟩, ⟨uc, nx, un, huc, hnx, u1, u2, u3, hun⟩, a4, a5, a6, a7, a8, a9⟩ := id hR
  obtain ⟨hcs, hml, hwf⟩ := id a2
  have hw := a1.1
  have hw2 := a1.2.1
  have hn := a1.2.2.1
  have htm := hwf.2.2.2.2.1
  have hT : m 4 < 2 ^ 31 := Nat.lt_of_lt_of_le htm.1 (by omega)
  unfold wp_Fe_touch
  by_cases hh : vld n p0 ∧ vld n p1 ∧ p0 ≠ p1
  · obtain ⟨h0, h1, hne⟩ := hh
    rw [two_t hw hn h0 h1 hne]
    refine ⟨fun _ => ?_, fun z => absurd rfl z⟩
    obtain ⟨a, ha, rfl⟩ := h0
    obtain ⟨b, hb, rfl⟩ := h1
    have hab : a ≠ b := fun e => hne (by rw [e])
    have hk : pn a b < 31 := Nat.lt_trans (pn_lt (by omega) (by omega)) (by omega)
    have h2k : 2 ^ pn a b < 2 ^ 31 := Nat.pow_lt_pow_right (by omega) hk
    refine pairBit_s (by omega) (by omega) ?_
    have e3 : h.1 26 1 = nI (m 4) := hcs.2.1
    rw [e3, bit_and hT hk]
    dsimp only [jn, lt]
    have r26 : (rem h nx uc).1 26 = h.1 26 := rem_ne (by omega) (by omega)
    -- the model's side, once the class has answered NOT
    have mnot : (bI ((m 4).testBit (pn a b)) = p2) → wp_Md_touch (nI a) (nI b) p2 h (fun v2 h2 => (-1000000003 : Int32) = v2 ∧ Rel h2) := fun e => by
      unfold wp_Md_touch
      rw [isW_t hw2 hn ⟨a, ha, rfl⟩]
      refine ⟨fun z => absurd rfl z, fun _ => ?_⟩
      rw [isW_t hw2 hn ⟨b, hb, rfl⟩]
      refine ⟨fun z => absurd rfl z, fun _ => ⟨fun _ => ?_, fun z => absurd z hne⟩⟩
      exact doTouch_s (T := m 4) hml.2.2.2.2.1 hT (by omega) (by omega) ⟨fun z => absurd e z, fun _ => ⟨rfl, hR⟩⟩
    have done : (¬ bI ((m 4).testBit (pn a b)) = p2) → wp_Past_remember 26 h fun h56 => wp_Int_bitCount ((wi h56 26 1 (h56.1 26 1 ^^^ nI (2 ^ pn a b))).1 26 1) fun v80 => wp_Md_touch (nI a) (nI b) p2 (wi h56 26 1 (h56.1 26 1 ^^^ nI (2 ^ pn a b))) fun v2 h2 => v80 = v2 ∧ Rel h2 := fun e => by
      refine remember_s u3 hnx u1 huc ?_
      rw [r26, e3, xor_nI (by omega) (by omega)]
      have es : ∀ x, wi (rem h nx uc) 26 1 x = sr (rem h nx uc) 26 (upd (h.1 26) 1 x) := fun x => by rw [← r26]; rfl
      have hx := tmk_xor htm ha hb hab hn
      rw [es, sr_eq, pk_us]
      refine bitCount_s hn hx ?_
      obtain ⟨f, hf⟩ : ∃ f, f = upd (h.1 26) 1 (nI (m 4 ^^^ 2 ^ pn a b)) := ⟨_, rfl⟩
      have hf2 : CS f (um m 4 (m 4 ^^^ 2 ^ pn a b)) := by rw [hf]; exact CS_tch hcs
      rw [← hf]
      have r7 : (sr (rem h nx uc) 26 f).1 7 = h.1 7 := by rw [sr_ne (by omega), rem_ne (by omega) (by omega)]
      unfold wp_Md_touch
      rw [isW_t (by rw [r7]; exact hw2) hn ⟨a, ha, rfl⟩]
      refine ⟨fun z => absurd rfl z, fun _ => ?_⟩
      rw [isW_t (by rw [r7]; exact hw2) hn ⟨b, hb, rfl⟩]
      refine ⟨fun z => absurd rfl z, fun _ => ⟨fun _ => ?_, fun z => absurd z hne⟩⟩
      refine doTouch_s (T := m 4) (by rw [r7]; exact hml.2.2.2.2.1) hT (by omega) (by omega) ⟨fun _ => ?_, fun z => absurd z e⟩
      refine act_pair (m' := um m 4 (m 4 ^^^ 2 ^ pn a b)) a1 a2 huc hnx u2 hun a4 a5 a6 a7 a8 a9 (WF_tch hwf hx) (fun c hc => sr_ne hc) rfl (by rw [sr_eq]; exact hf2) (fun g0 k1 k2 k3 k4 k5 => ?_)
      refine pair_s (by omega) (by omega) ?_
      dsimp only [lt]
      rw [k4.2.2.2.2.1, shl1 hk, xor_nI (by omega) (by omega)]
      have g7 : g0.1 7 0 = nI n := by rw [k2 0 (by omega)]; exact hw2
      refine touchMany_s (n := n) (T := m 4 ^^^ 2 ^ pn a b) (by rw [wi_eq, pk_un (by omega)]; exact g7) hn a1.2.2.2.1 (by rw [wi_eq, pk_us]) hx ?_
      exact ⟨rfl, k5 _ (ML_sc (q := 4) k4 (by omega)) (fun c c1 _ _ _ => wi_ne c1) (fun j hj => by rw [wi_eq, pk_un (by omega)]) rfl⟩
    refine ⟨fun z => ⟨fun q => done (by rw [z]; exact q), fun q => mnot (by rw [z]; exact q)⟩, fun z => ?_⟩
    have z2 : (m 4).testBit (pn a b) = true := by simpa using z
    exact ⟨fun q => done (by rw [z2]; exact q), fun q => mnot (by rw [z2]; exact q)⟩
  · rw [two_f hw hn hh]
    refine ⟨fun z => absurd z (by decide), fun _ => ?_⟩
    (try dsimp only [lt])
    unfold wp_Md_touch
    by_cases h0 : vld n p0
    · rw [isW_t hw2 hn h0]
      refine ⟨fun z => absurd rfl z, fun _ => ?_⟩
      by_cases h1 : vld n p1
      · rw [isW_t hw2 hn h1]
        exact ⟨fun z => absurd rfl z, fun _ => ⟨fun z => absurd ⟨h0, h1, z⟩ hh, fun _ => ⟨rfl, hR⟩⟩⟩
      · rw [isW_f hw2 hn h1]
        exact ⟨fun _ => ⟨rfl, hR⟩, fun z => absurd z (by decide)⟩
    · rw [isW_f hw2 hn h0]
      exact ⟨fun _ => ⟨rfl, hR⟩, fun z => absurd z (by decide)⟩
/-! judge -/
def fm (M : Nat → Bool) : Nat → Nat → Int32
  | 0, _ => -1
  | k + 1, i => if M i = true then nI i else fm M k (i + 1)
theorem judge_F {h : Hp} {bc : Nat} {M : Nat → Bool} (hb : bc ≤ 15) (h11 : h.1 0 11 = nI bc) (hM : ∀ k, k < bc → ∃ e, e < 5 ∧ h.1 70 k = nI e ∧ ((M k = true) ↔ ¬ h.1 69 e = h.1 71 k)) : ∀ (k i : Nat) (P : Int32 → Prop), i + k = bc → P (fm M k i) → ∃ n, lp_Fe_judge_2 n (nI i) h (P (-1)) P := by
  intro k
  induction k with
  | zero =>
    intro i P hi hP
    refine ⟨1, ?_⟩
    unfold lp_Fe_judge_2
    rw [h11]
    exact ⟨fun _ => hP, fun z => absurd (nI_le (by omega) (by omega)) z⟩
  | succ k ih =>
    intro i P hi hP
    obtain ⟨e, he, e70, hm⟩ := hM i (by omega)
    have v15 : vp_in (nI i) 15 := vp_in_nI (by omega) (by omega)
    have com : ∀ N, (M i = false → lp_Fe_judge_2 N (nI (i + 1)) h (P (-1)) P) → (M i = true → P (nI i)) → lp_Fe_judge_2 (N + 1) (nI i) h (P (-1)) P := fun N h1 h2 => by
      unfold lp_Fe_judge_2
      dsimp only [lt, jn]
      rw [h11, cl_nI (n := i) (by omega), e70, cl_nI (n := e) (by omega), nI_1]
      refine ⟨fun z => absurd z (nI_ge (by omega) (by omega)), fun _ => ⟨fun z => absurd z (nI_ge (b := 15) (by omega) (by omega)), fun _ => ⟨v15, fun z => absurd z (nI_pos (by omega)), fun _ => ⟨fun z => absurd z (nI_ge (b := 5) (by omega) (by omega)), fun _ => ⟨vp_in_nI he (by omega), v15, fun q => h1 ?_, fun q => h2 (hm.mpr q)⟩⟩⟩⟩⟩
      cases em : M i with
      | false => rfl
      | true => exact absurd q (hm.mp em)
    cases em : M i with
    | true =>
      refine ⟨0 + 1, com 0 (fun z => absurd (em.symm.trans z) (by decide)) (fun _ => ?_)⟩
      unfold fm at hP; rw [if_pos em] at hP; exact hP
    | false =>
      have hP2 : P (fm M k (i + 1)) := by unfold fm at hP; rw [if_neg (by rw [em]; decide)] at hP; exact hP
      obtain ⟨N, hN⟩ := ih (i + 1) P (by omega) hP2
      exact ⟨N + 1, com N (fun _ => hN) (fun z => absurd (em.symm.trans z) (by decide))⟩
theorem judge_M {h : Hp} {bc : Nat} {M : Nat → Bool} (hb : bc ≤ 15) (hM : ∀ k, k < bc → ∃ e, e < 5 ∧ h.1 82 k = nI e ∧ ((M k = true) ↔ ¬ h.1 77 e = h.1 83 k)) : ∀ (i : Nat) (E : Int32 → Prop), i ≤ bc → E (fm M bc 0) → ∃ n, lp_Md_judge_9 n (fm M (bc - i) i) (nI i - 1) h E := by
  intro i
  induction i with
  | zero =>
    intro E hi hE
    refine ⟨1, ?_⟩
    unfold lp_Md_judge_9
    exact ⟨fun _ => hE, fun z => absurd (by decide) z⟩
  | succ i ih =>
    intro E hi hE
    obtain ⟨N, hN⟩ := ih E (by omega) hE
    refine ⟨N + 1, ?_⟩
    obtain ⟨e, he, e82, hm⟩ := hM i (by omega)
    have v15 : vp_in (nI i) 15 := vp_in_nI (by omega) (by omega)
    unfold lp_Md_judge_9
    dsimp only [lt, jn]
    rw [nI_pred, cl_nI (n := i) (by omega), e82, cl_nI (n := e) (by omega)]
    have e1 : nI i + -1 = nI i - 1 := by
      rw [Int32.sub_eq_add_neg]
    rw [e1]
    have e2 : fm M (bc - i) i = if M i = true then nI i else fm M (bc - (i + 1)) (i + 1) := by
      rw [show bc - i = (bc - (i + 1)) + 1 by omega]; rfl
    refine ⟨fun z => absurd z (nI_pos (by omega)), fun _ => ⟨v15, vp_in_nI he (by omega), v15, fun q => ?_, fun q => ?_⟩⟩
    · rw [e2, if_pos (hm.mpr q)] at hN; exact hN
    · rw [e2, if_neg (fun z => (hm.mp z) q)] at hN; exact hN
theorem G23 : ∀ (h : Hp), Rel h → wp_Fe_judge h (fun v1 => wp_Md_judge h (fun v2 => v1 = v2 ∧ Rel h)) := by
  intro h hR
  obtain ⟨n, o, a1, a2, a3, a4, a5, a6, ⟨bc, d1, d2, d3, d4⟩, a8, a9⟩ := id hR
  obtain ⟨M, hM⟩ : ∃ M : Nat → Bool, ∀ k, M k = decide (¬ h.1 69 (h.1 70 k).toNatClampNeg = h.1 71 k) := ⟨_, fun _ => rfl⟩
  have hn := a1.2.2.1
  refine judge_F (M := M) d1 d2 (fun k hk => ?_) bc 0 (fun v1 => wp_Md_judge h (fun v2 => v1 = v2 ∧ Rel h)) (by omega) ?_
  · obtain ⟨e, w, q1, q2, q3, q4, q5, q6⟩ := d4 k hk
    refine ⟨e, by omega, q3, ?_⟩
    rw [hM, q3, cl_nI (by omega)]; simp
  · unfold wp_Md_judge
    dsimp only [lt]
    rw [d3]
    have := judge_M (M := M) (h := h) d1 (fun k hk => ?_) bc (fun w => fm M bc 0 = w ∧ Rel h) (by omega) ⟨rfl, hR⟩
    · rw [Nat.sub_self] at this
      exact this
    · obtain ⟨e, w, q1, q2, q3, q4, q5, q6⟩ := d4 k hk
      refine ⟨e, by omega, q4, ?_⟩
      obtain ⟨y1, y2, y3⟩ := a1.2.2.2.2.1 e q1
      rw [hM, q3, cl_nI (by omega), q5, q6, y2, y3]; simp
end
