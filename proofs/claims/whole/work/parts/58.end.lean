section
theorem toB3 (C : Nat → Nat → Nat → Prop) : ∃ f : Nat → Nat → Nat → Bool, ∀ k a b, f k a b = true ↔ C k a b := ⟨fun k a b => @decide (C k a b) (Classical.propDecidable _), fun k a b => @decide_eq_true_iff (C k a b) (Classical.propDecidable _)⟩
def Ctx (n : Nat) (m : Nat → Nat) (h : Hp) (sc : Nat) (Q : Nat → Nat → Nat) (ft : Nat → Bool) (rb : Nat → Nat → Nat → Bool) : Prop := sc ≤ 8 ∧ h.1 0 8 = nI sc ∧ h.1 7 11 = nI sc ∧ (∀ k, k < sc → SQ n h k (Q k)) ∧ (∀ k, ft k = true ↔ ∀ j, j < sc → FT n (om n k) (fun w => m (5 + w)) (m 4) Q j) ∧ (∀ k, k < fc n → ∀ a b, a < n → b < n → (rb k a b = true ↔ Con (NR n (om n k) (m 1) (fun w => m (5 + w)) (m 4) (fun w => m (10 + w)) (fun w => m (15 + w))) (5 * m 0 + a) (5 * m 0 + b)))
theorem ctx {n : Nat} {m : Nat → Nat} {h : Hp} (a6 : R6 n h) : ∃ sc Q ft rb, Ctx n m h sc Q ft rb := by
  obtain ⟨sc, h1, h2, h3, h4⟩ := a6
  have : ∀ k, ∃ q, k < sc → SQ n h k q := fun k => by
    by_cases hk : k < sc
    · obtain ⟨q, hq⟩ := SN_SQ (h4 k hk)
      exact ⟨q, fun _ => hq⟩
    · exact ⟨fun _ => 0, fun z => absurd z hk⟩
  obtain ⟨Q, hQ⟩ := Classical.skolem.mp this
  obtain ⟨ft, hft⟩ := toB (fun k => ∀ j, j < sc → FT n (om n k) (fun w => m (5 + w)) (m 4) Q j)
  obtain ⟨rb, hrb⟩ := toB3 (fun k a b => Con (NR n (om n k) (m 1) (fun w => m (5 + w)) (m 4) (fun w => m (10 + w)) (fun w => m (15 + w))) (5 * m 0 + a) (5 * m 0 + b))
  exact ⟨sc, Q, ft, rb, h1, h2, h3, hQ, hft, fun k _ a b _ _ => hrb k a b⟩
theorem G5 : ∀ (h : Hp) (p0 p1 : Int32), Rel h → wp_Fe_end p0 p1 h (fun v1 h1 => wp_Md_end p0 p1 h1 (fun v2 h2 => v1 = v2 ∧ Rel h2)) := by
  intro h p0 p1 hR
  obtain ⟨n, o, a1, ⟨m, a2⟩, a3, a4, a5, a6, a7, a8, a9⟩ := id hR
  obtain ⟨hcs, hml, hwf⟩ := id a2
  have hw := a1.1
  have hw2 := a1.2.1
  have hn := a1.2.2.1
  unfold wp_Fe_end
  by_cases hv0 : vld n p0
  · rw [isN_t hw hn hv0]
    refine ⟨fun _ => ?_, fun z => absurd rfl z⟩
    obtain ⟨e, he, rfl⟩ := id hv0
    have v5 : vp_in (nI e) 5 := vp_in_nI (by omega) (by omega)
    obtain ⟨sc, Q, ft, rb, h8, h08, h711, hQ, hft, hrb⟩ := ctx (m := m) a6
    have f4 : ∀ w, w < 5 → (fun w => m (15 + w)) w < 4 := fun w hw => (hwf.2.2.2.2.2 w hw).2.2.1
    -- the model, asked what is not guessed
    have m0 : ∀ (q : Nat) (v : Int32), q < 2 → (q = 0 → v = nI (o e)) → (q = 1 → v = nI (m (15 + e))) → wp_Md_end (nI e) (nI q) h (fun v2 h2 => v = v2 ∧ Rel h2) := fun q v hq e0 e1 => by
      unfold wp_Md_end
      rw [isW_t hw2 hn hv0]
      refine ⟨fun _ => ?_, fun z => absurd rfl z⟩
      rw [in03 (by omega)]
      refine ⟨fun _ => ⟨fun z => absurd z (nI_ge (b := 2) hq (by omega)), fun _ => ⟨fun z => ⟨v5, ?_, hR⟩, fun z => ⟨v5, ?_, hR⟩⟩⟩, fun z => absurd rfl z⟩
      · rw [cl_nI (n := e) (by omega), (hml.2.2.2.2.2 e (by omega)).2.2]
        have : q ≠ 0 := fun y => z (by rw [y]; rfl)
        exact e1 (by omega)
      · rw [cl_nI (n := e) (by omega), (a1.2.2.2.2.1 e he).2.2]
        exact e0 ((nI_zero (by omega)).mp z)
    have m2 : ∀ (q : Nat) (v : Int32) (g : Hp), q < 4 → 2 ≤ q → Sc h g → (q = 2 → v = nI (gs ft (om n) (fc n) e)) → (q = 3 → v = gf ft (om n) (fc n) e) → wp_Md_end (nI e) (nI q) g (fun v2 h2 => v = v2 ∧ Rel h2) := fun q v g hq hq2 sg e2 e3 => by
      unfold wp_Md_end
      rw [isW_t (a1.sc sg).2.1 hn hv0]
      refine ⟨fun _ => ?_, fun z => absurd rfl z⟩
      rw [in03 hq]
      refine ⟨fun _ => ⟨fun _ => setCould_s a1 a2 h8 h711 hQ hft hrb sg (fun g2 s2 gm => ⟨fun z => ⟨v5, ?_, hR.sc s2⟩, fun z => ⟨v5, ?_, hR.sc s2⟩⟩), fun z => absurd (nI_le (a := 2) hq2 (by omega)) z⟩, fun z => absurd rfl z⟩
      · rw [cl_nI (n := e) (by omega), (gm.2.1 e he).2]
        have : q ≠ 2 := fun y => z (by rw [y]; rfl)
        exact e3 (by omega)
      · rw [cl_nI (n := e) (by omega), (gm.2.1 e he).1]
        exact e2 (nI_inj (b := 2) (by omega) (by omega) z)
    refine ⟨fun z => ⟨v5, ?_⟩, fun z0 => ⟨fun z => ?_, fun z1 => ⟨fun z => ?_, fun z2 => ⟨fun z => ?_, fun z3 => ?_⟩⟩⟩⟩
    · rw [cl_nI (n := e) (by omega), (a1.2.2.2.2.1 e he).2.1, z]
      exact m0 0 _ (by omega) (fun _ => rfl) (fun y => by omega)
    · rw [hcs.2.2.2.1, z]
      exact part_s f4 (by omega) (m0 1 _ (by omega) (fun y => by omega) (fun _ => rfl))
    · rw [z]
      unfold wp_Fe_couldBeOf
      refine guessOrders_s a1 a2 h8 h08 hQ hft (Sc.refl h) (fun g sg gg => ⟨v5, ?_⟩)
      rw [cl_nI (n := e) (by omega), (gg.2 e he).1]
      exact m2 2 _ g (by omega) (by omega) sg (fun _ => rfl) (fun y => by omega)
    · rw [z]
      unfold wp_Fe_firstCouldBeOf
      refine guessOrders_s a1 a2 h8 h08 hQ hft (Sc.refl h) (fun g sg gg => ?_)
      have l1 := gc_le (ft := ft) (fc n)
      have l2 : fc n ≤ 120 := fc_le
      rw [gg.1, nI_zero (by omega), cl_nI (n := e) (by omega), (gg.2 e he).2]
      exact ⟨fun _ => ⟨v5, m2 3 _ g (by omega) (by omega) sg (fun y => by omega) (fun _ => rfl)⟩, fun y => m2 3 _ g (by omega) (by omega) sg (fun y => by omega) (fun _ => (gf_m1 _ y).symm)⟩
    · (try dsimp only)
      unfold wp_Md_end
      rw [isW_t hw2 hn hv0]
      refine ⟨fun _ => ?_, fun z => absurd rfl z⟩
      have hv1 : ¬ vld 4 p1 := fun ⟨q, hq, e1⟩ => by
        rcases (show q = 0 ∨ q = 1 ∨ q = 2 ∨ q = 3 by omega) with rfl | rfl | rfl | rfl
        · exact z0 e1
        · exact z1 e1
        · exact z2 e1
        · exact z3 e1
      have hno := vld_no (n := 4) (by omega) hv1
      rw [in_f (hno.imp id (fun z => lt4 (Int32.not_lt.mpr z)))]
      exact ⟨fun z => absurd z (by decide), fun _ => ⟨rfl, hR⟩⟩
  · rw [isN_f hw hn hv0]
    refine ⟨fun z => absurd z (by decide), fun _ => ?_⟩
    (try dsimp only)
    unfold wp_Md_end
    rw [isW_f hw2 hn hv0]
    exact ⟨fun z => absurd z (by decide), fun _ => ⟨rfl, hR⟩⟩
end
