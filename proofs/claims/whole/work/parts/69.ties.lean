section
theorem Nw8 {n : Nat} {W : List Nat} (hW : okW W) : ∀ w, w < 5 → Nw n W w < 8 := fun w hw => by
  unfold Nw
  have := (hW.2 w hw).2
  split <;> omega
theorem bestWay_s {n : Nat} {o m : Nat → Nat} {h : Hp} (a1 : R1 n o h) (a2 : R2 n m h) (h2n : 2 ≤ n) {cc : Nat → Nat → Nat} (hcc : ∀ i, i < bl n → Lab n (m 1) (fun w => m (5 + w)) (m 4) (Nw n (wL n i)) (cc i)) (hv : ∀ i, i < bl n → fmw n (cc i) ≤ 120) {P : Int32 → Hp → Prop} (K : ∀ h2 : Hp, Sc h h2 → P (nI (pk (Nw n (wL n (bst (fun i => fmw n (cc i)) (bl n - 1)))))) h2) : wp_Fe_bestWay h P := by
  have hn := a1.2.2.1
  obtain ⟨hb2, hb52⟩ := bl_in h2n hn
  have lp : ∀ (j i : Nat) (g : Hp), i + j = bl n - 1 → Sc h g → h76 g (wL n i) → lp_Fe_bestWay_27 (j + 1) (nI (pk (Nw n (wL n (bst (fun i => fmw n (cc i)) i))))) (nI (fmw n (cc (bst (fun i => fmw n (cc i)) i)))) (nI i) g (fun (w27_1 : Int32) (h27x : Hp) => P w27_1 h27x) := by
    intro j
    induction j with
    | zero =>
      intro i g hi s1 c1
      have wi' := ways h2n hn i (by omega)
      unfold lp_Fe_bestWay_27
      rw [s1.2 0 1 rfl, a1.1]
      refine ⟨fun z => absurd z (nI_ge (b := 60) (by omega) (by omega)), fun _ => advW_F h2n hn wi'.1 c1 (fun f hf => ?_)⟩
      have ef : (i + 1 != bl n) = false := by simp; omega
      rw [wi'.2, ef]
      refine ⟨fun _ => ?_, fun z => absurd z (by decide)⟩
      have e : i = bl n - 1 := by omega
      rw [e]
      exact K _ (s1.sr (fun _ => rfl))
    | succ j ih =>
      intro i g hi s1 c1
      have wi' := ways h2n hn i (by omega)
      have wi2 := ways h2n hn (i + 1) (by omega)
      have hbi := bst_le (val := fun i => fmw n (cc i)) i
      have hv1 := hv (bst (fun i => fmw n (cc i)) i) (by omega)
      have hv2 := hv (i + 1) (by omega)
      unfold lp_Fe_bestWay_27
      dsimp only [jn, lt]
      rw [s1.2 0 1 rfl, a1.1, nI_1]
      refine ⟨fun z => absurd z (nI_ge (b := 60) (by omega) (by omega)), fun _ => advW_F h2n hn wi'.1 c1 (fun f hf => ?_)⟩
      have ef : (i + 1 != bl n) = true := by simp; omega
      rw [wi'.2, ef]
      refine ⟨fun z => absurd rfl z, fun _ => ?_⟩
      have s2 : Sc h (sr g 76 f) := s1.sr (fun _ => rfl)
      rw [s2.2 0 1 rfl, a1.1]
      refine row_s hn wi2.1 hf (leftByWay_s a1 a2 s2 (Nw8 wi2.1) (hcc (i + 1) (by omega)) (fun g3 s3 e3 => ?_))
      rw [nI_leI (by omega) (by omega)]
      have nx := ih (i + 1) g3 (by omega) s3 (fun e he => by rw [e3 76 (by omega)]; exact hf e he)
      refine ⟨fun z => ?_, fun z => ?_⟩
      · have e : bst (fun i => fmw n (cc i)) (i + 1) = bst (fun i => fmw n (cc i)) i := by rw [bst, if_neg (by (try dsimp only); omega)]
        rw [e] at nx; exact nx
      · have e : bst (fun i => fmw n (cc i)) (i + 1) = i + 1 := by rw [bst, if_pos (by (try dsimp only); omega)]
        rw [e] at nx; exact nx
  unfold wp_Fe_bestWay
  refine wstart_s (n := n) (fun f hf => ?_)
  have s0 : Sc h (sr h 76 f) := (Sc.refl h).sr (fun _ => rfl)
  have w0 := ways h2n hn 0 (by omega)
  rw [s0.2 0 1 rfl, a1.1]
  exact row_s hn w0.1 hf (leftByWay_s a1 a2 s0 (Nw8 w0.1) (hcc 0 (by omega)) (fun g3 s3 e3 => ⟨_, lp (bl n - 1) 0 g3 (by omega) s3 (fun e he => by rw [e3 76 (by omega)]; exact hf e he)⟩))
theorem ties_M {n : Nat} {o m : Nat → Nat} {h0 : Hp} (a1 : R1 n o h0) (a2 : R2 n m h0) (a9 : R9 h0) (h2n : 2 ≤ n) {cc : Nat → Nat → Nat} (hcc : ∀ i, i < bl n → Lab n (m 1) (fun w => m (5 + w)) (m 4) (Nw n (wL n i)) (cc i)) (hv : ∀ i, i < bl n → fmw n (cc i) ≤ 120) {h : Hp} (hs : Sc h0 h) {p0 : Int32} {E : Int32 → Hp → Prop} (K : ∀ h2 : Hp, Sc h0 h2 → (∀ e, e < n → h2.1 98 e = nI (gt (wL n (bst (fun i => fmw n (cc i)) (bl n - 1))) e)) → E (nI (fmw n (cc (bst (fun i => fmw n (cc i)) (bl n - 1))))) h2) : ∃ n28, lp_Md_ties_28 n28 p0 (0 : Int32) h (fun (h28x : Hp) => ∃ n52, lp_Md_ties_52 n52 p0 (1048576 : Int32) (1 : Int32) h28x E) := by
  have hn := a1.2.2.1
  have h1n := a1.2.2.2.1
  obtain ⟨hb2, hb52⟩ := bl_in h2n hn
  have hwf := a2.2.2
  -- the copying of a way
  have cp : ∀ (j i : Nat) (g : Hp) (a2' : Int32) (E2 : Hp → Prop), i + j = n → Sc h0 g → (∀ g2 : Hp, Sc h0 g2 → (∀ c, c ≠ 98 → g2.1 c = g.1 c) → (∀ e, e < n → i ≤ e → g2.1 98 e = g.1 96 e) → (∀ e, e < i → g2.1 98 e = g.1 98 e) → E2 g2) → lp_Md_ties_83 (j + 1) p0 a2' (nI i) g E2 := by
    intro j
    induction j with
    | zero =>
      intro i g a2' E2 hi s1 hE
      have e : i = n := by omega
      subst e
      unfold lp_Md_ties_83
      rw [s1.2 7 0 rfl, a1.2.1]
      exact ⟨fun _ => hE g s1 (fun _ _ => rfl) (fun e h1 h2 => by omega) (fun _ _ => rfl), fun z => absurd (nI_le (by omega) (by omega)) z⟩
    | succ j ih =>
      intro i g a2' E2 hi s1 hE
      unfold lp_Md_ties_83
      dsimp only [lt]
      rw [s1.2 7 0 rfl, a1.2.1, nI_1, cl_nI (n := i) (by omega)]
      refine ⟨fun z => absurd z (nI_ge (by omega) (by omega)), fun _ => ⟨vp_in_nI (by omega) (by omega), vp_in_nI (by omega) (by omega), ih (i + 1) _ a2' E2 (by omega) (s1.wi rfl) (fun g2 s2 e2 e3 e4 => hE g2 s2 (fun c hc => by rw [e2 c hc, wi_ne hc]) (fun e h1 h2 => ?_) (fun e he => ?_))⟩⟩
      · by_cases q : e = i
        · rw [e4 e (by omega), wi_eq, upd_a, if_pos q, q]
        · rw [e3 e h1 (by omega), wi_ne (by omega)]
      · rw [e4 e (by omega), wi_eq, upd_a, if_neg (by omega)]
  have lp : ∀ (j i : Nat) (g : Hp) (lst : Nat), i + j = bl n → Sc h0 g → (i < bl n → h96 g (wL n i)) → (lst = if i = 0 then 1048576 else fmw n (cc (bst (fun i => fmw n (cc i)) (i - 1)))) → (0 < i → ∀ e, e < n → g.1 98 e = nI (gt (wL n (bst (fun i => fmw n (cc i)) (i - 1))) e)) → lp_Md_ties_52 (j + 1) p0 (nI lst) (bI (i != bl n)) g E := by
    intro j
    induction j with
    | zero =>
      intro i g lst hi s1 c1 hl h98
      have e : i = bl n := by omega
      subst e
      unfold lp_Md_ties_52
      have eb : (bl n != bl n) = false := by simp
      rw [eb]
      rw [if_neg (by omega)] at hl
      refine ⟨fun _ => ?_, fun z => absurd rfl z⟩
      rw [hl]
      exact K g s1 (h98 (by omega))
    | succ j ih =>
      intro i g lst hi s1 c1 hl h98
      have hi' : i < bl n := by omega
      have c96 := c1 hi'
      have wi' := ways h2n hn i hi'
      have hvi := hv i hi'
      have hlst : lst ≤ 1048576 := by
        rw [hl]
        split
        · exact Nat.le_refl _
        · have := bst_le (val := fun i => fmw n (cc i)) (i - 1)
          have := hv (bst (fun i => fmw n (cc i)) (i - 1)) (by omega)
          omega
      unfold lp_Md_ties_52
      dsimp only [jn, lt]
      have eb : (i != bl n) = true := by simp; omega
      rw [eb]
      obtain ⟨sm, hsm⟩ := toB (fun k => sameR n 1 (NR n (om n k) (m 1) (fun w => m (5 + w)) (m 4) (Nw n (wL n i)) (fun _ => 0)) (NR n o (m 1) (fun w => m (5 + w)) (m 4) (Nw n (wL n i)) (fun _ => 0)))
      have hcount := lab_count (sm := sm) h2n hn (fun e he => (a1.2.2.2.2.1 e he).1) a1.2.2.2.2.2 (hcc i hi') (fun k _ => hsm k)
      refine ⟨fun z => absurd z (by decide), fun _ => leftBy_s (p := 1) a1 a2 (by omega) s1 (c3 := 96) (c4 := 97) (N := Nw n (wL n i)) (F := fun _ => 0) (fun w hw => ⟨?_, ?_⟩) (fun w hw => ⟨?_, by omega, fun q => ⟨?_, rfl⟩⟩) rfl rfl (by omega) (by omega) (fun k _ => hsm k) (fun g2 s2 e2 => ?_)⟩
      · rw [c96 w (by omega)]; unfold Nw; rw [if_pos hw]
      · rw [s1.2 97 w rfl, a9.2 w (by omega)]; rfl
      · unfold Nw; have := (wi'.1.2 w hw).2; split <;> omega
      · unfold Nw; rw [if_neg (by omega)]
      · rw [hcount, nI_leI (by omega) (by omega)]
        have fin : ∀ (g3 : Hp), Sc h0 g3 → g3.1 96 = g.1 96 → (∀ e, e < n → g3.1 98 e = nI (gt (wL n (bst (fun i => fmw n (cc i)) i)) e)) → ∀ l3 : Nat, l3 = fmw n (cc (bst (fun i => fmw n (cc i)) i)) → wp_Md_nextWay g3 (fun (v113 : Bool) (h113 : Hp) => lp_Md_ties_52 (j + 1) p0 (nI l3) (bI v113) h113 E) := fun g3 s3 e96 e98 l3 hl3 => by
          refine advW_M (W := wL n i) (by rw [s3.2 7 0 rfl]; exact a1.2.1) h2n hn wi'.1 (fun e he => by rw [e96]; exact c96 e he) (fun f hf => ?_)
          rw [wi'.2]
          exact ih (i + 1) _ l3 (by omega) (s3.sr (fun _ => rfl)) (fun _ => hf) (by rw [hl3, if_neg (by omega), Nat.add_sub_cancel]) (fun _ e he => by rw [sr_ne (by omega), Nat.add_sub_cancel]; exact e98 e he)
        refine ⟨fun z => ?_, fun z => ?_⟩
        · -- it is not less
          have h0i : i ≠ 0 := fun q => by rw [if_pos q] at hl; omega
          rw [if_neg h0i] at hl
          have e : bst (fun i => fmw n (cc i)) i = bst (fun i => fmw n (cc i)) (i - 1) := by
            obtain ⟨x, rfl⟩ : ∃ x, i = x + 1 := ⟨i - 1, by omega⟩
            rw [Nat.add_sub_cancel] at hl ⊢
            rw [bst, if_neg (by (try dsimp only); omega)]
          exact fin g2 s2 (e2 96 (by omega)) (fun e' he => by rw [e2 98 (by omega), e]; exact h98 (by omega) e' he) lst (by rw [hl, e])
        · have e : bst (fun i => fmw n (cc i)) i = i := by
            by_cases q : i = 0
            · rw [q]; rfl
            · obtain ⟨x, rfl⟩ : ∃ x, i = x + 1 := ⟨i - 1, by omega⟩
              rw [if_neg q, Nat.add_sub_cancel] at hl
              rw [bst, if_pos (by (try dsimp only); omega)]
          refine ⟨_, cp n 0 g2 _ _ (by omega) s2 (fun g3 s3 e3 e4 _ => ?_)⟩
          exact fin g3 s3 (by rw [e3 96 (by omega), e2 96 (by omega)]) (fun e' he => by rw [e4 e' he (by omega), e2 96 (by omega), c96 e' (by omega), e]) _ (by rw [e])
  -- the first way
  have st0 : ∀ (j i : Nat) (f : Nat → Int32) (E2 : Hp → Prop), i + j = 5 → (∀ e, e < i → f e = 1) → (∀ f2 : Nat → Int32, (∀ e, e < 5 → f2 e = 1) → E2 (sr h 96 f2)) → lp_Md_ties_28 (j + 1) p0 (nI i) (sr h 96 f) E2 := by
    intro j
    induction j with
    | zero =>
      intro i f E2 hi hf hE
      unfold lp_Md_ties_28
      exact ⟨fun _ => hE f (fun e he => hf e (by omega)), fun z => absurd (nI_le (a := 5) (by omega) (by omega)) z⟩
    | succ j ih =>
      intro i f E2 hi hf hE
      unfold lp_Md_ties_28
      dsimp only [lt]
      rw [nI_1, cl_nI (n := i) (by omega), sr_wi]
      refine ⟨fun z => absurd z (nI_ge (b := 5) (by omega) (by omega)), fun _ => ⟨vp_in_nI (by omega) (by omega), ih (i + 1) _ E2 (by omega) (fun e he => ?_) hE⟩⟩
      rw [upd_a]
      by_cases q : e = i
      · rw [if_pos q]
      · rw [if_neg q]; exact hf e (by omega)
  have fst := st0 5 0 (h.1 96) (fun (h28x : Hp) => ∃ n52, lp_Md_ties_52 n52 p0 (1048576 : Int32) (1 : Int32) h28x E) (by omega) (fun e he => by omega) (fun f2 hf2 => ⟨bl n + 1, by
    have := lp (bl n) 0 (sr h 96 f2) 1048576 (by omega) (hs.sr (fun _ => rfl)) (fun _ e he => by
      rw [sr_eq, hf2 e he]
      rcases (show e = 0 ∨ e = 1 ∨ e = 2 ∨ e = 3 ∨ e = 4 by omega) with rfl | rfl | rfl | rfl | rfl <;> rfl) rfl (fun q => by omega)
    have eb : (0 != bl n) = true := by simp; omega
    rw [eb] at this
    exact this⟩)
  rw [sr_self] at fst
  exact ⟨_, fst⟩
theorem G18 : ∀ (h : Hp) (p0 : Int32), Rel h → wp_Fe_ties p0 h (fun v1 h1 => wp_Md_ties p0 h1 (fun v2 h2 => v1 = v2 ∧ Rel h2)) := by
  intro h p0 hR
  obtain ⟨n, o, a1, ⟨m, a2⟩, a3, a4, a5, a6, a7, a8, a9⟩ := id hR
  obtain ⟨hcs, hml, hwf⟩ := id a2
  have hw := a1.1
  have hw2 := a1.2.1
  have hn := a1.2.2.1
  have h1n := a1.2.2.2.1
  -- with a wire that may be asked for
  have go : (p0 = -1 ∨ vld n p0) → (((¬ (h.1 0 1) = 0) → wp_Fe_bestWay h (fun (v27 : Int32) (h27 : Hp) => ((¬ p0 = (-1 : Int32)) → wp_Fe_part v27 p0 (fun (v46 : Int32) => wp_Md_ties p0 h27 (fun v2 h2 => v46 - (1 : Int32) = v2 ∧ Rel h2))) ∧ ((p0 = (-1 : Int32)) → wp_Fe_leftByWay v27 h27 (fun (v38 : Int32) (h38 : Hp) => wp_Md_ties p0 h38 (fun v2 h2 => v38 = v2 ∧ Rel h2))))) ∧ (((h.1 0 1) = 0) → wp_Md_ties p0 h (fun v2 h2 => (-1000000003 : Int32) = v2 ∧ Rel h2))) := fun hp => by
    -- the model's head
    have mo : ∀ (g : Hp) (X : Int32 → Hp → Prop), Sc h g → (((¬ (g.1 7 0) = 0) → ∃ n28, lp_Md_ties_28 n28 p0 (0 : Int32) g (fun (h28x : Hp) => ∃ n52, lp_Md_ties_52 n52 p0 (1048576 : Int32) (1 : Int32) h28x (fun (w52_2 : Int32) (h52x : Hp) => ((¬ p0 = (-1 : Int32)) → (vp_in p0 5) ∧ X ((h52x.1 98 (p0).toNatClampNeg) - (1 : Int32)) h52x) ∧ ((p0 = (-1 : Int32)) → X w52_2 h52x)))) ∧ (((g.1 7 0) = 0) → X (-1000000003 : Int32) g)) → wp_Md_ties p0 g X := fun g X sg hx => by
      unfold wp_Md_ties
      dsimp only [jn]
      refine ⟨fun _ => hx, fun z => ?_⟩
      rw [isW_t (a1.sc sg).2.1 hn (hp.resolve_left z)]
      exact ⟨fun _ => hx, fun z => absurd rfl z⟩
    rw [hw, nI_zero (by omega)]
    refine ⟨fun hn0 => ?_, fun hn0 => mo h _ (Sc.refl h) (by
      rw [hw2, nI_zero (by omega)]
      exact ⟨fun z => absurd hn0 z, fun _ => ⟨rfl, hR⟩⟩)⟩
    have h2n : 2 ≤ n := by omega
    have : ∀ i, ∃ c, Lab n (m 1) (fun w => m (5 + w)) (m 4) (Nw n (wL n i)) c := fun i => lab_ex hn _ _ _ _
    obtain ⟨cc, hcc⟩ := Classical.skolem.mp this
    have hv : ∀ i, i < bl n → fmw n (cc i) ≤ 120 := fun i _ => by
      obtain ⟨sm, hsm⟩ := toB (fun k => sameR n 1 (NR n (om n k) (m 1) (fun w => m (5 + w)) (m 4) (Nw n (wL n i)) (fun _ => 0)) (NR n o (m 1) (fun w => m (5 + w)) (m 4) (Nw n (wL n i)) (fun _ => 0)))
      have hcount := lab_count (sm := sm) h2n hn (fun e he => (a1.2.2.2.2.1 e he).1) a1.2.2.2.2.2 (hcc i) (fun k _ => hsm k)
      have l1 := gc_le (ft := sm) (fc n)
      have l2 : fc n ≤ 120 := fc_le
      omega
    obtain ⟨hb2, hb52⟩ := bl_in h2n hn
    have hbb := bst_le (val := fun i => fmw n (cc i)) (bl n - 1)
    have wb := ways h2n hn (bst (fun i => fmw n (cc i)) (bl n - 1)) (by omega)
    have mt : ∀ (g : Hp) (v : Int32), Sc h g → (p0 = -1 → v = nI (fmw n (cc (bst (fun i => fmw n (cc i)) (bl n - 1))))) → (∀ e, e < n → p0 = nI e → v = nI (gt (wL n (bst (fun i => fmw n (cc i)) (bl n - 1))) e) - 1) → wp_Md_ties p0 g (fun v2 h2 => v = v2 ∧ Rel h2) := fun g v sg e1 e2 => mo g _ sg (by
      rw [(a1.sc sg).2.1, nI_zero (by omega)]
      refine ⟨fun _ => ties_M a1 a2 a9 h2n (fun i _ => hcc i) hv sg (fun g2 s2 e98 => ⟨fun z => ?_, fun z => ⟨e1 z, hR.sc s2⟩⟩), fun z => absurd z hn0⟩
      obtain ⟨e, he, q⟩ := hp.resolve_left z
      rw [q, cl_nI (n := e) (by omega), e98 e he]
      exact ⟨vp_in_nI (by omega) (by omega), e2 e he q, hR.sc s2⟩)
    refine bestWay_s a1 a2 h2n (fun i _ => hcc i) hv (fun g sg => ⟨fun z => ?_, fun z => ?_⟩)
    · obtain ⟨e, he, q⟩ := hp.resolve_left z
      rw [q]
      refine part8_s (Nw8 wb.1) (by omega) ?_
      rw [← q]
      refine mt g _ sg (fun y => absurd y z) (fun e' he' q' => ?_)
      have ee : e' = e := nI_inj (by omega) (by omega) (by rw [← q', q])
      rw [ee]
      unfold Nw
      rw [if_pos he]
    · refine leftByWay_s a1 a2 sg (Nw8 wb.1) (hcc _) (fun g2 s2 _ => mt g2 _ s2 (fun _ => rfl) (fun e he q => ?_))
      rw [z] at q
      exact absurd q.symm (m1_ne (by omega))
  unfold wp_Fe_ties
  dsimp only [jn]
  refine ⟨fun z => go (Or.inl z), fun z => ?_⟩
  by_cases hv0 : vld n p0
  · rw [isN_t hw hn hv0]
    exact ⟨fun _ => go (Or.inr hv0), fun z => absurd rfl z⟩
  · rw [isN_f hw hn hv0]
    refine ⟨fun z => absurd z (by decide), fun _ => ?_⟩
    unfold wp_Md_ties
    dsimp only [jn]
    refine ⟨fun y => absurd y z, fun _ => ?_⟩
    rw [isW_f hw2 hn hv0]
    exact ⟨fun z => absurd z (by decide), fun _ => ⟨rfl, hR⟩⟩
end
