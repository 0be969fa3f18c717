section
theorem ptn30 {f : Nat → Nat} (hf : ∀ k, f k < 2 ^ 6) {n : Nat} (hn : n ≤ 5) : ptn f n < 2 ^ 30 := Nat.lt_of_lt_of_le (ptn_lt hf n) (Nat.pow_le_pow_right (by omega) (by omega))
theorem countLeft_s {n : Nat} {o m : Nat → Nat} {h : Hp} (a1 : R1 n o h) (a2 : R2 n m h) {sm : Nat → Bool} (hsm : ∀ k, k < fc n → (sm k = true ↔ sameR n (m 0) (NR n (om n k) (m 1) (fun w => m (5 + w)) (m 4) (fun w => m (10 + w)) (fun w => m (15 + w))) (NR n o (m 1) (fun w => m (5 + w)) (m 4) (fun w => m (10 + w)) (fun w => m (15 + w))))) {P : Int32 → Hp → Prop} (K : ∀ h2 : Hp, Sc h h2 → P (nI (gc sm (fc n))) h2) : wp_Fe_countLeft h P := by
  have hn := a1.2.2.1
  have h1n := a1.2.2.2.1
  have hfc : fc n ≤ 120 := fc_le
  obtain ⟨hcs, hml, hwf⟩ := id a2
  have hp := hwf.1
  have ht : m 1 < 2 ^ 31 := Nat.lt_of_le_of_lt hwf.2.1 (by omega)
  have hK : ∀ w, w < 5 → (fun w => m (5 + w)) w < 4 := fun w hw => (hwf.2.2.2.2.2 w hw).1
  have is : ∀ o2 : Nat → Nat, (∀ e, e < n → o2 e < n) → iso n (m 0) (NR n o2 (m 1) (fun w => m (5 + w)) (m 4) (fun w => m (10 + w)) (fun w => m (15 + w))) := fun o2 ho2 => NR_iso hn hp ho2 hwf.2.2.2.2.1 (fun w q1 q2 => by have := ((hwf.2.2.2.2.2 w q2).2.2.2 q1).1; (try dsimp only); omega) (fun w q1 q2 => ((hwf.2.2.2.2.2 w q1).2.2.2 q2).2)
  unfold wp_Fe_countLeft
  rw [hcs.1]
  refine joinAll_s a1 hcs hwf hK (fun h2 q1 q2 s2 f g hf hpf hg hpg => ?_)
  have b2 := a2.sc s2
  rw [b2.1.2.2.2.2.1, s2.2 0 1 rfl, a1.1]
  refine pattern_s hn hp hg (fun i hi => by have := (hpg i hi).lt; omega) ?_
  rw [b2.1.1, b2.1.2.2.2.2.2.1]
  refine passing_s hK ht (start_s (n := n) (fun fl hfl => ?_))
  have due : ptn (fun i => hd (g (5 * m 0 + i)) (m 0)) n < 2 ^ 30 := ptn30 (fun _ => hd_lt) hn
  have lp : ∀ (j k : Nat) (g2 : Hp), k + j = fc n → Sc h g2 → hl g2 72 (oL n k) → row g2 54 f → lp_Fe_countLeft_66 (j + 1) (nI (ptn (fun i => hd (g (5 * m 0 + i)) (m 0)) n)) (nI (pset (fun w => m (5 + w)) (m 1))) (nI (fc n)) (nI (gc sm k)) (nI k) g2 (fun (w66_3 : Int32) (h66x : Hp) => P w66_3 h66x) := by
    intro j
    induction j with
    | zero =>
      intro k g2 hk s1 o1 f1
      have e : k = fc n := by omega
      subst e
      unfold lp_Fe_countLeft_66
      exact ⟨fun _ => K g2 s1, fun z => absurd (nI_le (by omega) (by omega)) z⟩
    | succ j ih =>
      intro k g2 hk s1 o1 f1
      have hk' : k < fc n := by omega
      have h2n := fc2 hn h1n hk'
      have oo := orders h2n hn k hk'
      have hgc := gc_le (ft := sm) k
      unfold lp_Fe_countLeft_66
      dsimp only [jn, lt]
      rw [s1.2 0 1 rfl, a1.1]
      refine ⟨fun z => absurd z (nI_ge (by omega) (by omega)), fun _ => join_s (r := 45) (o := om n k) (by omega) (by omega) (by omega) rfl hn (fun e he => ⟨oo.1 e he, o1.2.1 e (by omega)⟩) (Nat.lt_trans (pset_lt _ _) (by omega)) hpf f1 (fun G gg e4 e5 => ?_)⟩
      have s4 : Sc h (sr g2 (45 + 18) G) := s1.sr (fun _ => rfl)
      have b4 := a2.sc s4
      rw [b4.1.2.2.2.2.1, s4.2 0 1 rfl, a1.1]
      refine pattern_s (g := gg) hn hp (fun x hx => by rw [sr_eq]; exact e4 x hx) (fun i hi => by have := (e5 i hi).lt; omega) ?_
      have pl : ptn (fun i => hd (gg (5 * m 0 + i)) (m 0)) n < 2 ^ 30 := ptn30 (fun _ => hd_lt) hn
      have key : (nI (ptn (fun i => hd (gg (5 * m 0 + i)) (m 0)) n) = nI (ptn (fun i => hd (g (5 * m 0 + i)) (m 0)) n)) ↔ sm k = true := by
        rw [nI_eq (by omega) (by omega), hsm k hk']
        exact pat_same hn hp e5 hpg (is (om n k) oo.1) (is o (fun e he => (a1.2.2.2.2.1 e he).1))
      rw [key, nI_1, nI_1]
      have fin : ∀ c : Nat, c = gc sm (k + 1) → wp_Orders_advance (nI n) (sr g2 (45 + 18) G) (fun (h125 : Hp) => lp_Fe_countLeft_66 (j + 1) (nI (ptn (fun i => hd (g (5 * m 0 + i)) (m 0)) n)) (nI (pset (fun w => m (5 + w)) (m 1))) (nI (fc n)) (nI c) (nI (k + 1)) h125 (fun (w66_3 : Int32) (h66x : Hp) => P w66_3 h66x)) := fun c hc => by
        rw [hc]
        exact advance_s (L := oL n k) (o1.keep (sr_ne (by omega))) h2n hn (fun f' hf' => ih (k + 1) _ (by omega) (s4.sr (fun _ => rfl)) hf' (fun x hx => by rw [sr_ne (by omega), sr_ne (by omega)]; exact f1 x hx))
      exact ⟨fun z => fin _ (by rw [gc, if_neg z]), fun z => fin _ (by rw [gc, if_pos z])⟩
  refine countOrders_s (n := n) (by rw [sr_ne (by omega), s2.2 0 1 rfl]; exact a1.1) hn h1n ⟨_, lp (fc n) 0 _ (by omega) (s2.sr (fun _ => rfl)) hfl (fun x hx => by rw [sr_ne (by omega)]; exact hf x hx)⟩
theorem ao15 {n : Nat} (hn : n ≤ 5) {B : Nat → Nat → Bool} : (ao n B n 0 (0, 0)).1 < 2 ^ 30 := by
  have : ∀ (j a : Nat) (s : Nat × Nat), a + j = n → s.1 < 2 ^ s.2 → s.2 ≤ 5 * a → (ao n B j a s).1 < 2 ^ 30 := by
    intro j
    induction j with
    | zero => intro a s h1 h2 h3; exact Nat.lt_of_lt_of_le h2 (Nat.pow_le_pow_right (by omega) (by omega))
    | succ j ih =>
      intro a s h1 h2 h3
      obtain ⟨x1, x2⟩ := ai_lt (B := B a) (n - a) (a + 1) s h2
      exact ih (a + 1) _ (by omega) x1 (by omega)
  exact this n 0 (0, 0) (by omega) Nat.one_pos (Nat.le_refl _)
theorem leftBy_s {n p : Nat} {o m : Nat → Nat} {h0 : Hp} (a1 : R1 n o h0) (a2 : R2 n m h0) (hp : p ≤ 1) {h : Hp} (hs : Sc h0 h) {c3 c4 : Nat} {N F : Nat → Nat} (hNF : ∀ w, w < n → h.1 c3 w = nI (N w) ∧ h.1 c4 w = nI (F w)) (hNF5 : ∀ w, w < 5 → N w ≤ 5 ∧ F w ≤ 5 ∧ (n ≤ w → N w = 0 ∧ F w = 0)) (hc3 : al c3 = 5) (hc4 : al c4 = 5) (h391 : c3 ≠ 91) (h491 : c4 ≠ 91) {sm : Nat → Bool} (hsm : ∀ k, k < fc n → (sm k = true ↔ sameR n p (NR n (om n k) (m 1) (fun w => m (5 + w)) (m 4) N F) (NR n o (m 1) (fun w => m (5 + w)) (m 4) N F))) {P : Int32 → Hp → Prop} (K : ∀ h2 : Hp, Sc h0 h2 → (∀ c, c ≠ 91 → h2.1 c = h.1 c) → P (nI (gc sm (fc n))) h2) : wp_Md_leftBy (nI p) c3 c4 h P := by
  have hn := a1.2.2.1
  have h1n := a1.2.2.2.1
  have hfc : fc n ≤ 120 := fc_le
  unfold wp_Md_leftBy
  obtain ⟨B0, hB0⟩ := Bsp_ex n p (NR n o (m 1) (fun w => m (5 + w)) (m 4) N F)
  have c1 := a1.sc hs
  refine allRings_s a1 a2 hp hs (o2 := o) (fun e he => ⟨(c1.2.2.2.2.1 e he).1, (c1.2.2.2.2.1 e he).2.2⟩) c1.2.2.2.2.2 rfl hNF hNF5 hc3 hc4 hB0 (first_s (n := n) (fun fl hfl => ?_))
  dsimp only [jn]
  have l0 := ao15 (B := B0) hn
  have lp : ∀ (j k : Nat) (g : Hp), k + j = fc n → Sc h0 g → (∀ c, c ≠ 91 → g.1 c = h.1 c) → (k < fc n → hl g 91 (oL n k)) → lp_Md_leftBy_34 (j + 1) (nI p) c3 c4 (nI (ao n B0 n 0 (0, 0)).1) (nI (gc sm k)) (bI (k != fc n)) g (fun (w34_5 : Int32) (h34x : Hp) => P w34_5 h34x) := by
    intro j
    induction j with
    | zero =>
      intro k g hk s1 e1 o1
      have e : k = fc n := by omega
      subst e
      unfold lp_Md_leftBy_34
      have eb : (fc n != fc n) = false := by simp
      rw [eb]
      exact ⟨fun _ => K g s1 e1, fun z => absurd rfl z⟩
    | succ j ih =>
      intro k g hk s1 e1 o1
      have hk' : k < fc n := by omega
      have h2n := fc2 hn h1n hk'
      have oo := orders h2n hn k hk'
      have ol := o1 hk'
      have hgc := gc_le (ft := sm) k
      obtain ⟨B, hB⟩ := Bsp_ex n p (NR n (om n k) (m 1) (fun w => m (5 + w)) (m 4) N F)
      have l1 := ao15 (B := B) hn
      unfold lp_Md_leftBy_34
      dsimp only [jn, lt]
      have eb : (k != fc n) = true := by simp; omega
      rw [eb]
      refine ⟨fun z => absurd z (by decide), fun _ => allRings_s a1 a2 hp s1 (o2 := om n k) (fun e he => ⟨oo.1 e he, ol.2.1 e (by omega)⟩) oo.2.1 rfl (fun w hw => by rw [e1 c3 h391, e1 c4 h491]; exact hNF w hw) hNF5 hc3 hc4 hB ?_⟩
      have key : (nI (ao n B n 0 (0, 0)).1 = nI (ao n B0 n 0 (0, 0)).1) ↔ sm k = true := by
        rw [nI_eq (by omega) (by omega), hsm k hk']
        exact all_same hB hB0
      rw [key, show nI (gc sm k) + (0 : Int32) = nI (gc sm k) from nI_add _ 0, nI_1]
      have fin : ∀ c : Nat, c = gc sm (k + 1) → wp_Md_nextOrder g (fun (v66 : Bool) (h66 : Hp) => lp_Md_leftBy_34 (j + 1) (nI p) c3 c4 (nI (ao n B0 n 0 (0, 0)).1) (nI c) (bI v66) h66 (fun (w34_5 : Int32) (h34x : Hp) => P w34_5 h34x)) := fun c hc => by
        rw [hc]
        refine next_s (L := oL n k) ol (by rw [s1.2 7 0 rfl]; exact a1.2.1) h2n hn (fun f hf => ?_)
        rw [oo.2.2]
        exact ih (k + 1) _ (by omega) (s1.sr (fun _ => rfl)) (fun c hc => by rw [sr_ne hc]; exact e1 c hc) (fun _ => hf)
      exact ⟨fun z => fin _ (by rw [gc, if_neg z]), fun z => fin _ (by rw [gc, if_pos z])⟩
  have st := lp (fc n) 0 (sr h 91 fl) (by omega) (hs.sr (fun _ => rfl)) (fun c hc => sr_ne hc) (fun _ => hfl)
  rw [sr_ne (show 7 ≠ 91 by omega), hs.2 7 0 rfl, a1.2.1]
  refine ⟨fun z => ⟨fc n + 1, ?_⟩, fun z => ⟨fc n + 1, ?_⟩⟩
  · have e0 : n = 0 := by have := (nI_leI (b := 0) (by omega) (by omega)).mp z; omega
    subst e0
    exact st
  · have e0 : n ≠ 0 := fun e => z (by rw [e]; exact nI_le (a := 0) (b := 0) (by omega) (by omega))
    have : (0 != fc n) = true := by
      rcases (show n = 2 ∨ n = 3 ∨ n = 4 ∨ n = 5 by omega) with rfl | rfl | rfl | rfl <;> rfl
    rw [this] at st
    exact st
theorem lt14 {p1 : Int32} (z : nI 14 ≤ p1) : 13 < p1 := by
  rw [Int32.lt_iff_toInt_lt]
  rw [Int32.le_iff_toInt_le] at z
  have e1 : (nI 14).toInt = 14 := by decide
  have e2 : (13 : Int32).toInt = 13 := by decide
  omega
theorem G3 : ∀ (h : Hp) (p0 : Int32), Rel h → wp_Fe_told p0 h (fun v1 h1 => wp_Md_told p0 h1 (fun v2 h2 => v1 = v2 ∧ Rel h2)) := by
  intro h p0 hR
  obtain ⟨n, o, a1, ⟨m, a2⟩, a3, a4, a5, a6, a7, a8, a9⟩ := id hR
  obtain ⟨hcs, hml, hwf⟩ := id a2
  have hw := a1.1
  have hw2 := a1.2.1
  have hn := a1.2.2.1
  by_cases hv : vld 14 p0
  · obtain ⟨q, hq, rfl⟩ := hv
    have hin : ∀ {P : Bool → Prop}, wp_Md_in (nI q) 0 13 P ↔ P true := fun {P} => in_t (p := nI q) (a := 0) (b := 13) (nI_pos (by omega)) (nI_nlt (a := 13) (by omega) (by omega))
    have d : ∀ (a b : Nat), a < 14 → b < 14 → a ≠ b → ¬ nI a = nI b := fun a b ha hb hne e => hne (nI_inj (by omega) (by omega) e)
    rcases (show q = 0 ∨ q = 1 ∨ q = 2 ∨ q = 3 ∨ q = 4 ∨ q = 5 ∨ q = 6 ∨ q = 7 ∨ q = 8 ∨ q = 9 ∨ q = 10 ∨ q = 11 ∨ q = 12 ∨ q = 13 by omega) with rfl | rfl | rfl | rfl | rfl | rfl | rfl | rfl | rfl | rfl | rfl | rfl | rfl | rfl
    · have mo : ∀ v : Int32, v = h.1 7 0 → wp_Md_told (nI 0) h (fun v2 h2 => v = v2 ∧ Rel h2) := fun v hv => by
        unfold wp_Md_told
        rw [hin]
        exact ⟨fun _ => ⟨fun _ => ⟨hv, hR⟩, fun z => absurd rfl z⟩, fun z => absurd rfl z⟩
      unfold wp_Fe_told
      exact ⟨fun _ => mo _ (by rw [hw, hw2]), fun z => absurd rfl z⟩
    · have mo : ∀ v : Int32, v = h.1 7 2 → wp_Md_told (nI 1) h (fun v2 h2 => v = v2 ∧ Rel h2) := fun v hv => by
        unfold wp_Md_told
        rw [hin]
        exact ⟨fun _ => ⟨fun z => absurd z (by decide), fun _ => ⟨fun _ => ⟨hv, hR⟩, fun z => absurd rfl z⟩⟩, fun z => absurd rfl z⟩
      unfold wp_Fe_told
      exact ⟨fun z => absurd z (by decide), fun _ => ⟨fun _ => mo _ (by rw [hcs.2.2.2.2.1, hml.1]), fun z => absurd rfl z⟩⟩
    · have mo : ∀ v : Int32, v = h.1 7 3 → wp_Md_told (nI 2) h (fun v2 h2 => v = v2 ∧ Rel h2) := fun v hv => by
        unfold wp_Md_told
        rw [hin]
        exact ⟨fun _ => ⟨fun z => absurd z (by decide), fun _ => ⟨fun z => absurd z (by decide), fun _ => ⟨fun _ => ⟨hv, hR⟩, fun z => absurd rfl z⟩⟩⟩, fun z => absurd rfl z⟩
      unfold wp_Fe_told
      exact ⟨fun z => absurd z (by decide), fun _ => ⟨fun z => absurd z (by decide), fun _ => ⟨fun _ => mo _ (by rw [hcs.2.2.2.2.2.1, hml.2.1]), fun z => absurd rfl z⟩⟩⟩
    · have mo : ∀ v : Int32, v = h.1 7 4 → wp_Md_told (nI 3) h (fun v2 h2 => v = v2 ∧ Rel h2) := fun v hv => by
        unfold wp_Md_told
        rw [hin]
        exact ⟨fun _ => ⟨fun z => absurd z (by decide), fun _ => ⟨fun z => absurd z (by decide), fun _ => ⟨fun z => absurd z (by decide), fun _ => ⟨fun _ => ⟨hv, hR⟩, fun z => absurd rfl z⟩⟩⟩⟩, fun z => absurd rfl z⟩
      unfold wp_Fe_told
      exact ⟨fun z => absurd z (by decide), fun _ => ⟨fun z => absurd z (by decide), fun _ => ⟨fun z => absurd z (by decide), fun _ => ⟨fun _ => mo _ (by rw [hcs.2.2.2.2.2.2.1, hml.2.2.1]), fun z => absurd rfl z⟩⟩⟩⟩
    · have mo : ∀ v : Int32, v = h.1 7 5 → wp_Md_told (nI 4) h (fun v2 h2 => v = v2 ∧ Rel h2) := fun v hv => by
        unfold wp_Md_told
        rw [hin]
        exact ⟨fun _ => ⟨fun z => absurd z (by decide), fun _ => ⟨fun z => absurd z (by decide), fun _ => ⟨fun z => absurd z (by decide), fun _ => ⟨fun z => absurd z (by decide), fun _ => ⟨fun _ => ⟨hv, hR⟩, fun z => absurd rfl z⟩⟩⟩⟩⟩, fun z => absurd rfl z⟩
      unfold wp_Fe_told
      exact ⟨fun z => absurd z (by decide), fun _ => ⟨fun z => absurd z (by decide), fun _ => ⟨fun z => absurd z (by decide), fun _ => ⟨fun z => absurd z (by decide), fun _ => ⟨fun _ => mo _ (by rw [hcs.2.2.2.2.2.2.2, hml.2.2.2.1]), fun z => absurd rfl z⟩⟩⟩⟩⟩
    · have mo : ∀ v : Int32, v = h.1 7 17 → wp_Md_told (nI 5) h (fun v2 h2 => v = v2 ∧ Rel h2) := fun v hv => by
        unfold wp_Md_told
        rw [hin]
        exact ⟨fun _ => ⟨fun z => absurd z (by decide), fun _ => ⟨fun z => absurd z (by decide), fun _ => ⟨fun z => absurd z (by decide), fun _ => ⟨fun z => absurd z (by decide), fun _ => ⟨fun z => absurd z (by decide), fun _ => ⟨fun _ => ⟨hv, hR⟩, fun z => absurd rfl z⟩⟩⟩⟩⟩⟩, fun z => absurd rfl z⟩
      unfold wp_Fe_told
      exact ⟨fun z => absurd z (by decide), fun _ => ⟨fun z => absurd z (by decide), fun _ => ⟨fun z => absurd z (by decide), fun _ => ⟨fun z => absurd z (by decide), fun _ => ⟨fun z => absurd z (by decide), fun _ => ⟨fun _ => mo _ (by obtain ⟨tc, _, t1, t2, _⟩ := a8; rw [t1, t2]), fun z => absurd rfl z⟩⟩⟩⟩⟩⟩
    · have mo : wp_Md_told (nI 6) h (fun v2 h2 => nI (tcnt (m 4)) = v2 ∧ Rel h2) := by
        unfold wp_Md_told
        rw [hin]
        exact ⟨fun _ => ⟨fun z => absurd z (by decide), fun _ => ⟨fun z => absurd z (by decide), fun _ => ⟨fun z => absurd z (by decide), fun _ => ⟨fun z => absurd z (by decide), fun _ => ⟨fun z => absurd z (by decide), fun _ => ⟨fun z => absurd z (by decide), fun _ => ⟨fun _ => touchMany_s hw2 hn a1.2.2.2.1 hml.2.2.2.2.1 hwf.2.2.2.2.1 ⟨rfl, hR⟩, fun z => absurd rfl z⟩⟩⟩⟩⟩⟩⟩, fun z => absurd rfl z⟩
      unfold wp_Fe_told
      rw [hcs.2.1]
      exact ⟨fun z => absurd z (by decide), fun _ => ⟨fun z => absurd z (by decide), fun _ => ⟨fun z => absurd z (by decide), fun _ => ⟨fun z => absurd z (by decide), fun _ => ⟨fun z => absurd z (by decide), fun _ => ⟨fun z => absurd z (by decide), fun _ => ⟨fun _ => bitCount_s hn hwf.2.2.2.2.1 mo, fun z => absurd rfl z⟩⟩⟩⟩⟩⟩⟩
    · obtain ⟨b, hb⟩ := toB (fun e => Con (NR n o (m 1) (fun w => m (5 + w)) (m 4) (fun w => m (10 + w)) (fun w => m (15 + w))) (o e) (5 + e))
      have mo : ∀ g : Hp, Sc h g → wp_Md_told (nI 7) g (fun v2 h2 => nI (gd b o n) = v2 ∧ Rel h2) := fun g sg => by
        unfold wp_Md_told
        rw [hin]
        exact ⟨fun _ => ⟨fun z => absurd z (by decide), fun _ => ⟨fun z => absurd z (by decide), fun _ => ⟨fun z => absurd z (by decide), fun _ => ⟨fun z => absurd z (by decide), fun _ => ⟨fun z => absurd z (by decide), fun _ => ⟨fun z => absurd z (by decide), fun _ => ⟨fun z => absurd z (by decide), fun _ => ⟨fun _ => good_M (a1.sc sg) (a2.sc sg).2.1 hwf (fun e _ => hb e) ⟨rfl, hR.sc sg⟩, fun z => absurd rfl z⟩⟩⟩⟩⟩⟩⟩⟩, fun z => absurd rfl z⟩
      unfold wp_Fe_told
      exact ⟨fun z => absurd z (by decide), fun _ => ⟨fun z => absurd z (by decide), fun _ => ⟨fun z => absurd z (by decide), fun _ => ⟨fun z => absurd z (by decide), fun _ => ⟨fun z => absurd z (by decide), fun _ => ⟨fun z => absurd z (by decide), fun _ => ⟨fun z => absurd z (by decide), fun _ => ⟨fun _ => good_F a1 hcs hwf (fun e _ => hb e) mo, fun z => absurd rfl z⟩⟩⟩⟩⟩⟩⟩⟩
    · obtain ⟨sc, Q, ft, rb, h8, h08, h711, hQ, hft, hrb⟩ := ctx (m := m) a6
      have mo : ∀ (g : Hp) (v : Int32), Sc h g → v = nI (gc ft (fc n)) → wp_Md_told (nI 8) g (fun v2 h2 => v = v2 ∧ Rel h2) := fun g v sg hv => by
        unfold wp_Md_told
        rw [hin]
        exact ⟨fun _ => ⟨fun z => absurd z (by decide), fun _ => ⟨fun z => absurd z (by decide), fun _ => ⟨fun z => absurd z (by decide), fun _ => ⟨fun z => absurd z (by decide), fun _ => ⟨fun z => absurd z (by decide), fun _ => ⟨fun z => absurd z (by decide), fun _ => ⟨fun z => absurd z (by decide), fun _ => ⟨fun z => absurd z (by decide), fun _ => ⟨fun _ => setCould_s a1 a2 h8 h711 hQ hft hrb sg (fun g2 s2 gm => ⟨by rw [gm.1, hv], hR.sc s2⟩), fun z => absurd rfl z⟩⟩⟩⟩⟩⟩⟩⟩⟩, fun z => absurd rfl z⟩
      unfold wp_Fe_told wp_Fe_countCouldBe
      exact ⟨fun z => absurd z (by decide), fun _ => ⟨fun z => absurd z (by decide), fun _ => ⟨fun z => absurd z (by decide), fun _ => ⟨fun z => absurd z (by decide), fun _ => ⟨fun z => absurd z (by decide), fun _ => ⟨fun z => absurd z (by decide), fun _ => ⟨fun z => absurd z (by decide), fun _ => ⟨fun z => absurd z (by decide), fun _ => ⟨fun _ => guessOrders_s a1 a2 h8 h08 hQ hft (Sc.refl h) (fun g sg gg => mo g _ sg gg.1), fun z => absurd rfl z⟩⟩⟩⟩⟩⟩⟩⟩⟩
    · obtain ⟨sc, Q, ft, rb, hc⟩ := ctx (m := m) a6
      have mo : ∀ g : Hp, Sc h g → wp_Md_told (nI 9) g (fun v2 h2 => (bo n (gc ft (fc n)) (gr ft rb (fc n)) n 0 (-1, gc ft (fc n))).1 = v2 ∧ Rel h2) := fun g sg => by
        unfold wp_Md_told
        rw [hin]
        exact ⟨fun _ => ⟨fun z => absurd z (by decide), fun _ => ⟨fun z => absurd z (by decide), fun _ => ⟨fun z => absurd z (by decide), fun _ => ⟨fun z => absurd z (by decide), fun _ => ⟨fun z => absurd z (by decide), fun _ => ⟨fun z => absurd z (by decide), fun _ => ⟨fun z => absurd z (by decide), fun _ => ⟨fun z => absurd z (by decide), fun _ => ⟨fun z => absurd z (by decide), fun _ => ⟨fun _ => askPair_s a1 a2 hc sg (fun g2 s2 => ⟨rfl, hR.sc s2⟩), fun z => absurd rfl z⟩⟩⟩⟩⟩⟩⟩⟩⟩⟩, fun z => absurd rfl z⟩
      unfold wp_Fe_told
      exact ⟨fun z => absurd z (by decide), fun _ => ⟨fun z => absurd z (by decide), fun _ => ⟨fun z => absurd z (by decide), fun _ => ⟨fun z => absurd z (by decide), fun _ => ⟨fun z => absurd z (by decide), fun _ => ⟨fun z => absurd z (by decide), fun _ => ⟨fun z => absurd z (by decide), fun _ => ⟨fun z => absurd z (by decide), fun _ => ⟨fun z => absurd z (by decide), fun _ => ⟨fun _ => bestQ_s a1 a2 hc mo, fun z => absurd rfl z⟩⟩⟩⟩⟩⟩⟩⟩⟩⟩
    · obtain ⟨sm, hsm⟩ := toB (fun k => sameR n (m 0) (NR n (om n k) (m 1) (fun w => m (5 + w)) (m 4) (fun w => m (10 + w)) (fun w => m (15 + w))) (NR n o (m 1) (fun w => m (5 + w)) (m 4) (fun w => m (10 + w)) (fun w => m (15 + w))))
      have mo : ∀ g : Hp, Sc h g → wp_Md_told (nI 10) g (fun v2 h2 => nI (gc sm (fc n)) = v2 ∧ Rel h2) := fun g sg => by
        have ml := (a2.sc sg).2.1
        unfold wp_Md_told
        rw [hin, ml.1]
        exact ⟨fun _ => ⟨fun z => absurd z (by decide), fun _ => ⟨fun z => absurd z (by decide), fun _ => ⟨fun z => absurd z (by decide), fun _ => ⟨fun z => absurd z (by decide), fun _ => ⟨fun z => absurd z (by decide), fun _ => ⟨fun z => absurd z (by decide), fun _ => ⟨fun z => absurd z (by decide), fun _ => ⟨fun z => absurd z (by decide), fun _ => ⟨fun z => absurd z (by decide), fun _ => ⟨fun z => absurd z (by decide), fun _ => ⟨fun _ => leftBy_s a1 a2 hwf.1 sg (N := fun w => m (10 + w)) (F := fun w => m (15 + w)) (fun w hw => ⟨(ml.2.2.2.2.2 w (by omega)).2.1, (ml.2.2.2.2.2 w (by omega)).2.2⟩) (fun w hw => ⟨by have := (hwf.2.2.2.2.2 w hw).2.1; (try dsimp only); omega, by have := (hwf.2.2.2.2.2 w hw).2.2.1; (try dsimp only); omega, fun q => ((hwf.2.2.2.2.2 w hw).2.2.2 q).2⟩) rfl rfl (by omega) (by omega) (fun k _ => hsm k) (fun g2 s2 _ => ⟨rfl, hR.sc s2⟩), fun z => absurd rfl z⟩⟩⟩⟩⟩⟩⟩⟩⟩⟩⟩, fun z => absurd rfl z⟩
      unfold wp_Fe_told
      exact ⟨fun z => absurd z (by decide), fun _ => ⟨fun z => absurd z (by decide), fun _ => ⟨fun z => absurd z (by decide), fun _ => ⟨fun z => absurd z (by decide), fun _ => ⟨fun z => absurd z (by decide), fun _ => ⟨fun z => absurd z (by decide), fun _ => ⟨fun z => absurd z (by decide), fun _ => ⟨fun z => absurd z (by decide), fun _ => ⟨fun z => absurd z (by decide), fun _ => ⟨fun z => absurd z (by decide), fun _ => ⟨fun _ => countLeft_s a1 a2 (fun k _ => hsm k) mo, fun z => absurd rfl z⟩⟩⟩⟩⟩⟩⟩⟩⟩⟩⟩
    · have mo : ∀ v : Int32, v = h.1 7 11 → wp_Md_told (nI 11) h (fun v2 h2 => v = v2 ∧ Rel h2) := fun v hv => by
        unfold wp_Md_told
        rw [hin]
        exact ⟨fun _ => ⟨fun z => absurd z (by decide), fun _ => ⟨fun z => absurd z (by decide), fun _ => ⟨fun z => absurd z (by decide), fun _ => ⟨fun z => absurd z (by decide), fun _ => ⟨fun z => absurd z (by decide), fun _ => ⟨fun z => absurd z (by decide), fun _ => ⟨fun z => absurd z (by decide), fun _ => ⟨fun z => absurd z (by decide), fun _ => ⟨fun z => absurd z (by decide), fun _ => ⟨fun z => absurd z (by decide), fun _ => ⟨fun z => absurd z (by decide), fun _ => ⟨fun _ => ⟨hv, hR⟩, fun z => absurd rfl z⟩⟩⟩⟩⟩⟩⟩⟩⟩⟩⟩⟩, fun z => absurd rfl z⟩
      unfold wp_Fe_told
      exact ⟨fun z => absurd z (by decide), fun _ => ⟨fun z => absurd z (by decide), fun _ => ⟨fun z => absurd z (by decide), fun _ => ⟨fun z => absurd z (by decide), fun _ => ⟨fun z => absurd z (by decide), fun _ => ⟨fun z => absurd z (by decide), fun _ => ⟨fun z => absurd z (by decide), fun _ => ⟨fun z => absurd z (by decide), fun _ => ⟨fun z => absurd z (by decide), fun _ => ⟨fun z => absurd z (by decide), fun _ => ⟨fun z => absurd z (by decide), fun _ => ⟨fun _ => mo _ (by obtain ⟨sc, _, t1, t2, _⟩ := a6; rw [t1, t2]), fun z => absurd rfl z⟩⟩⟩⟩⟩⟩⟩⟩⟩⟩⟩⟩
    · have mo : ∀ v : Int32, v = h.1 7 13 → wp_Md_told (nI 12) h (fun v2 h2 => v = v2 ∧ Rel h2) := fun v hv => by
        unfold wp_Md_told
        rw [hin]
        exact ⟨fun _ => ⟨fun z => absurd z (by decide), fun _ => ⟨fun z => absurd z (by decide), fun _ => ⟨fun z => absurd z (by decide), fun _ => ⟨fun z => absurd z (by decide), fun _ => ⟨fun z => absurd z (by decide), fun _ => ⟨fun z => absurd z (by decide), fun _ => ⟨fun z => absurd z (by decide), fun _ => ⟨fun z => absurd z (by decide), fun _ => ⟨fun z => absurd z (by decide), fun _ => ⟨fun z => absurd z (by decide), fun _ => ⟨fun z => absurd z (by decide), fun _ => ⟨fun z => absurd z (by decide), fun _ => ⟨fun _ => ⟨hv, hR⟩, fun z => absurd rfl z⟩⟩⟩⟩⟩⟩⟩⟩⟩⟩⟩⟩⟩, fun z => absurd rfl z⟩
      unfold wp_Fe_told
      exact ⟨fun z => absurd z (by decide), fun _ => ⟨fun z => absurd z (by decide), fun _ => ⟨fun z => absurd z (by decide), fun _ => ⟨fun z => absurd z (by decide), fun _ => ⟨fun z => absurd z (by decide), fun _ => ⟨fun z => absurd z (by decide), fun _ => ⟨fun z => absurd z (by decide), fun _ => ⟨fun z => absurd z (by decide), fun _ => ⟨fun z => absurd z (by decide), fun _ => ⟨fun z => absurd z (by decide), fun _ => ⟨fun z => absurd z (by decide), fun _ => ⟨fun z => absurd z (by decide), fun _ => ⟨fun _ => mo _ (by obtain ⟨sc, _, t1, t2, _⟩ := a7; rw [t1, t2]), fun z => absurd rfl z⟩⟩⟩⟩⟩⟩⟩⟩⟩⟩⟩⟩⟩
    · have mo : ∀ v : Int32, v = h.1 7 28 → wp_Md_told (nI 13) h (fun v2 h2 => v = v2 ∧ Rel h2) := fun v hv => by
        unfold wp_Md_told
        rw [hin]
        exact ⟨fun _ => ⟨fun z => absurd z (by decide), fun _ => ⟨fun z => absurd z (by decide), fun _ => ⟨fun z => absurd z (by decide), fun _ => ⟨fun z => absurd z (by decide), fun _ => ⟨fun z => absurd z (by decide), fun _ => ⟨fun z => absurd z (by decide), fun _ => ⟨fun z => absurd z (by decide), fun _ => ⟨fun z => absurd z (by decide), fun _ => ⟨fun z => absurd z (by decide), fun _ => ⟨fun z => absurd z (by decide), fun _ => ⟨fun z => absurd z (by decide), fun _ => ⟨fun z => absurd z (by decide), fun _ => ⟨fun z => absurd z (by decide), fun _ => ⟨hv, hR⟩⟩⟩⟩⟩⟩⟩⟩⟩⟩⟩⟩⟩⟩, fun z => absurd rfl z⟩
      unfold wp_Fe_told
      exact ⟨fun z => absurd z (by decide), fun _ => ⟨fun z => absurd z (by decide), fun _ => ⟨fun z => absurd z (by decide), fun _ => ⟨fun z => absurd z (by decide), fun _ => ⟨fun z => absurd z (by decide), fun _ => ⟨fun z => absurd z (by decide), fun _ => ⟨fun z => absurd z (by decide), fun _ => ⟨fun z => absurd z (by decide), fun _ => ⟨fun z => absurd z (by decide), fun _ => ⟨fun z => absurd z (by decide), fun _ => ⟨fun z => absurd z (by decide), fun _ => ⟨fun z => absurd z (by decide), fun _ => ⟨fun z => absurd z (by decide), fun _ => ⟨fun _ => mo _ (by obtain ⟨uc, nx, un, _, _, t1, t2, _⟩ := a3; rw [t1, t2]), fun z => absurd rfl z⟩⟩⟩⟩⟩⟩⟩⟩⟩⟩⟩⟩⟩⟩
  · have mo : wp_Md_told p0 h (fun v2 h2 => (-1000000002 : Int32) = v2 ∧ Rel h2) := by
      unfold wp_Md_told
      have hno := vld_no (n := 14) (by omega) hv
      rw [in_f (hno.imp id (fun z => lt14 z))]
      exact ⟨fun z => absurd z (by decide), fun _ => ⟨rfl, hR⟩⟩
    unfold wp_Fe_told
    exact ⟨fun z => absurd ⟨0, by omega, z⟩ hv, fun _ => ⟨fun z => absurd ⟨1, by omega, z⟩ hv, fun _ => ⟨fun z => absurd ⟨2, by omega, z⟩ hv, fun _ => ⟨fun z => absurd ⟨3, by omega, z⟩ hv, fun _ => ⟨fun z => absurd ⟨4, by omega, z⟩ hv, fun _ => ⟨fun z => absurd ⟨5, by omega, z⟩ hv, fun _ => ⟨fun z => absurd ⟨6, by omega, z⟩ hv, fun _ => ⟨fun z => absurd ⟨7, by omega, z⟩ hv, fun _ => ⟨fun z => absurd ⟨8, by omega, z⟩ hv, fun _ => ⟨fun z => absurd ⟨9, by omega, z⟩ hv, fun _ => ⟨fun z => absurd ⟨10, by omega, z⟩ hv, fun _ => ⟨fun z => absurd ⟨11, by omega, z⟩ hv, fun _ => ⟨fun z => absurd ⟨12, by omega, z⟩ hv, fun _ => ⟨fun z => absurd ⟨13, by omega, z⟩ hv, fun _ => mo⟩⟩⟩⟩⟩⟩⟩⟩⟩⟩⟩⟩⟩⟩
end
