section
theorem bestQ_s {n sc : Nat} {o m : Nat → Nat} {h : Hp} (a1 : R1 n o h) (a2 : R2 n m h) {Q : Nat → Nat → Nat} {ft : Nat → Bool} {rb : Nat → Nat → Nat → Bool} (hctx : Ctx n m h sc Q ft rb) {P : Int32 → Hp → Prop} (K : ∀ h2 : Hp, Sc h h2 → P (bo n (gc ft (fc n)) (gr ft rb (fc n)) n 0 (-1, gc ft (fc n))).1 h2) : wp_Fe_bestQuestion h P := by
  obtain ⟨hsc8, h08, h711, hQ, hft, hrb⟩ := hctx
  have hn := a1.2.2.1
  have h1 := a1.2.2.2.1
  have hfc : fc n ≤ 120 := fc_le
  have hwf := a2.2.2
  have hp := hwf.1
  have hT : m 4 < 2 ^ 31 := Nat.lt_of_lt_of_le hwf.2.2.2.2.1.1 (by omega)
  have ht : m 1 < 2 ^ 31 := Nat.lt_of_le_of_lt hwf.2.1 (by omega)
  have hK : ∀ w, w < 5 → (fun w => m (5 + w)) w < 4 := fun w hw => (hwf.2.2.2.2.2 w hw).1
  have lp : ∀ (j k : Nat) (g : Hp), k + j = fc n → Sc h g → LD g sc (fun w => m (5 + w)) (m 4) Q → hl g 72 (oL n k) → GF n ft (om n) k g → (∀ a b, a < b → b < n → g.1 75 (5 * a + b) = nI (gr ft rb k a b)) → (∃ f, row g 54 f ∧ PR (El (fun w => m (5 + w)) (m 4) (fun w => m (10 + w)) (fun w => m (15 + w))) f) → lp_Fe_bestQuestion_78 (j + 1) (nI (pset (fun w => m (5 + w)) (m 1))) (nI (fc n)) (nI k) g (fun h78x => wp_Guess_bestPair (h78x.1 0 1) h78x (fun v174 => P v174 h78x)) := by
    intro j
    induction j with
    | zero =>
      intro k g hk s1 l1 o1 g1 r1 f1
      have e : k = fc n := by omega
      subst e
      unfold lp_Fe_bestQuestion_78
      refine ⟨fun _ => ?_, fun z => absurd (nI_le (by omega) (by omega)) z⟩
      (try dsimp only)
      rw [s1.2 0 1 rfl, a1.1]
      exact best_s hn (by have := gc_le (ft := ft) (fc n); omega) (fun a b => gr_le _) g1.1 r1 (K g s1)
    | succ j ih =>
      intro k g hk s1 l1 o1 g1 r1 f1
      have hk' : k < fc n := by omega
      have h2n := fc2 hn h1 hk'
      have oo := orders h2n hn k hk'
      unfold lp_Fe_bestQuestion_78
      dsimp only [jn, lt]
      refine ⟨fun z => absurd z (nI_ge (by omega) (by omega)), fun _ => fitsAll_s a1 a2 hsc8 h08 hQ s1 l1 o1 oo.1 (fun v g2 hv s2 e2 => ?_)⟩
      have ev : v = ft k := iff_b hv (hft k)
      obtain ⟨f, f2, f3⟩ := f1
      have fin : ∀ g3 : Hp, Sc h g3 → (∀ c, 28 < c → c < 55 → g3.1 c = g2.1 c) → g3.1 72 = g2.1 72 → GF n ft (om n) (k + 1) g3 → (∀ a b, a < b → b < n → g3.1 75 (5 * a + b) = nI (gr ft rb (k + 1) a b)) → wp_Orders_advance (g3.1 0 1) g3 (fun (h63 : Hp) => lp_Fe_bestQuestion_78 (j + 1) (nI (pset (fun w => m (5 + w)) (m 1))) (nI (fc n)) (nI k + 1) h63 (fun h78x => wp_Guess_bestPair (h78x.1 0 1) h78x (fun v174 => P v174 h78x))) := fun g3 s3 e3 e72 gf3 gr3 => by
        rw [s3.2 0 1 rfl, a1.1, nI_1]
        refine advance_s (L := oL n k) (o1.keep (by rw [e72, e2 72 (by omega)])) h2n hn (fun f' hf => ih (k + 1) _ (by omega) (s3.sr (fun _ => rfl)) (l1.keep hsc8 (fun c c1 c2 c3 => by rw [sr_ne (by omega), e3 c c1 c2, e2 c (by omega)])) hf (gf3.keep (sr_ne (by omega)) (sr_ne (by omega)) (sr_ne (by omega))) (fun a b q1 q2 => by rw [sr_ne (by omega)]; exact gr3 a b q1 q2) ⟨f, fun x hx => by rw [sr_ne (by omega), e3 54 (by omega) (by omega), e2 54 (by omega)]; exact f2 x hx, f3⟩)
      have gk : GF n ft (om n) k g2 := g1.keep (e2 5 (by omega)) (e2 73 (by omega)) (e2 74 (by omega))
      refine ⟨fun z => fin g2 s2 (fun _ _ _ => rfl) rfl (GF_no gk (by rw [← ev]; exact z)) (fun a b q1 q2 => by rw [e2 75 (by omega), gr, if_neg (fun y => z (by rw [ev]; exact y.1))]; exact r1 a b q1 q2), fun z => ?_⟩
      have hfk : ft k = true := by rw [← ev]; exact z
      rw [s2.2 0 1 rfl, a1.1]
      refine join_s (r := 45) (o := om n k) (by omega) (by omega) (by omega) rfl hn (fun e he => ⟨oo.1 e he, by rw [e2 72 (by omega)]; exact o1.2.1 e (by omega)⟩) (Nat.lt_trans (pset_lt _ _) (by omega)) f3 (fun x hx => by rw [e2 (45 + 9) (by omega)]; exact f2 x hx) (fun G gg e4 e5 => ?_)
      have s4 : Sc h (sr g2 (45 + 18) G) := s2.sr (fun _ => rfl)
      rw [s4.2 0 1 rfl, a1.1]
      refine add_F hn (M := fc n) (by omega) (fun k hk e he => by have := om_lt hn h1 k hk e he; omega) hk' hfk (gk.keep (sr_ne (by omega)) (sr_ne (by omega)) (sr_ne (by omega))) (fun e he => by rw [sr_ne (by omega), e2 72 (by omega)]; exact o1.2.1 e (by omega)) (fun g3 e3 e3' gf3 => ?_)
      have s5 : Sc h g3 := s4.ex (fun c => by
        by_cases c1 : c = 5
        · right; rw [c1]; exact fun _ => rfl
        · by_cases c2 : c = 73
          · right; rw [c2]; exact fun _ => rfl
          · by_cases c3 : c = 74
            · right; rw [c3]; exact fun _ => rfl
            · left; exact e3 c c1 c2 c3) e3'
      have b2 := a2.sc s5
      rw [s5.2 0 1 rfl, a1.1, b2.1.2.2.2.2.1]
      refine hear_s (k := k) (ft := ft) (rb := rb) (f := gg) hn hp (by omega) hfk e5 (fun a b q1 q2 => hrb k hk' a b q1 q2) (fun x hx => by rw [e3 63 (by omega) (by omega) (by omega), sr_eq]; exact e4 x hx) (fun a b q1 q2 => by rw [e3 75 (by omega) (by omega) (by omega), sr_ne (by omega), e2 75 (by omega)]; exact r1 a b q1 q2) (fun g6 e6 e6' r6 => ?_)
      refine fin g6 (s5.ex (fun c => ?_) e6') (fun c c1 c2 => by rw [e6 c (by omega), e3 c (by omega) (by omega) (by omega), sr_ne (by omega)]) (by rw [e6 72 (by omega), e3 72 (by omega) (by omega) (by omega), sr_ne (by omega)]) (gf3.keep (e6 5 (by omega)) (e6 73 (by omega)) (e6 74 (by omega))) r6
      by_cases c1 : c = 75
      · right; rw [c1]; exact fun _ => rfl
      · left; exact e6 c c1
  unfold wp_Fe_bestQuestion
  refine clear_F (fun g e1 e2 e3 e4 e5 => ?_)
  have sg : Sc h g := (Sc.refl h).ex (fun c => by
    by_cases c1 : c = 5
    · right; rw [c1]; exact fun _ => rfl
    · by_cases c2 : c = 73
      · right; rw [c2]; exact fun _ => rfl
      · by_cases c3 : c = 74
        · right; rw [c3]; exact fun _ => rfl
        · by_cases c4 : c = 75
          · right; rw [c4]; exact fun _ => rfl
          · left; exact e1 c c1 c2 c3 c4) e2
  refine layAll_s a1 a2 hsc8 h08 hQ sg (fun g2 s2 e6 l2 => ?_)
  obtain ⟨t0, t1, t2, t3, t4, t5, t6, t7⟩ := (a2.sc s2).1
  rw [t0, t1, t2, t3]
  refine lay_s (r := 45) (by omega) hT (fun w hw => Nat.lt_trans (hK w hw) (by omega)) (fun w hw => by have := (hwf.2.2.2.2.2 w hw).2.1; (try dsimp only); omega) (fun w hw => by have := (hwf.2.2.2.2.2 w hw).2.2.1; (try dsimp only); omega) (fun G f e7 e8 => ?_)
  rw [sr_ne (show 26 ≠ 45 + 9 by omega), t0, t5]
  refine passing_s hK ht (start_s (n := n) (fun f' hf => ?_))
  refine countOrders_s (n := n) (by rw [sr_ne (by omega), sr_ne (by omega), s2.2 0 1 rfl]; exact a1.1) hn h1 ⟨_, lp (fc n) 0 _ (by omega) ((s2.sr (fun _ => rfl)).sr (fun _ => rfl)) (l2.keep hsc8 (fun c c1 c2 c3 => by rw [sr_ne (by omega), sr_ne (by omega)])) hf ⟨?_, fun e he => ?_⟩ (fun a b q1 q2 => ?_) ⟨f, fun x hx => ?_, e8⟩⟩
  · rw [sr_ne (by omega), sr_ne (by omega), e6 5 (by omega)]; exact e3
  · rw [sr_ne (by omega), sr_ne (by omega), sr_ne (by omega), sr_ne (by omega), e6 73 (by omega), e6 74 (by omega)]; exact e4 e (by omega)
  · rw [sr_ne (by omega), sr_ne (by omega), e6 75 (by omega)]; exact e5 (5 * a + b) (by omega)
  · rw [sr_ne (by omega), sr_eq]; exact e7 x hx
theorem askPair_s {n sc : Nat} {o m : Nat → Nat} {h0 h : Hp} (a1 : R1 n o h0) (a2 : R2 n m h0) {Q : Nat → Nat → Nat} {ft : Nat → Bool} {rb : Nat → Nat → Nat → Bool} (hctx : Ctx n m h0 sc Q ft rb) (hs : Sc h0 h) {P : Int32 → Hp → Prop} (K : ∀ h2 : Hp, Sc h0 h2 → P (bo n (gc ft (fc n)) (gr ft rb (fc n)) n 0 (-1, gc ft (fc n))).1 h2) : wp_Md_askPair h P := by
  obtain ⟨hsc8, h08, h711, hQ, hft, hrb⟩ := hctx
  have hn := a1.2.2.1
  have hfc : fc n ≤ 120 := fc_le
  unfold wp_Md_askPair
  refine setCould_s a1 a2 hsc8 h711 hQ hft hrb hs (fun g s1 gm => ?_)
  dsimp only [lt]
  exact ask_s (r := gr ft rb (fc n)) hn (by have := gc_le (ft := ft) (fc n); omega) (fun a b => gr_le _) (by rw [s1.2 7 0 rfl]; exact a1.2.1) gm.1 gm.2.2 (K g s1)
end
