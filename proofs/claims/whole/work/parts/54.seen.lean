section
def SQ (n : Nat) (h : Hp) (k : Nat) (q : Nat → Nat) : Prop := (q 0 ≤ 1 ∧ q 1 ≤ 9060 ∧ q 2 < n ∧ bnd n (q 0) (h.1 81 (14 * k + 3)) (q 3) ∧ q 4 ≤ 1) ∧ (∀ w, w < 5 → q (5 + w) < 4 ∧ q (10 + w) < 4 ∧ (n ≤ w → q (5 + w) = 0 ∧ q (10 + w) = 0)) ∧
  (h.1 (29 + k) 0 = nI (pk fun w => q (5 + w)) ∧ h.1 (29 + k) 1 = nI (pk fun w => q (10 + w)) ∧ h.1 (29 + k) 2 = nI (q 1) ∧ h.1 (29 + k) 3 = nI (5 * q 0 + q 2) ∧ h.1 (29 + k) 4 = nI (q 3) ∧ h.1 (29 + k) 5 = nI (q 4)) ∧
  (h.1 81 (14 * k) = nI (q 0) ∧ h.1 81 (14 * k + 1) = nI (q 1) ∧ h.1 81 (14 * k + 2) = nI (q 2) ∧ h.1 81 (14 * k + 4) = nI (q 4) ∧ ∀ w, w < 5 → h.1 81 (14 * k + 5 + w) = nI (q (5 + w)) ∧ h.1 92 (14 * k + 5 + w) = nI (q (10 + w)))
theorem SN_SQ {n : Nat} {h : Hp} {k : Nat} (a : SN n h k) : ∃ q, SQ n h k q := by
  obtain ⟨p, hr, a, b, rg, N, F, h1, h2, h3, h4, h5, h6, ⟨c0, c1, c2, c3, c4, c5⟩, ⟨m0, m1, m2, m4, mw⟩⟩ := a
  obtain ⟨q, hq⟩ : ∃ q : Nat → Nat, q = fun i => if i = 0 then p else if i = 1 then hr else if i = 2 then a else if i = 3 then b else if i = 4 then rg else if i < 10 then N (i - 5) else F (i - 10) := ⟨_, rfl⟩
  have q0 : q 0 = p := by rw [hq]; rfl
  have q1 : q 1 = hr := by rw [hq]; rfl
  have q2 : q 2 = a := by rw [hq]; rfl
  have q3 : q 3 = b := by rw [hq]; rfl
  have q4 : q 4 = rg := by rw [hq]; rfl
  have q5 : ∀ w, w < 5 → q (5 + w) = N w := fun w hw => by
    rw [hq]
    dsimp only
    rw [if_neg (by omega), if_neg (by omega), if_neg (by omega), if_neg (by omega), if_neg (by omega), if_pos (by omega), Nat.add_sub_cancel_left]
  have q10 : ∀ w, w < 5 → q (10 + w) = F w := fun w hw => by
    rw [hq]
    dsimp only
    rw [if_neg (by omega), if_neg (by omega), if_neg (by omega), if_neg (by omega), if_neg (by omega), if_neg (by omega), Nat.add_sub_cancel_left]
  refine ⟨q, ⟨by omega, by omega, by omega, ?_, by omega⟩, fun w hw => by rw [q5 w hw, q10 w hw]; exact h6 w hw, ⟨by rw [c0, pack_cg q5], by rw [c1, pack_cg q10], by rw [c2, q1], by rw [c3, q0, q2], by rw [c4, q3], by rw [c5, q4]⟩, ⟨by rw [m0, q0], by rw [m1, q1], by rw [m2, q2], by rw [m4, q4], fun w hw => by rw [q5 w hw, q10 w hw]; exact mw w hw⟩⟩
  rw [q0, q3]
  rcases h4 with ⟨e1, e2⟩ | ⟨c, e1, e2, _, e3⟩
  · exact Or.inl ⟨e2, e1⟩
  · exact Or.inr ⟨c, e2, e3, e1⟩
theorem SQ.sc {n : Nat} {h g : Hp} {k : Nat} {q : Nat → Nat} (a : SQ n h k q) (hk : k < 8) (s : Sc h g) : SQ n g k q := by
  have e : ∀ j, j < 6 → g.1 (29 + k) j = h.1 (29 + k) j := fun j hj => s.2 (29 + k) j (by
    unfold scr
    simp only [Bool.or_eq_false_iff, Bool.and_eq_false_iff, beq_eq_false_iff_ne, decide_eq_false_iff_not]
    omega)
  have e81 : g.1 81 = h.1 81 := s.cell (fun _ => rfl)
  have e92 : g.1 92 = h.1 92 := s.cell (fun _ => rfl)
  unfold SQ at *
  rw [e 0 (by omega), e 1 (by omega), e 2 (by omega), e 3 (by omega), e 4 (by omega), e 5 (by omega), e81, e92]
  exact a
def LD (h : Hp) (sc : Nat) (K : Nat → Nat) (T : Nat) (Q : Nat → Nat → Nat) : Prop := ∀ k, k < sc → (∃ f, row h (46 + k) f ∧ PR (El K T (fun w => Q k (5 + w)) (fun w => Q k (10 + w))) f) ∧ h.1 (29 + k) 6 = nI (pset K (Q k 1))
def FT (n : Nat) (o : Nat → Nat) (K : Nat → Nat) (T : Nat) (Q : Nat → Nat → Nat) (k : Nat) : Prop := Con (NR n o (Q k 1) K T (fun w => Q k (5 + w)) (fun w => Q k (10 + w))) (5 * Q k 0 + Q k 2) (Q k 3) ↔ Q k 4 = 1
theorem scr46 {k j : Nat} (hk : k < 8) : scr (46 + k) j = true := by
  unfold scr
  have h1 : (decide (37 ≤ 46 + k)) = true := by simp; omega
  have h2 : (decide (46 + k ≤ 63)) = true := by simp; omega
  simp [h1, h2]
theorem scr55 {k j : Nat} (hk : k < 8) : scr (55 + k) j = true := by
  unfold scr
  have h1 : (decide (37 ≤ 55 + k)) = true := by simp; omega
  have h2 : (decide (55 + k ≤ 63)) = true := by simp; omega
  simp [h1, h2]
theorem scr29 {k : Nat} (hk : k < 8) : scr (29 + k) 6 = true := by
  unfold scr
  have h1 : (decide (29 ≤ 29 + k)) = true := by simp
  have h2 : (decide (29 + k ≤ 36)) = true := by simp; omega
  simp [h1, h2]
theorem layAll_s {n sc : Nat} {o m : Nat → Nat} {h0 : Hp} (a1 : R1 n o h0) (a2 : R2 n m h0) (hsc8 : sc ≤ 8) (h08 : h0.1 0 8 = nI sc) {Q : Nat → Nat → Nat} (hQ : ∀ k, k < sc → SQ n h0 k (Q k)) {h : Hp} (hs : Sc h0 h) {P : Hp → Prop} (k : ∀ h2 : Hp, Sc h0 h2 → (∀ c, c < 29 ∨ (36 < c ∧ c < 46) ∨ 53 < c → h2.1 c = h.1 c) → LD h2 sc (fun w => m (5 + w)) (m 4) Q → P h2) : wp_Fe_layAllSeen h P := by
  have hwf := a2.2.2
  have hT : m 4 < 2 ^ 31 := Nat.lt_of_lt_of_le hwf.2.2.2.2.1.1 (by omega)
  have hK : ∀ w, w < 5 → (fun w => m (5 + w)) w < 4 := fun w hw => (hwf.2.2.2.2.2 w hw).1
  have lp : ∀ (j i : Nat) (h2 : Hp), i + j = sc → Sc h0 h2 → (∀ c, c < 29 ∨ (36 < c ∧ c < 46) ∨ 53 < c → h2.1 c = h.1 c) → LD h2 i (fun w => m (5 + w)) (m 4) Q → lp_Fe_layAllSeen_2 (j + 1) (nI i) h2 P := by
    intro j
    induction j with
    | zero =>
      intro i h2 hi s2 e2 l2
      have e : i = sc := by omega
      subst e
      unfold lp_Fe_layAllSeen_2
      rw [s2.2 0 8 rfl, h08]
      exact ⟨fun _ => k h2 s2 e2 l2, fun z => absurd (nI_le (by omega) (by omega)) z⟩
    | succ j ih =>
      intro i h2 hi s2 e2 l2
      have b2 := a2.sc s2
      have bq := (hQ i (by omega)).sc (by omega) s2
      obtain ⟨⟨r0, r1, r2, r3, r4⟩, rw5, ⟨c0, c1, c2, c3, c4, c5⟩, _⟩ := id bq
      unfold lp_Fe_layAllSeen_2
      dsimp only [lt]
      rw [s2.2 0 8 rfl, h08, nI_1, cl_nI (n := i) (by omega), b2.1.1, b2.1.2.1]
      refine ⟨fun z => absurd z (nI_ge (by omega) (by omega)), fun _ => ⟨fun z => absurd z (nI_ge (b := 8) (by omega) (by omega)), fun _ => ⟨vp_in_nI (by omega) (by omega), ?_⟩⟩⟩
      unfold wp_Seen_lay
      dsimp only [lt]
      rw [c0, c1]
      refine lay_s (r := 29 + i + 8) (by omega) hT (fun w hw => Nat.lt_trans (hK w hw) (by omega)) (fun w hw => by have := (rw5 w hw).1; (try dsimp only); omega) (fun w hw => by have := (rw5 w hw).2.1; (try dsimp only); omega) (fun G g e1 e3 => ?_)
      rw [show 29 + i + 8 + 9 = 46 + i by omega, sr_ne (by omega), c2]
      refine passing_s hK (by omega) ?_
      refine ih (i + 1) _ (by omega) ((s2.sr (fun j => scr46 (by omega))).wi (scr29 (by omega))) (fun c hc => by rw [wi_ne (by omega), sr_ne (by omega)]; exact e2 c hc) (fun q hq => ?_)
      by_cases eq : q = i
      · subst eq
        refine ⟨⟨g, fun x hx => by rw [wi_ne (by omega), sr_eq]; exact e1 x hx, e3⟩, by rw [wi_eq, pk_us]⟩
      · obtain ⟨⟨f, f1, f2⟩, f3⟩ := l2 q (by omega)
        exact ⟨⟨f, fun x hx => by rw [wi_ne (by omega), sr_ne (by omega)]; exact f1 x hx, f2⟩, by rw [wi_ne (by omega), sr_ne (by omega)]; exact f3⟩
  unfold wp_Fe_layAllSeen
  exact ⟨_, lp sc 0 h (by omega) hs (fun _ _ => rfl) (fun q hq => by omega)⟩
theorem fitsAll_s {n sc : Nat} {o m : Nat → Nat} {h0 : Hp} (a1 : R1 n o h0) (a2 : R2 n m h0) (hsc8 : sc ≤ 8) (h08 : h0.1 0 8 = nI sc) {Q : Nat → Nat → Nat} (hQ : ∀ k, k < sc → SQ n h0 k (Q k)) {h : Hp} (hs : Sc h0 h) (hld : LD h sc (fun w => m (5 + w)) (m 4) Q) {L : List Nat} (hL : hl h 72 L) (hLn : ∀ e, e < n → gt L e < n) {P : Bool → Hp → Prop} (k : ∀ (v : Bool) (h2 : Hp), (v = true ↔ ∀ k, k < sc → FT n (gt L) (fun w => m (5 + w)) (m 4) Q k) → Sc h0 h2 → (∀ c, c < 55 ∨ 62 < c → h2.1 c = h.1 c) → P v h2) : wp_Fe_fitsAllSeen h P := by
  have hn := a1.2.2.1
  have lp : ∀ (j i : Nat) (h2 : Hp), i + j = sc → Sc h0 h2 → (∀ c, c < 55 ∨ 62 < c → h2.1 c = h.1 c) → (∀ k, k < i → FT n (gt L) (fun w => m (5 + w)) (m 4) Q k) → lp_Fe_fitsAllSeen_2 (j + 1) (nI i) h2 (fun (h2x : Hp) => P true h2x) P := by
    intro j
    induction j with
    | zero =>
      intro i h2 hi s2 e2 l2
      have e : i = sc := by omega
      subst e
      unfold lp_Fe_fitsAllSeen_2
      rw [s2.2 0 8 rfl, h08]
      exact ⟨fun _ => k true h2 ⟨fun _ => l2, fun _ => rfl⟩ s2 e2, fun z => absurd (nI_le (by omega) (by omega)) z⟩
    | succ j ih =>
      intro i h2 hi s2 e2 l2
      have bq := (hQ i (by omega)).sc (by omega) s2
      obtain ⟨⟨r0, r1, r2, r3, r4⟩, rw5, ⟨c0, c1, c2, c3, c4, c5⟩, _⟩ := id bq
      obtain ⟨⟨f, f1, f2⟩, f3⟩ := hld i (by omega)
      have hj := bnd_lt hn r0 r3
      unfold lp_Fe_fitsAllSeen_2
      dsimp only [lt]
      rw [s2.2 0 8 rfl, h08, nI_1, cl_nI (n := i) (by omega), s2.2 0 1 rfl, a1.1]
      refine ⟨fun z => absurd z (nI_ge (by omega) (by omega)), fun _ => ⟨fun z => absurd z (nI_ge (b := 8) (by omega) (by omega)), fun _ => ⟨vp_in_nI (by omega) (by omega), ?_⟩⟩⟩
      unfold wp_Seen_fits
      rw [e2 (29 + i) (by omega), f3]
      refine join_s (r := 29 + i + 8) (o := gt L) (by omega) (by omega) (by omega) rfl hn (fun e he => ⟨hLn e he, by rw [e2 72 (by omega)]; exact hL.2.1 e (by omega)⟩) (Nat.lt_trans (pset_lt _ _) (by omega)) f2 (fun x hx => by rw [show 29 + i + 8 + 9 = 46 + i by omega, e2 (46 + i) (by omega)]; exact f1 x hx) (fun G g e1 e3 => ?_)
      rw [show 29 + i + 8 + 18 = 55 + i by omega]
      have s3 : Sc h0 (sr h2 (55 + i) G) := s2.sr (fun j => scr55 (by omega))
      have e4 : ∀ c, c < 55 ∨ 62 < c → (sr h2 (55 + i) G).1 c = h.1 c := fun c hc => by rw [sr_ne (by omega)]; exact e2 c hc
      rw [sr_ne (show 29 + i ≠ 55 + i by omega), c3, c4, c5]
      refine areJoined_s (r := 29 + i + 8) (g := g) (fun x hx => by rw [show 29 + i + 8 + 18 = 55 + i by omega, sr_eq]; exact e1 x hx) e3 (by omega) hj (fun v hv => ?_)
      have key : bI v = nI (Q i 4) ↔ FT n (gt L) (fun w => m (5 + w)) (m 4) Q i := by
        unfold FT
        rw [show Con (NR n (gt L) (Q i 1) (fun w => m (5 + w)) (m 4) (fun w => Q i (5 + w)) (fun w => Q i (10 + w))) (5 * Q i 0 + Q i 2) (Q i 3) ↔ v = true from hv.symm]
        rcases (show Q i 4 = 0 ∨ Q i 4 = 1 by omega) with e | e <;> rw [e] <;> cases v <;> decide
      refine ⟨fun z => ⟨fun y => absurd y (by decide), fun _ => k false _ ⟨fun y => absurd y (by decide), fun y => absurd (key.mpr (y i (by omega))) z⟩ s3 e4⟩, fun z => ⟨fun _ => ih (i + 1) _ (by omega) s3 e4 (fun q hq => ?_), fun y => absurd rfl y⟩⟩
      by_cases eq : q = i
      · rw [eq]; exact key.mp z
      · exact l2 q (by omega)
  unfold wp_Fe_fitsAllSeen
  exact ⟨_, lp sc 0 h (by omega) hs (fun _ _ => rfl) (fun q hq => by omega)⟩
theorem couldBe_s {n sc : Nat} {o m : Nat → Nat} {h0 : Hp} (a1 : R1 n o h0) (a2 : R2 n m h0) (hsc8 : sc ≤ 8) (h08 : h0.1 7 11 = nI sc) {Q : Nat → Nat → Nat} (hQ : ∀ k, k < sc → SQ n h0 k (Q k)) {h : Hp} (hs : Sc h0 h) {L : List Nat} (hL : hl h 91 L) (hLn : ∀ e, e < n → gt L e < n) (hLi : ∀ e f, e < n → f < n → gt L e = gt L f → e = f) {P : Bool → Prop} (k : ∀ v : Bool, (v = true ↔ ∀ k, k < sc → FT n (gt L) (fun w => m (5 + w)) (m 4) Q k) → P v) : wp_Md_couldBe h P := by
  have hn := a1.2.2.1
  have c1 := a1.sc hs
  have c2 := a2.sc hs
  have hwf := a2.2.2
  have hml := c2.2.1
  have hT : m 4 < 2 ^ 31 := Nat.lt_of_lt_of_le hwf.2.2.2.2.1.1 (by omega)
  have fin : ∀ v : Bool, (v = true ↔ ∀ k, k < sc → FT n (gt L) (fun w => m (5 + w)) (m 4) Q k) → ((bI v = 0 ∨ bI v = 1) ∧ P (bI v == 1)) := fun v hv => by
    have := k v hv
    cases v
    · exact ⟨Or.inl rfl, this⟩
    · exact ⟨Or.inr rfl, this⟩
  have lp : ∀ (j i : Nat) (v : Bool), i + j = sc → (v = true ↔ ∀ k, k < i → FT n (gt L) (fun w => m (5 + w)) (m 4) Q k) → lp_Md_couldBe_4 (j + 1) (bI v) (nI i) h (fun (w4_1 : Int32) => (w4_1 = 0 ∨ w4_1 = 1) ∧ P (w4_1 == 1)) := by
    intro j
    induction j with
    | zero =>
      intro i v hi l2
      have e : i = sc := by omega
      subst e
      unfold lp_Md_couldBe_4
      rw [hs.2 7 11 rfl, h08]
      exact ⟨fun _ => fin v l2, fun z => absurd (nI_le (by omega) (by omega)) z⟩
    | succ j ih =>
      intro i v hi l2
      have bq := (hQ i (by omega)).sc (by omega) hs
      obtain ⟨⟨r0, r1, r2, r3, r4⟩, rw5, _, ⟨m0, m1, m2, m4, mw⟩⟩ := id bq
      have hj := bnd_lt hn r0 r3
      unfold lp_Md_couldBe_4
      dsimp only [jn, lt]
      have e14 : (14 : Int32) * nI i = nI (14 * i) := pk_mul 14 i
      rw [hs.2 7 11 rfl, h08, nI_1, e14, show nI (14 * i) + (2 : Int32) = nI (14 * i + 2) from nI_add _ 2, show nI (14 * i) + (1 : Int32) = nI (14 * i + 1) from nI_add _ 1, show nI (14 * i) + (3 : Int32) = nI (14 * i + 3) from nI_add _ 3, show nI (14 * i) + (4 : Int32) = nI (14 * i + 4) from nI_add _ 4, show nI (14 * i) + (5 : Int32) = nI (14 * i + 5) from nI_add _ 5, cl_nI (n := 14 * i) (by omega), cl_nI (n := 14 * i + 1) (by omega), cl_nI (n := 14 * i + 2) (by omega), cl_nI (n := 14 * i + 3) (by omega), cl_nI (n := 14 * i + 4) (by omega), m0, m1, m2, m4, eq5 r0, nI_add]
      refine ⟨fun z => absurd z (nI_ge (by omega) (by omega)), fun _ => ⟨fun z => fin v ⟨fun y => absurd z (by rw [y]; decide), fun y => absurd (l2.mpr (fun q hq => y q (by omega))) (fun e => absurd z (by rw [e]; decide))⟩, fun z => ⟨vp_in_nI (by omega) (by omega), vp_in_nI (by omega) (by omega), vp_in_nI (by omega) (by omega), ?_⟩⟩⟩
      have hv : v = true := by cases v
                               · exact absurd rfl z
                               · rfl
      refine joined_s (cut := 0) (K := fun w => m (5 + w)) (N := fun w => Q i (5 + w)) (F := fun w => Q i (10 + w)) (T := m 4) (o := gt L) (n := n) ⟨⟨c1.2.1, hn, hml.2.2.2.2.1, hT, by omega, by omega⟩, ⟨fun e he => ⟨hLn e he, hL.2.1 e (by omega)⟩, hLi, by decide, by decide⟩, fun w hw => ⟨(hml.2.2.2.2.2 w (by omega)).1, (hwf.2.2.2.2.2 w (by omega)).1⟩, fun w hw => ⟨(mw w (by omega)).1, (mw w (by omega)).2, by have := (rw5 w (by omega)).1; (try dsimp only); omega, by have := (rw5 w (by omega)).2.1; (try dsimp only); omega⟩, by show 14 * i + 5 + 5 ≤ 112; omega, by decide, by show 14 * i + 5 + 5 ≤ 112; omega, by decide⟩ (R := NR n (gt L) (Q i 1) (fun w => m (5 + w)) (m 4) (fun w => Q i (5 + w)) (fun w => Q i (10 + w))) (fun S => ?_) (by omega) (fun t ht => ?_)
      · have := cm_cld (cut := 0) (K := fun w => m (5 + w)) (o := gt L) (hr := Q i 1) (N := fun w => Q i (5 + w)) (F := fun w => Q i (10 + w)) hn hLn hwf.2.2.2.2.1 (fun w h1 h2 => by rw [kc0]; have := ((hwf.2.2.2.2.2 w h2).2.2.2 h1).1; (try dsimp only); omega) (fun w hw => ⟨by have := (rw5 w hw).1; (try dsimp only); omega, by have := (rw5 w hw).2.1; (try dsimp only); omega, (rw5 w hw).2.2⟩) S
        rw [kc0] at this
        exact this
      · refine ⟨vp_in_nI (by omega) (by omega), vp_in_nI (by omega) (by omega), bit_b hn r0 r3 (has_s (by have := ht.lt; omega) (by omega) ⟨vp_in_nI (by omega) (by omega), ?_⟩)⟩
        have ev : (t.testBit (Q i 3) = true) ↔ Con (NR n (gt L) (Q i 1) (fun w => m (5 + w)) (m 4) (fun w => Q i (5 + w)) (fun w => Q i (10 + w))) (5 * Q i 0 + Q i 2) (Q i 3) := by
          rw [ht (Q i 3)]
          exact ⟨fun q => q.2, fun q => ⟨hj, q⟩⟩
        generalize t.testBit (Q i 3) = u at ev
        have nx : ∀ u2 : Bool, (u2 = true ↔ FT n (gt L) (fun w => m (5 + w)) (m 4) Q i) → lp_Md_couldBe_4 (j + 1) (bI u2) (nI (i + 1)) h (fun (w4_1 : Int32) => (w4_1 = 0 ∨ w4_1 = 1) ∧ P (w4_1 == 1)) := fun u2 h2 => ih (i + 1) u2 (by omega) (by
          rw [h2]
          constructor
          · intro y q hq
            by_cases eq : q = i
            · rw [eq]; exact y
            · exact (l2.mp hv) q (by omega)
          · intro y
            exact y i (by omega))
        have key : (u = (Q i 4 == 1)) ↔ FT n (gt L) (fun w => m (5 + w)) (m 4) Q i := by
          unfold FT
          rw [show Con (NR n (gt L) (Q i 1) (fun w => m (5 + w)) (m 4) (fun w => Q i (5 + w)) (fun w => Q i (10 + w))) (5 * Q i 0 + Q i 2) (Q i 3) ↔ u = true from ev.symm]
          rcases (show Q i 4 = 0 ∨ Q i 4 = 1 by omega) with e | e <;> rw [e] <;> cases u <;> decide
        rcases (show Q i 4 = 0 ∨ Q i 4 = 1 by omega) with e | e
        · rw [e] at key ⊢
          refine ⟨fun _ => ⟨fun y => nx false ⟨fun x => absurd x (by decide), fun x => absurd (key.mpr x) (fun w => y (by rw [w]; rfl))⟩, fun y => nx true ⟨fun _ => key.mp ?_, fun _ => rfl⟩⟩, fun y => absurd y (by decide)⟩
          cases u
          · rfl
          · exact absurd y (by decide)
        · rw [e] at key ⊢
          refine ⟨fun y => absurd rfl y, fun _ => ⟨fun y => nx false ⟨fun x => absurd x (by decide), fun x => absurd (key.mpr x) (fun w => y (by rw [w]; rfl))⟩, fun y => nx true ⟨fun _ => key.mp ?_, fun _ => rfl⟩⟩⟩
          cases u
          · exact absurd y (by decide)
          · rfl
  unfold wp_Md_couldBe
  exact ⟨_, lp sc 0 true (by omega) ⟨fun _ q hq => by omega, fun _ => rfl⟩⟩
end
