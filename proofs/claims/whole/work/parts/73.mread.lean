section
/-! the reading, second -/
theorem fig_m {t : Nat → Nat} {tc i : Nat} (ht : ∀ k, k < tc → t k < 256) {P : Bool → Prop} (k : P (isd t tc i)) : wp_Md_in (chr t tc i) 48 57 P := by
  have := fig_s ht k
  unfold wp_Reading_isFigure at this
  exact this
def fx (j : Nat) : Prop := j ≠ 18 ∧ j ≠ 19 ∧ j ≠ 21 ∧ j ≠ 22 ∧ j ≠ 25 ∧ j ≠ 26
def QS (h0 : Hp) (tc i n : Nat) (K : Nat → Nat) (T : Nat) (o : Nat → Nat) (x y : Int32) (g : Hp) : Prop := i ≤ tc ∧ g.2 = h0.2 ∧ (∀ c, c ≠ 7 → c ≠ 85 → c ≠ 86 → g.1 c = h0.1 c) ∧ (∀ j, fx j → g.1 7 j = h0.1 7 j) ∧ h0.1 7 17 = nI tc ∧ g.1 7 21 = nI n ∧ g.1 7 22 = nI T ∧ g.1 7 18 = nI i ∧ g.1 7 25 = x ∧ g.1 7 26 = y ∧ (∀ e, e < n → o e < 5 ∧ g.1 85 e = nI (o e)) ∧ ∀ w, w < 5 → g.1 86 w = nI (K w)
def QF (h0 : Hp) (f p : Nat) (g : Hp) : Prop := g.2 = h0.2 ∧ (∀ c, c ≠ 7 → c ≠ 85 → c ≠ 86 → g.1 c = h0.1 c) ∧ (∀ j, fx j → g.1 7 j = h0.1 7 j) ∧ g.1 7 19 = nI f ∧ g.1 7 18 = nI p
theorem wi_f {g : Hp} {k j : Nat} {v : Int32} (h : j ≠ k) : (wi g 7 k v).1 7 j = g.1 7 j := by
  show upd (g.1 7) k v j = g.1 7 j
  exact pk_un h
section
variable {h0 g : Hp} {t : Nat → Nat} {tc i n T : Nat} {K o : Nat → Nat} {x y : Int32}
theorem QS.txt (a : QS h0 tc i n K T o x y g) : g.1 84 = h0.1 84 := a.2.2.1 84 (by omega) (by omega) (by omega)
theorem QS.len (a : QS h0 tc i n K T o x y g) : g.1 7 17 = nI tc := (a.2.2.2.1 17 ⟨by omega, by omega, by omega, by omega, by omega, by omega⟩).trans a.2.2.2.2.1
theorem QS.wr (a : QS h0 tc i n K T o x y g) : g.1 7 21 = nI n := a.2.2.2.2.2.1
theorem QS.tch (a : QS h0 tc i n K T o x y g) : g.1 7 22 = nI T := a.2.2.2.2.2.2.1
theorem QS.pos (a : QS h0 tc i n K T o x y g) : g.1 7 18 = nI i := a.2.2.2.2.2.2.2.1
theorem QS.num (a : QS h0 tc i n K T o x y g) : g.1 7 25 = x := a.2.2.2.2.2.2.2.2.1
theorem QS.na (a : QS h0 tc i n K T o x y g) : g.1 7 26 = y := a.2.2.2.2.2.2.2.2.2.1
theorem QS.ord (a : QS h0 tc i n K T o x y g) : ∀ e, e < n → o e < 5 ∧ g.1 85 e = nI (o e) := a.2.2.2.2.2.2.2.2.2.2.1
theorem QS.kd (a : QS h0 tc i n K T o x y g) : ∀ w, w < 5 → g.1 86 w = nI (K w) := a.2.2.2.2.2.2.2.2.2.2.2
theorem QS.wpos (a : QS h0 tc i n K T o x y g) {j : Nat} (hj : j ≤ tc) : QS h0 tc j n K T o x y (wi g 7 18 (nI j)) := by
  obtain ⟨a1, a2, a3, a4, a5, a6, a7, a8, a9, b1, b2, b3⟩ := a
  exact ⟨hj, a2, fun c c1 c2 c3 => by rw [wi_ne c1]; exact a3 c c1 c2 c3, fun j q => by rw [wi_f q.1]; exact a4 j q, a5, a6, a7, rfl, a9, b1, b2, b3⟩
theorem QS.wnum (a : QS h0 tc i n K T o x y g) (z : Int32) : QS h0 tc i n K T o z y (wi g 7 25 z) := by
  obtain ⟨a1, a2, a3, a4, a5, a6, a7, a8, a9, b1, b2, b3⟩ := a
  exact ⟨a1, a2, fun c c1 c2 c3 => by rw [wi_ne c1]; exact a3 c c1 c2 c3, fun j q => by rw [wi_f q.2.2.2.2.1]; exact a4 j q, a5, a6, a7, a8, rfl, b1, b2, b3⟩
theorem QS.wna (a : QS h0 tc i n K T o x y g) (z : Int32) : QS h0 tc i n K T o x z (wi g 7 26 z) := by
  obtain ⟨a1, a2, a3, a4, a5, a6, a7, a8, a9, b1, b2, b3⟩ := a
  exact ⟨a1, a2, fun c c1 c2 c3 => by rw [wi_ne c1]; exact a3 c c1 c2 c3, fun j q => by rw [wi_f q.2.2.2.2.2]; exact a4 j q, a5, a6, a7, a8, a9, rfl, b2, b3⟩
theorem QS.wtch (a : QS h0 tc i n K T o x y g) (T2 : Nat) : QS h0 tc i n K T2 o x y (wi g 7 22 (nI T2)) := by
  obtain ⟨a1, a2, a3, a4, a5, a6, a7, a8, a9, b1, b2, b3⟩ := a
  exact ⟨a1, a2, fun c c1 c2 c3 => by rw [wi_ne c1]; exact a3 c c1 c2 c3, fun j q => by rw [wi_f q.2.2.2.1]; exact a4 j q, a5, a6, rfl, a8, a9, b1, b2, b3⟩
theorem QS.wkd (a : QS h0 tc i n K T o x y g) (w v : Nat) : QS h0 tc i n (setd K w v) T o x y (wi g 86 w (nI v)) := by
  obtain ⟨a1, a2, a3, a4, a5, a6, a7, a8, a9, b1, b2, b3⟩ := a
  refine ⟨a1, a2, fun c c1 c2 c3 => by rw [wi_ne c3]; exact a3 c c1 c2 c3, a4, a5, a6, a7, a8, a9, b1, b2, fun u hu => ?_⟩
  show upd (g.1 86) w (nI v) u = nI (setd K w v u)
  unfold setd
  by_cases q : u = w
  · rw [q, pk_us, if_pos rfl]
  · rw [pk_un q, if_neg q]; exact b3 u hu
theorem QS.word (a : QS h0 tc i n K T o x y g) {v : Nat} (hv : v < 5) : QS h0 tc i (n + 1) K T (setd o n v) x y (wi (wi g 85 n (nI v)) 7 21 (nI (n + 1))) := by
  obtain ⟨a1, a2, a3, a4, a5, a6, a7, a8, a9, b1, b2, b3⟩ := a
  refine ⟨a1, a2, fun c c1 c2 c3 => by rw [wi_ne c1, wi_ne c2]; exact a3 c c1 c2 c3, fun j q => by rw [wi_f q.2.2.1]; exact a4 j q, a5, rfl, a7, a8, a9, b1, fun e he => ?_, b3⟩
  show setd o n v e < 5 ∧ upd (g.1 85) n (nI v) e = nI (setd o n v e)
  unfold setd
  by_cases q : e = n
  · rw [q, pk_us, if_pos rfl]; exact ⟨hv, rfl⟩
  · rw [pk_un q, if_neg q]; exact b2 e (by omega)
theorem skip_lp (hc : tc ≤ 240) (ht : ∀ k, k < tc → t k < 256 ∧ h0.1 84 k = nI (t k)) : ∀ (k i : Nat) (g : Hp) (E : Hp → Prop), tc ≤ i + k → QS h0 tc i n K T o x y g → (∀ g', QS h0 tc (sk t tc i) n K T o x y g' → E g') → ∃ N, lp_Md_skip_0 N g E := by
  intro k
  induction k with
  | zero =>
    intro i g E hk a hE
    have hi := a.1
    have hn : ¬ isc t tc 32 i = true := fun q => by have := (isc_lt.mp q).1; omega
    rw [sk_f hn] at hE
    refine ⟨1, ?_⟩
    unfold lp_Md_skip_0
    rw [a.len, a.pos]
    exact pk_le tc i (fun _ => hE g a) (fun q => by omega)
  | succ k ih =>
    intro i g E hk a hE
    have hi := a.1
    by_cases hs : isc t tc 32 i = true
    · obtain ⟨hi2, h32⟩ := isc_lt.mp hs
      rw [sk_t hs] at hE
      obtain ⟨N, hN⟩ := ih (i + 1) (wi g 7 18 (nI (i + 1))) E (by omega) (a.wpos (by omega)) hE
      refine ⟨N + 1, ?_⟩
      unfold lp_Md_skip_0
      dsimp only [lt]
      rw [a.len, a.pos, a.txt, cl_nI (by omega), (ht i hi2).2, nI_1]
      exact pk_le tc i (fun q => by omega) (fun _ => ⟨vp_in_nI (by omega) (by omega), fun z => absurd (by rw [h32]; rfl) z, fun _ => hN⟩)
    · rw [sk_f hs] at hE
      refine ⟨1, ?_⟩
      unfold lp_Md_skip_0
      rw [a.len, a.pos]
      refine pk_le tc i (fun _ => hE g a) (fun q => ?_)
      rw [a.txt, cl_nI (by omega), (ht i q).2]
      have h2 := (ht i q).1
      exact ⟨vp_in_nI (by omega) (by omega), fun _ => hE g a, fun z => absurd (isc_lt.mpr ⟨q, nI_inj (b := 32) (by omega) (by omega) z⟩) hs⟩
theorem skip_s (hc : tc ≤ 240) (ht : ∀ k, k < tc → t k < 256 ∧ h0.1 84 k = nI (t k)) (a : QS h0 tc i n K T o x y g) {P : Hp → Prop} (k : ∀ g', QS h0 tc (sk t tc i) n K T o x y g' → P g') : wp_Md_skip g P := by
  unfold wp_Md_skip
  exact skip_lp hc ht tc i g _ (by omega) a (fun g' b => k g' b)
theorem here_s (hc : tc ≤ 240) (ht : ∀ k, k < tc → t k < 256 ∧ h0.1 84 k = nI (t k)) (a : QS h0 tc i n K T o x y g) {P : Int32 → Prop} (k : P (chr t tc i)) : wp_Md_here g P := by
  have hi := a.1
  unfold wp_Md_here
  rw [a.len, a.pos]
  by_cases h : i < tc
  · rw [a.txt, cl_nI (by omega), (ht i h).2]
    have e : chr t tc i = nI (t i) := if_pos h
    rw [e] at k
    exact pk_le tc i (fun q => by omega) (fun _ => ⟨vp_in_nI (by omega) (by omega), k⟩)
  · have e : chr t tc i = -1 := if_neg h
    rw [e] at k
    exact pk_le tc i (fun _ => k) (fun q => by omega)
theorem fails_s (a : QS h0 tc i n K T o x y g) {f p : Nat} {P : Bool → Hp → Prop} (k : ∀ g', QF h0 f p g' → P false g') : wp_Md_fails (nI f) (nI p) g P := by
  unfold wp_Md_fails
  dsimp only [lt]
  exact k _ ⟨a.2.1, fun c c1 c2 c3 => by rw [wi_ne c1, wi_ne c1]; exact a.2.2.1 c c1 c2 c3, fun j q => by rw [wi_f q.1, wi_f q.2.1]; exact a.2.2.2.1 j q, rfl, rfl⟩
theorem ends_s (hc : tc ≤ 240) (ht : ∀ k, k < tc → t k < 256 ∧ h0.1 84 k = nI (t k)) (a : QS h0 tc i n K T o x y g) {P : Bool → Hp → Prop} (k1 : isc t tc 59 (sk t tc i) = true → ∀ g', QS h0 tc (sk t tc i + 1) n K T o x y g' → P true g') (k2 : ¬ isc t tc 59 (sk t tc i) = true → ∀ g', QF h0 1 (sk t tc i) g' → P false g') : wp_Md_ends g P := by
  unfold wp_Md_ends
  refine skip_s hc ht a (fun g' b => here_s hc ht b ?_)
  have c59 : chr t tc (sk t tc i) = (59 : Int32) ↔ isc t tc 59 (sk t tc i) = true := chr_c (ch := 59) (fun k hk => (ht k hk).1) (by omega)
  dsimp only [lt]
  rw [c59, b.pos, nI_1]
  exact ⟨fun q => k1 q _ (b.wpos (isc_lt.mp q).1), fun q => fails_s (f := 1) b (k2 q)⟩
theorem mnum_lp (hc : tc ≤ 240) (ht : ∀ k, k < tc → t k < 256 ∧ h0.1 84 k = nI (t k)) {p0 p1 : Int32} : ∀ (k j c a : Nat) (z : Int32) (g : Hp) (E : Int32 → Int32 → Hp → Prop), tc ≤ j + k → c + tc ≤ j + 240 → (c ≤ 3 → z = nI a) → QS h0 tc j n K T o x y g → (∀ g' z', QS h0 tc (j + nd t tc j) n K T o x y g' → (c + nd t tc j ≤ 3 → z' = nI (vl t tc j a)) → E z' (nI (c + nd t tc j)) g') → ∃ N, lp_Md_number_17 N p0 p1 z (nI c) g E := by
  intro k
  induction k with
  | zero =>
    intro j c a z g E hk hj hz b hE
    have hi := b.1
    have hn : ¬ isd t tc j = true := fun q => by have := (isd_lt.mp q).1; omega
    rw [nd_f hn, vl_f hn, Nat.add_zero, Nat.add_zero] at hE
    refine ⟨1, ?_⟩
    unfold lp_Md_number_17
    refine here_s hc ht b (fig_m (fun k hk => (ht k hk).1) ?_)
    rw [bf hn]
    exact ⟨fun _ => hE g z b hz, fun z => absurd z (by decide)⟩
  | succ k ih =>
    intro j c a z g E hk hj hz b hE
    have hi := b.1
    by_cases hd : isd t tc j = true
    · obtain ⟨hj2, d1, d2⟩ := isd_lt.mp hd
      rw [nd_t hd, vl_t hd] at hE
      have e : (10 : Int32) * nI a + nI (t j) - 48 = nI (10 * a + t j - 48) := by
        rw [show (10 : Int32) = nI 10 from rfl, show (48 : Int32) = nI 48 from rfl, pk_mul, nI_add, pk_sub (by omega)]
      have hg : ∀ z2 : Int32, (c + 1 ≤ 3 → z2 = nI (10 * a + t j - 48)) → ∃ N, lp_Md_number_17 N p0 p1 z2 (nI (c + 1)) (wi g 7 18 (nI (j + 1))) E := fun z2 hz2 => ih (j + 1) (c + 1) (10 * a + t j - 48) z2 _ E (by omega) (by omega) hz2 (b.wpos (by omega)) (fun g' z' b' q => by
        have := hE g' z' (by rw [show j + (nd t tc (j + 1) + 1) = j + 1 + nd t tc (j + 1) by omega]; exact b') (fun q2 => q (by omega))
        rw [show c + (nd t tc (j + 1) + 1) = c + 1 + nd t tc (j + 1) by omega] at this
        exact this)
      by_cases h3 : 3 ≤ c
      · obtain ⟨N, hN⟩ := hg z (fun q => by omega)
        refine ⟨N + 1, ?_⟩
        unfold lp_Md_number_17
        refine here_s hc ht b (fig_m (fun k hk => (ht k hk).1) ?_)
        rw [hd]
        refine ⟨fun z => absurd rfl z, fun _ => ?_⟩
        dsimp only [lt, jn]
        rw [b.pos, nI_1, nI_1]
        exact pk_le 3 c (fun _ => hN) (fun q => by omega)
      · obtain ⟨N, hN⟩ := hg (10 * z + chr t tc j - 48) (fun q => by rw [show chr t tc j = nI (t j) from if_pos hj2, hz (by omega), e])
        refine ⟨N + 1, ?_⟩
        unfold lp_Md_number_17
        refine here_s hc ht b (fig_m (fun k hk => (ht k hk).1) ?_)
        rw [hd]
        refine ⟨fun z => absurd rfl z, fun _ => ?_⟩
        dsimp only [lt, jn]
        rw [b.pos, nI_1, nI_1]
        exact pk_le 3 c (fun q => by omega) (fun _ => here_s hc ht b hN)
    · rw [nd_f hd, vl_f hd, Nat.add_zero, Nat.add_zero] at hE
      refine ⟨1, ?_⟩
      unfold lp_Md_number_17
      refine here_s hc ht b (fig_m (fun k hk => (ht k hk).1) ?_)
      rw [bf hd]
      exact ⟨fun _ => hE g z b hz, fun z => absurd z (by decide)⟩
theorem mnum_s (hc : tc ≤ 240) (ht : ∀ k, k < tc → t k < 256 ∧ h0.1 84 k = nI (t k)) {lo hi : Nat} (hlo : lo < 2 ^ 31) (hhi : hi < 2 ^ 31) (a : QS h0 tc i n K T o x y g) {P : Bool → Hp → Prop} (k1 : ∀ f p, pnum t tc lo hi i = .inl (f, p) → ∀ g', QF h0 f p g' → P false g') (k2 : ∀ v na b, pnum t tc lo hi i = .inr (v, na, b) → ∀ g', QS h0 tc b n K T o (nI v) (nI na) g' → P true g') : wp_Md_number (nI lo) (nI hi) g P := by
  unfold wp_Md_number
  refine skip_s hc ht a (fun g1 b => ?_)
  dsimp only [lt, jn]
  rw [b.pos]
  have hs := b.1
  refine mnum_lp hc ht tc (sk t tc i) 0 0 0 _ _ (by omega) (by omega) (fun _ => rfl) (b.wna (nI (sk t tc i))) (fun g2 z c hz => ?_)
  (try dsimp only)
  have hl := c.1
  rw [Nat.zero_add] at hz
  rw [Nat.zero_add, c.na]
  by_cases hn : nd t tc (sk t tc i) = 0
  · rw [hn]
    exact ⟨fun z => absurd rfl z, fun _ => fails_s (f := 1) c (k1 1 _ (by unfold pnum; rw [if_pos hn]))⟩
  · refine ⟨fun _ => ?_, fun q => absurd ((nI_zero (by omega)).mp q) hn⟩
    have hv : nd t tc (sk t tc i) ≤ 3 → vl t tc (sk t tc i) 0 < 1000 := fun q => by simpa using vl_lt 3 (sk t tc i) 0 q
    rw [show (wi g2 7 25 z).1 7 26 = nI (sk t tc i) from c.na]
    have bad : ¬ (nd t tc (sk t tc i) ≤ 3 ∧ lo ≤ vl t tc (sk t tc i) 0 ∧ vl t tc (sk t tc i) 0 ≤ hi) → wp_Md_fails 2 (nI (sk t tc i)) (wi g2 7 25 z) (fun v111 h111 => (¬ v111 = true → P false h111) ∧ (v111 = true → P true h111)) := fun q => fails_s (f := 2) (c.wnum z) (fun g' b' => ⟨fun _ => k1 2 (sk t tc i) (by unfold pnum; rw [if_neg hn, if_neg q]) g' b', fun z => absurd z (by decide)⟩)
    refine pk_lt 3 (nd t tc (sk t tc i)) (fun q => bad (by omega)) (fun q => ?_)
    have hv2 := hv q
    have hz2 := hz q
    rw [hz2]
    rw [hz2] at bad
    have cz := c.wnum z
    rw [hz2] at cz
    unfold wp_Md_in
    refine pk_lt (vl t tc (sk t tc i) 0) lo (fun q2 => ⟨fun z => absurd z (by decide), fun _ => bad (by omega)⟩) (fun q2 => pk_lt hi (vl t tc (sk t tc i) 0) (fun q3 => ⟨fun z => absurd z (by decide), fun _ => bad (by omega)⟩) (fun q3 => ⟨fun _ => ?_, fun z => absurd rfl z⟩))
    exact k2 _ _ _ (by unfold pnum; rw [if_neg hn, if_pos ⟨q, q2, q3⟩]) _ cz
theorem isRead_lp (hn : n ≤ 5) {v : Nat} (hv : v < 5) (hw : g.1 7 21 = nI n) (ho : ∀ e, e < n → o e < 5 ∧ g.1 85 e = nI (o e)) : ∀ (k i : Nat) (acc : Bool) (E : Int32 → Prop), i + k = n → (∀ b : Bool, (b = true ↔ acc = true ∨ ∃ e, i ≤ e ∧ e < n ∧ o e = v) → E (nI b.toNat)) → ∃ N, lp_Md_isRead_4 N (nI v) (nI acc.toNat) (nI i) g E := by
  intro k
  induction k with
  | zero =>
    intro i acc E hi hE
    refine ⟨1, ?_⟩
    unfold lp_Md_isRead_4
    rw [hw]
    exact pk_le n i (fun _ => hE acc ⟨Or.inl, fun q => q.elim id (fun ⟨e, e1, e2, _⟩ => by omega)⟩) (fun q => by omega)
  | succ k ih =>
    intro i acc E hi hE
    obtain ⟨q1, q2⟩ := ho i (by omega)
    obtain ⟨N, hN⟩ := ih (i + 1) (acc || o i == v) E (by omega) (fun b hb => hE b (by
      rw [hb, Bool.or_eq_true, beq_iff_eq]
      constructor
      · rintro ((q | q) | ⟨e, e1, e2, e3⟩)
        · exact Or.inl q
        · exact Or.inr ⟨i, by omega, by omega, q⟩
        · exact Or.inr ⟨e, by omega, e2, e3⟩
      · rintro (q | ⟨e, e1, e2, e3⟩)
        · exact Or.inl (Or.inl q)
        · by_cases z : e = i
          · rw [z] at e3; exact Or.inl (Or.inr e3)
          · exact Or.inr ⟨e, by omega, e2, e3⟩))
    refine ⟨N + 1, ?_⟩
    unfold lp_Md_isRead_4
    dsimp only [lt, jn]
    rw [hw, nI_1, cl_nI (by omega), q2]
    refine pk_le n i (fun q => by omega) (fun _ => ?_)
    cases acc with
    | true =>
      rw [Bool.true_or] at hN
      exact ⟨fun _ => hN, fun z => absurd z (by decide)⟩
    | false =>
      rw [Bool.false_or] at hN
      refine ⟨fun z => absurd rfl z, fun _ => ⟨vp_in_nI (by omega) (by omega), fun z => ?_, fun z => ?_⟩⟩
      · have : (o i == v) = false := by
          cases w : (o i == v) with
          | false => rfl
          | true => exact absurd (by rw [beq_iff_eq.mp w]) z
        rw [this] at hN
        exact hN
      · have : o i = v := nI_inj (by omega) (by omega) z
        rw [this, beq_self_eq_true] at hN
        exact hN
theorem isRead_s (hn : n ≤ 5) {v : Nat} (hv : v < 5) (hw : g.1 7 21 = nI n) (ho : ∀ e, e < n → o e < 5 ∧ g.1 85 e = nI (o e)) {P : Bool → Prop} (k : P (isIn o n v)) : wp_Md_isRead (nI v) g P := by
  unfold wp_Md_isRead
  refine isRead_lp hn hv hw ho n 0 false _ (by omega) (fun b hb => ?_)
  have e : b = isIn o n v := by
    apply Bool.eq_iff_iff.mpr
    rw [hb, isIn_iff]
    constructor
    · rintro (q | ⟨e, _, e2, e3⟩)
      · exact absurd q (by decide)
      · exact ⟨e, e2, e3⟩
    · rintro ⟨e, e2, e3⟩
      exact Or.inr ⟨e, by omega, e2, e3⟩
  rw [← e] at k
  cases b with
  | false => exact ⟨Or.inl rfl, k⟩
  | true => exact ⟨Or.inr rfl, k⟩
theorem isWhole_lp (hn : n ≤ 5) (hw : g.1 7 21 = nI n) (ho : ∀ e, e < n → o e < 5 ∧ g.1 85 e = nI (o e)) : ∀ (k i : Nat) (acc : Bool) (E : Int32 → Prop), i + k = n → (∀ b : Bool, (b = true ↔ acc = true ∧ ∀ w, i ≤ w → w < n → isIn o n w = true) → E (nI b.toNat)) → ∃ N, lp_Md_isWhole_16 N (nI acc.toNat) (nI i) g E := by
  intro k
  induction k with
  | zero =>
    intro i acc E hi hE
    refine ⟨1, ?_⟩
    unfold lp_Md_isWhole_16
    rw [hw]
    exact pk_le n i (fun _ => hE acc ⟨fun q => ⟨q, fun w h1 h2 => by omega⟩, fun q => q.1⟩) (fun q => by omega)
  | succ k ih =>
    intro i acc E hi hE
    obtain ⟨N, hN⟩ := ih (i + 1) (acc && isIn o n i) E (by omega) (fun b hb => hE b (by
      rw [hb, Bool.and_eq_true]
      constructor
      · rintro ⟨⟨q1, q2⟩, q3⟩
        refine ⟨q1, fun w h1 h2 => ?_⟩
        by_cases z : w = i
        · rw [z]; exact q2
        · exact q3 w (by omega) h2
      · rintro ⟨q1, q2⟩
        exact ⟨⟨q1, q2 i (by omega) (by omega)⟩, fun w h1 h2 => q2 w (by omega) h2⟩))
    refine ⟨N + 1, ?_⟩
    unfold lp_Md_isWhole_16
    dsimp only [lt, jn]
    rw [hw, nI_1]
    refine pk_le n i (fun q => by omega) (fun _ => ?_)
    cases acc with
    | false =>
      rw [Bool.false_and] at hN
      exact ⟨fun _ => hN, fun z => absurd rfl z⟩
    | true =>
      rw [Bool.true_and] at hN
      refine ⟨fun z => absurd z (by decide), fun _ => isRead_s hn (by omega) hw ho ?_⟩
      cases w : isIn o n i with
      | false =>
        rw [w] at hN
        exact ⟨fun _ => hN, fun z => absurd z (by decide)⟩
      | true =>
        rw [w] at hN
        exact ⟨fun z => absurd rfl z, fun _ => hN⟩
theorem isWhole_s (hn : n ≤ 5) (hw : g.1 7 21 = nI n) (ho : ∀ e, e < n → o e < 5 ∧ g.1 85 e = nI (o e)) {P : Bool → Prop} (k : P (whl o n)) : wp_Md_isWhole g P := by
  unfold wp_Md_isWhole
  dsimp only [jn]
  rw [hw]
  have fin : ∀ acc : Bool, acc = decide (1 < n) → ∃ N, lp_Md_isWhole_16 N (nI acc.toNat) (nI 0) g (fun (w16_1 : Int32) => (w16_1 = 0 ∨ w16_1 = 1) ∧ P (w16_1 == 1)) := fun acc ha => by
    refine isWhole_lp hn hw ho n 0 acc _ (by omega) (fun b hb => ?_)
    have e : b = whl o n := by
      apply Bool.eq_iff_iff.mpr
      rw [hb, ha, whl_iff, decide_eq_true_eq]
      exact and_congr_right (fun _ => ⟨fun q w hw => isIn_iff.mp (q w (by omega) hw), fun q w _ hw => isIn_iff.mpr (q w hw)⟩)
    rw [← e] at k
    cases b with
    | false => exact ⟨Or.inl rfl, k⟩
    | true => exact ⟨Or.inr rfl, k⟩
  refine pk_le n 1 (fun q => fin false ?_) (fun q => fin true ?_)
  · rw [decide_eq_false (by omega)]
  · rw [decide_eq_true q]
end
end
