section
/-! the reading, first -/
def chr (t : Nat → Nat) (tc i : Nat) : Int32 := if i < tc then nI (t i) else -1
theorem nI_m1 {a : Nat} (h : a < 2 ^ 31) : nI a ≠ -1 := fun q => nI_pos h (by rw [q]; decide)
theorem chr_c {t : Nat → Nat} {tc i ch : Nat} (ht : ∀ k, k < tc → t k < 256) (hc : ch < 256) : chr t tc i = nI ch ↔ isc t tc ch i = true := by
  rw [isc_lt]
  unfold chr
  by_cases h : i < tc
  · have := ht i h
    rw [if_pos h, nI_eq (by omega) (by omega)]
    exact ⟨fun q => ⟨h, q⟩, fun q => q.2⟩
  · rw [if_neg h]
    exact ⟨fun q => absurd q.symm (nI_m1 (by omega)), fun q => absurd q.1 h⟩
theorem chr_e {t : Nat → Nat} {tc i : Nat} (ht : ∀ k, k < tc → t k < 256) : chr t tc i = -1 ↔ tc ≤ i := by
  unfold chr
  by_cases h : i < tc
  · have := ht i h
    rw [if_pos h]
    exact ⟨fun q => absurd q (nI_m1 (by omega)), fun q => by omega⟩
  · rw [if_neg h]
    exact ⟨fun _ => by omega, fun _ => rfl⟩
theorem fig_s {t : Nat → Nat} {tc i : Nat} (ht : ∀ k, k < tc → t k < 256) {P : Bool → Prop} (k : P (isd t tc i)) : wp_Reading_isFigure (chr t tc i) P := by
  unfold wp_Reading_isFigure chr
  by_cases h : i < tc
  · have := ht i h
    rw [if_pos h]
    have f : ¬ (48 ≤ t i ∧ t i ≤ 57) → P false := fun q => by
      have e : isd t tc i = false := by
        cases e : isd t tc i with
        | false => rfl
        | true => exact absurd (isd_lt.mp e).2 q
      rw [e] at k; exact k
    exact pk_lt (t i) 48 (fun q => f (by omega)) (fun q => pk_lt 57 (t i) (fun q2 => f (by omega)) (fun q2 => by
      have e : isd t tc i = true := isd_lt.mpr ⟨h, q, q2⟩
      rw [e] at k; exact k))
  · rw [if_neg h]
    have e : isd t tc i = false := by
      cases e : isd t tc i with
      | false => rfl
      | true => exact absurd (isd_lt.mp e).1 h
    rw [e] at k
    exact ⟨fun _ => k, fun z => absurd (by decide) z⟩
def FS (h0 : Hp) (tc i n : Nat) (K : Nat → Nat) (T : Nat) (o : Nat → Nat) (x y : Int32) (g : Hp) : Prop := i ≤ tc ∧ g.2 = h0.2 ∧ (∀ c, c ≠ 1 → c ≠ 68 → g.1 c = h0.1 c) ∧ g.1 1 1 = nI tc ∧ g.1 1 2 = 0 ∧ g.1 1 3 = -1 ∧ g.1 1 4 = nI n ∧ g.1 1 6 = nI (pk K) ∧ g.1 1 7 = nI T ∧ g.1 1 8 = nI i ∧ g.1 1 9 = x ∧ g.1 1 10 = y ∧ ∀ e, e < n → g.1 68 e = nI (o e)
def FF (h0 : Hp) (f p : Nat) (g : Hp) : Prop := g.2 = h0.2 ∧ (∀ c, c ≠ 1 → c ≠ 68 → g.1 c = h0.1 c) ∧ g.1 1 2 = nI f ∧ g.1 1 3 = nI p
section
variable {h0 g : Hp} {t : Nat → Nat} {tc i n T : Nat} {K o : Nat → Nat} {x y : Int32}
theorem FS.txt (a : FS h0 tc i n K T o x y g) : g.1 67 = h0.1 67 := a.2.2.1 67 (by omega) (by omega)
theorem FS.len (a : FS h0 tc i n K T o x y g) : g.1 1 1 = nI tc := a.2.2.2.1
theorem FS.fn (a : FS h0 tc i n K T o x y g) : g.1 1 2 = 0 := a.2.2.2.2.1
theorem FS.fa (a : FS h0 tc i n K T o x y g) : g.1 1 3 = -1 := a.2.2.2.2.2.1
theorem FS.wr (a : FS h0 tc i n K T o x y g) : g.1 1 4 = nI n := a.2.2.2.2.2.2.1
theorem FS.kd (a : FS h0 tc i n K T o x y g) : g.1 1 6 = nI (pk K) := a.2.2.2.2.2.2.2.1
theorem FS.tch (a : FS h0 tc i n K T o x y g) : g.1 1 7 = nI T := a.2.2.2.2.2.2.2.2.1
theorem FS.pos (a : FS h0 tc i n K T o x y g) : g.1 1 8 = nI i := a.2.2.2.2.2.2.2.2.2.1
theorem FS.num (a : FS h0 tc i n K T o x y g) : g.1 1 9 = x := a.2.2.2.2.2.2.2.2.2.2.1
theorem FS.na (a : FS h0 tc i n K T o x y g) : g.1 1 10 = y := a.2.2.2.2.2.2.2.2.2.2.2.1
theorem FS.ord (a : FS h0 tc i n K T o x y g) : ∀ e, e < n → g.1 68 e = nI (o e) := a.2.2.2.2.2.2.2.2.2.2.2.2
theorem FS.wpos (a : FS h0 tc i n K T o x y g) {j : Nat} (hj : j ≤ tc) : FS h0 tc j n K T o x y (wi g 1 8 (nI j)) := by
  obtain ⟨a1, a2, a3, a4, a5, a6, a7, a8, a9, b1, b2, b3, b4⟩ := a
  exact ⟨hj, a2, fun c c1 c2 => by rw [wi_ne c1]; exact a3 c c1 c2, a4, a5, a6, a7, a8, a9, rfl, b2, b3, b4⟩
theorem FS.wnum (a : FS h0 tc i n K T o x y g) (z : Int32) : FS h0 tc i n K T o z y (wi g 1 9 z) := by
  obtain ⟨a1, a2, a3, a4, a5, a6, a7, a8, a9, b1, b2, b3, b4⟩ := a
  exact ⟨a1, a2, fun c c1 c2 => by rw [wi_ne c1]; exact a3 c c1 c2, a4, a5, a6, a7, a8, a9, b1, rfl, b3, b4⟩
theorem FS.wna (a : FS h0 tc i n K T o x y g) (z : Int32) : FS h0 tc i n K T o x z (wi g 1 10 z) := by
  obtain ⟨a1, a2, a3, a4, a5, a6, a7, a8, a9, b1, b2, b3, b4⟩ := a
  exact ⟨a1, a2, fun c c1 c2 => by rw [wi_ne c1]; exact a3 c c1 c2, a4, a5, a6, a7, a8, a9, b1, b2, rfl, b4⟩
theorem FS.wkd (a : FS h0 tc i n K T o x y g) (K2 : Nat → Nat) : FS h0 tc i n K2 T o x y (wi g 1 6 (nI (pk K2))) := by
  obtain ⟨a1, a2, a3, a4, a5, a6, a7, a8, a9, b1, b2, b3, b4⟩ := a
  exact ⟨a1, a2, fun c c1 c2 => by rw [wi_ne c1]; exact a3 c c1 c2, a4, a5, a6, a7, rfl, a9, b1, b2, b3, b4⟩
theorem FS.wtch (a : FS h0 tc i n K T o x y g) (T2 : Nat) : FS h0 tc i n K T2 o x y (wi g 1 7 (nI T2)) := by
  obtain ⟨a1, a2, a3, a4, a5, a6, a7, a8, a9, b1, b2, b3, b4⟩ := a
  exact ⟨a1, a2, fun c c1 c2 => by rw [wi_ne c1]; exact a3 c c1 c2, a4, a5, a6, a7, a8, rfl, b1, b2, b3, b4⟩
theorem FS.word (a : FS h0 tc i n K T o x y g) (v : Nat) : FS h0 tc i (n + 1) K T (setd o n v) x y (wi (wi g 68 n (nI v)) 1 4 (nI (n + 1))) := by
  obtain ⟨a1, a2, a3, a4, a5, a6, a7, a8, a9, b1, b2, b3, b4⟩ := a
  refine ⟨a1, a2, fun c c1 c2 => by rw [wi_ne c1, wi_ne c2]; exact a3 c c1 c2, a4, a5, a6, rfl, a8, a9, b1, b2, b3, fun e he => ?_⟩
  show upd (g.1 68) n (nI v) e = nI (setd o n v e)
  unfold setd
  by_cases q : e = n
  · rw [q, pk_us, if_pos rfl]
  · rw [pk_un q, if_neg q]; exact b4 e (by omega)
theorem up_lp (hc : tc ≤ 240) (ht : ∀ k, k < tc → t k < 256 ∧ h0.1 67 k = nI (t k)) : ∀ (k i : Nat) (g : Hp) (E : Hp → Prop), tc ≤ i + k → FS h0 tc i n K T o x y g → (∀ g', FS h0 tc (sk t tc i) n K T o x y g' → E g') → ∃ N, lp_Reading_upNext_0 N g E := by
  intro k
  induction k with
  | zero =>
    intro i g E hk a hE
    have hi := a.1
    have hn : ¬ isc t tc 32 i = true := fun q => by have := (isc_lt.mp q).1; omega
    rw [sk_f hn] at hE
    refine ⟨1, ?_⟩
    unfold lp_Reading_upNext_0
    rw [a.len, a.pos]
    exact pk_le tc i (fun _ => hE g a) (fun q => by omega)
  | succ k ih =>
    intro i g E hk a hE
    have hi := a.1
    by_cases hs : isc t tc 32 i = true
    · obtain ⟨hi2, h32⟩ := isc_lt.mp hs
      rw [sk_t hs] at hE
      obtain ⟨N, hN⟩ := ih (i + 1) (wi g 1 8 (nI (i + 1))) E (by omega) (a.wpos (by omega)) hE
      refine ⟨N + 1, ?_⟩
      unfold lp_Reading_upNext_0
      dsimp only [lt]
      rw [a.len, a.pos, a.txt, cl_nI (by omega), (ht i hi2).2, nI_1]
      exact pk_le tc i (fun q => by omega) (fun _ => pk_le 240 i (fun q => by omega) (fun _ => ⟨vp_in_nI (by omega) (by omega), fun z => absurd (by rw [h32]; rfl) z, fun _ => hN⟩))
    · rw [sk_f hs] at hE
      refine ⟨1, ?_⟩
      unfold lp_Reading_upNext_0
      rw [a.len, a.pos]
      refine pk_le tc i (fun _ => hE g a) (fun q => ?_)
      rw [a.txt, cl_nI (by omega), (ht i q).2]
      have h2 := (ht i q).1
      exact pk_le 240 i (fun q => by omega) (fun _ => ⟨vp_in_nI (by omega) (by omega), fun _ => hE g a, fun z => absurd (isc_lt.mpr ⟨q, nI_inj (b := 32) (by omega) (by omega) z⟩) hs⟩)
theorem let_s (hc : tc ≤ 240) (ht : ∀ k, k < tc → t k < 256 ∧ h0.1 67 k = nI (t k)) (a : FS h0 tc i n K T o x y g) {P : Int32 → Prop} (k : P (chr t tc i)) : wp_Reading_letterAt (nI i) g P := by
  have hi := a.1
  unfold wp_Reading_letterAt
  rw [a.len]
  refine ⟨fun z => absurd z (nI_pos (by omega)), fun _ => ?_⟩
  by_cases h : i < tc
  · rw [a.txt, cl_nI (by omega), (ht i h).2]
    have e : chr t tc i = nI (t i) := if_pos h
    rw [e] at k
    exact pk_le tc i (fun q => by omega) (fun _ => pk_le 240 i (fun q => by omega) (fun _ => ⟨vp_in_nI (by omega) (by omega), k⟩))
  · have e : chr t tc i = -1 := if_neg h
    rw [e] at k
    exact pk_le tc i (fun _ => k) (fun q => by omega)
theorem up_s (hc : tc ≤ 240) (ht : ∀ k, k < tc → t k < 256 ∧ h0.1 67 k = nI (t k)) (a : FS h0 tc i n K T o x y g) {P : Int32 → Hp → Prop} (k : ∀ g', FS h0 tc (sk t tc i) n K T o x y g' → P (chr t tc (sk t tc i)) g') : wp_Reading_upNext g P := by
  unfold wp_Reading_upNext
  refine up_lp hc ht tc i g _ (by omega) a (fun g' b => ?_)
  (try dsimp only)
  rw [b.pos]
  exact let_s hc ht b (k g' b)
theorem blame_s (a : FS h0 tc i n K T o x y g) {f p : Nat} {P : Hp → Prop} (k : ∀ g', FF h0 f p g' → P g') : wp_Reading_blame (nI f) (nI p) g P := by
  unfold wp_Reading_blame
  dsimp only [lt]
  exact k _ ⟨a.2.1, fun c c1 c2 => by rw [wi_ne c1, wi_ne c1]; exact a.2.2.1 c c1 c2, rfl, rfl⟩
theorem word_s (hc : tc ≤ 240) (ht : ∀ k, k < tc → t k < 256 ∧ h0.1 67 k = nI (t k)) {ch : Nat} (hch : ch < 256) (a : FS h0 tc i n K T o x y g) {P : Bool → Hp → Prop} (k1 : isc t tc ch (sk t tc i) = true → ∀ g', FS h0 tc (sk t tc i + 1) n K T o x y g' → P true g') (k2 : ¬ isc t tc ch (sk t tc i) = true → ∀ g', FF h0 1 (sk t tc i) g' → P false g') : wp_Reading_takeWord (nI ch) g P := by
  unfold wp_Reading_takeWord
  refine up_s hc ht a (fun g' b => ?_)
  dsimp only [lt]
  rw [chr_c (fun k hk => (ht k hk).1) hch, b.pos, nI_1]
  exact ⟨fun q => k1 q _ (b.wpos (isc_lt.mp q).1), fun q => blame_s (f := 1) b (k2 q)⟩
theorem num_lp (hc : tc ≤ 240) (ht : ∀ k, k < tc → t k < 256 ∧ h0.1 67 k = nI (t k)) {p0 p1 : Int32} : ∀ (k j a : Nat) (g : Hp) (E : Hp → Prop), tc ≤ j + k → FS h0 tc j n K T o (nI a) y g → (∀ g', FS h0 tc (j + nd t tc j) n K T o (nI (vl t tc j a)) y g' → E g') → ∃ N, lp_Reading_takeNumberWithin_34 N p0 p1 g E := by
  intro k
  induction k with
  | zero =>
    intro j a g E hk b hE
    have hi := b.1
    have hn : ¬ isd t tc j = true := fun q => by have := (isd_lt.mp q).1; omega
    rw [nd_f hn, vl_f hn, Nat.add_zero] at hE
    refine ⟨1, ?_⟩
    unfold lp_Reading_takeNumberWithin_34
    rw [b.len, b.pos]
    exact pk_le tc j (fun _ => hE g b) (fun q => by omega)
  | succ k ih =>
    intro j a g E hk b hE
    have hi := b.1
    by_cases hd : isd t tc j = true
    · obtain ⟨hj, d1, d2⟩ := isd_lt.mp hd
      rw [nd_t hd, vl_t hd] at hE
      have e : nI a * (10 : Int32) + nI (t j) - 48 = nI (10 * a + t j - 48) := by
        rw [show (10 : Int32) = nI 10 from rfl, show (48 : Int32) = nI 48 from rfl, pk_mul, nI_add, pk_sub (by omega), Nat.mul_comm a 10]
      obtain ⟨N, hN⟩ := ih (j + 1) (10 * a + t j - 48) (wi (wi g 1 9 (nI (10 * a + t j - 48))) 1 8 (nI (j + 1))) E (by omega) ((b.wnum _).wpos (by omega)) (fun g' b' => hE g' (by rw [show j + (nd t tc (j + 1) + 1) = j + 1 + nd t tc (j + 1) by omega]; exact b'))
      refine ⟨N + 1, ?_⟩
      unfold lp_Reading_takeNumberWithin_34
      rw [b.len, b.pos]
      refine pk_le tc j (fun q => by omega) (fun _ => let_s hc ht b (fig_s (fun k hk => (ht k hk).1) ?_))
      rw [hd]
      refine ⟨fun z => absurd rfl z, fun _ => let_s hc ht b ?_⟩
      dsimp only [lt]
      rw [show chr t tc j = nI (t j) from if_pos hj, b.num, e, show (wi g 1 9 (nI (10 * a + t j - 48))).1 1 8 = nI j from b.pos, nI_1]
      exact hN
    · have e : isd t tc j = false := by
        cases e : isd t tc j with
        | false => rfl
        | true => exact absurd e hd
      rw [nd_f hd, vl_f hd, Nat.add_zero] at hE
      refine ⟨1, ?_⟩
      unfold lp_Reading_takeNumberWithin_34
      rw [b.len, b.pos]
      refine pk_le tc j (fun _ => hE g b) (fun q => let_s hc ht b (fig_s (fun k hk => (ht k hk).1) ?_))
      rw [e]
      exact ⟨fun _ => hE g b, fun z => absurd z (by decide)⟩
theorem num_s (hc : tc ≤ 240) (ht : ∀ k, k < tc → t k < 256 ∧ h0.1 67 k = nI (t k)) {lo hi : Nat} (hlo : lo < 2 ^ 31) (hhi : hi < 2 ^ 31) (a : FS h0 tc i n K T o x y g) {P : Bool → Hp → Prop} (k1 : ∀ f p, pnum t tc lo hi i = .inl (f, p) → ∀ g', FF h0 f p g' → P false g') (k2 : ∀ v na b, pnum t tc lo hi i = .inr (v, na, b) → ∀ g', FS h0 tc b n K T o (nI v) (nI na) g' → P true g') : wp_Reading_takeNumberWithin (nI lo) (nI hi) g P := by
  unfold wp_Reading_takeNumberWithin
  refine up_s hc ht a (fun g1 b => fig_s (fun k hk => (ht k hk).1) ?_)
  by_cases hd : isd t tc (sk t tc i) = true
  · have hn : ¬ nd t tc (sk t tc i) = 0 := by rw [nd_t hd]; omega
    rw [hd]
    refine ⟨fun _ => ?_, fun z => absurd rfl z⟩
    dsimp only [lt, jn]
    rw [show (wi g1 1 9 0).1 1 8 = nI (sk t tc i) from b.pos]
    refine num_lp hc ht tc (sk t tc i) 0 _ _ (by omega) ((b.wnum (nI 0)).wna (nI (sk t tc i))) (fun g2 c => ?_)
    (try dsimp only)
    rw [c.pos, c.na, c.num, pk_sub (by omega), Nat.add_sub_cancel_left]
    have hl := c.1
    have hv : nd t tc (sk t tc i) ≤ 3 → vl t tc (sk t tc i) 0 < 1000 := fun q => by simpa using vl_lt 3 (sk t tc i) 0 q
    have bad : ¬ (nd t tc (sk t tc i) ≤ 3 ∧ lo ≤ vl t tc (sk t tc i) 0 ∧ vl t tc (sk t tc i) 0 ≤ hi) → wp_Reading_blame 2 (nI (sk t tc i)) g2 (fun h130 => P false h130) := fun q => blame_s (f := 2) c (k1 2 (sk t tc i) (by unfold pnum; rw [if_neg hn, if_neg q]))
    refine pk_lt 3 (nd t tc (sk t tc i)) (fun q => bad (by omega)) (fun q => ?_)
    have := hv q
    refine pk_lt (vl t tc (sk t tc i) 0) lo (fun q2 => bad (by omega)) (fun q2 => pk_le (vl t tc (sk t tc i) 0) hi (fun q3 => ?_) (fun q3 => bad (by omega)))
    exact k2 _ _ _ (by unfold pnum; rw [if_neg hn, if_pos ⟨q, q2, q3⟩]) g2 c
  · have e : isd t tc (sk t tc i) = false := by
      cases e : isd t tc (sk t tc i) with
      | false => rfl
      | true => exact absurd e hd
    rw [e]
    refine ⟨fun z => absurd z (by decide), fun _ => ?_⟩
    rw [b.pos]
    exact blame_s (f := 1) b (k1 1 _ (by unfold pnum; rw [if_pos (nd_f hd)]))
theorem new_t {P : Bool → Hp → Prop} (k : P true g) : wp_Reading_isNew 1 g P := by
  unfold wp_Reading_isNew
  exact ⟨fun _ => ⟨Or.inr rfl, k⟩, fun z => absurd z (by decide)⟩
theorem new_f {na : Nat} (a : FS h0 tc i n K T o x (nI na) g) {P : Bool → Hp → Prop} (k : ∀ g', FF h0 4 na g' → P false g') : wp_Reading_isNew 0 g P := by
  unfold wp_Reading_isNew
  refine ⟨fun z => absurd rfl z, fun _ => ?_⟩
  rw [a.na]
  exact blame_s (f := 4) a (fun g' b => ⟨Or.inl rfl, k g' b⟩)
end
theorem jn_b {B : Int32 → Prop} {a a' b b' : Prop} (c : Bool) (h1 : a → c = false) (h2 : a' → b → c = false) (h3 : a' → b' → c = true) (k : B (nI c.toNat)) : jn B (fun J => jn (τ := Prop) (J 0) (fun J' => (a → J') ∧ (a' → (b → J') ∧ (b' → J 1)))) := by
  have e0 : c = false → B 0 := fun q => by rw [q] at k; exact k
  have e1 : c = true → B 1 := fun q => by rw [q] at k; exact k
  exact ⟨fun q => e0 (h1 q), fun q => ⟨fun z => e0 (h2 q z), fun z => e1 (h3 q z)⟩⟩
theorem whl_mask {o : Nat → Nat} {k M : Nat} (hi : ∀ e f, e < k → f < k → o e = o f → e = f) (hk : k ≤ 5) (hM : M < 32) (hm : ∀ b, b < 5 → M.testBit b = isIn o k b) (h2 : 1 < k) : M = 2 ^ k - 1 ↔ whl o k = true := by
  constructor
  · intro e
    refine whl_iff.mpr ⟨h2, fun w hw => isIn_iff.mp ?_⟩
    rw [← hm w (by omega), e, Nat.testBit_two_pow_sub_one]
    simpa using hw
  · intro e
    have hw := (whl_iff.mp e).2
    have hb := inj_whole hi hw
    refine Nat.eq_of_testBit_eq (fun b => ?_)
    rw [Nat.testBit_two_pow_sub_one]
    by_cases h5 : b < 5
    · rw [hm b h5]
      by_cases hk2 : b < k
      · rw [isIn_iff.mpr (hw b hk2)]
        simp [hk2]
      · have : isIn o k b = false := by
          cases q : isIn o k b with
          | false => rfl
          | true =>
            obtain ⟨e, e1, e2⟩ := isIn_iff.mp q
            have := hb e e1
            omega
        rw [this]
        simp [hk2]
    · have : M < 2 ^ b := Nat.lt_of_lt_of_le hM (by
        have := Nat.pow_le_pow_right (n := 2) (by omega) (show 5 ≤ b by omega)
        simpa using this)
      rw [Nat.testBit_lt_two_pow this]
      have : ¬ b < k := by omega
      simp [this]
end
