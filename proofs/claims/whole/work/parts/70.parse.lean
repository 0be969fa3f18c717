section
/-! the text, read: a text t of tc letters -/
def isc (t : Nat → Nat) (tc ch i : Nat) : Bool := decide (i < tc) && t i == ch
def skf (t : Nat → Nat) (tc : Nat) : Nat → Nat → Nat
  | 0, i => i
  | f + 1, i => if isc t tc 32 i = true then skf t tc f (i + 1) else i
def sk (t : Nat → Nat) (tc i : Nat) : Nat := skf t tc (tc - i) i
def isd (t : Nat → Nat) (tc i : Nat) : Bool := decide (i < tc) && decide (48 ≤ t i) && decide (t i ≤ 57)
def ndf (t : Nat → Nat) (tc : Nat) : Nat → Nat → Nat
  | 0, _ => 0
  | f + 1, i => if isd t tc i = true then ndf t tc f (i + 1) + 1 else 0
def nd (t : Nat → Nat) (tc i : Nat) : Nat := ndf t tc (tc - i) i
def vlf (t : Nat → Nat) (tc : Nat) : Nat → Nat → Nat → Nat
  | 0, _, a => a
  | f + 1, i, a => if isd t tc i = true then vlf t tc f (i + 1) (10 * a + t i - 48) else a
def vl (t : Nat → Nat) (tc i a : Nat) : Nat := vlf t tc (tc - i) i a
theorem isc_lt {t : Nat → Nat} {tc ch i : Nat} : isc t tc ch i = true ↔ i < tc ∧ t i = ch := by unfold isc; simp
theorem isd_lt {t : Nat → Nat} {tc i : Nat} : isd t tc i = true ↔ i < tc ∧ 48 ≤ t i ∧ t i ≤ 57 := by unfold isd; simp [and_assoc]
theorem fuel1 {tc i : Nat} (h : i < tc) : tc - i = (tc - (i + 1)) + 1 := by omega
theorem sk_t {t : Nat → Nat} {tc i : Nat} (h : isc t tc 32 i = true) : sk t tc i = sk t tc (i + 1) := by
  have hi := (isc_lt.mp h).1
  unfold sk
  rw [fuel1 hi, skf, if_pos h]
theorem sk_f {t : Nat → Nat} {tc i : Nat} (h : ¬ isc t tc 32 i = true) : sk t tc i = i := by
  unfold sk
  by_cases hi : i < tc
  · rw [fuel1 hi, skf, if_neg h]
  · rw [show tc - i = 0 by omega]; rfl
theorem nd_t {t : Nat → Nat} {tc i : Nat} (h : isd t tc i = true) : nd t tc i = nd t tc (i + 1) + 1 := by
  have hi := (isd_lt.mp h).1
  unfold nd
  rw [fuel1 hi, ndf, if_pos h]
theorem nd_f {t : Nat → Nat} {tc i : Nat} (h : ¬ isd t tc i = true) : nd t tc i = 0 := by
  unfold nd
  by_cases hi : i < tc
  · rw [fuel1 hi, ndf, if_neg h]
  · rw [show tc - i = 0 by omega]; rfl
theorem vl_t {t : Nat → Nat} {tc i a : Nat} (h : isd t tc i = true) : vl t tc i a = vl t tc (i + 1) (10 * a + t i - 48) := by
  have hi := (isd_lt.mp h).1
  unfold vl
  rw [fuel1 hi, vlf, if_pos h]
theorem vl_f {t : Nat → Nat} {tc i a : Nat} (h : ¬ isd t tc i = true) : vl t tc i a = a := by
  unfold vl
  by_cases hi : i < tc
  · rw [fuel1 hi, vlf, if_neg h]
  · rw [show tc - i = 0 by omega]; rfl
theorem sk_ge {t : Nat → Nat} {tc : Nat} : ∀ k i, tc ≤ i + k → i ≤ sk t tc i ∧ ¬ isc t tc 32 (sk t tc i) = true ∧ (i ≤ tc → sk t tc i ≤ tc) := by
  intro k
  induction k with
  | zero =>
    intro i h
    have hn : ¬ isc t tc 32 i = true := fun q => by have := (isc_lt.mp q).1; omega
    rw [sk_f hn]
    exact ⟨Nat.le_refl _, hn, id⟩
  | succ k ih =>
    intro i h
    by_cases q : isc t tc 32 i = true
    · rw [sk_t q]
      obtain ⟨h1, h2, h3⟩ := ih (i + 1) (by omega)
      have := (isc_lt.mp q).1
      exact ⟨by omega, h2, fun _ => h3 (by omega)⟩
    · rw [sk_f q]
      exact ⟨Nat.le_refl _, q, id⟩
theorem sk_le {t : Nat → Nat} {tc : Nat} (i : Nat) : i ≤ sk t tc i := (sk_ge tc i (by omega)).1
theorem sk_tc {t : Nat → Nat} {tc i : Nat} (h : i ≤ tc) : sk t tc i ≤ tc := (sk_ge tc i (by omega)).2.2 h
theorem sk_sk {t : Nat → Nat} {tc : Nat} (i : Nat) : sk t tc (sk t tc i) = sk t tc i := sk_f (sk_ge tc i (by omega)).2.1
theorem nd_tc {t : Nat → Nat} {tc : Nat} : ∀ k i, tc ≤ i + k → i ≤ tc → i + nd t tc i ≤ tc := by
  intro k
  induction k with
  | zero =>
    intro i h1 h2
    rw [nd_f (fun q => by have := (isd_lt.mp q).1; omega)]
    exact h2
  | succ k ih =>
    intro i h1 h2
    by_cases q : isd t tc i = true
    · have := (isd_lt.mp q).1
      rw [nd_t q]
      have := ih (i + 1) (by omega) (by omega)
      omega
    · rw [nd_f q]; exact h2
theorem vl_lt {t : Nat → Nat} {tc : Nat} : ∀ k i a, nd t tc i ≤ k → vl t tc i a < (a + 1) * 10 ^ k := by
  intro k
  induction k with
  | zero =>
    intro i a h
    have hn : ¬ isd t tc i = true := fun q => by rw [nd_t q] at h; omega
    rw [vl_f hn]; omega
  | succ k ih =>
    intro i a h
    by_cases q : isd t tc i = true
    · rw [nd_t q] at h
      rw [vl_t q]
      obtain ⟨q1, q2, q3⟩ := isd_lt.mp q
      have := ih (i + 1) (10 * a + t i - 48) (by omega)
      refine Nat.lt_of_lt_of_le this ?_
      rw [Nat.pow_succ, ← Nat.mul_assoc, Nat.mul_right_comm]
      exact Nat.mul_le_mul_right _ (by omega)
    · rw [vl_f q]
      have : 1 ≤ 10 ^ (k + 1) := Nat.pow_pos (by omega)
      have h2 : (a + 1) * 1 ≤ (a + 1) * 10 ^ (k + 1) := Nat.mul_le_mul_left _ this
      omega
def pnum (t : Nat → Nat) (tc lo hi i : Nat) : (Nat × Nat) ⊕ (Nat × Nat × Nat) := if nd t tc (sk t tc i) = 0 then .inl (1, sk t tc i) else if nd t tc (sk t tc i) ≤ 3 ∧ lo ≤ vl t tc (sk t tc i) 0 ∧ vl t tc (sk t tc i) 0 ≤ hi then .inr (vl t tc (sk t tc i) 0, sk t tc i, sk t tc i + nd t tc (sk t tc i)) else .inl (2, sk t tc i)
def pend (t : Nat → Nat) (tc i : Nat) : (Nat × Nat) ⊕ Nat := if isc t tc 59 (sk t tc i) = true then .inr (sk t tc i + 1) else .inl (1, sk t tc i)
def isIn (o : Nat → Nat) (k v : Nat) : Bool := (List.range k).any (fun e => o e == v)
def whl (o : Nat → Nat) (k : Nat) : Bool := decide (1 < k) && (List.range k).all (fun w => isIn o k w)
theorem isIn_iff {o : Nat → Nat} {k v : Nat} : isIn o k v = true ↔ ∃ e, e < k ∧ o e = v := by
  unfold isIn
  rw [List.any_eq_true]
  constructor
  · rintro ⟨e, h1, h2⟩
    exact ⟨e, List.mem_range.mp h1, by simpa using h2⟩
  · rintro ⟨e, h1, h2⟩
    exact ⟨e, List.mem_range.mpr h1, by simpa using h2⟩
theorem whl_iff {o : Nat → Nat} {k : Nat} : whl o k = true ↔ 1 < k ∧ ∀ w, w < k → ∃ e, e < k ∧ o e = w := by
  unfold whl
  rw [Bool.and_eq_true, decide_eq_true_eq, List.all_eq_true]
  exact and_congr_right (fun _ => ⟨fun h w hw => isIn_iff.mp (h w (List.mem_range.mpr hw)), fun h w hw => isIn_iff.mpr (h w (List.mem_range.mp hw))⟩)
def pord (t : Nat → Nat) (tc : Nat) : Nat → (Nat → Nat) → Nat → Nat → (Nat × Nat) ⊕ ((Nat → Nat) × Nat × Nat)
  | 0, _, _, i => .inl (1, sk t tc i)
  | f + 1, o, k, i => match pnum t tc 0 4 i with
    | .inl e => .inl e
    | .inr (v, na, a) => if isIn o k v = true then .inl (4, na) else if isc t tc 44 (sk t tc a) = true ∧ k + 1 < 5 then pord t tc f (setd o k v) (k + 1) (sk t tc a + 1) else if whl (setd o k v) (k + 1) = true ∧ isc t tc 59 (sk t tc a) = true then .inr (setd o k v, k + 1, sk t tc a + 1) else .inl (1, sk t tc a)
def pkind (t : Nat → Nat) (tc n : Nat) (K : Nat → Nat) (i : Nat) : (Nat × Nat) ⊕ ((Nat → Nat) × Nat) := match pnum t tc 0 (n - 1) i with
  | .inl e => .inl e
  | .inr (w, na, a) => if K w ≠ 0 then .inl (4, na) else match pnum t tc 1 3 a with
    | .inl e => .inl e
    | .inr (v, _, b) => match pend t tc b with
      | .inl e => .inl e
      | .inr c => .inr (setd K w v, c)
def ptch (t : Nat → Nat) (tc n T i : Nat) : (Nat × Nat) ⊕ (Nat × Nat) := match pnum t tc 0 (n - 1) i with
  | .inl e => .inl e
  | .inr (a, _, x) => match pnum t tc 0 (n - 1) x with
    | .inl e => .inl e
    | .inr (b, nb, y) => if a = b ∨ T.testBit (pn a b) = true then .inl (4, nb) else match pend t tc y with
      | .inl e => .inl e
      | .inr c => .inr (T ||| 2 ^ pn a b, c)
def pcl (t : Nat → Nat) (tc n : Nat) (K : Nat → Nat) (T i : Nat) : (Nat × Nat) ⊕ ((Nat → Nat) × Nat × Nat) := if isc t tc 107 i = true then (match pkind t tc n K (i + 1) with
  | .inl e => .inl e
  | .inr (K2, a) => .inr (K2, T, a)) else if isc t tc 115 i = true then (match ptch t tc n T (i + 1) with
  | .inl e => .inl e
  | .inr (T2, a) => .inr (K, T2, a)) else .inl (if isc t tc 99 i = true then 3 else 1, i)
def pcls (t : Nat → Nat) (tc n : Nat) : Nat → (Nat → Nat) → Nat → Nat → (Nat × Nat) ⊕ ((Nat → Nat) × Nat)
  | 0, K, T, _ => .inr (K, T)
  | f + 1, K, T, i => if tc ≤ sk t tc i then .inr (K, T) else match pcl t tc n K T (sk t tc i) with
    | .inl e => .inl e
    | .inr (K2, T2, a) => pcls t tc n f K2 T2 a
def pall (t : Nat → Nat) (tc : Nat) : (Nat × Nat) ⊕ (Nat × (Nat → Nat) × (Nat → Nat) × Nat) := if tc ≤ sk t tc 0 then .inr (0, fun _ => 0, fun _ => 0, 0) else if isc t tc 99 (sk t tc 0) = true then (match pord t tc 5 (fun _ => 0) 0 (sk t tc 0 + 1) with
  | .inl e => .inl e
  | .inr (o, n, a) => match pcls t tc n 240 (fun _ => 0) 0 a with
    | .inl e => .inl e
    | .inr (K, T) => .inr (n, o, K, T)) else .inl (1, sk t tc 0)
/-! what the reading keeps -/
theorem pnum_r {t : Nat → Nat} {tc lo hi i v na a : Nat} (h : pnum t tc lo hi i = .inr (v, na, a)) : lo ≤ v ∧ v ≤ hi ∧ i ≤ a ∧ (i ≤ tc → a ≤ tc) ∧ na ≤ a := by
  unfold pnum at h
  split at h
  · exact absurd h (by simp)
  · split at h
    · rename_i q
      simp only [Sum.inr.injEq, Prod.mk.injEq] at h
      obtain ⟨h1, h2, h3⟩ := h
      have l := sk_le (t := t) (tc := tc) i
      exact ⟨by omega, by omega, by omega, fun q2 => by rw [← h3]; exact nd_tc tc _ (by omega) (sk_tc q2), by omega⟩
    · exact absurd h (by simp)
theorem pnum_l {t : Nat → Nat} {tc lo hi i f p : Nat} (h : pnum t tc lo hi i = .inl (f, p)) : f ≠ 0 ∧ f ≤ 4 ∧ (i ≤ tc → p ≤ tc) := by
  unfold pnum at h
  split at h
  · simp only [Sum.inl.injEq, Prod.mk.injEq] at h
    exact ⟨by omega, by omega, fun q => by rw [← h.2]; exact sk_tc q⟩
  · split at h
    · exact absurd h (by simp)
    · simp only [Sum.inl.injEq, Prod.mk.injEq] at h
      exact ⟨by omega, by omega, fun q => by rw [← h.2]; exact sk_tc q⟩
def kt (n : Nat) (K : Nat → Nat) (T : Nat) : Prop := (∀ w, w < 5 → K w < 4 ∧ (n ≤ w → K w = 0)) ∧ tmk n T
theorem pend_r {t : Nat → Nat} {tc i a : Nat} (h : pend t tc i = .inr a) : i < a ∧ a ≤ tc := by
  unfold pend at h
  split at h
  · rename_i q
    have := (isc_lt.mp q).1
    simp only [Sum.inr.injEq] at h
    have l := sk_le (t := t) (tc := tc) i
    omega
  · exact absurd h (by simp)
theorem tmk_or {n T a b : Nat} (h : tmk n T) (ha : a < n) (hb : b < n) (hne : a ≠ b) (hn : n ≤ 5) : tmk n (T ||| 2 ^ pn a b) := by
  have hp := pn_lt (a := a) (b := b) (by omega) (by omega)
  refine ⟨Nat.or_lt_two_pow h.1 (Nat.pow_lt_pow_right (by omega) hp), fun i hi => ?_⟩
  rw [Nat.testBit_or, Nat.testBit_two_pow, Bool.or_eq_true, decide_eq_true_eq] at hi
  rcases hi with hi | hi
  · exact h.2 i hi
  · rw [← hi]
    exact ⟨min a b, max a b, by omega, by omega, rfl⟩
theorem pcl_ok {t : Nat → Nat} {tc n : Nat} (hn : n ≤ 5) (h0 : 0 < n) {K K2 : Nat → Nat} {T T2 i a : Nat} (hk : kt n K T) (h : pcl t tc n K T i = .inr (K2, T2, a)) : kt n K2 T2 ∧ i < a ∧ a ≤ tc := by
  unfold pcl at h
  split at h
  · unfold pkind at h
    cases h1 : pnum t tc 0 (n - 1) (i + 1) with
    | inl e => rw [h1] at h; exact absurd h (by simp)
    | inr r =>
      obtain ⟨w, na, x⟩ := r
      rw [h1] at h
      have r1 := pnum_r h1
      (try dsimp only at h)
      by_cases hw : K w ≠ 0
      · rw [if_pos hw] at h; exact absurd h (by simp)
      · rw [if_neg hw] at h
        cases h2 : pnum t tc 1 3 x with
        | inl e => rw [h2] at h; exact absurd h (by simp)
        | inr r =>
          obtain ⟨v, nv, y⟩ := r
          rw [h2] at h
          have r2 := pnum_r h2
          (try dsimp only at h)
          cases h3 : pend t tc y with
          | inl e => rw [h3] at h; exact absurd h (by simp)
          | inr c =>
            rw [h3] at h
            have r3 := pend_r h3
            simp only [Sum.inr.injEq, Prod.mk.injEq] at h
            obtain ⟨e1, e2, e3⟩ := h
            rw [← e1, ← e2, ← e3]
            refine ⟨⟨fun u hu => ?_, hk.2⟩, by omega, r3.2⟩
            unfold setd
            (try dsimp only)
            by_cases q : u = w
            · rw [if_pos q]; exact ⟨by omega, fun y => by omega⟩
            · rw [if_neg q]; exact hk.1 u hu
  · split at h
    · unfold ptch at h
      cases h1 : pnum t tc 0 (n - 1) (i + 1) with
      | inl e => rw [h1] at h; exact absurd h (by simp)
      | inr r =>
        obtain ⟨u, nu, x⟩ := r
        rw [h1] at h
        have r1 := pnum_r h1
        (try dsimp only at h)
        cases h2 : pnum t tc 0 (n - 1) x with
        | inl e => rw [h2] at h; exact absurd h (by simp)
        | inr r =>
          obtain ⟨v, nv, y⟩ := r
          rw [h2] at h
          have r2 := pnum_r h2
          (try dsimp only at h)
          by_cases hw : u = v ∨ T.testBit (pn u v) = true
          · rw [if_pos hw] at h; exact absurd h (by simp)
          · rw [if_neg hw] at h
            cases h3 : pend t tc y with
            | inl e => rw [h3] at h; exact absurd h (by simp)
            | inr c =>
              rw [h3] at h
              have r3 := pend_r h3
              simp only [Sum.inr.injEq, Prod.mk.injEq] at h
              obtain ⟨e1, e2, e3⟩ := h
              rw [← e1, ← e2, ← e3]
              exact ⟨⟨hk.1, tmk_or hk.2 (by omega) (by omega) (fun q => hw (Or.inl q)) hn⟩, by omega, r3.2⟩
    · exact absurd h (by simp)
theorem pcls_ok {t : Nat → Nat} {tc n : Nat} (hn : n ≤ 5) (h0 : 0 < n) : ∀ (f : Nat) (K : Nat → Nat) (T i : Nat) (K2 : Nat → Nat) (T2 : Nat), kt n K T → pcls t tc n f K T i = .inr (K2, T2) → kt n K2 T2 := by
  intro f
  induction f with
  | zero =>
    intro K T i K2 T2 hk h
    unfold pcls at h
    simp only [Sum.inr.injEq, Prod.mk.injEq] at h
    rw [← h.1, ← h.2]; exact hk
  | succ f ih =>
    intro K T i K2 T2 hk h
    unfold pcls at h
    split at h
    · simp only [Sum.inr.injEq, Prod.mk.injEq] at h
      rw [← h.1, ← h.2]; exact hk
    · cases h1 : pcl t tc n K T (sk t tc i) with
      | inl e => rw [h1] at h; exact absurd h (by simp)
      | inr r =>
        obtain ⟨K3, T3, a⟩ := r
        rw [h1] at h
        exact ih K3 T3 a K2 T2 (pcl_ok hn h0 hk h1).1 h
/-- distinct numbers that are all of 0 to k less one -/
theorem inj_whole {o : Nat → Nat} {k : Nat} (hi : ∀ e f, e < k → f < k → o e = o f → e = f) (hw : ∀ w, w < k → ∃ e, e < k ∧ o e = w) : ∀ e, e < k → o e < k := by
  have : ∀ w, ∃ e, w < k → e < k ∧ o e = w := fun w => by
    by_cases q : w < k
    · obtain ⟨e, he⟩ := hw w q
      exact ⟨e, fun _ => he⟩
    · exact ⟨0, fun z => absurd z q⟩
  obtain ⟨g, hg⟩ := Classical.skolem.mp this
  intro e he
  obtain ⟨w, hw1, hw2⟩ := surj k g (fun w hw => (hg w hw).1) (fun a b ha hb q => by rw [← (hg a ha).2, ← (hg b hb).2, q]) e he
  rw [← hw2, (hg w hw1).2]
  exact hw1
theorem pord_ok {t : Nat → Nat} {tc : Nat} : ∀ (f : Nat) (o : Nat → Nat) (k i : Nat) (o2 : Nat → Nat) (n a : Nat), k + f = 5 → (∀ e f, e < k → f < k → o e = o f → e = f) → pord t tc f o k i = .inr (o2, n, a) → 2 ≤ n ∧ n ≤ 5 ∧ (∀ e, e < n → o2 e < n) ∧ (∀ e f, e < n → f < n → o2 e = o2 f → e = f) ∧ a ≤ tc := by
  intro f
  induction f with
  | zero => intro o k i o2 n a hk hi h; exact absurd h (by simp [pord])
  | succ f ih =>
    intro o k i o2 n a hk hi h
    unfold pord at h
    cases h1 : pnum t tc 0 4 i with
    | inl e => rw [h1] at h; exact absurd h (by simp)
    | inr r =>
      obtain ⟨v, na, x⟩ := r
      rw [h1] at h
      (try dsimp only at h)
      by_cases q1 : isIn o k v = true
      · rw [if_pos q1] at h; exact absurd h (by simp)
      · rw [if_neg q1] at h
        have hne : ∀ e, e < k → o e ≠ v := fun e he q => q1 (isIn_iff.mpr ⟨e, he, q⟩)
        have hi2 : ∀ e f, e < k + 1 → f < k + 1 → setd o k v e = setd o k v f → e = f := fun e f he hf q => by
          unfold setd at q
          by_cases a1 : e = k <;> by_cases a2 : f = k
          · rw [a1, a2]
          · rw [if_pos a1, if_neg a2] at q; exact absurd q.symm (hne f (by omega))
          · rw [if_neg a1, if_pos a2] at q; exact absurd q (hne e (by omega))
          · rw [if_neg a1, if_neg a2] at q; exact hi e f (by omega) (by omega) q
        by_cases q2 : isc t tc 44 (sk t tc x) = true ∧ k + 1 < 5
        · rw [if_pos q2] at h
          exact ih _ _ _ _ _ _ (by omega) hi2 h
        · rw [if_neg q2] at h
          by_cases q3 : whl (setd o k v) (k + 1) = true ∧ isc t tc 59 (sk t tc x) = true
          · rw [if_pos q3] at h
            simp only [Sum.inr.injEq, Prod.mk.injEq] at h
            obtain ⟨e1, e2, e3⟩ := h
            rw [← e1, ← e2, ← e3]
            obtain ⟨w1, w2⟩ := whl_iff.mp q3.1
            have := (isc_lt.mp q3.2).1
            exact ⟨by omega, by omega, inj_whole hi2 w2, hi2, by omega⟩
          · rw [if_neg q3] at h; exact absurd h (by simp)
end
