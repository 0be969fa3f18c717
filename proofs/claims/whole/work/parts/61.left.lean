section
/-! what rings at a place, in a number -/
def hd (t p : Nat) : Nat := ((t >>> (5 * p)) &&& 31) ||| (((t >>> 10) &&& 1) <<< 5)
theorem hd0 : ∀ {t : Nat}, t < 2048 → (((nI t >>> (nI 0 &&& 31)) &&& (31 : Int32)) ||| (((nI t >>> ((10 : Int32) &&& 31)) &&& (1 : Int32)) <<< ((5 : Int32) &&& 31))) = nI (hd t 0) := fun h => co_dec (P := fun t => (((nI t >>> (nI 0 &&& 31)) &&& (31 : Int32)) ||| (((nI t >>> ((10 : Int32) &&& 31)) &&& (1 : Int32)) <<< ((5 : Int32) &&& 31))) = nI (hd t 0)) (by decide +kernel) h
theorem hd1 : ∀ {t : Nat}, t < 2048 → (((nI t >>> (nI 5 &&& 31)) &&& (31 : Int32)) ||| (((nI t >>> ((10 : Int32) &&& 31)) &&& (1 : Int32)) <<< ((5 : Int32) &&& 31))) = nI (hd t 1) := fun h => co_dec (P := fun t => (((nI t >>> (nI 5 &&& 31)) &&& (31 : Int32)) ||| (((nI t >>> ((10 : Int32) &&& 31)) &&& (1 : Int32)) <<< ((5 : Int32) &&& 31))) = nI (hd t 1)) (by decide +kernel) h
theorem hd_bits {t p : Nat} (j : Nat) : (hd t p).testBit j = ((decide (j < 5) && t.testBit (5 * p + j)) || (decide (j = 5) && t.testBit 10)) := by
  unfold hd
  rw [Nat.testBit_or, Nat.testBit_and, Nat.testBit_shiftRight, Nat.testBit_shiftLeft, Nat.testBit_and, Nat.testBit_shiftRight, show (31 : Nat) = 2 ^ 5 - 1 from rfl, Nat.testBit_two_pow_sub_one, show (1 : Nat) = 2 ^ 1 - 1 from rfl, Nat.testBit_two_pow_sub_one]
  by_cases h1 : j < 5
  · have h2 : ¬ 5 ≤ j := by omega
    have h3 : ¬ j = 5 := by omega
    simp [h1, h2, h3]
  · by_cases h3 : j = 5
    · subst h3; simp
    · have h2 : 5 ≤ j := by omega
      have h4 : ¬ j - 5 < 1 := by omega
      simp [h1, h3]
      intro _ _; omega
theorem hd_lt {t p : Nat} : hd t p < 2 ^ 6 := Nat.lt_pow_two_of_testBit _ (fun j hj => by
  rw [hd_bits]
  have h1 : ¬ j < 5 := by omega
  have h2 : ¬ j = 5 := by omega
  simp [h1, h2])
def ptn (f : Nat → Nat) : Nat → Nat
  | 0 => 0
  | k + 1 => ptn f k ||| f k * 2 ^ (6 * k)
theorem ptn_lt {f : Nat → Nat} (hf : ∀ k, f k < 2 ^ 6) : ∀ k, ptn f k < 2 ^ (6 * k) := by
  intro k
  induction k with
  | zero => exact Nat.one_pos
  | succ k ih =>
    refine Nat.or_lt_two_pow (Nat.lt_of_lt_of_le ih (Nat.pow_le_pow_right (by omega) (by omega))) ?_
    rw [show 6 * (k + 1) = 6 + 6 * k by omega, Nat.pow_add]
    exact Nat.mul_lt_mul_of_pos_right (hf k) (Nat.two_pow_pos _)
theorem ptn_add {f : Nat → Nat} (hf : ∀ k, f k < 2 ^ 6) (k : Nat) : ptn f (k + 1) = 2 ^ (6 * k) * f k + ptn f k := by
  rw [Nat.two_pow_add_eq_or_of_lt (ptn_lt hf k), Nat.or_comm, Nat.mul_comm]; rfl
theorem ptn_inj {f g : Nat → Nat} (hf : ∀ k, f k < 2 ^ 6) (hg : ∀ k, g k < 2 ^ 6) : ∀ k, ptn f k = ptn g k ↔ ∀ i, i < k → f i = g i := by
  intro k
  induction k with
  | zero => exact ⟨fun _ i hi => by omega, fun _ => rfl⟩
  | succ k ih =>
    rw [ptn_add hf, ptn_add hg]
    have l1 := ptn_lt hf k
    have l2 := ptn_lt hg k
    constructor
    · intro h i hi
      have hd : f k = g k := by
        have e1 : (2 ^ (6 * k) * f k + ptn f k) / 2 ^ (6 * k) = f k := by rw [Nat.mul_add_div (Nat.two_pow_pos _), Nat.div_eq_of_lt l1, Nat.add_zero]
        have e2 : (2 ^ (6 * k) * g k + ptn g k) / 2 ^ (6 * k) = g k := by rw [Nat.mul_add_div (Nat.two_pow_pos _), Nat.div_eq_of_lt l2, Nat.add_zero]
        rw [← e1, ← e2, h]
      have hm : ptn f k = ptn g k := by rw [hd] at h; omega
      by_cases e : i = k
      · rw [e]; exact hd
      · exact ih.mp hm i (by omega)
    · intro h
      rw [h k (by omega), ih.mpr (fun i hi => h i (by omega))]
theorem shl6 {v i : Nat} (hv : v < 64) (hi : i < 5) : nI v <<< (((6 : Int32) * nI i) &&& 31) = nI (v * 2 ^ (6 * i)) := by
  have h0 : ∀ {v : Nat}, v < 64 → nI v <<< (((6 : Int32) * nI 0) &&& 31) = nI (v * 2 ^ (6 * 0)) := fun h => co_dec (P := fun v => nI v <<< (((6 : Int32) * nI 0) &&& 31) = nI (v * 2 ^ (6 * 0))) (by decide +kernel) h
  have h1 : ∀ {v : Nat}, v < 64 → nI v <<< (((6 : Int32) * nI 1) &&& 31) = nI (v * 2 ^ (6 * 1)) := fun h => co_dec (P := fun v => nI v <<< (((6 : Int32) * nI 1) &&& 31) = nI (v * 2 ^ (6 * 1))) (by decide +kernel) h
  have h2 : ∀ {v : Nat}, v < 64 → nI v <<< (((6 : Int32) * nI 2) &&& 31) = nI (v * 2 ^ (6 * 2)) := fun h => co_dec (P := fun v => nI v <<< (((6 : Int32) * nI 2) &&& 31) = nI (v * 2 ^ (6 * 2))) (by decide +kernel) h
  have h3 : ∀ {v : Nat}, v < 64 → nI v <<< (((6 : Int32) * nI 3) &&& 31) = nI (v * 2 ^ (6 * 3)) := fun h => co_dec (P := fun v => nI v <<< (((6 : Int32) * nI 3) &&& 31) = nI (v * 2 ^ (6 * 3))) (by decide +kernel) h
  have h4 : ∀ {v : Nat}, v < 64 → nI v <<< (((6 : Int32) * nI 4) &&& 31) = nI (v * 2 ^ (6 * 4)) := fun h => co_dec (P := fun v => nI v <<< (((6 : Int32) * nI 4) &&& 31) = nI (v * 2 ^ (6 * 4))) (by decide +kernel) h
  rcases (show i = 0 ∨ i = 1 ∨ i = 2 ∨ i = 3 ∨ i = 4 by omega) with rfl | rfl | rfl | rfl | rfl
  · exact h0 hv
  · exact h1 hv
  · exact h2 hv
  · exact h3 hv
  · exact h4 hv
theorem pattern_s {n p : Nat} (hn : n ≤ 5) (hp : p ≤ 1) {h : Hp} {g : Nat → Nat} (hg : row h 63 g) (hgl : ∀ i, i < 11 → g i < 2048) {P : Int32 → Prop} (K : P (nI (ptn (fun i => hd (g (5 * p + i)) p) n))) : wp_Nets_pattern 45 (nI p) (nI n) h P := by
  have hf : ∀ k, (fun i => hd (g (5 * p + i)) p) k < 2 ^ 6 := fun k => hd_lt
  have lp : ∀ (j i : Nat) (E : Int32 → Prop), i + j = n → E (nI (ptn (fun i => hd (g (5 * p + i)) p) n)) → lp_Nets_pattern_12 (j + 1) 45 (nI n) (nI (5 * p)) (nI (ptn (fun i => hd (g (5 * p + i)) p) i)) (nI i) h E := by
    intro j
    induction j with
    | zero =>
      intro i E hi hE
      have e : i = n := by omega
      subst e
      unfold lp_Nets_pattern_12
      exact ⟨fun _ => hE, fun z => absurd (nI_le (by omega) (by omega)) z⟩
    | succ j ih =>
      intro i E hi hE
      have l1 := ptn_lt hf i
      have l2 := ptn_lt hf (i + 1)
      have l3 : 2 ^ (6 * i) ≤ 2 ^ 24 := Nat.pow_le_pow_right (by omega) (by omega)
      have l4 : hd (g (5 * p + i)) p < 64 := hd_lt
      have l5 : hd (g (5 * p + i)) p * 2 ^ (6 * i) ≤ 63 * 2 ^ 24 := Nat.mul_le_mul (by omega) l3
      unfold lp_Nets_pattern_12
      dsimp only [lt]
      rw [nI_add, nI_1]
      refine ⟨fun z => absurd z (nI_ge (by omega) (by omega)), fun _ => of_s (r := 45) hg (by omega) ?_⟩
      have eh : (((nI (g (5 * p + i)) >>> (nI (5 * p) &&& 31)) &&& (31 : Int32)) ||| (((nI (g (5 * p + i)) >>> ((10 : Int32) &&& 31)) &&& (1 : Int32)) <<< ((5 : Int32) &&& 31))) = nI (hd (g (5 * p + i)) p) := by
        rcases (show p = 0 ∨ p = 1 by omega) with rfl | rfl
        · exact hd0 (hgl _ (by omega))
        · exact hd1 (hgl _ (by omega))
      rw [eh, shl6 l4 (by omega), or_nI (by omega) (by omega)]
      exact ih (i + 1) E (by omega) hE
  unfold wp_Nets_pattern
  exact nodeOf_s (a := 0) hp (by omega) ⟨_, lp n 0 _ (by omega) K⟩
/-! the model's number -/
def ai (B : Nat → Bool) : Nat → Nat → Nat × Nat → Nat × Nat
  | 0, _, s => s
  | k + 1, b, s => ai B k (b + 1) (s.1 ||| (if B b = true then 2 ^ s.2 else 0), s.2 + 1)
def ao (n : Nat) (B : Nat → Nat → Bool) : Nat → Nat → Nat × Nat → Nat × Nat
  | 0, _, s => s
  | k + 1, a, s => ao n B k (a + 1) (ai (B a) (n - a) (a + 1) s)
theorem st_lt {s c : Nat} {x : Bool} (h : s < 2 ^ c) : s ||| (if x = true then 2 ^ c else 0) < 2 ^ (c + 1) := by
  have h1 : 2 ^ c < 2 ^ (c + 1) := Nat.pow_lt_pow_right (by omega) (by omega)
  refine Nat.or_lt_two_pow (Nat.lt_trans h h1) ?_
  split
  · exact h1
  · exact Nat.two_pow_pos _
theorem st_val {s c : Nat} {x : Bool} (h : s < 2 ^ c) : s ||| (if x = true then 2 ^ c else 0) = s + (if x = true then 2 ^ c else 0) := by
  cases x
  · simp
  · have := Nat.two_pow_add_eq_or_of_lt h 1
    rw [Nat.mul_one] at this
    simp only [if_pos]
    rw [Nat.or_comm, ← this, Nat.add_comm]
theorem st_inj {s s' c : Nat} {x x' : Bool} (h : s < 2 ^ c) (h' : s' < 2 ^ c) (e : s ||| (if x = true then 2 ^ c else 0) = s' ||| (if x' = true then 2 ^ c else 0)) : s = s' ∧ x = x' := by
  rw [st_val h, st_val h'] at e
  cases x <;> cases x' <;> simp at e
  · exact ⟨e, rfl⟩
  · omega
  · omega
  · exact ⟨e, rfl⟩
theorem ai_lt {B : Nat → Bool} : ∀ k b s, s.1 < 2 ^ s.2 → (ai B k b s).1 < 2 ^ (ai B k b s).2 ∧ (ai B k b s).2 = s.2 + k := by
  intro k
  induction k with
  | zero => intro b s h; exact ⟨h, rfl⟩
  | succ k ih =>
    intro b s h
    obtain ⟨h1, h2⟩ := ih (b + 1) (s.1 ||| (if B b = true then 2 ^ s.2 else 0), s.2 + 1) (st_lt h)
    exact ⟨h1, by rw [show ai B (k + 1) b s = ai B k (b + 1) (s.1 ||| (if B b = true then 2 ^ s.2 else 0), s.2 + 1) from rfl, h2]; (try dsimp only); omega⟩
theorem ai_inj {B B' : Nat → Bool} : ∀ k b (s s' : Nat × Nat), s.1 < 2 ^ s.2 → s'.1 < 2 ^ s'.2 → s.2 = s'.2 → ((ai B k b s).1 = (ai B' k b s').1 ↔ s.1 = s'.1 ∧ ∀ i, b ≤ i → i < b + k → B i = B' i) := by
  intro k
  induction k with
  | zero => intro b s s' _ _ _; exact ⟨fun h => ⟨h, fun i _ _ => by omega⟩, fun h => h.1⟩
  | succ k ih =>
    intro b s s' h1 h2 h3
    have := ih (b + 1) (s.1 ||| (if B b = true then 2 ^ s.2 else 0), s.2 + 1) (s'.1 ||| (if B' b = true then 2 ^ s'.2 else 0), s'.2 + 1) (st_lt h1) (st_lt h2) (by (try dsimp only); omega)
    rw [show ai B (k + 1) b s = ai B k (b + 1) (s.1 ||| (if B b = true then 2 ^ s.2 else 0), s.2 + 1) from rfl, show ai B' (k + 1) b s' = ai B' k (b + 1) (s'.1 ||| (if B' b = true then 2 ^ s'.2 else 0), s'.2 + 1) from rfl, this]
    constructor
    · rintro ⟨q1, q2⟩
      rw [← h3] at q1 h2
      obtain ⟨r1, r2⟩ := st_inj h1 h2 q1
      refine ⟨r1, fun i hi1 hi2 => ?_⟩
      by_cases e : i = b
      · rw [e]; exact r2
      · exact q2 i (by omega) (by omega)
    · rintro ⟨q1, q2⟩
      refine ⟨?_, fun i hi1 hi2 => q2 i (by omega) (by omega)⟩
      (try dsimp only)
      rw [q1, q2 b (by omega) (by omega), h3]
theorem ao_inj {n : Nat} {B B' : Nat → Nat → Bool} : ∀ k a (s s' : Nat × Nat), a + k = n → s.1 < 2 ^ s.2 → s'.1 < 2 ^ s'.2 → s.2 = s'.2 → ((ao n B k a s).1 = (ao n B' k a s').1 ↔ s.1 = s'.1 ∧ ∀ i j, a ≤ i → i < n → i < j → j ≤ n → B i j = B' i j) := by
  intro k
  induction k with
  | zero => intro a s s' _ _ _ _; exact ⟨fun h => ⟨h, fun i j _ _ _ _ => by omega⟩, fun h => h.1⟩
  | succ k ih =>
    intro a s s' h0 h1 h2 h3
    obtain ⟨x1, x2⟩ := ai_lt (B := B a) (n - a) (a + 1) s h1
    obtain ⟨y1, y2⟩ := ai_lt (B := B' a) (n - a) (a + 1) s' h2
    rw [show ao n B (k + 1) a s = ao n B k (a + 1) (ai (B a) (n - a) (a + 1) s) from rfl, show ao n B' (k + 1) a s' = ao n B' k (a + 1) (ai (B' a) (n - a) (a + 1) s') from rfl, ih (a + 1) _ _ (by omega) x1 y1 (by omega), ai_inj _ _ _ _ h1 h2 h3]
    constructor
    · rintro ⟨⟨q1, q2⟩, q3⟩
      refine ⟨q1, fun i j i1 i2 i3 i4 => ?_⟩
      by_cases e : i = a
      · rw [e]; exact q2 j (by omega) (by omega)
      · exact q3 i j (by omega) i2 i3 i4
    · rintro ⟨q1, q2⟩
      exact ⟨⟨q1, fun i i1 i2 => q2 a i (Nat.le_refl _) (by omega) (by omega) (by omega)⟩, fun i j i1 i2 i3 i4 => q2 i j (by omega) i2 i3 i4⟩
end
