section
theorem shl1 {k : Nat} (hk : k < 31) : (1 : Int32) <<< (nI k &&& 31) = nI (2 ^ k) := by
  have h : ∀ k : Fin 31, (1 : Int32) <<< (nI k.1 &&& 31) = nI (2 ^ k.1) := by decide +kernel
  exact h ⟨k, hk⟩
theorem and_bit {T k : Nat} : T &&& 2 ^ k = 0 ↔ T.testBit k = false := by
  refine ⟨fun h => ?_, fun h => Nat.eq_of_testBit_eq fun i => ?_⟩
  · have := congrArg (fun x => x.testBit k) h
    simpa [Nat.testBit_two_pow_self] using this
  · rw [Nat.testBit_and, Nat.testBit_two_pow, Nat.zero_testBit]
    by_cases e : k = i
    · subst e; simp [h]
    · simp [e]
theorem bit_and {T k : Nat} (hT : T < 2 ^ 31) (hk : k < 31) : (nI T &&& nI (2 ^ k)) = 0 ↔ T.testBit k = false := by
  have h2 : 2 ^ k < 2 ^ 31 := Nat.pow_lt_pow_right (by omega) hk
  rw [and_nI (by omega) (by omega), nI_zero (Nat.lt_of_le_of_lt Nat.and_le_right h2)]
  exact and_bit
theorem bit_shr {T k : Nat} (hT : T < 2 ^ 31) (hk : k < 31) : ((nI T >>> (nI k &&& 31)) &&& 1) = nI (T.testBit k).toNat := by
  have h : ∀ k : Fin 31, ((nI k.1 &&& 31).toBitVec.smod 32).toNat = k.1 := by decide +kernel
  rw [pk_shrN hT _ k (h ⟨k, hk⟩), pk_andN (Nat.lt_of_le_of_lt (Nat.div_le_self _ _) (by omega)) 1 (by decide)]
  refine congrArg nI ?_
  rw [Nat.testBit_eq_decide_div_mod_eq]
  have : T / 2 ^ k % 2 < 2 := Nat.mod_lt _ (by omega)
  by_cases e : T / 2 ^ k % 2 = 1
  · simp [e]
  · simp [e]; omega
theorem has_s {T k : Nat} (hT : T < 2 ^ 31) (hk : k < 31) {P : Bool → Prop} (q : P (T.testBit k)) : wp_Md_has (nI T) (nI k) P := by
  unfold wp_Md_has
  rw [bit_shr hT hk]
  cases e : T.testBit k with
  | true => rw [e] at q; exact ⟨fun z => absurd rfl z, fun _ => q⟩
  | false => rw [e] at q; exact ⟨fun _ => q, fun z => absurd z (by decide)⟩
/-- the number of a pair -/
def pn (a b : Nat) : Nat := 5 * min a b + max a b
theorem pn_lt {a b : Nat} (ha : a < 5) (hb : b < 5) : pn a b < 25 := by unfold pn; omega
theorem pairBit_s {a b : Nat} (ha : a < 5) (hb : b < 5) {P : Int32 → Prop} (k : P (nI (2 ^ pn a b))) : wp_Fe_pairBit (nI a) (nI b) P := by
  unfold wp_Fe_pairBit
  rw [jmin_nI (by omega) (by omega), jmax_nI (by omega) (by omega), show (5 : Int32) * nI (min a b) = nI (5 * min a b) from pk_mul 5 _, nI_add]
  rw [show 5 * min a b + max a b = pn a b from rfl, shl1 (Nat.lt_trans (pn_lt ha hb) (by omega))]
  exact k
theorem pair_s {a b : Nat} (ha : a < 5) (hb : b < 5) {P : Int32 → Prop} (k : P (nI (pn a b))) : wp_Md_pair (nI a) (nI b) P := by
  unfold wp_Md_pair
  dsimp only [jn]
  refine ⟨fun q => ⟨fun _ => ?_, fun z => absurd q z⟩, fun q => ⟨fun z => absurd z q, fun _ => ?_⟩⟩
  · have : b ≤ a := (nI_leI (by omega) (by omega)).mp q
    rw [show (5 : Int32) * nI b = nI (5 * b) from pk_mul 5 _, nI_add]
    unfold pn at k
    rw [Nat.min_eq_right this, Nat.max_eq_left this] at k; exact k
  · have : ¬ b ≤ a := fun z => q (nI_le z (by omega))
    rw [show (5 : Int32) * nI a = nI (5 * a) from pk_mul 5 _, nI_add]
    unfold pn at k
    rw [Nat.min_eq_left (by omega), Nat.max_eq_right (by omega)] at k; exact k
theorem doTouch_s {T a b : Nat} {h : Hp} (ht : h.1 7 6 = nI T) (hT : T < 2 ^ 31) (ha : a < 5) (hb : b < 5) {P : Bool → Prop} (k : P (T.testBit (pn a b))) : wp_Md_doTouch (nI a) (nI b) h P := by
  unfold wp_Md_doTouch
  refine pair_s ha hb ?_
  rw [ht]
  exact has_s hT (Nat.lt_trans (pn_lt ha hb) (by omega)) k
theorem G8 : ∀ (h : Hp) (p0 p1 : Int32), Rel h → wp_Fe_touches p0 p1 h (fun v1 => wp_Md_touches p0 p1 h (fun v2 => v1 = v2 ∧ Rel h)) := by
  intro h p0 p1 hR
  obtain ⟨n, o, a1, ⟨m, a2⟩, a3, a4, a5, a6, a7, a8, a9⟩ := id hR
  obtain ⟨hcs, hml, hwf⟩ := id a2
  have hw := a1.1
  have hw2 := a1.2.1
  have hn := a1.2.2.1
  have hT : m 4 < 2 ^ 31 := Nat.lt_of_lt_of_le hwf.2.2.2.2.1.1 (by omega)
  unfold wp_Fe_touches
  by_cases hh : vld n p0 ∧ vld n p1 ∧ p0 ≠ p1
  · obtain ⟨h0, h1, hne⟩ := hh
    rw [two_t hw hn h0 h1 hne]
    refine ⟨fun _ => ?_, fun z => absurd rfl z⟩
    have mt : ∀ v : Int32, (∀ a b, p0 = nI a → p1 = nI b → a < n → b < n → v = if (m 4).testBit (pn a b) = true then 1 else 0) → wp_Md_touches p0 p1 h (fun v2 => v = v2 ∧ Rel h) := fun v hv => by
      unfold wp_Md_touches
      rw [isW_t hw2 hn h0]
      refine ⟨fun z => absurd rfl z, fun _ => ?_⟩
      rw [isW_t hw2 hn h1]
      refine ⟨fun z => absurd rfl z, fun _ => ⟨fun _ => ?_, fun z => absurd z hne⟩⟩
      obtain ⟨a, ha, rfl⟩ := h0
      obtain ⟨b, hb, rfl⟩ := h1
      have hv2 := hv a b rfl rfl ha hb
      refine doTouch_s (T := m 4) hml.2.2.2.2.1 hT (by omega) (by omega) ⟨fun z => ?_, fun z => ?_⟩
      · rw [if_neg z] at hv2; exact ⟨hv2, hR⟩
      · rw [if_pos z] at hv2; exact ⟨hv2, hR⟩
    obtain ⟨a, ha, ea⟩ := id h0
    obtain ⟨b, hb, eb⟩ := id h1
    have hk : pn a b < 31 := Nat.lt_trans (pn_lt (by omega) (by omega)) (by omega)
    have inj : ∀ c d, p0 = nI c → p1 = nI d → c < n → d < n → c = a ∧ d = b := fun c d e1 e2 h1 h2 => ⟨nI_inj (by omega) (by omega) (by rw [← e1, ea]), nI_inj (by omega) (by omega) (by rw [← e2, eb])⟩
    have e3 : h.1 26 1 = nI (m 4) := hcs.2.1
    have : wp_Fe_pairBit p0 p1 (fun v21 => ((h.1 26 1 &&& v21) = 0 → wp_Md_touches p0 p1 h (fun v2 => (0 : Int32) = v2 ∧ Rel h)) ∧ (¬ (h.1 26 1 &&& v21) = 0 → wp_Md_touches p0 p1 h (fun v2 => (1 : Int32) = v2 ∧ Rel h))) := by
      rw [ea, eb]
      refine pairBit_s (by omega) (by omega) ?_
      rw [← ea, ← eb, e3, bit_and hT hk]
      refine ⟨fun z => mt 0 (fun c d e1 e2 h1 h2 => ?_), fun z => mt 1 (fun c d e1 e2 h1 h2 => ?_)⟩
      · obtain ⟨rfl, rfl⟩ := inj c d e1 e2 h1 h2
        rw [z]; rfl
      · obtain ⟨rfl, rfl⟩ := inj c d e1 e2 h1 h2
        have : (m 4).testBit (pn c d) = true := by simpa using z
        rw [this]; rfl
    exact this
  · rw [two_f hw hn hh]
    refine ⟨fun z => absurd z (by decide), fun _ => ?_⟩
    (try dsimp only [lt])
    unfold wp_Md_touches
    by_cases h0 : vld n p0
    · rw [isW_t hw2 hn h0]
      refine ⟨fun z => absurd rfl z, fun _ => ?_⟩
      by_cases h1 : vld n p1
      · rw [isW_t hw2 hn h1]
        refine ⟨fun z => absurd rfl z, fun _ => ⟨fun z => absurd ⟨h0, h1, z⟩ hh, fun _ => ⟨rfl, hR⟩⟩⟩
      · rw [isW_f hw2 hn h1]
        exact ⟨fun _ => ⟨rfl, hR⟩, fun z => absurd z (by decide)⟩
    · rw [isW_f hw2 hn h0]
      exact ⟨fun _ => ⟨rfl, hR⟩, fun z => absurd z (by decide)⟩
/-! how many touch -/
def tmB (b1 b2 b3 b4 b5 b6 b7 b8 b9 b0 : Bool) : Nat := b1.toNat * 2 + b2.toNat * 4 + b3.toNat * 8 + b4.toNat * 16 + b5.toNat * 128 + b6.toNat * 256 + b7.toNat * 512 + b8.toNat * 8192 + b9.toNat * 16384 + b0.toNat * 524288
theorem tmB_bits : ∀ b1 b2 b3 b4 b5 b6 b7 b8 b9 b0 : Bool, tmB b1 b2 b3 b4 b5 b6 b7 b8 b9 b0 < 2 ^ 25 ∧ ((List.range 25).map (tmB b1 b2 b3 b4 b5 b6 b7 b8 b9 b0).testBit) = [false, b1, b2, b3, b4, false, false, b5, b6, b7, false, false, false, b8, b9, false, false, false, false, b0, false, false, false, false, false] := by decide +kernel
theorem tmk_B {n T : Nat} (hn : n ≤ 5) (h : tmk n T) : T = tmB (T.testBit 1) (T.testBit 2) (T.testBit 3) (T.testBit 4) (T.testBit 7) (T.testBit 8) (T.testBit 9) (T.testBit 13) (T.testBit 14) (T.testBit 19) := by
  obtain ⟨q1, q2⟩ := tmB_bits (T.testBit 1) (T.testBit 2) (T.testBit 3) (T.testBit 4) (T.testBit 7) (T.testBit 8) (T.testBit 9) (T.testBit 13) (T.testBit 14) (T.testBit 19)
  refine Nat.eq_of_testBit_eq fun i => ?_
  by_cases hi : i < 25
  · have e := congrArg (fun l => l[i]?) q2
    simp only [List.getElem?_map, List.getElem?_range hi, Option.map_some] at e
    have z : ∀ j, (∀ a b, a < b → b < 5 → j ≠ 5 * a + b) → T.testBit j = false := fun j hj => by
      cases ht : T.testBit j with
      | false => rfl
      | true =>
        obtain ⟨a, b, h1, h2, h3⟩ := h.2 j ht
        exact absurd h3 (hj a b h1 (by omega))
    have key : ∀ v, (some ((tmB (T.testBit 1) (T.testBit 2) (T.testBit 3) (T.testBit 4) (T.testBit 7) (T.testBit 8) (T.testBit 9) (T.testBit 13) (T.testBit 14) (T.testBit 19)).testBit i) : Option Bool) = some v → T.testBit i = v → T.testBit i = (tmB (T.testBit 1) (T.testBit 2) (T.testBit 3) (T.testBit 4) (T.testBit 7) (T.testBit 8) (T.testBit 9) (T.testBit 13) (T.testBit 14) (T.testBit 19)).testBit i := fun v h1 h2 => by rw [h2]; exact (Option.some.inj h1).symm
    refine key _ (e.trans (show _ = some (T.testBit i) from ?_)) rfl
    rcases (show i = 0 ∨ i = 1 ∨ i = 2 ∨ i = 3 ∨ i = 4 ∨ i = 5 ∨ i = 6 ∨ i = 7 ∨ i = 8 ∨ i = 9 ∨ i = 10 ∨ i = 11 ∨ i = 12 ∨ i = 13 ∨ i = 14 ∨ i = 15 ∨ i = 16 ∨ i = 17 ∨ i = 18 ∨ i = 19 ∨ i = 20 ∨ i = 21 ∨ i = 22 ∨ i = 23 ∨ i = 24 by omega) with rfl | rfl | rfl | rfl | rfl | rfl | rfl | rfl | rfl | rfl | rfl | rfl | rfl | rfl | rfl | rfl | rfl | rfl | rfl | rfl | rfl | rfl | rfl | rfl | rfl
    all_goals first | rfl | exact congrArg some (z _ (fun a b h1 h2 => by omega)).symm
  · rw [Nat.testBit_lt_two_pow (Nat.lt_of_lt_of_le h.1 (Nat.pow_le_pow_right (by omega) (by omega))), Nat.testBit_lt_two_pow (Nat.lt_of_lt_of_le q1 (Nat.pow_le_pow_right (by omega) (by omega)))]
def bcI (p0 : Int32) : Int32 :=
  let x9 := p0 - ((iush p0 1) &&& 1431655765)
  let x23 := (x9 &&& 858993459) + ((iush x9 2) &&& 858993459)
  let x33 := (x23 + (iush x23 4)) &&& 252645135
  let x40 := x33 + (iush x33 8)
  let x47 := x40 + (iush x40 16)
  x47 &&& 63
theorem bc_B : ∀ b1 b2 b3 b4 b5 b6 b7 b8 b9 b0 : Bool, bcI (nI (tmB b1 b2 b3 b4 b5 b6 b7 b8 b9 b0)) = nI (b1.toNat + b2.toNat + b3.toNat + b4.toNat + b5.toNat + b6.toNat + b7.toNat + b8.toNat + b9.toNat + b0.toNat) := by decide +kernel
def tcnt (T : Nat) : Nat := (T.testBit 1).toNat + (T.testBit 2).toNat + (T.testBit 3).toNat + (T.testBit 4).toNat + (T.testBit 7).toNat + (T.testBit 8).toNat + (T.testBit 9).toNat + (T.testBit 13).toNat + (T.testBit 14).toNat + (T.testBit 19).toNat
theorem bitCount_s {n T : Nat} (hn : n ≤ 5) (h : tmk n T) {P : Int32 → Prop} (k : P (nI (tcnt T))) : wp_Int_bitCount (nI T) P := by
  have e : bcI (nI T) = nI (tcnt T) := by
    rw [tmk_B hn h, bc_B]
    rw [← tmk_B hn h]; rfl
  rw [← e] at k
  exact k
def cin (T a : Nat) : Nat → Nat → Nat
  | 0, _ => 0
  | k + 1, b => (T.testBit (pn a b)).toNat + cin T a k (b + 1)
def cout (T n : Nat) : Nat → Nat → Nat
  | 0, _ => 0
  | k + 1, a => cin T a (n - a - 1) (a + 1) + cout T n k (a + 1)
theorem tm_in {n T a : Nat} {h : Hp} (hw : h.1 7 0 = nI n) (hn : n ≤ 5) (ht : h.1 7 6 = nI T) (hT : T < 2 ^ 31) (ha : a < 5) : ∀ (k b acc : Nat) (E : Int32 → Prop), b + k = n → E (nI (acc + cin T a k b)) → ∃ N, lp_Md_touchMany_16 N (nI a) (nI acc) (nI b) h E := by
  intro k
  induction k with
  | zero =>
    intro b acc E hb hE
    refine ⟨1, ?_⟩
    unfold lp_Md_touchMany_16
    rw [hw]
    exact ⟨fun _ => hE, fun z => absurd (nI_le (by omega) (by omega)) z⟩
  | succ k ih =>
    intro b acc E hb hE
    have hE2 : E (nI (acc + (T.testBit (pn a b)).toNat + cin T a k (b + 1))) := by rw [Nat.add_assoc]; exact hE
    obtain ⟨N, hN⟩ := ih (b + 1) _ E (by omega) hE2
    refine ⟨N + 1, ?_⟩
    unfold lp_Md_touchMany_16
    rw [hw]
    refine ⟨fun z => absurd z (nI_ge (by omega) (by omega)), fun _ => doTouch_s ht hT ha (by omega) ?_⟩
    dsimp only [jn, lt]
    rw [nI_1]
    cases e : T.testBit (pn a b) with
    | true => rw [e] at hN; exact ⟨fun z => absurd rfl z, fun _ => by rw [nI_1]; exact hN⟩
    | false => rw [e] at hN; exact ⟨fun _ => by rw [show nI acc + 0 = nI (acc + 0) from nI_add acc 0]; exact hN, fun z => absurd z (by decide)⟩
theorem tm_out {n T : Nat} {h : Hp} (hw : h.1 7 0 = nI n) (hn : n ≤ 5) (ht : h.1 7 6 = nI T) (hT : T < 2 ^ 31) : ∀ (k a acc : Nat) (E : Int32 → Prop), a + k = n → E (nI (acc + cout T n k a)) → ∃ N, lp_Md_touchMany_4 N (nI acc) (nI a) h E := by
  intro k
  induction k with
  | zero =>
    intro a acc E hb hE
    refine ⟨1, ?_⟩
    unfold lp_Md_touchMany_4
    rw [hw]
    exact ⟨fun _ => hE, fun z => absurd (nI_le (by omega) (by omega)) z⟩
  | succ k ih =>
    intro a acc E hb hE
    have hE2 : E (nI (acc + cin T a (n - a - 1) (a + 1) + cout T n k (a + 1))) := by rw [Nat.add_assoc]; exact hE
    obtain ⟨N, hN⟩ := ih (a + 1) _ E (by omega) hE2
    refine ⟨N + 1, ?_⟩
    unfold lp_Md_touchMany_4
    rw [hw]
    refine ⟨fun z => absurd z (nI_ge (by omega) (by omega)), fun _ => ?_⟩
    dsimp only [lt]
    rw [nI_1]
    exact tm_in hw hn ht hT (by omega) (n - a - 1) (a + 1) acc _ (by omega) hN
theorem cout_t {n T : Nat} (hn : n ≤ 5) (h1 : n ≠ 1) (h : tmk n T) : cout T n n 0 = tcnt T := by
  have z : ∀ j, (∀ a b, a < b → b < n → j ≠ 5 * a + b) → T.testBit j = false := fun j hj => by
    cases ht : T.testBit j with
    | false => rfl
    | true =>
      obtain ⟨a, b, h1, h2, h3⟩ := h.2 j ht
      exact absurd h3 (hj a b h1 h2)
  rcases (show n = 0 ∨ n = 2 ∨ n = 3 ∨ n = 4 ∨ n = 5 by omega) with rfl | rfl | rfl | rfl | rfl
  · simp [cout, tcnt, z 1 (fun a b _ _ => by omega), z 2 (fun a b _ _ => by omega), z 3 (fun a b _ _ => by omega), z 4 (fun a b _ _ => by omega), z 7 (fun a b _ _ => by omega), z 8 (fun a b _ _ => by omega), z 9 (fun a b _ _ => by omega), z 13 (fun a b _ _ => by omega), z 14 (fun a b _ _ => by omega), z 19 (fun a b _ _ => by omega)]
  · simp [cout, cin, pn, tcnt, z 2 (fun a b _ _ => by omega), z 3 (fun a b _ _ => by omega), z 4 (fun a b _ _ => by omega), z 7 (fun a b _ _ => by omega), z 8 (fun a b _ _ => by omega), z 9 (fun a b _ _ => by omega), z 13 (fun a b _ _ => by omega), z 14 (fun a b _ _ => by omega), z 19 (fun a b _ _ => by omega)]
  · simp [cout, cin, pn, tcnt, z 3 (fun a b _ _ => by omega), z 4 (fun a b _ _ => by omega), z 8 (fun a b _ _ => by omega), z 9 (fun a b _ _ => by omega), z 13 (fun a b _ _ => by omega), z 14 (fun a b _ _ => by omega), z 19 (fun a b _ _ => by omega)]
  · simp [cout, cin, pn, tcnt, z 4 (fun a b _ _ => by omega), z 9 (fun a b _ _ => by omega), z 14 (fun a b _ _ => by omega), z 19 (fun a b _ _ => by omega)]; omega
  · simp [cout, cin, pn, tcnt]; omega
theorem touchMany_s {n T : Nat} {h : Hp} (hw : h.1 7 0 = nI n) (hn : n ≤ 5) (h1 : n ≠ 1) (ht : h.1 7 6 = nI T) (hm : tmk n T) {P : Int32 → Prop} (k : P (nI (tcnt T))) : wp_Md_touchMany h P := by
  refine tm_out hw hn ht (Nat.lt_of_lt_of_le hm.1 (by omega)) n 0 0 _ (by omega) ?_
  rw [Nat.zero_add, cout_t hn h1 hm]; exact k
end
