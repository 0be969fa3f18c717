section
def gd (b : Nat → Bool) (o : Nat → Nat) : Nat → Nat
  | 0 => 0
  | k + 1 => gd b o k ||| (if b k = true then 2 ^ o k else 0)
theorem gd_lt {b : Nat → Bool} {o : Nat → Nat} {n : Nat} (hn : n ≤ 5) (ho : ∀ e, e < n → o e < n) : ∀ k, k ≤ n → gd b o k < 2 ^ 11 := by
  intro k
  induction k with
  | zero => intro _; exact Nat.two_pow_pos 11
  | succ k ih =>
    intro hk
    refine Nat.or_lt_two_pow (ih (by omega)) ?_
    split
    · have := ho k (by omega)
      exact Nat.pow_lt_pow_right (by omega) (by omega)
    · exact Nat.two_pow_pos 11
theorem good_F {n : Nat} {o : Nat → Nat} {m : Nat → Nat} {h : Hp} (a1 : R1 n o h) (hcs : CS (h.1 26) m) (hwf : WF n m) {b : Nat → Bool} (hb : ∀ e, e < n → (b e = true ↔ Con (NR n o (m 1) (fun w => m (5 + w)) (m 4) (fun w => m (10 + w)) (fun w => m (15 + w))) (o e) (5 + e))) {P : Int32 → Hp → Prop} (k : ∀ h2 : Hp, Sc h h2 → P (nI (gd b o n)) h2) : wp_Fe_goodWires h P := by
  have hn := a1.2.2.1
  have ho : ∀ e, e < n → o e < n := fun e he => (a1.2.2.2.2.1 e he).1
  unfold wp_Fe_goodWires
  rw [hcs.1]
  refine joinAll_s a1 hcs hwf (fun w hw => (hwf.2.2.2.2.2 w hw).1) (fun h2 q1 q2 hsc f g hf hpf hg hpg => ?_)
  have c1 := a1.sc hsc
  have lp : ∀ (k i : Nat) (E : Int32 → Prop), i + k = n → E (nI (gd b o n)) → lp_Fe_goodWires_15 (k + 1) (nI (gd b o i)) (nI i) h2 E := by
    intro k
    induction k with
    | zero =>
      intro i E hi hE
      have e : i = n := by omega
      subst e
      unfold lp_Fe_goodWires_15
      rw [c1.1]
      exact ⟨fun _ => hE, fun z => absurd (nI_le (by omega) (by omega)) z⟩
    | succ k ih =>
      intro i E hi hE
      have nx := ih (i + 1) E (by omega) hE
      have l1 := gd_lt (b := b) hn ho i (by omega)
      have l2 := ho i (by omega)
      have l3 : 2 ^ o i < 2 ^ 11 := Nat.pow_lt_pow_right (by omega) (by omega)
      unfold lp_Fe_goodWires_15
      dsimp only [jn, lt]
      rw [c1.1, nI_1, cl_nI (n := i) (by omega), (c1.2.2.2.2.1 i (by omega)).2.1, add5, shl1 (by omega), or_nI (by omega) (by omega)]
      refine ⟨fun z => absurd z (nI_ge (by omega) (by omega)), fun _ => ⟨fun z => absurd z (nI_ge (b := 5) (by omega) (by omega)), fun _ => ⟨vp_in_nI (by omega) (by omega), areJoined_s (r := 45) hg hpg (by omega) (by omega) (fun v hv => ?_)⟩⟩⟩
      have ev : v = b i := iff_b hv (hb i (by omega))
      rw [show gd b o (i + 1) = gd b o i ||| (if b i = true then 2 ^ o i else 0) from rfl, ← ev] at nx
      refine ⟨fun z => ?_, fun z => ?_⟩
      · rw [if_neg z, Nat.or_zero] at nx; exact nx
      · rw [if_pos z] at nx; exact nx
  exact ⟨_, lp n 0 _ (by omega) (k h2 hsc)⟩
theorem good_M {n : Nat} {o : Nat → Nat} {m : Nat → Nat} {h : Hp} (a1 : R1 n o h) (hml : ML h m) (hwf : WF n m) {b : Nat → Bool} (hb : ∀ e, e < n → (b e = true ↔ Con (NR n o (m 1) (fun w => m (5 + w)) (m 4) (fun w => m (10 + w)) (fun w => m (15 + w))) (o e) (5 + e))) {P : Int32 → Prop} (k : P (nI (gd b o n))) : wp_Md_goodSet h P := by
  have hn := a1.2.2.1
  have ho : ∀ e, e < n → o e < n := fun e he => (a1.2.2.2.2.1 e he).1
  unfold wp_Md_goodSet
  have lp : ∀ (k i : Nat) (E : Int32 → Prop), i + k = n → E (nI (gd b o n)) → lp_Md_goodSet_4 (k + 1) (nI (gd b o i)) (nI i) h E := by
    intro k
    induction k with
    | zero =>
      intro i E hi hE
      have e : i = n := by omega
      subst e
      unfold lp_Md_goodSet_4
      rw [a1.2.1]
      exact ⟨fun _ => hE, fun z => absurd (nI_le (by omega) (by omega)) z⟩
    | succ k ih =>
      intro i E hi hE
      have nx := ih (i + 1) E (by omega) hE
      have l1 := gd_lt (b := b) hn ho i (by omega)
      have l2 := ho i (by omega)
      have l3 : 2 ^ o i < 2 ^ 11 := Nat.pow_lt_pow_right (by omega) (by omega)
      unfold lp_Md_goodSet_4
      dsimp only [jn, lt]
      rw [a1.2.1, nI_1, cl_nI (n := i) (by omega), (a1.2.2.2.2.1 i (by omega)).2.2, shl1 (by omega), or_nI (by omega) (by omega)]
      refine ⟨fun z => absurd z (nI_ge (by omega) (by omega)), fun _ => netNow_s (p := 1) a1 hml hwf (cut := 0) (Nat.two_pow_pos n) (by omega) (by omega) (fun t ht => ⟨vp_in_nI (by omega) (by omega), has_s (by have := ht.lt; omega) (by omega) ?_⟩)⟩
      rw [kc0] at ht
      have ev : t.testBit (o i) = b i := iff_b (C := Con (NR n o (m 1) (fun w => m (5 + w)) (m 4) (fun w => m (10 + w)) (fun w => m (15 + w))) (o i) (5 + i)) (by
        rw [ht (o i)]
        exact ⟨fun q => con_symm q.2, fun q => ⟨by omega, con_symm q⟩⟩) (hb i (by omega))
      rw [ev]
      rw [show gd b o (i + 1) = gd b o i ||| (if b i = true then 2 ^ o i else 0) from rfl] at nx
      refine ⟨fun z => ?_, fun z => ⟨vp_in_nI (by omega) (by omega), ?_⟩⟩
      · rw [if_neg z, Nat.or_zero] at nx
        have e0 : nI (gd b o i) ||| (0 : Int32) = nI (gd b o i) := by rw [show (0 : Int32) = nI 0 from rfl, or_nI (by omega) (by omega), Nat.or_zero]
        rw [e0]; exact nx
      · rw [if_pos z] at nx; exact nx
  exact ⟨_, lp n 0 _ (by omega) k⟩
end
