section
theorem mk_mN {c : Nat → Nat} {v : Nat} : ∀ k, mN k c v (mk c v k) := by
  intro k
  induction k with
  | zero => intro j; simp [mk]
  | succ k ih =>
    show mN (k + 1) c v (mk c v k ||| (cond (Nat.beq (c k) v) (2 ^ k) 0))
    cases hb : Nat.beq (c k) v
    · exact mN_f ih (fun e => by rw [e, Nat.beq_refl] at hb; exact absurd hb (by decide))
    · exact mN_t ih (Nat.eq_of_beq_eq_true hb)
theorem mN_uniq {n : Nat} {c : Nat → Nat} {v a : Nat} (h : mN n c v a) : a = mk c v n := by
  apply Nat.eq_of_testBit_eq
  intro j
  exact iff_b (h j) (mk_mN n j)
theorem pc_pos : ∀ {k : Nat}, k < 32 → k = 0 ∨ 1 ≤ pc k := fun h => co_dec (P := fun k => k = 0 ∨ 1 ≤ pc k) (by decide +kernel) h
theorem low_zero {x w : Nat} : x &&& (2 ^ w - 1) = 0 ↔ ∀ j, j < w → ¬ x.testBit j = true := by
  constructor
  · intro h j hj hb
    have : (x &&& (2 ^ w - 1)).testBit j = true := by rw [Nat.testBit_and, hb, Nat.testBit_two_pow_sub_one]; simpa using hj
    rw [h] at this
    simp at this
  · intro h
    apply Nat.eq_of_testBit_eq
    intro j
    rw [Nat.testBit_and, Nat.testBit_two_pow_sub_one, Nat.zero_testBit]
    by_cases hj : j < w
    · have := h j hj
      simp [hj]
      simpa using this
    · simp [hj]
theorem fac_s {z : Nat} (hz : z ≤ 5) {h : Hp} {P : Int32 → Prop} (k : P (nI (fN z))) : wp_Fe_factorial (nI z) h P := by
  unfold wp_Fe_factorial
  rw [cl_nI (n := z) (by omega)]
  have ef : fac z = nI (fN z) := by
    rcases (show z = 0 ∨ z = 1 ∨ z = 2 ∨ z = 3 ∨ z = 4 ∨ z = 5 by omega) with rfl | rfl | rfl | rfl | rfl | rfl <;> rfl
  rw [ef]
  exact ⟨fun y => absurd y (nI_pos (by omega)), fun _ => ⟨fun y => absurd y (nI_ge (b := 6) (by omega) (by omega)), fun _ => ⟨vp_in_nI (by omega) (by omega), k⟩⟩⟩
theorem leftByWay_s {n : Nat} {o m : Nat → Nat} {h0 : Hp} (a1 : R1 n o h0) (a2 : R2 n m h0) {h : Hp} (hs : Sc h0 h) {N c : Nat → Nat} (hN : ∀ w, w < 5 → N w < 8) (hL : Lab n (m 1) (fun w => m (5 + w)) (m 4) N c) {P : Int32 → Hp → Prop} (K : ∀ h2 : Hp, Sc h0 h2 → (∀ c, c ≠ 54 → h2.1 c = h.1 c) → P (nI (fmw n c)) h2) : wp_Fe_leftByWay (nI (pk N)) h P := by
  have hn := a1.2.2.1
  have hwf := a2.2.2
  have hT : m 4 < 2 ^ 31 := Nat.lt_of_lt_of_le hwf.2.2.2.2.1.1 (by omega)
  have ht : m 1 < 2 ^ 31 := Nat.lt_of_le_of_lt hwf.2.1 (by omega)
  have hK : ∀ w, w < 5 → (fun w => m (5 + w)) w < 4 := fun w hw => (hwf.2.2.2.2.2 w hw).1
  obtain ⟨t0, t1, t2, t3, t4, t5, t6, t7⟩ := (a2.sc hs).1
  obtain ⟨l1, l2, l3⟩ := hL
  unfold wp_Fe_leftByWay
  rw [t0, t1, show (0 : Int32) = nI (pk (fun _ => 0)) from rfl]
  refine lay_s (r := 45) (by omega) hT (fun w hw => Nat.lt_trans (hK w hw) (by omega)) hN (fun w _ => by (try dsimp only); omega) (fun G f e1 e2 => ?_)
  rw [sr_ne (show 26 ≠ 45 + 9 by omega), t0, t5]
  refine passing_s hK ht ?_
  dsimp only [lt]
  have hp2 : 2 ^ n ≤ 2 ^ 5 := Nat.pow_le_pow_right (by omega) hn
  have hp3 : 0 < 2 ^ n := Nat.two_pow_pos n
  have hpl := pset_lt (fun w => m (5 + w)) (m 1)
  have h01 : (sr h (45 + 9) G).1 0 1 = nI n := by rw [sr_ne (by omega), hs.2 0 1 rfl]; exact a1.1
  rw [h01, shl1 (by omega), show nI (2 ^ n) - (1 : Int32) = nI (2 ^ n - 1) from sub_nI (b := 1) (by omega) (by omega), and_nI (by omega) (by omega)]
  have hpb : ∀ j, (pset (fun w => m (5 + w)) (m 1) &&& (2 ^ n - 1)).testBit j = true ↔ j < n ∧ pss (m (5 + j)) (m 1) = true := fun j => by
    rw [Nat.testBit_and, Nat.testBit_two_pow_sub_one, Bool.and_eq_true, decide_eq_true_eq]
    constructor
    · rintro ⟨q1, q2⟩
      rw [pset_bit (by omega)] at q1
      exact ⟨q2, q1⟩
    · rintro ⟨q1, q2⟩
      refine ⟨?_, q1⟩
      rw [pset_bit (by omega)]
      exact q2
  have hpx : pset (fun w => m (5 + w)) (m 1) &&& (2 ^ n - 1) < 32 := Nat.lt_of_le_of_lt Nat.and_le_left hpl
  generalize pset (fun w => m (5 + w)) (m 1) &&& (2 ^ n - 1) = ps at hpb hpx
  have r54 : row (sr h (45 + 9) G) (45 + 9) f := fun x hx => by rw [sr_eq]; exact e1 x hx
  generalize hg : sr h (45 + 9) G = g at r54 h01
  have bare : ∀ {w : Nat} {Q : Int32 → Prop}, w < 11 → Q (nI (f w)) → wp_Nets_bare 45 (nI w) g Q := fun {w Q} hw k => by
    unfold wp_Nets_bare
    rw [cl_nI (n := w) (by omega), r54 w hw]
    exact ⟨fun z => absurd z (nI_pos (by omega)), fun _ => ⟨fun z => absurd z (nI_ge (b := 11) hw (by omega)), fun _ => ⟨vp_in_nI hw (by omega), k⟩⟩⟩
  have lp : ∀ (k w l er : Nat) (s : Nat → Nat), w + k = n → er ≤ w → (∀ i, i < 5 → s i ≤ w) → lf n c k w l er s = fmw n c → lp_Fe_leftByWay_61 (k + 1) (nI ps) (nI l) (nI er) (nI (pk s)) (nI w) g (fun (w61_3 : Int32) (w61_4 : Int32) => wp_Fe_factorial w61_4 g (fun (v199 : Int32) => P (w61_3 * v199) g)) := by
    intro k
    induction k with
    | zero =>
      intro w l er s hw her hsl hlf
      unfold lp_Fe_leftByWay_61
      rw [h01]
      refine ⟨fun _ => fac_s (by omega) ?_, fun z => absurd (nI_le (by omega) (by omega)) z⟩
      rw [pk_mul, show l * fN er = fmw n c from hlf, ← hg]
      exact K _ (hs.sr (fun _ => rfl)) (fun c hc => sr_ne hc)
    | succ k ih =>
      intro w l er s hw her hsl hlf
      have hwn : w < n := by omega
      have lw : 2 ^ w ≤ 2 ^ 4 := Nat.pow_le_pow_right (by omega) (by omega)
      have lw0 : 0 < 2 ^ w := Nat.two_pow_pos w
      have hfl := (e2 w (by omega)).lt
      have hcw := l1 w hwn
      have mkl : mk c (c w) n < 32 := by
        have : mk c (c w) n < 2 ^ 5 := Nat.lt_pow_two_of_testBit _ (fun j hj => by
          cases q : (mk c (c w) n).testBit j
          · rfl
          · have := (mk_mN n j).mp q; omega)
        omega
      have hlf' : cond (Nat.beq (c w) 5) (lf n c k (w + 1) l (er + 1) s) (cond (Nat.beq (c w) w) (lf n c k (w + 1) (l * (fN (pc (mk c w n)) * (s (pc (mk c w n) - 1) + 1))) er (setd s (pc (mk c w n) - 1) (s (pc (mk c w n) - 1) + 1))) (lf n c k (w + 1) l er s)) = fmw n c := hlf
      unfold lp_Fe_leftByWay_61
      dsimp only [jn, lt]
      rw [h01, nI_1, bit_shr (by omega) (by omega), shl1 (by omega), show nI (2 ^ w) - (1 : Int32) = nI (2 ^ w - 1) from sub_nI (b := 1) (by omega) (by omega), nI_1]
      refine ⟨fun z => absurd z (nI_ge (by omega) (by omega)), fun _ => ?_⟩
      -- what is not earthed
      have mates : ∀ z : Int32, z = nI (mk c (c w) n) → ¬ c w = 5 → ((¬ (z &&& nI (2 ^ w - 1)) = 0 → lp_Fe_leftByWay_61 (k + 1) (nI ps) (nI l) (nI er) (nI (pk s)) (nI (w + 1)) g (fun (w61_3 : Int32) (w61_4 : Int32) => wp_Fe_factorial w61_4 g (fun (v199 : Int32) => P (w61_3 * v199) g))) ∧ ((z &&& nI (2 ^ w - 1)) = 0 → wp_Int_bitCount z (fun (v148 : Int32) => wp_Fe_part (nI (pk s)) (v148 - (1 : Int32)) (fun (v159 : Int32) => wp_Fe_withPart (nI (pk s)) (v148 - (1 : Int32)) (v159 + (1 : Int32)) (fun (v174 : Int32) => wp_Fe_factorial v148 g (fun (v182 : Int32) => lp_Fe_leftByWay_61 (k + 1) (nI ps) (nI l * (v182 * (v159 + (1 : Int32)))) (nI er) v174 (nI (w + 1)) g (fun (w61_3 : Int32) (w61_4 : Int32) => wp_Fe_factorial w61_4 g (fun (v199 : Int32) => P (w61_3 * v199) g)))))))) := fun z hz h5 => by
        subst hz
        have b5 : Nat.beq (c w) 5 = false := by
          cases q : Nat.beq (c w) 5
          · rfl
          · exact absurd (Nat.eq_of_beq_eq_true q) h5
        rw [b5] at hlf'
        have hl2 : mk c (c w) n &&& (2 ^ w - 1) < 32 := Nat.lt_of_le_of_lt Nat.and_le_left mkl
        obtain ⟨cw1, cw2⟩ := hcw.resolve_left h5
        have lead : mk c (c w) n &&& (2 ^ w - 1) = 0 ↔ c w = w := by
          rw [low_zero]
          constructor
          · intro q
            apply Classical.byContradiction
            intro hne
            exact q (c w) (by omega) ((mk_mN n (c w)).mpr ⟨by omega, cw2⟩)
          · intro q j hj hb
            have := ((mk_mN n j).mp hb).2
            rcases l1 j (by omega) with y | y
            · rw [y] at this; exact h5 this.symm
            · omega
        rw [and_nI (by omega) (by omega), nI_zero (by omega), lead]
        refine ⟨fun q => ?_, fun q => ?_⟩
        · have bw : Nat.beq (c w) w = false := by
            cases y : Nat.beq (c w) w
            · rfl
            · exact absurd (Nat.eq_of_beq_eq_true y) q
          rw [bw] at hlf'
          exact ih (w + 1) l er s (by omega) (by omega) (fun i hi => by have := hsl i hi; omega) hlf'
        · have bw : Nat.beq (c w) w = true := by rw [q, Nat.beq_refl]
          rw [bw] at hlf'
          rw [q] at mkl ⊢
          have zp : 1 ≤ pc (mk c w n) := (pc_pos mkl).resolve_left (fun y => by
            have := (mk_mN (c := c) (v := w) n w).mpr ⟨hwn, q⟩
            rw [y] at this
            simp at this)
          have zl := pc_le (mk c w n)
          have hs8 : ∀ i, i < 5 → s i < 8 := fun i hi => by have := hsl i hi; omega
          have hs7 := hsl (pc (mk c w n) - 1) (by omega)
          refine bitCount5 mkl ?_
          rw [show nI (pc (mk c w n)) - (1 : Int32) = nI (pc (mk c w n) - 1) from sub_nI (b := 1) zp (by omega)]
          refine part8_s hs8 (by omega) ?_
          rw [nI_1]
          unfold wp_Fe_withPart
          rw [with_pack hs8 (by omega) (by omega)]
          refine fac_s (by omega) ?_
          rw [pk_mul, pk_mul]
          refine ih (w + 1) _ er _ (by omega) (by omega) (fun i hi => ?_) hlf'
          unfold setd
          (try dsimp only)
          split
          · omega
          · have := hsl i hi; omega
      refine ⟨fun z => ?_, fun z => ?_⟩
      · -- it doesn't pass
        have hB : ¬ ps.testBit w = true := fun q => by rw [q] at z; exact absurd z (by decide)
        have hnp : ¬ pss (m (5 + w)) (m 1) = true := fun q => hB ((hpb w).mpr ⟨hwn, q⟩)
        have h5 : ¬ c w = 5 := fun q => hnp ((l2 w hwn).mp q).1
        have em : 2 ^ w = mk c (c w) n := mN_uniq (fun j => by
          rw [Nat.testBit_two_pow, decide_eq_true_eq]
          constructor
          · intro q; rw [← q]; exact ⟨hwn, rfl⟩
          · rintro ⟨q1, q2⟩
            rcases (l3 j w q1 hwn).mp q2 with y | ⟨_, y, _⟩
            · exact y.symm
            · exact absurd y hnp)
        refine ⟨fun _ => ⟨fun _ => mates _ (by rw [em]) h5, fun y => absurd rfl y⟩, fun y => absurd rfl y⟩
      · have hB : ps.testBit w = true := by
          cases q : ps.testBit w
          · rw [q] at z; exact absurd rfl z
          · rfl
        have hps := ((hpb w).mp hB).2
        refine ⟨fun y => absurd y (by decide), fun _ => bare (by omega) ⟨fun y => absurd y (by decide), fun _ => ?_⟩⟩
        unfold wp_Nets_isEarthedBare
        refine bare (by omega) ?_
        rw [show (10 : Int32) = nI 10 from rfl, bit_shr (by omega) (by omega)]
        have eb := e2 w (by omega) 10
        refine ⟨fun y => ⟨fun _ => mates _ ?_ ?_, fun x => absurd x (by decide)⟩, fun y => ⟨fun x => absurd rfl x, fun _ => ?_⟩⟩
        · rw [and_nI (by omega) (by omega)]
          have em : f w &&& ps = mk c (c w) n := mN_uniq (fun j => by
            rw [Nat.testBit_and, Bool.and_eq_true, e2 w (by omega) j, hpb j]
            constructor
            · rintro ⟨⟨_, q1⟩, q2, q3⟩
              exact ⟨q2, (l3 j w q2 hwn).mpr (Or.inr ⟨q3, hps, con_symm q1⟩)⟩
            · rintro ⟨q1, q2⟩
              rcases (l3 j w q1 hwn).mp q2 with y | ⟨y1, _, y3⟩
              · rw [y]; exact ⟨⟨by omega, con_refl _ _⟩, hwn, hps⟩
              · exact ⟨⟨by omega, con_symm y3⟩, q1, y1⟩)
          rw [em]
        · intro q
          have := ((l2 w hwn).mp q).2
          rw [eb.mpr ⟨by omega, this⟩] at y
          exact absurd y (by decide)
        · have hb : (f w).testBit 10 = true := by
            cases q : (f w).testBit 10
            · rw [q] at y; exact absurd rfl y
            · rfl
          have h5 : c w = 5 := (l2 w hwn).mpr ⟨hps, (eb.mp hb).2⟩
          have b5 : Nat.beq (c w) 5 = true := by rw [h5]; rfl
          rw [b5] at hlf'
          exact ih (w + 1) l (er + 1) s (by omega) (by omega) (fun i hi => by have := hsl i hi; omega) hlf'
  exact ⟨_, lp n 0 1 0 (fun _ => 0) (by omega) (Nat.le_refl _) (fun _ _ => Nat.le_refl _) rfl⟩
end
