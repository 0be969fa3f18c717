section
variable {h0 : Hp} {t : Nat → Nat} {tc T : Nat} {K : Nat → Nat}
theorem bf {b : Bool} (h : ¬ b = true) : b = false := by cases b with | false => rfl | true => exact absurd rfl h
theorem ord_lp (hc : tc ≤ 240) (ht : ∀ k, k < tc → t k < 256 ∧ h0.1 67 k = nI (t k)) {E P : Hp → Prop} : ∀ (f : Nat) (o : Nat → Nat) (k i M : Nat) (x y : Int32) (g : Hp), k + f = 5 → 0 < f → (∀ e f, e < k → f < k → o e = o f → e = f) → M < 32 → (∀ b, b < 5 → M.testBit b = isIn o k b) → FS h0 tc i k K T o x y g → (∀ f' p, pord t tc f o k i = .inl (f', p) → ∀ g', FF h0 f' p g' → P g') → (∀ o2 n a, pord t tc f o k i = .inr (o2, n, a) → ∀ x y g', FS h0 tc a n K T o2 x y g' → P g') → lp_Reading_readOrder_14 f (nI M) (nI k) g E P := by
  intro f
  induction f with
  | zero => intro o k i M x y g h1 h2; omega
  | succ f ih =>
    intro o k i M x y g hk _ hi hM hm a k1 k2
    have ht1 : ∀ k, k < tc → t k < 256 := fun k hk => (ht k hk).1
    unfold lp_Reading_readOrder_14
    refine pk_le 5 k (fun q => by omega) (fun q => ?_)
    refine num_s hc ht (lo := 0) (hi := 4) (by omega) (by omega) a (fun f' p e g' b => ⟨fun _ => k1 f' p (by unfold pord; rw [e]) g' b, fun z => absurd z (by decide)⟩) (fun v na c e g' b => ⟨fun z => absurd rfl z, fun _ => ?_⟩)
    have r := pnum_r e
    have hcc := b.1
    by_cases hin : isIn o k v = true
    · dsimp only [jn]
      rw [b.num, bit_shr (by omega) (by omega), hm v (by omega), hin]
      exact ⟨fun _ => new_f b (fun g2 b2 => ⟨fun z => absurd z (by decide), fun _ => k1 4 na (by unfold pord; rw [e]; (try dsimp only); rw [if_pos hin]) g2 b2⟩), fun z => absurd z (by decide)⟩
    · have hin2 : (nI M >>> (g'.1 1 9 &&& 31)) &&& (1 : Int32) = 0 := by
        rw [b.num, bit_shr (by omega) (by omega), hm v (by omega), bf hin]; rfl
      refine ⟨fun z => absurd hin2 z, fun _ => new_t ⟨fun _ => ?_, fun z => absurd rfl z⟩⟩
      have hne : ∀ e, e < k → o e ≠ v := fun e he q => hin (isIn_iff.mpr ⟨e, he, q⟩)
      have hi2 : ∀ e f, e < k + 1 → f < k + 1 → setd o k v e = setd o k v f → e = f := fun e f he hf q => by
        unfold setd at q
        by_cases a1 : e = k <;> by_cases a2 : f = k
        · rw [a1, a2]
        · rw [if_pos a1, if_neg a2] at q; exact absurd q.symm (hne f (by omega))
        · rw [if_neg a1, if_pos a2] at q; exact absurd q (hne e (by omega))
        · rw [if_neg a1, if_neg a2] at q; exact hi e f (by omega) (by omega) q
      have hv32 : 2 ^ v < 32 := by
        have := Nat.pow_lt_pow_right (a := 2) (by omega) (show v < 5 by omega)
        simpa using this
      have hM2 : M ||| 2 ^ v < 32 := Nat.or_lt_two_pow (n := 5) hM hv32
      have hm2 : ∀ b, b < 5 → (M ||| 2 ^ v).testBit b = isIn (setd o k v) (k + 1) b := fun b hb => by
        rw [Nat.testBit_or, Nat.testBit_two_pow, hm b hb]
        apply Bool.eq_iff_iff.mpr
        rw [Bool.or_eq_true, decide_eq_true_eq, isIn_iff, isIn_iff]
        constructor
        · rintro (⟨e, e1, e2⟩ | e)
          · exact ⟨e, by omega, by unfold setd; rw [if_neg (by omega)]; exact e2⟩
          · exact ⟨k, by omega, by unfold setd; rw [if_pos rfl]; exact e⟩
        · rintro ⟨e, e1, e2⟩
          unfold setd at e2
          by_cases q : e = k
          · rw [if_pos q] at e2; exact Or.inr e2
          · rw [if_neg q] at e2; exact Or.inl ⟨e, by omega, e2⟩
      have b2 := b.word v
      dsimp only [lt]
      rw [b.num, shl1 (by omega), or_nI (by omega) (by omega), cl_nI (by omega), nI_1]
      refine ⟨vp_in_nI (by omega) (by omega), ?_⟩
      have e14 : (wi (wi g' 68 k (nI v)) 1 4 (nI (k + 1))).1 1 4 = nI (k + 1) := rfl
      rw [e14]
      have hsh : ((1 : Int32) <<< (nI (k + 1) &&& 31)) - 1 = nI (2 ^ (k + 1) - 1) := by
        rw [shl1 (by omega), show (1 : Int32) = nI 1 from rfl, pk_sub (Nat.pow_pos (by omega))]
      rw [hsh]
      have hp2 : 2 ^ (k + 1) ≤ 32 := by
        have := Nat.pow_le_pow_right (n := 2) (by omega) (show k + 1 ≤ 5 by omega)
        simpa using this
      have heq : nI (M ||| 2 ^ v) = nI (2 ^ (k + 1) - 1) ↔ M ||| 2 ^ v = 2 ^ (k + 1) - 1 := nI_eq (by omega) (by omega)
      rw [heq]
      refine jn_b (whl (setd o k v) (k + 1)) (fun q => bf (fun z => ?_)) (fun q1 q2 => bf (fun z => ?_)) (fun q1 q2 => ?_) ?_
      · have := (whl_iff.mp z).1
        have := (nI_ltI (a := k + 1) (b := 2) (by omega) (by omega)).mp q
        omega
      · exact q2 ((whl_mask hi2 (by omega) hM2 hm2 (whl_iff.mp z).1).mpr z)
      · have : ¬ k + 1 < 2 := fun z => q1 ((nI_ltI (a := k + 1) (b := 2) (by omega) (by omega)).mpr z)
        exact (whl_mask hi2 (by omega) hM2 hm2 (by omega)).mp q2
      refine up_s hc ht b2 (fun g3 b3 => ?_)
      have c59 : chr t tc (sk t tc c) = (59 : Int32) ↔ isc t tc 59 (sk t tc c) = true := chr_c (ch := 59) ht1 (by omega)
      have c44 : chr t tc (sk t tc c) = (44 : Int32) ↔ isc t tc 44 (sk t tc c) = true := chr_c (ch := 44) ht1 (by omega)
      rw [c59, c44, b3.wr, b3.pos, nI_1]
      refine jn_b (whl (setd o k v) (k + 1) && isc t tc 59 (sk t tc c)) (fun q => by rw [bf q, Bool.and_false]) (fun q1 q2 => ?_) (fun q1 q2 => ?_) ?_
      · cases w : whl (setd o k v) (k + 1) with
        | false => rfl
        | true => rw [w] at q2; exact absurd q2 (by decide)
      · cases w : whl (setd o k v) (k + 1) with
        | false => rw [w] at q2; exact absurd rfl q2
        | true => rw [q1]; rfl
      refine jn_b (isc t tc 44 (sk t tc c) && decide (k + 1 < 5)) (fun q => by rw [bf q, Bool.false_and]) (fun q1 q2 => ?_) (fun q1 q2 => ?_) ?_
      · have := (nI_leI (a := 5) (b := k + 1) (by omega) (by omega)).mp q2
        rw [q1, decide_eq_false (by omega)]; rfl
      · have : ¬ 5 ≤ k + 1 := fun z => q2 (nI_le z (by omega))
        rw [q1, decide_eq_true (by omega)]; rfl
      dsimp only [jn]
      by_cases hend : (whl (setd o k v) (k + 1) && isc t tc 59 (sk t tc c)) = true
      · rw [hend]
        obtain ⟨w1, w2⟩ := Bool.and_eq_true_iff.mp hend
        have hne4 : ¬ (isc t tc 44 (sk t tc c) = true ∧ k + 1 < 5) := fun z => by
          have := (isc_lt.mp z.1).2
          have := (isc_lt.mp w2).2
          omega
        refine ⟨fun _ => ⟨fun z => absurd z (by decide), fun _ => ?_⟩, fun z => absurd z (by decide)⟩
        exact k2 (setd o k v) (k + 1) (sk t tc c + 1) (by unfold pord; rw [e]; (try dsimp only); rw [if_neg hin, if_neg hne4, if_pos ⟨w1, w2⟩]) _ _ _ (b3.wpos (isc_lt.mp w2).1)
      · rw [bf hend]
        refine ⟨fun z => absurd rfl z, fun _ => ?_⟩
        by_cases hgo : (isc t tc 44 (sk t tc c) && decide (k + 1 < 5)) = true
        · rw [hgo]
          obtain ⟨w1, w2⟩ := Bool.and_eq_true_iff.mp hgo
          have w2 := of_decide_eq_true w2
          refine ⟨fun _ => ⟨fun _ => ?_, fun z => absurd rfl z⟩, fun z => absurd z (by decide)⟩
          exact ih (setd o k v) (k + 1) (sk t tc c + 1) (M ||| 2 ^ v) _ _ _ (by omega) (by omega) hi2 hM2 hm2 (b3.wpos (isc_lt.mp w1).1) (fun f' p e' => k1 f' p (by unfold pord; rw [e]; (try dsimp only); rw [if_neg hin, if_pos ⟨w1, w2⟩]; exact e')) (fun o2 n a e' => k2 o2 n a (by unfold pord; rw [e]; (try dsimp only); rw [if_neg hin, if_pos ⟨w1, w2⟩]; exact e'))
        · rw [bf hgo]
          refine ⟨fun z => absurd rfl z, fun _ => ?_⟩
          have hne4 : ¬ (isc t tc 44 (sk t tc c) = true ∧ k + 1 < 5) := fun z => hgo (by rw [z.1, decide_eq_true z.2]; rfl)
          have hne5 : ¬ (whl (setd o k v) (k + 1) = true ∧ isc t tc 59 (sk t tc c) = true) := fun z => hend (by rw [z.1, z.2]; rfl)
          exact blame_s (f := 1) b3 (k1 1 (sk t tc c) (by unfold pord; rw [e]; (try dsimp only); rw [if_neg hin, if_neg hne4, if_neg hne5]))
theorem order_s (hc : tc ≤ 240) (ht : ∀ k, k < tc → t k < 256 ∧ h0.1 67 k = nI (t k)) {o : Nat → Nat} {i : Nat} {x y : Int32} {g : Hp} {P : Hp → Prop} (a : FS h0 tc i 0 K T o x y g) (k0 : ¬ isc t tc 99 (sk t tc i) = true → ∀ g', FF h0 1 (sk t tc i) g' → P g') (k1 : isc t tc 99 (sk t tc i) = true → ∀ f' p, pord t tc 5 o 0 (sk t tc i + 1) = .inl (f', p) → ∀ g', FF h0 f' p g' → P g') (k2 : isc t tc 99 (sk t tc i) = true → ∀ o2 n a, pord t tc 5 o 0 (sk t tc i + 1) = .inr (o2, n, a) → ∀ x y g', FS h0 tc a n K T o2 x y g' → P g') : wp_Reading_readOrder g P := by
  unfold wp_Reading_readOrder
  refine word_s hc ht (ch := 99) (by omega) a (fun q g' b => ⟨fun _ => ⟨5, ?_⟩, fun z => absurd rfl z⟩) (fun q g' b => ⟨fun z => absurd z (by decide), fun _ => k0 q g' b⟩)
  exact ord_lp hc ht 5 o 0 _ 0 x y g' (by omega) (by omega) (fun e f h => by omega) (by omega) (fun b _ => by rw [Nat.zero_testBit]; rfl) b (k1 q) (k2 q)
theorem pred_n {n : Nat} (h : 0 < n) : nI n - 1 = nI (n - 1) := by
  obtain ⟨m, rfl⟩ : ∃ m, n = m + 1 := ⟨n - 1, by omega⟩
  exact nI_pred m
theorem kind_s (hc : tc ≤ 240) (ht : ∀ k, k < tc → t k < 256 ∧ h0.1 67 k = nI (t k)) {o : Nat → Nat} {i n : Nat} {x y : Int32} {g : Hp} {P : Hp → Prop} (hn : n ≤ 5) (hn0 : 0 < n) (hk : kt n K T) (a : FS h0 tc i n K T o x y g) (k1 : ∀ f p, pkind t tc n K i = .inl (f, p) → ∀ g', FF h0 f p g' → P g') (k2 : ∀ K2 c, pkind t tc n K i = .inr (K2, c) → ∀ x y g', FS h0 tc c n K2 T o x y g' → P g') : wp_Reading_readKind g P := by
  unfold wp_Reading_readKind
  rw [a.wr, pred_n hn0]
  refine num_s hc ht (lo := 0) (hi := n - 1) (by omega) (by omega) a (fun f p e g1 b => ⟨fun _ => k1 f p (by unfold pkind; rw [e]) g1 b, fun z => absurd z (by decide)⟩) (fun w na c e g1 b => ⟨fun z => absurd rfl z, fun _ => ?_⟩)
  have r := pnum_r e
  have hkw := (hk.1 w (by omega)).1
  rw [b.kd, b.num]
  refine part_s (fun w hw => (hk.1 w hw).1) (by omega) ?_
  have e0 : nI (K w) = 0 ↔ K w = 0 := nI_zero (by omega)
  rw [e0]
  refine ⟨fun q => new_f b (fun g2 b2 => ⟨fun z => absurd z (by decide), fun _ => k1 4 na (by unfold pkind; rw [e]; (try dsimp only); rw [if_pos q]) g2 b2⟩), fun q => new_t ⟨fun _ => ?_, fun z => absurd rfl z⟩⟩
  dsimp only [lt]
  rw [b.num]
  have q2 : ¬ K w ≠ 0 := fun z => z q
  refine num_s hc ht (lo := 1) (hi := 3) (by omega) (by omega) b (fun f p e2 g2 b2 => ⟨fun _ => k1 f p (by unfold pkind; rw [e]; (try dsimp only); rw [if_neg q2, e2]) g2 b2, fun z => absurd z (by decide)⟩) (fun v nv d e2 g2 b2 => ⟨fun z => absurd rfl z, fun _ => ?_⟩)
  have r2 := pnum_r e2
  rw [b2.kd, b2.num]
  refine withPart_s (fun w hw => (hk.1 w hw).1) (by omega) (by omega) ?_
  (try dsimp only [lt])
  refine word_s hc ht (ch := 59) (by omega) (b2.wkd (setd K w v)) (fun q3 g3 b3 => ?_) (fun q3 g3 b3 => ?_)
  · exact k2 (setd K w v) (sk t tc d + 1) (by unfold pkind; rw [e]; (try dsimp only); rw [if_neg q2, e2]; (try dsimp only); unfold pend; rw [if_pos q3]) _ _ g3 b3
  · exact k1 1 (sk t tc d) (by unfold pkind; rw [e]; (try dsimp only); rw [if_neg q2, e2]; (try dsimp only); unfold pend; rw [if_neg q3]) g3 b3
theorem touch_s (hc : tc ≤ 240) (ht : ∀ k, k < tc → t k < 256 ∧ h0.1 67 k = nI (t k)) {o : Nat → Nat} {i n : Nat} {x y : Int32} {g : Hp} {P : Hp → Prop} (hn : n ≤ 5) (hn0 : 0 < n) (hk : kt n K T) (a : FS h0 tc i n K T o x y g) (k1 : ∀ f p, ptch t tc n T i = .inl (f, p) → ∀ g', FF h0 f p g' → P g') (k2 : ∀ T2 c, ptch t tc n T i = .inr (T2, c) → ∀ x y g', FS h0 tc c n K T2 o x y g' → P g') : wp_Reading_readTouch g P := by
  unfold wp_Reading_readTouch
  rw [a.wr, pred_n hn0]
  refine num_s hc ht (lo := 0) (hi := n - 1) (by omega) (by omega) a (fun f p e g1 b => ⟨fun z => absurd z (by decide), fun _ => k1 f p (by unfold ptch; rw [e]) g1 b⟩) (fun u nu c e g1 b => ⟨fun _ => ?_, fun z => absurd rfl z⟩)
  have r := pnum_r e
  dsimp only [lt]
  rw [b.num, b.wr, pred_n hn0]
  refine num_s hc ht (lo := 0) (hi := n - 1) (by omega) (by omega) b (fun f p e2 g2 b2 => ⟨fun z => absurd z (by decide), fun _ => k1 f p (by unfold ptch; rw [e]; (try dsimp only); rw [e2]) g2 b2⟩) (fun v nv d e2 g2 b2 => ⟨fun _ => ?_, fun z => absurd rfl z⟩)
  have r2 := pnum_r e2
  have hp := pn_lt (a := u) (b := v) (by omega) (by omega)
  have hT : T < 2 ^ 25 := hk.2.1
  rw [b2.num, b2.tch]
  refine pairBit_s (by omega) (by omega) ?_
  have e1 : nI u = nI v ↔ u = v := nI_eq (by omega) (by omega)
  rw [e1, bit_and (by omega) (by omega)]
  have bad : (u = v ∨ T.testBit (pn u v) = true) → wp_Reading_isNew 0 g2 (fun (v67 : Bool) (h67 : Hp) => ((¬ v67 = true) → P h67) ∧ ((v67 = true) → wp_Reading_takeWord (59 : Int32) (wi h67 1 7 ((h67.1 1 7) ||| nI (2 ^ pn u v))) (fun (v86 : Bool) (h86 : Hp) => P h86))) := fun q => new_f b2 (fun g3 b3 => ⟨fun _ => k1 4 nv (by unfold ptch; rw [e]; (try dsimp only); rw [e2]; (try dsimp only); rw [if_pos q]) g3 b3, fun z => absurd z (by decide)⟩)
  refine ⟨fun q => bad (Or.inl q), fun q => ⟨fun q2 => bad (Or.inr ?_), fun q2 => new_t ⟨fun z => absurd rfl z, fun _ => ?_⟩⟩⟩
  · cases w : T.testBit (pn u v) with
    | true => rfl
    | false => exact absurd w q2
  have q3 : ¬ (u = v ∨ T.testBit (pn u v) = true) := fun z => z.elim q (fun z => by rw [q2] at z; exact absurd z (by decide))
  have hp2 : 2 ^ pn u v < 2 ^ 25 := Nat.pow_lt_pow_right (by omega) hp
  (try dsimp only [lt])
  rw [b2.tch, or_nI (by omega) (by omega)]
  refine word_s hc ht (ch := 59) (by omega) (b2.wtch (T ||| 2 ^ pn u v)) (fun q4 g3 b3 => ?_) (fun q4 g3 b3 => ?_)
  · exact k2 (T ||| 2 ^ pn u v) (sk t tc d + 1) (by unfold ptch; rw [e]; (try dsimp only); rw [e2]; (try dsimp only); rw [if_neg q3]; unfold pend; rw [if_pos q4]) _ _ g3 b3
  · exact k1 1 (sk t tc d) (by unfold ptch; rw [e]; (try dsimp only); rw [e2]; (try dsimp only); rw [if_neg q3]; unfold pend; rw [if_neg q4]) g3 b3
theorem clause_s (hc : tc ≤ 240) (ht : ∀ k, k < tc → t k < 256 ∧ h0.1 67 k = nI (t k)) {o : Nat → Nat} {i n : Nat} {x y : Int32} {g : Hp} {P : Hp → Prop} (hn : n ≤ 5) (hn0 : 0 < n) (hk : kt n K T) (a : FS h0 tc i n K T o x y g) (k1 : ∀ f p, pcl t tc n K T (sk t tc i) = .inl (f, p) → ∀ g', FF h0 f p g' → P g') (k2 : ∀ K2 T2 c, pcl t tc n K T (sk t tc i) = .inr (K2, T2, c) → ∀ x y g', FS h0 tc c n K2 T2 o x y g' → P g') : wp_Reading_readClause g P := by
  unfold wp_Reading_readClause
  refine up_s hc ht a (fun g1 b => ?_)
  have ht1 : ∀ k, k < tc → t k < 256 := fun k hk => (ht k hk).1
  have c107 : chr t tc (sk t tc i) = (107 : Int32) ↔ isc t tc 107 (sk t tc i) = true := chr_c (ch := 107) ht1 (by omega)
  have c115 : chr t tc (sk t tc i) = (115 : Int32) ↔ isc t tc 115 (sk t tc i) = true := chr_c (ch := 115) ht1 (by omega)
  have c99 : chr t tc (sk t tc i) = (99 : Int32) ↔ isc t tc 99 (sk t tc i) = true := chr_c (ch := 99) ht1 (by omega)
  dsimp only [lt, jn]
  rw [c107, c115, c99, b.pos, nI_1]
  refine ⟨fun q1 => ⟨fun q2 => ⟨fun q3 => ?_, fun q3 => ?_⟩, fun q2 => ?_⟩, fun q1 => ?_⟩
  · exact blame_s (f := 1) b (k1 1 _ (by unfold pcl; rw [if_neg q1, if_neg q2, if_neg q3]))
  · exact blame_s (f := 3) b (k1 3 _ (by unfold pcl; rw [if_neg q1, if_neg q2, if_pos q3]))
  · exact touch_s hc ht hn hn0 hk (b.wpos (isc_lt.mp q2).1) (fun f p e => k1 f p (by unfold pcl; rw [if_neg q1, if_pos q2, e])) (fun T2 c e => k2 K T2 c (by unfold pcl; rw [if_neg q1, if_pos q2, e]))
  · exact kind_s hc ht hn hn0 hk (b.wpos (isc_lt.mp q1).1) (fun f p e => k1 f p (by unfold pcl; rw [if_pos q1, e])) (fun K2 c e => k2 K2 T c (by unfold pcl; rw [if_pos q1, e]))
theorem FF_read {f p : Nat} {g : Hp} (hf : f ≠ 0) (hf4 : f ≤ 4) (a : FF h0 f p g) {a1 : Int32} {N : Nat} {E : Hp → Prop} (k : E g) : lp_Reading_read_44 (N + 1) a1 g E := by
  unfold lp_Reading_read_44
  refine ⟨fun _ => k, fun _ => ⟨fun _ => k, fun z => ?_⟩⟩
  rw [a.2.2.1] at z
  exact absurd ((nI_zero (by omega)).mp z) hf
theorem pend_l {i f p : Nat} (h : pend t tc i = .inl (f, p)) : f ≠ 0 ∧ f ≤ 4 := by
  unfold pend at h
  split at h
  · exact absurd h (by simp)
  · simp only [Sum.inl.injEq, Prod.mk.injEq] at h
    omega
theorem pcl_l {n i f p : Nat} (h : pcl t tc n K T i = .inl (f, p)) : f ≠ 0 ∧ f ≤ 4 := by
  unfold pcl at h
  split at h
  · unfold pkind at h
    cases h1 : pnum t tc 0 (n - 1) (i + 1) with
    | inl e =>
      obtain ⟨e1, e2⟩ := e
      rw [h1] at h
      simp only [Sum.inl.injEq, Prod.mk.injEq] at h
      have := pnum_l h1
      omega
    | inr r =>
      obtain ⟨w, na, x⟩ := r
      rw [h1] at h
      (try dsimp only at h)
      by_cases hw : K w ≠ 0
      · rw [if_pos hw] at h
        simp only [Sum.inl.injEq, Prod.mk.injEq] at h
        omega
      · rw [if_neg hw] at h
        cases h2 : pnum t tc 1 3 x with
        | inl e =>
          obtain ⟨e1, e2⟩ := e
          rw [h2] at h
          simp only [Sum.inl.injEq, Prod.mk.injEq] at h
          have := pnum_l h2
          omega
        | inr r =>
          obtain ⟨v, nv, y⟩ := r
          rw [h2] at h
          (try dsimp only at h)
          cases h3 : pend t tc y with
          | inl e =>
            obtain ⟨e1, e2⟩ := e
            rw [h3] at h
            simp only [Sum.inl.injEq, Prod.mk.injEq] at h
            have := pend_l h3
            omega
          | inr c => rw [h3] at h; exact absurd h (by simp)
  · split at h
    · unfold ptch at h
      cases h1 : pnum t tc 0 (n - 1) (i + 1) with
      | inl e =>
        obtain ⟨e1, e2⟩ := e
        rw [h1] at h
        simp only [Sum.inl.injEq, Prod.mk.injEq] at h
        have := pnum_l h1
        omega
      | inr r =>
        obtain ⟨u, nu, x⟩ := r
        rw [h1] at h
        (try dsimp only at h)
        cases h2 : pnum t tc 0 (n - 1) x with
        | inl e =>
          obtain ⟨e1, e2⟩ := e
          rw [h2] at h
          simp only [Sum.inl.injEq, Prod.mk.injEq] at h
          have := pnum_l h2
          omega
        | inr r =>
          obtain ⟨v, nv, y⟩ := r
          rw [h2] at h
          (try dsimp only at h)
          by_cases hw : u = v ∨ T.testBit (pn u v) = true
          · rw [if_pos hw] at h
            simp only [Sum.inl.injEq, Prod.mk.injEq] at h
            omega
          · rw [if_neg hw] at h
            cases h3 : pend t tc y with
            | inl e =>
              obtain ⟨e1, e2⟩ := e
              rw [h3] at h
              simp only [Sum.inl.injEq, Prod.mk.injEq] at h
              have := pend_l h3
              omega
            | inr c => rw [h3] at h; exact absurd h (by simp)
    · simp only [Sum.inl.injEq, Prod.mk.injEq] at h
      obtain ⟨e1, _⟩ := h
      split at e1 <;> omega
theorem read_lp (hc : tc ≤ 240) (ht : ∀ k, k < tc → t k < 256 ∧ h0.1 67 k = nI (t k)) {o : Nat → Nat} {n : Nat} {E : Hp → Prop} (hn : n ≤ 5) (hn0 : 0 < n) : ∀ (f m : Nat) (K : Nat → Nat) (T i : Nat) (x y : Int32) (g : Hp), m + f = 240 → kt n K T → FS h0 tc i n K T o x y g → (∀ f' p, pcls t tc n f K T i = .inl (f', p) → f' ≠ 0 → f' ≤ 4 → ∀ g', FF h0 f' p g' → E g') → (∀ K2 T2, pcls t tc n f K T i = .inr (K2, T2) → ∀ j x y g', FS h0 tc j n K2 T2 o x y g' → E g') → lp_Reading_read_44 (f + 1) (nI m) g E := by
  intro f
  induction f with
  | zero =>
    intro m K T i x y g hm hk a k1 k2
    unfold lp_Reading_read_44
    exact pk_le 240 m (fun _ => k2 K T rfl _ _ _ g a) (fun q => by omega)
  | succ f ih =>
    intro m K T i x y g hm hk a k1 k2
    have ht1 : ∀ k, k < tc → t k < 256 := fun k hk => (ht k hk).1
    unfold lp_Reading_read_44
    refine pk_le 240 m (fun q => by omega) (fun _ => ⟨fun z => absurd a.fn z, fun _ => up_s hc ht a (fun g1 b => ?_)⟩)
    rw [chr_e ht1]
    refine ⟨fun q => k2 K T (by unfold pcls; rw [if_pos q]) _ _ _ g1 b, fun q => ?_⟩
    have ks := sk_sk (t := t) (tc := tc) i
    refine clause_s hc ht hn hn0 hk b (fun f' p e g2 b2 => ?_) (fun K2 T2 c e x y g2 b2 => ?_)
    · rw [ks] at e
      have := pcl_l e
      exact FF_read this.1 this.2 b2 (k1 f' p (by unfold pcls; rw [if_neg q, e]) this.1 this.2 g2 b2)
    · rw [ks] at e
      dsimp only [lt]
      rw [nI_1]
      exact ih (m + 1) K2 T2 c x y g2 (by omega) (pcl_ok hn hn0 hk e).1 b2 (fun f' p e' => k1 f' p (by unfold pcls; rw [if_neg q, e]; exact e')) (fun K3 T3 e' => k2 K3 T3 (by unfold pcls; rw [if_neg q, e]; exact e'))
def FE (h0 : Hp) (f p : Nat) (g : Hp) : Prop := FF h0 f p g ∧ g.1 1 1 = 0
def FD (h0 : Hp) (n : Nat) (o K : Nat → Nat) (T : Nat) (g : Hp) : Prop := g.2 = h0.2 ∧ (∀ c, c ≠ 1 → c ≠ 68 → g.1 c = h0.1 c) ∧ g.1 1 1 = 0 ∧ g.1 1 2 = 0 ∧ g.1 1 3 = -1 ∧ g.1 1 4 = nI n ∧ g.1 1 6 = nI (pk K) ∧ g.1 1 7 = nI T ∧ ∀ e, e < n → g.1 68 e = nI (o e)
theorem FF.done {f p : Nat} {g : Hp} (a : FF h0 f p g) : FE h0 f p (wi g 1 1 0) := ⟨⟨a.1, fun c c1 c2 => by rw [wi_ne c1]; exact a.2.1 c c1 c2, a.2.2.1, a.2.2.2⟩, rfl⟩
theorem FS.done {o : Nat → Nat} {i n : Nat} {x y : Int32} {g : Hp} (a : FS h0 tc i n K T o x y g) : FD h0 n o K T (wi g 1 1 0) := by
  obtain ⟨a1, a2, a3, a4, a5, a6, a7, a8, a9, b1, b2, b3, b4⟩ := a
  exact ⟨a2, fun c c1 c2 => by rw [wi_ne c1]; exact a3 c c1 c2, rfl, a5, a6, a7, a8, a9, b4⟩
theorem pord_l : ∀ (f : Nat) (o : Nat → Nat) (k i f' p : Nat), pord t tc f o k i = .inl (f', p) → f' ≠ 0 ∧ f' ≤ 4 := by
  intro f
  induction f with
  | zero =>
    intro o k i f' p h
    simp only [pord, Sum.inl.injEq, Prod.mk.injEq] at h
    omega
  | succ f ih =>
    intro o k i f' p h
    unfold pord at h
    cases h1 : pnum t tc 0 4 i with
    | inl e =>
      obtain ⟨e1, e2⟩ := e
      rw [h1] at h
      simp only [Sum.inl.injEq, Prod.mk.injEq] at h
      have := pnum_l h1
      omega
    | inr r =>
      obtain ⟨v, na, x⟩ := r
      rw [h1] at h
      (try dsimp only at h)
      split at h
      · simp only [Sum.inl.injEq, Prod.mk.injEq] at h; omega
      · split at h
        · exact ih _ _ _ _ _ h
        · split at h
          · exact absurd h (by simp)
          · simp only [Sum.inl.injEq, Prod.mk.injEq] at h; omega
theorem read_s (hc : tc ≤ 240) {h : Hp} (ht : ∀ k, k < tc → t k < 256 ∧ h.1 67 k = nI (t k)) (hl : h.1 1 1 = nI tc) {P : Hp → Prop} (k1 : ∀ f p, pall t tc = .inl (f, p) → f ≠ 0 → f ≤ 4 → ∀ g, FE h f p g → P g) (k2 : ∀ n o K T, pall t tc = .inr (n, o, K, T) → ∀ g, FD h n o K T g → P g) : wp_Reading_read h P := by
  unfold wp_Reading_read
  dsimp only [lt]
  have ht1 : ∀ k, k < tc → t k < 256 := fun k hk => (ht k hk).1
  have a : FS h tc 0 0 (fun _ => 0) 0 (fun _ => 0) (h.1 1 9) (h.1 1 10) (wi (wi (wi (wi (wi (wi h 1 8 0) 1 4 0) 1 6 0) 1 7 0) 1 2 0) 1 3 (-1)) := ⟨by omega, rfl, fun c c1 c2 => by rw [wi_ne c1, wi_ne c1, wi_ne c1, wi_ne c1, wi_ne c1, wi_ne c1], hl, rfl, rfl, rfl, rfl, rfl, rfl, rfl, rfl, fun e he => by omega⟩
  refine up_s hc ht a (fun g1 b => ?_)
  dsimp only [jn]
  rw [chr_e ht1]
  refine ⟨fun q => k2 _ _ _ _ (by unfold pall; rw [if_pos q]) _ b.done, fun q => ?_⟩
  have ks := sk_sk (t := t) (tc := tc) 0
  refine order_s hc ht b (fun q1 g2 b2 => ⟨1, ?_⟩) (fun q1 f p e g2 b2 => ⟨1, ?_⟩) (fun q1 o n c e x y g2 b2 => ⟨241, ?_⟩)
  · rw [ks] at q1 b2
    exact FF_read (by omega) (by omega) b2 (k1 1 _ (by unfold pall; rw [if_neg q, if_neg q1]) (by omega) (by omega) _ b2.done)
  · rw [ks] at q1 e
    have := pord_l _ _ _ _ _ _ e
    exact FF_read this.1 this.2 b2 (k1 f p (by unfold pall; rw [if_neg q, if_pos q1, e]) this.1 this.2 _ b2.done)
  · rw [ks] at q1 e
    have ok := pord_ok 5 _ 0 _ _ _ _ (by omega) (fun e f h => by omega) e
    exact read_lp hc ht (by omega) (by omega) 240 0 (fun _ => 0) 0 _ _ _ g2 (by omega) ⟨fun w _ => ⟨by show 0 < 4; omega, fun _ => rfl⟩, ⟨by decide, fun i h => by simp at h⟩⟩ b2 (fun f p e' h1 h2 g3 b3 => k1 f p (by unfold pall; rw [if_neg q, if_pos q1, e]; (try dsimp only); rw [e']) h1 h2 _ b3.done) (fun K2 T2 e' j x y g3 b3 => k2 n o K2 T2 (by unfold pall; rw [if_neg q, if_pos q1, e]; (try dsimp only); rw [e']) _ b3.done)
end
