section
variable {h0 : Hp} {t : Nat → Nat} {tc T : Nat} {K : Nat → Nat}
theorem one_s (hc : tc ≤ 240) (ht : ∀ k, k < tc → t k < 256 ∧ h0.1 84 k = nI (t k)) {P : Bool → Hp → Prop} {o : Nat → Nat} {k i : Nat} {x y : Int32} {g : Hp} (hk : k < 5) (a : QS h0 tc i k K T o x y g) (k1 : ∀ f' p, pnum t tc 0 4 i = .inl (f', p) → ∀ g', QF h0 f' p g' → P false g') (k2 : ∀ v na c, pnum t tc 0 4 i = .inr (v, na, c) → isIn o k v = true → ∀ g', QF h0 4 na g' → P false g') (k3 : ∀ v na c, pnum t tc 0 4 i = .inr (v, na, c) → ¬ isIn o k v = true → ∀ x y g', QS h0 tc (sk t tc c) (k + 1) K T (setd o k v) x y g' → P true g') : wp_Md_readsOne g P := by
  unfold wp_Md_readsOne
  refine mnum_s hc ht (lo := 0) (hi := 4) (by omega) (by omega) a (fun f' p e g' b => ⟨fun z => absurd z (by decide), fun _ => k1 f' p e g' b⟩) (fun v na c e g' b => ⟨fun _ => ?_, fun z => absurd rfl z⟩)
  have r := pnum_r e
  rw [b.num]
  refine isRead_s (by omega) (by omega) b.wr b.ord ?_
  by_cases hin : isIn o k v = true
  · rw [hin]
    refine ⟨fun z => absurd rfl z, fun _ => ?_⟩
    rw [b.na]
    exact fails_s (f := 4) b (k2 v na c e hin)
  · rw [bf hin]
    refine ⟨fun _ => ?_, fun z => absurd z (by decide)⟩
    dsimp only [lt]
    rw [b.wr, cl_nI (by omega), show (wi g' 85 k (nI v)).1 7 21 = nI k from b.wr, nI_1]
    exact ⟨vp_in_nI (by omega) (by omega), skip_s hc ht (b.word (by omega)) (k3 v na c e hin _ _)⟩
def pgo (t : Nat → Nat) (tc f : Nat) (o : Nat → Nat) (k a : Nat) : (Nat × Nat) ⊕ ((Nat → Nat) × Nat × Nat) := if isc t tc 44 (sk t tc a) = true ∧ k < 5 then pord t tc f o k (sk t tc a + 1) else if whl o k = true ∧ isc t tc 59 (sk t tc a) = true then .inr (o, k, sk t tc a + 1) else .inl (1, sk t tc a)
theorem pord_go {f : Nat} {o : Nat → Nat} {k i v na a : Nat} (e : pnum t tc 0 4 i = .inr (v, na, a)) (hin : ¬ isIn o k v = true) : pord t tc (f + 1) o k i = pgo t tc f (setd o k v) (k + 1) a := by
  rw [pord, e]
  (try dsimp only)
  rw [if_neg hin]
  rfl
theorem pord_in {f : Nat} {o : Nat → Nat} {k i v na a : Nat} (e : pnum t tc 0 4 i = .inr (v, na, a)) (hin : isIn o k v = true) : pord t tc (f + 1) o k i = .inl (4, na) := by
  rw [pord, e]
  (try dsimp only)
  rw [if_pos hin]
theorem pord_no {f : Nat} {o : Nat → Nat} {k i f' p : Nat} (e : pnum t tc 0 4 i = .inl (f', p)) : pord t tc (f + 1) o k i = .inl (f', p) := by
  rw [pord, e]
theorem go_lp (hc : tc ≤ 240) (ht : ∀ k, k < tc → t k < 256 ∧ h0.1 84 k = nI (t k)) {P : Bool → Hp → Prop} : ∀ (f : Nat) (o : Nat → Nat) (k a : Nat) (x y : Int32) (g : Hp), k + f = 5 → QS h0 tc (sk t tc a) k K T o x y g → (∀ f' p, pgo t tc f o k a = .inl (f', p) → ∀ g', QF h0 f' p g' → P false g') → (∀ o2 n c, pgo t tc f o k a = .inr (o2, n, c) → ∀ x y g', QS h0 tc c n K T o2 x y g' → P true g') → lp_Md_readsCable_9 (f + 1) g (fun (h9x : Hp) => wp_Md_isWhole h9x (fun (v46 : Bool) => ((¬ v46 = true) → wp_Md_fails (1 : Int32) (h9x.1 7 18) h9x (fun (v65 : Bool) (h65 : Hp) => P v65 h65)) ∧ ((v46 = true) → wp_Md_ends h9x (fun (v53 : Bool) (h53 : Hp) => P v53 h53)))) P := by
  intro f
  induction f with
  | zero =>
    intro o k a x y g hk b k1 k2
    have ht1 : ∀ k, k < tc → t k < 256 := fun k hk => (ht k hk).1
    have hne : ¬ (isc t tc 44 (sk t tc a) = true ∧ k < 5) := fun z => by omega
    have stop : wp_Md_isWhole g (fun (v46 : Bool) => ((¬ v46 = true) → wp_Md_fails (1 : Int32) (g.1 7 18) g (fun (v65 : Bool) (h65 : Hp) => P v65 h65)) ∧ ((v46 = true) → wp_Md_ends g (fun (v53 : Bool) (h53 : Hp) => P v53 h53))) := by
      refine isWhole_s (by omega) b.wr b.ord ?_
      by_cases w1 : whl o k = true
      · rw [w1]
        refine ⟨fun z => absurd rfl z, fun _ => ends_s hc ht b (fun w2 g4 b4 => ?_) (fun w2 g4 b4 => ?_)⟩
        · rw [sk_sk] at w2 b4
          exact k2 o k (sk t tc a + 1) (by unfold pgo; rw [if_neg hne, if_pos ⟨w1, w2⟩]) _ _ g4 b4
        · rw [sk_sk] at w2 b4
          exact k1 1 (sk t tc a) (by unfold pgo; rw [if_neg hne, if_neg (fun z => w2 z.2)]) g4 b4
      · rw [bf w1]
        refine ⟨fun _ => ?_, fun z => absurd z (by decide)⟩
        rw [b.pos]
        exact fails_s (f := 1) b (k1 1 (sk t tc a) (by unfold pgo; rw [if_neg hne, if_neg (fun z => w1 z.1)]))
    unfold lp_Md_readsCable_9
    refine here_s hc ht b ?_
    rw [b.wr]
    exact ⟨fun _ => stop, fun _ => pk_le 5 k (fun _ => stop) (fun q => by omega)⟩
  | succ f ih =>
    intro o k a x y g hk b k1 k2
    have ht1 : ∀ k, k < tc → t k < 256 := fun k hk => (ht k hk).1
    have stop : ¬ isc t tc 44 (sk t tc a) = true → wp_Md_isWhole g (fun (v46 : Bool) => ((¬ v46 = true) → wp_Md_fails (1 : Int32) (g.1 7 18) g (fun (v65 : Bool) (h65 : Hp) => P v65 h65)) ∧ ((v46 = true) → wp_Md_ends g (fun (v53 : Bool) (h53 : Hp) => P v53 h53))) := fun hn4 => by
      have hne : ¬ (isc t tc 44 (sk t tc a) = true ∧ k < 5) := fun z => hn4 z.1
      refine isWhole_s (by omega) b.wr b.ord ?_
      by_cases w1 : whl o k = true
      · rw [w1]
        refine ⟨fun z => absurd rfl z, fun _ => ends_s hc ht b (fun w2 g4 b4 => ?_) (fun w2 g4 b4 => ?_)⟩
        · rw [sk_sk] at w2 b4
          exact k2 o k (sk t tc a + 1) (by unfold pgo; rw [if_neg hne, if_pos ⟨w1, w2⟩]) _ _ g4 b4
        · rw [sk_sk] at w2 b4
          exact k1 1 (sk t tc a) (by unfold pgo; rw [if_neg hne, if_neg (fun z => w2 z.2)]) g4 b4
      · rw [bf w1]
        refine ⟨fun _ => ?_, fun z => absurd z (by decide)⟩
        rw [b.pos]
        exact fails_s (f := 1) b (k1 1 (sk t tc a) (by unfold pgo; rw [if_neg hne, if_neg (fun z => w1 z.1)]))
    unfold lp_Md_readsCable_9
    refine here_s hc ht b ?_
    have c44 : chr t tc (sk t tc a) = (44 : Int32) ↔ isc t tc 44 (sk t tc a) = true := chr_c (ch := 44) ht1 (by omega)
    rw [c44, b.wr]
    refine ⟨stop, fun q => pk_le 5 k (fun q2 => by omega) (fun q2 => ?_)⟩
    dsimp only [lt]
    rw [b.pos, nI_1]
    have pe : pgo t tc (f + 1) o k a = pord t tc (f + 1) o k (sk t tc a + 1) := by unfold pgo; rw [if_pos ⟨q, q2⟩]
    rw [pe] at k1 k2
    refine one_s hc ht q2 (b.wpos (isc_lt.mp q).1) (fun f' p e g' b' => ⟨fun z => absurd z (by decide), fun _ => k1 f' p (pord_no e) g' b'⟩) (fun v na c e hin g' b' => ⟨fun z => absurd z (by decide), fun _ => k1 4 na (pord_in e hin) g' b'⟩) (fun v na c e hin x y g' b' => ⟨fun _ => ?_, fun z => absurd rfl z⟩)
    rw [pord_go e hin] at k1 k2
    exact ih (setd o k v) (k + 1) c x y g' (by omega) b' k1 k2
theorem cab_s (hc : tc ≤ 240) (ht : ∀ k, k < tc → t k < 256 ∧ h0.1 84 k = nI (t k)) {P : Bool → Hp → Prop} {o : Nat → Nat} {i : Nat} {x y : Int32} {g : Hp} (a : QS h0 tc i 0 K T o x y g) (k1 : ∀ f' p, pord t tc 5 o 0 i = .inl (f', p) → ∀ g', QF h0 f' p g' → P false g') (k2 : ∀ o2 n a, pord t tc 5 o 0 i = .inr (o2, n, a) → ∀ x y g', QS h0 tc a n K T o2 x y g' → P true g') : wp_Md_readsCable g P := by
  unfold wp_Md_readsCable
  refine one_s hc ht (by omega) a (fun f' p e g' b' => ⟨fun z => absurd z (by decide), fun _ => k1 f' p (pord_no e) g' b'⟩) (fun v na c e hin g' b' => ⟨fun z => absurd z (by decide), fun _ => k1 4 na (pord_in e hin) g' b'⟩) (fun v na c e hin x y g' b' => ⟨fun _ => ⟨5, ?_⟩, fun z => absurd rfl z⟩)
  rw [pord_go e hin] at k1 k2
  exact go_lp hc ht 4 (setd o 0 v) 1 c x y g' (by omega) b' k1 k2
theorem mkind_s (hc : tc ≤ 240) (ht : ∀ k, k < tc → t k < 256 ∧ h0.1 84 k = nI (t k)) {o : Nat → Nat} {i n : Nat} {x y : Int32} {g : Hp} {P : Bool → Hp → Prop} (hn : n ≤ 5) (hn0 : 0 < n) (hk : kt n K T) (a : QS h0 tc i n K T o x y g) (k1 : ∀ f p, pkind t tc n K i = .inl (f, p) → ∀ g', QF h0 f p g' → P false g') (k2 : ∀ K2 c, pkind t tc n K i = .inr (K2, c) → ∀ x y g', QS h0 tc c n K2 T o x y g' → P true g') : wp_Md_readsKind g P := by
  unfold wp_Md_readsKind
  rw [a.wr, pred_n hn0]
  refine mnum_s hc ht (lo := 0) (hi := n - 1) (by omega) (by omega) a (fun f p e g1 b => ⟨fun z => absurd z (by decide), fun _ => k1 f p (by unfold pkind; rw [e]) g1 b⟩) (fun w na c e g1 b => ⟨fun _ => ?_, fun z => absurd rfl z⟩)
  have r := pnum_r e
  have hkw := (hk.1 w (by omega)).1
  dsimp only [lt]
  rw [b.num, cl_nI (by omega), b.kd w (by omega), b.na]
  have e0 : nI (K w) = 0 ↔ K w = 0 := nI_zero (by omega)
  rw [e0]
  refine ⟨vp_in_nI (by omega) (by omega), fun q => ?_, fun q => fails_s (f := 4) b (k1 4 na (by unfold pkind; rw [e]; (try dsimp only); rw [if_pos q]))⟩
  have q2 : ¬ K w ≠ 0 := fun z => z q
  refine mnum_s hc ht (lo := 1) (hi := 3) (by omega) (by omega) b (fun f p e2 g2 b2 => ⟨fun z => absurd z (by decide), fun _ => k1 f p (by unfold pkind; rw [e]; (try dsimp only); rw [if_neg q2, e2]) g2 b2⟩) (fun v nv d e2 g2 b2 => ⟨fun _ => ⟨vp_in_nI (by omega) (by omega), ?_⟩, fun z => absurd rfl z⟩)
  rw [b2.num]
  refine ends_s hc ht (b2.wkd w v) (fun q3 g3 b3 => ?_) (fun q3 g3 b3 => ?_)
  · exact k2 (setd K w v) (sk t tc d + 1) (by unfold pkind; rw [e]; (try dsimp only); rw [if_neg q2, e2]; (try dsimp only); unfold pend; rw [if_pos q3]) _ _ g3 b3
  · exact k1 1 (sk t tc d) (by unfold pkind; rw [e]; (try dsimp only); rw [if_neg q2, e2]; (try dsimp only); unfold pend; rw [if_neg q3]) g3 b3
theorem mtouch_s (hc : tc ≤ 240) (ht : ∀ k, k < tc → t k < 256 ∧ h0.1 84 k = nI (t k)) {o : Nat → Nat} {i n : Nat} {x y : Int32} {g : Hp} {P : Bool → Hp → Prop} (hn : n ≤ 5) (hn0 : 0 < n) (hk : kt n K T) (a : QS h0 tc i n K T o x y g) (k1 : ∀ f p, ptch t tc n T i = .inl (f, p) → ∀ g', QF h0 f p g' → P false g') (k2 : ∀ T2 c, ptch t tc n T i = .inr (T2, c) → ∀ x y g', QS h0 tc c n K T2 o x y g' → P true g') : wp_Md_readsTouch g P := by
  unfold wp_Md_readsTouch
  rw [a.wr, pred_n hn0]
  refine mnum_s hc ht (lo := 0) (hi := n - 1) (by omega) (by omega) a (fun f p e g1 b => ⟨fun z => absurd z (by decide), fun _ => k1 f p (by unfold ptch; rw [e]) g1 b⟩) (fun u nu c e g1 b => ⟨fun _ => ?_, fun z => absurd rfl z⟩)
  have r := pnum_r e
  dsimp only [lt]
  rw [b.num, b.wr, pred_n hn0]
  refine mnum_s hc ht (lo := 0) (hi := n - 1) (by omega) (by omega) b (fun f p e2 g2 b2 => ⟨fun z => absurd z (by decide), fun _ => k1 f p (by unfold ptch; rw [e]; (try dsimp only); rw [e2]) g2 b2⟩) (fun v nv d e2 g2 b2 => ⟨fun _ => ?_, fun z => absurd rfl z⟩)
  have r2 := pnum_r e2
  have hp := pn_lt (a := u) (b := v) (by omega) (by omega)
  have hT : T < 2 ^ 25 := hk.2.1
  dsimp only [jn]
  rw [b2.num, b2.na, b2.tch]
  have e1 : nI u = nI v ↔ u = v := nI_eq (by omega) (by omega)
  rw [e1]
  have bad : (u = v ∨ T.testBit (pn u v) = true) → wp_Md_fails 4 (nI nv) g2 (fun (v69 : Bool) (h69 : Hp) => P v69 h69) := fun q => fails_s (f := 4) b2 (k1 4 nv (by unfold ptch; rw [e]; (try dsimp only); rw [e2]; (try dsimp only); rw [if_pos q]))
  refine ⟨fun q => bad (Or.inl q), fun q => pair_s (by omega) (by omega) (has_s (by omega) (by omega) ⟨fun q2 => pair_s (by omega) (by omega) ?_, fun q2 => bad (Or.inr q2)⟩)⟩
  have q3 : ¬ (u = v ∨ T.testBit (pn u v) = true) := fun z => z.elim q q2
  have hp2 : 2 ^ pn u v < 2 ^ 25 := Nat.pow_lt_pow_right (by omega) hp
  rw [shl1 (by omega), or_nI (by omega) (by omega)]
  refine ends_s hc ht (b2.wtch (T ||| 2 ^ pn u v)) (fun q4 g3 b3 => ?_) (fun q4 g3 b3 => ?_)
  · exact k2 (T ||| 2 ^ pn u v) (sk t tc d + 1) (by unfold ptch; rw [e]; (try dsimp only); rw [e2]; (try dsimp only); rw [if_neg q3]; unfold pend; rw [if_pos q4]) _ _ g3 b3
  · exact k1 1 (sk t tc d) (by unfold ptch; rw [e]; (try dsimp only); rw [e2]; (try dsimp only); rw [if_neg q3]; unfold pend; rw [if_neg q4]) g3 b3
theorem mclause_s (hc : tc ≤ 240) (ht : ∀ k, k < tc → t k < 256 ∧ h0.1 84 k = nI (t k)) {o : Nat → Nat} {i n : Nat} {x y : Int32} {g : Hp} {P : Bool → Hp → Prop} (hn : n ≤ 5) (hn0 : 0 < n) (hk : kt n K T) (hi : i < tc) (a : QS h0 tc i n K T o x y g) (k1 : ∀ f p, pcl t tc n K T i = .inl (f, p) → ∀ g', QF h0 f p g' → P false g') (k2 : ∀ K2 T2 c, pcl t tc n K T i = .inr (K2, T2, c) → ∀ x y g', QS h0 tc c n K2 T2 o x y g' → P true g') : wp_Md_readsClause g P := by
  unfold wp_Md_readsClause
  refine here_s hc ht a ?_
  have ht1 : ∀ k, k < tc → t k < 256 := fun k hk => (ht k hk).1
  have c107 : chr t tc i = (107 : Int32) ↔ isc t tc 107 i = true := chr_c (ch := 107) ht1 (by omega)
  have c115 : chr t tc i = (115 : Int32) ↔ isc t tc 115 i = true := chr_c (ch := 115) ht1 (by omega)
  have c99 : chr t tc i = (99 : Int32) ↔ isc t tc 99 i = true := chr_c (ch := 99) ht1 (by omega)
  have b := a.wpos (j := i + 1) (by omega)
  dsimp only [lt, jn]
  rw [c107, c115, c99, a.pos, nI_1, b.wr]
  have n0 : ¬ nI n = 0 := fun z => by have := (nI_zero (by omega)).mp z; omega
  refine ⟨fun _ => ⟨fun q1 => ⟨fun q2 => ⟨fun q3 => ?_, fun q3 => ?_⟩, fun q2 => ?_⟩, fun q1 => ?_⟩, fun z => absurd z n0⟩
  · exact fails_s (f := 1) b (k1 1 _ (by unfold pcl; rw [if_neg q1, if_neg q2, if_neg q3]))
  · exact fails_s (f := 3) b (k1 3 _ (by unfold pcl; rw [if_neg q1, if_neg q2, if_pos q3]))
  · exact mtouch_s hc ht hn hn0 hk b (fun f p e => k1 f p (by unfold pcl; rw [if_neg q1, if_pos q2, e])) (fun T2 c e => k2 K T2 c (by unfold pcl; rw [if_neg q1, if_pos q2, e]))
  · exact mkind_s hc ht hn hn0 hk b (fun f p e => k1 f p (by unfold pcl; rw [if_pos q1, e])) (fun K2 c e => k2 K2 T c (by unfold pcl; rw [if_pos q1, e]))
theorem mread_lp (hc : tc ≤ 240) (ht : ∀ k, k < tc → t k < 256 ∧ h0.1 84 k = nI (t k)) {o : Nat → Nat} {n : Nat} {E : Hp → Prop} {P : Bool → Hp → Prop} (hn : n ≤ 5) (hn0 : 0 < n) : ∀ (f : Nat) (K : Nat → Nat) (T i : Nat) (x y : Int32) (g : Hp), tc ≤ i + f → kt n K T → QS h0 tc (sk t tc i) n K T o x y g → (∀ f' p, pcls t tc n f K T i = .inl (f', p) → ∀ g', QF h0 f' p g' → P false g') → (∀ K2 T2, pcls t tc n f K T i = .inr (K2, T2) → ∀ j x y g', QS h0 tc j n K2 T2 o x y g' → E g') → lp_Md_readsAll_39 (f + 1) g E P := by
  intro f
  induction f with
  | zero =>
    intro K T i x y g hf hk a k1 k2
    have hs := sk_le (t := t) (tc := tc) i
    have hs2 := a.1
    unfold lp_Md_readsAll_39
    rw [a.len, a.pos]
    exact pk_le tc (sk t tc i) (fun _ => k2 K T rfl _ _ _ g a) (fun q => by omega)
  | succ f ih =>
    intro K T i x y g hf hk a k1 k2
    have hs := sk_le (t := t) (tc := tc) i
    have hs2 := a.1
    unfold lp_Md_readsAll_39
    rw [a.len, a.pos]
    refine pk_le tc (sk t tc i) (fun q => k2 K T (by unfold pcls; rw [if_pos q]) _ _ _ g a) (fun q => ?_)
    have q' : ¬ tc ≤ sk t tc i := by omega
    refine mclause_s hc ht hn hn0 hk q a (fun f' p e g2 b2 => ⟨fun z => absurd z (by decide), fun _ => k1 f' p (by unfold pcls; rw [if_neg q', e]) g2 b2⟩) (fun K2 T2 c e x y g2 b2 => ⟨fun _ => skip_s hc ht b2 (fun g3 b3 => ?_), fun z => absurd rfl z⟩)
    have ok := pcl_ok hn hn0 hk e
    exact ih K2 T2 c x y g3 (by omega) ok.1 b3 (fun f' p e' => k1 f' p (by unfold pcls; rw [if_neg q', e]; exact e')) (fun K3 T3 e' => k2 K3 T3 (by unfold pcls; rw [if_neg q', e]; exact e'))
theorem zero_lp : ∀ (k i : Nat) (g : Hp) (E : Hp → Prop), i + k = 5 → (∀ g' : Hp, g'.2 = g.2 → (∀ c, c ≠ 86 → g'.1 c = g.1 c) → (∀ w, w < 5 → (i ≤ w → g'.1 86 w = 0) ∧ (w < i → g'.1 86 w = g.1 86 w)) → E g') → lp_Md_readsAll_17 (k + 1) (nI i) g E := by
  intro k
  induction k with
  | zero =>
    intro i g E hi hE
    unfold lp_Md_readsAll_17
    exact pk_le 5 i (fun _ => hE g rfl (fun _ _ => rfl) (fun w hw => ⟨fun q => by omega, fun _ => rfl⟩)) (fun q => by omega)
  | succ k ih =>
    intro i g E hi hE
    unfold lp_Md_readsAll_17
    refine pk_le 5 i (fun q => by omega) (fun q => ⟨vp_in_nI (by omega) (by omega), ?_⟩)
    dsimp only [lt]
    rw [cl_nI (by omega), nI_1]
    refine ih (i + 1) _ E (by omega) (fun g' h1 h2 h3 => hE g' h1 (fun c hc => by rw [h2 c hc, wi_ne hc]) (fun w hw => ⟨fun q2 => ?_, fun q2 => ?_⟩))
    · by_cases e : w = i
      · rw [(h3 w hw).2 (by omega)]
        show upd (g.1 86) i 0 w = 0
        rw [e, pk_us]
      · exact (h3 w hw).1 (by omega)
    · rw [(h3 w hw).2 (by omega)]
      show upd (g.1 86) i 0 w = g.1 86 w
      rw [pk_un (by omega)]
theorem readsAll_s (hc : tc ≤ 240) {h : Hp} (ht : ∀ k, k < tc → t k < 256 ∧ h.1 84 k = nI (t k)) (hl : h.1 7 17 = nI tc) {P : Bool → Hp → Prop} (k1 : ∀ f p, pall t tc = .inl (f, p) → ∀ g, QF h f p g → P false g) (k2 : ∀ n o K T, pall t tc = .inr (n, o, K, T) → ∀ i x y g, QS h tc i n K T o x y g → P true g) : wp_Md_readsAll h P := by
  unfold wp_Md_readsAll
  dsimp only [lt]
  have ht1 : ∀ k, k < tc → t k < 256 := fun k hk => (ht k hk).1
  refine ⟨6, zero_lp 5 0 _ _ (by omega) (fun g1 h1 h2 h3 => ?_)⟩
  have a : QS h tc 0 0 (fun _ => 0) 0 (fun _ => 0) (g1.1 7 25) (g1.1 7 26) g1 := by
    have e7 : g1.1 7 = (wi (wi (wi h 7 18 0) 7 21 0) 7 22 0).1 7 := h2 7 (by omega)
    refine ⟨by omega, h1, fun c c1 c2 c3 => by rw [h2 c c3, wi_ne c1, wi_ne c1, wi_ne c1], fun j q => ?_, hl, ?_, ?_, ?_, rfl, rfl, fun e he => by omega, fun w hw => ?_⟩
    · rw [e7, wi_f q.2.2.2.1, wi_f q.2.2.1, wi_f q.1]
    · rw [e7]; rfl
    · rw [e7]; rfl
    · rw [e7]; rfl
    · rw [(h3 w hw).1 (by omega)]; rfl
  refine skip_s hc ht a (fun g2 b => ⟨242, ?_⟩)
  have hs := b.1
  unfold lp_Md_readsAll_39
  rw [b.len, b.pos]
  refine pk_le tc (sk t tc 0) (fun q => k2 _ _ _ _ (by unfold pall; rw [if_pos q]) _ _ _ g2 b) (fun q => ?_)
  have q' : ¬ tc ≤ sk t tc 0 := by omega
  unfold wp_Md_readsClause
  refine here_s hc ht b ?_
  have c99 : chr t tc (sk t tc 0) = (99 : Int32) ↔ isc t tc 99 (sk t tc 0) = true := chr_c (ch := 99) ht1 (by omega)
  have b1 := b.wpos (j := sk t tc 0 + 1) (by omega)
  dsimp only [lt, jn]
  rw [c99, b.pos, nI_1, b1.wr]
  refine ⟨fun z => absurd rfl z, fun _ => ⟨fun q1 => ?_, fun q1 => ?_⟩⟩
  · exact fails_s (f := 1) b1 (fun g3 b3 => ⟨fun z => absurd z (by decide), fun _ => k1 1 _ (by unfold pall; rw [if_neg q', if_neg q1]) g3 b3⟩)
  · refine cab_s hc ht b1 (fun f p e g3 b3 => ⟨fun z => absurd z (by decide), fun _ => k1 f p (by unfold pall; rw [if_neg q', if_pos q1, e]) g3 b3⟩) (fun o n c e x y g3 b3 => ⟨fun _ => skip_s hc ht b3 (fun g4 b4 => ?_), fun z => absurd rfl z⟩)
    have ok := pord_ok 5 _ 0 _ _ _ _ (by omega) (fun e f h => by omega) e
    exact mread_lp hc ht (by omega) (by omega) 240 (fun _ => 0) 0 c _ _ g4 (by omega) ⟨fun w _ => ⟨by show 0 < 4; omega, fun _ => rfl⟩, ⟨by decide, fun i h => by simp at h⟩⟩ b4 (fun f p e' g5 b5 => k1 f p (by unfold pall; rw [if_neg q', if_pos q1, e]; (try dsimp only); rw [e']) g5 b5) (fun K2 T2 e' j x y g5 b5 => k2 n o K2 T2 (by unfold pall; rw [if_neg q', if_pos q1, e]; (try dsimp only); rw [e']) _ _ _ g5 b5)
end
