section
def nxs (sd : Nat) : Nat := (sd * 1103515245 + 12345) % 2147483648
theorem nxs_lt (sd : Nat) : nxs sd < 2 ^ 31 := Nat.mod_lt _ (by decide)
theorem lN_tn {n : Nat} (h : n < 2 ^ 64) : (lN n).toBitVec.toNat = n := by
  show (BitVec.ofNat 64 n).toNat = n
  rw [BitVec.toNat_ofNat, Nat.mod_eq_of_lt h]
theorem eq_lN {x : Int64} {n : Nat} (h : x.toBitVec.toNat = n) : x = lN n := by
  have hn : n < 2 ^ 64 := by rw [← h]; exact x.toBitVec.isLt
  apply Int64.toBitVec_inj.mp
  apply BitVec.eq_of_toNat_eq
  rw [h, lN_tn hn]
theorem land31 {a : Nat} (h : a < 2 ^ 64) : lN a &&& 2147483647 = lN (a % 2147483648) := by
  apply eq_lN
  rw [Int64.toBitVec_and, BitVec.toNat_and, lN_tn h]
  show a &&& 2 ^ 31 - 1 = a % 2 ^ 31
  exact Nat.and_two_pow_sub_one_eq_mod a 31
theorem draw_F {h : Hp} {sd p : Nat} (hs : h.1 3 0 = nI sd) (hsd : sd < 2 ^ 31) (hp : 0 < p) (hp2 : p < 2 ^ 31) {P : Int32 → Hp → Prop} (k : P (nI (nxs sd / 65536 % p)) (wi h 3 0 (nI (nxs sd)))) : wp_Draws_draw (nI p) h P := by
  unfold wp_Draws_draw
  dsimp only [lt]
  have hb : sd * 1103515245 + 12345 < 2 ^ 64 := by omega
  have e : (((h.1 3 0).toInt64 * 1103515245 + 12345) &&& 2147483647).toInt32 = nI (nxs sd) := by
    rw [hs, nI_l hsd, show lN sd * 1103515245 = lN (sd * 1103515245) from lN_mul sd 1103515245, show lN (sd * 1103515245) + 12345 = lN (sd * 1103515245 + 12345) from lN_add _ 12345, land31 hb, lN_i]; rfl
  rw [e, wi_eq, pk_us]
  have e1 : nI (nxs sd) / 65536 = nI (nxs sd / 65536) := pk_div (d := 65536) (nxs_lt sd) (by decide) (by decide)
  have hq : nxs sd / 65536 < 2 ^ 31 := Nat.lt_of_le_of_lt (Nat.div_le_self _ _) (nxs_lt sd)
  refine ⟨fun _ => ⟨fun z => ?_, ?_⟩, fun z => ?_⟩
  · have := (nI_zero hp2).mp z; omega
  · rw [e1]
    have : irm (nI (nxs sd / 65536)) (nI p) = nI (nxs sd / 65536 % p) := pk_rem hq hp hp2
    rw [this]; exact k
  · exact absurd ((nI_ltI (a := 0) (by omega) hp2).mpr hp) z
theorem draw_M {g : Hp} {sd p : Nat} (hs : g.2 7 10 = lN sd) (hsd : sd < 2 ^ 31) (hp : 0 < p) (hp2 : p < 2 ^ 31) {P : Int32 → Hp → Prop} (k : P (nI (nxs sd / 65536 % p)) (wl g 7 10 (lN (nxs sd)))) : wp_Md_draw (nI p) g P := by
  unfold wp_Md_draw
  dsimp only [lt]
  have hb : sd * 1103515245 + 12345 < 2 ^ 63 := by omega
  have e : lrm (g.2 7 10 * 1103515245 + 12345) 2147483648 = lN (nxs sd) := by
    rw [hs, show lN sd * 1103515245 = lN (sd * 1103515245) from lN_mul sd 1103515245, show lN (sd * 1103515245) + 12345 = lN (sd * 1103515245 + 12345) from lN_add _ 12345]
    exact pk_lRem (b := 2147483648) hb (by decide) (by decide)
  have hn := nxs_lt sd
  rw [e, wl_eq, pk_uLs, nI_l hp2]
  refine ⟨fun z => ?_, ?_⟩
  · have := (pk_lEQ (a := p) (b := 0) (by omega) (by omega)).mp z; omega
  · have e1 : lN (nxs sd) / 65536 = lN (nxs sd / 65536) := pk_lDiv (b := 65536) (by omega) (by decide) (by decide)
    have e2 : lrm (lN (nxs sd / 65536)) (lN p) = lN (nxs sd / 65536 % p) := pk_lRem (by omega) hp (by omega)
    rw [e1, e2, lN_i]; exact k
/-- one hour by draws: the state and the seed behind it -/
def hourM (n : Nat) (m : Nat → Nat) (sd : Nat) : Nat → Nat :=
  let w := nxs sd / 65536 % 4
  let i := nxs (nxs sd) / 65536 % n
  let x := nxs (nxs (nxs sd))
  um (if w = 0 then um m (tb m + i) (x / 65536 % 4) else if w = 1 then (if x / 65536 % n = i then m else um m 3 (min (m 3 + 1) 9999)) else if w = 2 then mwalk m else um m (5 + i) (x / 65536 % 4)) 1 (m 1 + 1)
def hourS (sd : Nat) : Nat := if nxs sd / 65536 % 4 = 2 then nxs (nxs sd) else nxs (nxs (nxs sd))
theorem hourS_lt (sd : Nat) : hourS sd < 2 ^ 31 := by unfold hourS; split <;> exact nxs_lt _
theorem um1 {m1 m : Nat → Nat} (h : m1 1 = m 1) {v : Nat} : um m1 1 v = um m1 1 v := rfl
theorem WF_hour {n : Nat} {m : Nat → Nat} {sd : Nat} (a : WF n m) (hn : n ≤ 5) (h0 : 0 < n) (hh : m 1 + 1 ≤ 9060) : WF n (hourM n m sd) := by
  have hi : nxs (nxs sd) / 65536 % n < n := Nat.mod_lt _ h0
  have h4 : nxs (nxs (nxs sd)) / 65536 % 4 < 4 := Nat.mod_lt _ (by omega)
  unfold hourM
  refine WF_sc ?_ (by omega) (fun h => by omega) (fun _ => hh) (fun h => by omega)
  split
  · exact WF_tie a hi hn h4
  · split
    · split
      · exact a
      · exact WF_sc a (by omega) (fun h => by omega) (fun h => by omega) (fun _ => by omega)
    · split
      · exact WF_walk a
      · exact WF_arr (c := 0) a hi hn h4 (by omega)
theorem test_F {g : Hp} {m : Nat → Nat} {n : Nat} {P : Hp → Prop} (hcs : CS (g.1 26) m) (hwf : WF n m) (k : ∀ f, CS f (um m 3 (min (m 3 + 1) 9999)) → P (sr g 26 f)) : wp_State_countTest 26 g P := by
  unfold wp_State_countTest
  dsimp only [lt]
  rw [hcs.2.2.2.2.2.2.2, plus_min hwf.2.2.2.1]
  exact k _ (CS_sc (q := 3) hcs (by omega))
theorem test_M {g : Hp} {m : Nat → Nat} {n : Nat} {P : Hp → Prop} (hml : ML g m) (hwf : WF n m) (k : P (wi g 7 5 (nI (min (m 3 + 1) 9999)))) : wp_Md_tested g P := by
  unfold wp_Md_tested
  dsimp only [lt, jn]
  rw [hml.2.2.2.1]
  have hm := hwf.2.2.2.1
  refine ⟨fun q => ?_, fun q => ?_⟩
  · have : 9999 ≤ m 3 := (nI_leI (a := 9999) (by omega) (by omega)).mp q
    rw [show nI (m 3) + 0 = nI (m 3 + 0) from nI_add _ 0]
    rw [show min (m 3 + 1) 9999 = m 3 + 0 by omega] at k; exact k
  · have : ¬ 9999 ≤ m 3 := fun z => q (nI_le (a := 9999) z (by omega))
    rw [nI_1]
    rw [show min (m 3 + 1) 9999 = m 3 + 1 by omega] at k; exact k
theorem hour_F {h : Hp} {m : Nat → Nat} {n sd : Nat} (hw : h.1 0 1 = nI n) (hn : n ≤ 5) (h0 : 0 < n) (hcs : CS (h.1 26) m) (hwf : WF n m) (hs : h.1 3 0 = nI sd) (hsd : sd < 2 ^ 31) {P : Hp → Prop} (k : ∀ g : Hp, CS (g.1 26) (hourM n m sd) → g.1 3 0 = nI (hourS sd) → (∀ c, c ≠ 3 → c ≠ 26 → g.1 c = h.1 c) → g.2 = h.2 → P g) : wp_Fe_driftOneHour h P := by
  unfold wp_Fe_driftOneHour
  have hi : nxs (nxs sd) / 65536 % n < n := Nat.mod_lt _ h0
  have hw4 : nxs sd / 65536 % 4 < 4 := Nat.mod_lt _ (by omega)
  have hx4 : nxs (nxs (nxs sd)) / 65536 % 4 < 4 := Nat.mod_lt _ (by omega)
  refine draw_F (p := 4) hs hsd (by omega) (by omega) ?_
  rw [show (wi h 3 0 (nI (nxs sd))).1 0 1 = nI n from hw]
  refine draw_F (sd := nxs sd) (p := n) (by rw [wi_eq, pk_us]) (nxs_lt _) h0 (by omega) ?_
  obtain ⟨g, hg⟩ : ∃ g : Hp, g = wi (wi h 3 0 (nI (nxs sd))) 3 0 (nI (nxs (nxs sd))) := ⟨_, rfl⟩
  rw [← hg]
  have gc : ∀ c, c ≠ 3 → g.1 c = h.1 c := fun c hc => by rw [hg, wi_ne hc, wi_ne hc]
  have g3 : g.1 3 0 = nI (nxs (nxs sd)) := by rw [hg, wi_eq, pk_us]
  have gl : g.2 = h.2 := by rw [hg]; rfl
  dsimp only [jn, lt]
  -- the end of the hour
  have fin : ∀ (q : Hp) (m1 : Nat → Nat) (s1 : Nat), CS (q.1 26) m1 → m1 1 = m 1 → um m1 1 (m 1 + 1) = hourM n m sd → q.1 3 0 = nI s1 → s1 = hourS sd → (∀ c, c ≠ 3 → c ≠ 26 → q.1 c = h.1 c) → q.2 = h.2 → P (wi q 26 5 (q.1 26 5 + 1)) := fun q m1 s1 e1 e2 e3 e4 e5 e6 e7 => by
    rw [e1.2.2.2.2.2.1, e2, nI_1]
    refine k _ ?_ ?_ (fun c c1 c2 => by rw [wi_ne c2]; exact e6 c c1 c2) e7
    · rw [wi_eq, ← e3]; exact CS_sc (q := 1) e1 (by omega)
    · rw [wi_ne (by omega), e4, e5]
  have e0 : nI (nxs sd / 65536 % 4) = 0 ↔ nxs sd / 65536 % 4 = 0 := nI_zero (by omega)
  have e1 : nI (nxs sd / 65536 % 4) = 1 ↔ nxs sd / 65536 % 4 = 1 := nI_eq (b := 1) (by omega) (by omega)
  have e2 : nI (nxs sd / 65536 % 4) = 2 ↔ nxs sd / 65536 % 4 = 2 := nI_eq (b := 2) (by omega) (by omega)
  rw [e0, e1, e2]
  have tbi : 10 ≤ tb m := by unfold tb; split <;> omega
  refine ⟨fun z0 => ⟨fun z1 => ⟨fun z2 => ?_, fun z2 => ?_⟩, fun z1 => ?_⟩, fun z0 => ?_⟩
  · refine draw_F (sd := nxs (nxs sd)) (p := 4) g3 (nxs_lt _) (by omega) (by omega) ?_
    rw [gc 26 (by omega), hcs.1]
    refine withPart_s (fun w hw => (hwf.2.2.2.2.2 w hw).1) (by omega) (by omega) ?_
    refine fin _ (um m (5 + nxs (nxs sd) / 65536 % n) (nxs (nxs (nxs sd)) / 65536 % 4)) (nxs (nxs (nxs sd))) ?_ (um_ne (by omega)) ?_ ?_ ?_ (fun c c1 c2 => by rw [wi_ne c2, wi_ne c1, gc c c1]) gl
    · rw [wi_eq, wi_ne (by omega), gc 26 (by omega)]; exact CS_kind hcs (by omega)
    · unfold hourM; dsimp only; rw [if_neg z0, if_neg z1, if_neg z2]
    · rw [wi_ne (by omega), wi_eq, pk_us]
    · unfold hourS; rw [if_neg z2]
  · refine walk_s (m := m) (n := n) (by rw [gc 26 (by omega)]; exact hcs) hwf (fun f hf => ?_)
    refine fin _ (mwalk m) (nxs (nxs sd)) (by rw [sr_eq]; exact hf) (by unfold mwalk; rw [um_ne (by omega), um_ne (by omega)]) ?_ (by rw [sr_ne (by omega)]; exact g3) ?_ (fun c c1 c2 => by rw [sr_ne c2, gc c c1]) gl
    · unfold hourM; dsimp only; rw [if_neg z0, if_neg z1, if_pos z2]
    · unfold hourS; rw [if_pos z2]
  · rw [show g.1 0 1 = nI n from by rw [gc 0 (by omega)]; exact hw]
    refine draw_F (sd := nxs (nxs sd)) (p := n) g3 (nxs_lt _) h0 (by omega) ?_
    have hx : nxs (nxs (nxs sd)) / 65536 % n < n := Nat.mod_lt _ h0
    have z2 : ¬ nxs sd / 65536 % 4 = 2 := by omega
    refine ⟨fun q => ?_, fun q => ?_⟩
    · have q2 := nI_inj (by omega) (by omega) q
      refine fin _ m (nxs (nxs (nxs sd))) (by rw [wi_ne (by omega), gc 26 (by omega)]; exact hcs) rfl ?_ (by rw [wi_eq, pk_us]) ?_ (fun c c1 c2 => by rw [wi_ne c1, gc c c1]) gl
      · unfold hourM; dsimp only; rw [if_neg z0, if_pos z1, if_pos q2]
      · unfold hourS; rw [if_neg z2]
    · have q2 : ¬ nxs (nxs (nxs sd)) / 65536 % n = nxs (nxs sd) / 65536 % n := fun e => q (by rw [e])
      refine test_F (m := m) (n := n) (by rw [wi_ne (by omega), gc 26 (by omega)]; exact hcs) hwf (fun f hf => ?_)
      refine fin _ _ (nxs (nxs (nxs sd))) (by rw [sr_eq]; exact hf) (um_ne (by omega)) ?_ (by rw [sr_ne (by omega), wi_eq, pk_us]) ?_ (fun c c1 c2 => by rw [sr_ne c2, wi_ne c1, gc c c1]) gl
      · unfold hourM; dsimp only; rw [if_neg z0, if_pos z1, if_neg q2]
      · unfold hourS; rw [if_neg z2]
  · refine draw_F (sd := nxs (nxs sd)) (p := 4) g3 (nxs_lt _) (by omega) (by omega) ?_
    refine tie_s (m := m) (n := n) (by rw [wi_ne (by omega), gc 26 (by omega)]; exact hcs) hwf (by omega) hx4 (fun f hf => ?_)
    have z2 : ¬ nxs sd / 65536 % 4 = 2 := by omega
    refine fin _ _ (nxs (nxs (nxs sd))) (by rw [sr_eq]; exact hf) (um_ne (by omega)) ?_ (by rw [sr_ne (by omega), wi_eq, pk_us]) ?_ (fun c c1 c2 => by rw [sr_ne c2, wi_ne c1, gc c c1]) gl
    · unfold hourM; dsimp only; rw [if_pos z0]
    · unfold hourS; rw [if_neg z2]
theorem ML_wl {g : Hp} {m : Nat → Nat} {c k : Nat} {v : Int64} (a : ML g m) : ML (wl g c k v) m := a
theorem hour_M {h : Hp} {m : Nat → Nat} {n sd : Nat} (hw : h.1 7 0 = nI n) (hn : n ≤ 5) (h0 : 0 < n) (hml : ML h m) (hwf : WF n m) (hs : h.2 7 10 = lN sd) (hsd : sd < 2 ^ 31) {P : Hp → Prop} (k : ∀ g : Hp, ML g (hourM n m sd) → g.2 7 10 = lN (hourS sd) → (∀ c, c ≠ 7 → c ≠ 78 → c ≠ 79 → c ≠ 80 → g.1 c = h.1 c) → (∀ j, j < 2 ∨ 6 < j → g.1 7 j = h.1 7 j) → (∀ c, c ≠ 7 → g.2 c = h.2 c) → P g) : wp_Md_driftsHour h P := by
  unfold wp_Md_driftsHour
  have hi : nxs (nxs sd) / 65536 % n < n := Nat.mod_lt _ h0
  have hw4 : nxs sd / 65536 % 4 < 4 := Nat.mod_lt _ (by omega)
  have hx4 : nxs (nxs (nxs sd)) / 65536 % 4 < 4 := Nat.mod_lt _ (by omega)
  refine draw_M (p := 4) hs hsd (by omega) (by omega) ?_
  rw [show (wl h 7 10 (lN (nxs sd))).1 7 0 = nI n from hw]
  refine draw_M (sd := nxs sd) (p := n) (by rw [wl_eq, pk_uLs]) (nxs_lt _) h0 (by omega) ?_
  obtain ⟨g, hg⟩ : ∃ g : Hp, g = wl (wl h 7 10 (lN (nxs sd))) 7 10 (lN (nxs (nxs sd))) := ⟨_, rfl⟩
  rw [← hg]
  have g1 : g.1 = h.1 := by rw [hg]; rfl
  have gm : ML g m := by rw [hg]; exact hml
  have g3 : g.2 7 10 = lN (nxs (nxs sd)) := by rw [hg, wl_eq, pk_uLs]
  have gl : ∀ c, c ≠ 7 → g.2 c = h.2 c := fun c hc => by rw [hg, wl_ne hc, wl_ne hc]
  dsimp only [jn, lt]
  have fin : ∀ (q : Hp) (m1 : Nat → Nat) (s1 : Nat), ML q m1 → m1 1 = m 1 → um m1 1 (m 1 + 1) = hourM n m sd → q.2 7 10 = lN s1 → s1 = hourS sd → (∀ c, c ≠ 7 → c ≠ 78 → c ≠ 79 → c ≠ 80 → q.1 c = h.1 c) → (∀ j, j < 2 ∨ 6 < j → q.1 7 j = h.1 7 j) → (∀ c, c ≠ 7 → q.2 c = h.2 c) → P (wi q 7 3 (q.1 7 3 + 1)) := fun q m1 s1 e1 e2 e3 e4 e5 e6 e7 e8 => by
    rw [e1.2.1, e2, nI_1]
    refine k _ ?_ ?_ (fun c c1 c2 c3 c4 => by rw [wi_ne c1]; exact e6 c c1 c2 c3 c4) (fun j hj => by rw [wi_eq, pk_un (by omega)]; exact e7 j hj) e8
    · rw [← e3]; exact ML_sc (q := 1) e1 (by omega)
    · rw [wi_2, e4, e5]
  have e0 : nI (nxs sd / 65536 % 4) = 0 ↔ nxs sd / 65536 % 4 = 0 := nI_zero (by omega)
  have e1 : nI (nxs sd / 65536 % 4) = 1 ↔ nxs sd / 65536 % 4 = 1 := nI_eq (b := 1) (by omega) (by omega)
  have e2 : nI (nxs sd / 65536 % 4) = 2 ↔ nxs sd / 65536 % 4 = 2 := nI_eq (b := 2) (by omega) (by omega)
  rw [e0, e1, e2]
  have tbi : 10 ≤ tb m := by unfold tb; split <;> omega
  refine ⟨fun z0 => ⟨fun z1 => ⟨fun z2 => ?_, fun z2 => ?_⟩, fun z1 => ?_⟩, fun z0 => ?_⟩
  · refine draw_M (sd := nxs (nxs sd)) (p := 4) g3 (nxs_lt _) (by omega) (by omega) ?_
    refine ⟨vp_in_nI (by omega) (by omega), ?_⟩
    rw [cl_nI (by omega)]
    refine fin _ (um m (5 + nxs (nxs sd) / 65536 % n) (nxs (nxs (nxs sd)) / 65536 % 4)) (nxs (nxs (nxs sd))) (ML_arr (c := 0) (ML_wl gm) (by omega) (by omega)) (um_ne (by omega)) ?_ ?_ ?_ (fun c c1 c2 c3 c4 => by rw [wi_ne c2, wl_1, g1]) (fun j hj => by rw [wi_ne (by omega), wl_1, g1]) (fun c hc => by rw [wi_2, wl_ne hc, gl c hc])
    · unfold hourM; dsimp only; rw [if_neg z0, if_neg z1, if_neg z2]
    · rw [wi_2, wl_eq, pk_uLs]
    · unfold hourS; rw [if_neg z2]
  · refine goes_s gm hwf (fun q w1 w2 w3 w4 => ?_)
    refine fin _ (mwalk m) (nxs (nxs sd)) w1 (by unfold mwalk; rw [um_ne (by omega), um_ne (by omega)]) ?_ (by rw [w4]; exact g3) ?_ (fun c c1 c2 c3 c4 => by rw [w2 c c1, g1]) (fun j hj => by rw [w3 j hj, g1]) (fun c hc => by rw [w4, gl c hc])
    · unfold hourM; dsimp only; rw [if_neg z0, if_neg z1, if_pos z2]
    · unfold hourS; rw [if_pos z2]
  · rw [show g.1 7 0 = nI n from by rw [g1]; exact hw]
    refine draw_M (sd := nxs (nxs sd)) (p := n) g3 (nxs_lt _) h0 (by omega) ?_
    have hx : nxs (nxs (nxs sd)) / 65536 % n < n := Nat.mod_lt _ h0
    have z2 : ¬ nxs sd / 65536 % 4 = 2 := by omega
    refine ⟨fun q => ?_, fun q => ?_⟩
    · have q2 := nI_inj (by omega) (by omega) q
      refine fin _ m (nxs (nxs (nxs sd))) (ML_wl gm) rfl ?_ (by rw [wl_eq, pk_uLs]) ?_ (fun c _ _ _ _ => by rw [wl_1, g1]) (fun j _ => by rw [wl_1, g1]) (fun c hc => by rw [wl_ne hc, gl c hc])
      · unfold hourM; dsimp only; rw [if_neg z0, if_pos z1, if_pos q2]
      · unfold hourS; rw [if_neg z2]
    · have q2 : ¬ nxs (nxs (nxs sd)) / 65536 % n = nxs (nxs sd) / 65536 % n := fun e => q (by rw [e])
      refine test_M (m := m) (n := n) (ML_wl gm) hwf ?_
      refine fin _ _ (nxs (nxs (nxs sd))) (ML_sc (q := 3) (ML_wl gm) (by omega)) (um_ne (by omega)) ?_ (by rw [wi_2, wl_eq, pk_uLs]) ?_ (fun c c1 c2 c3 c4 => by rw [wi_ne c1, wl_1, g1]) (fun j hj => by rw [wi_eq, pk_un (by omega), wl_1, g1]) (fun c hc => by rw [wi_2, wl_ne hc, gl c hc])
      · unfold hourM; dsimp only; rw [if_neg z0, if_pos z1, if_neg q2]
      · unfold hourS; rw [if_neg z2]
  · refine draw_M (sd := nxs (nxs sd)) (p := 4) g3 (nxs_lt _) (by omega) (by omega) ?_
    have z2 : ¬ nxs sd / 65536 % 4 = 2 := by omega
    refine comes_s (ML_wl gm) hwf (by omega) (fun q w1 w2 w3 => ?_)
    refine fin _ _ (nxs (nxs (nxs sd))) w1 (um_ne (by omega)) ?_ (by rw [w3, wl_eq, pk_uLs]) ?_ (fun c c1 c2 c3 c4 => by rw [w2 c c3 c4, wl_1, g1]) (fun j hj => by rw [w2 7 (by omega) (by omega), wl_1, g1]) (fun c hc => by rw [w3, wl_ne hc, gl c hc])
    · unfold hourM; dsimp only; rw [if_pos z0]
    · unfold hourS; rw [if_neg z2]
def hoursG (f : (Nat → Nat) → Nat → (Nat → Nat)) (s : Nat → Nat) : Nat → (Nat → Nat) → Nat → (Nat → Nat) × Nat
  | 0, m, sd => (m, sd)
  | k + 1, m, sd => hoursG f s k (f m sd) (s sd)
theorem hoursG_s (f : (Nat → Nat) → Nat → (Nat → Nat)) (s : Nat → Nat) (k : Nat) (m : Nat → Nat) (sd : Nat) : hoursG f s (k + 1) m sd = hoursG f s k (f m sd) (s sd) := rfl
theorem hoursG_0 (f : (Nat → Nat) → Nat → (Nat → Nat)) (s : Nat → Nat) (m : Nat → Nat) (sd : Nat) : hoursG f s 0 m sd = (m, sd) := rfl
def hoursM (n k : Nat) (m : Nat → Nat) (sd : Nat) : (Nat → Nat) × Nat := hoursG (hourM n) hourS k m sd
theorem hoursM_s (n k : Nat) (m : Nat → Nat) (sd : Nat) : hoursM n (k + 1) m sd = hoursM n k (hourM n m sd) (hourS sd) := hoursG_s (hourM n) hourS k m sd
theorem hoursM_0 (n : Nat) (m : Nat → Nat) (sd : Nat) : hoursM n 0 m sd = (m, sd) := hoursG_0 (hourM n) hourS m sd
theorem hourM_1 {n : Nat} {m : Nat → Nat} {sd : Nat} : hourM n m sd 1 = m 1 + 1 := um_eq
theorem hours_F {n N : Nat} (hn : n ≤ 5) (h0 : 0 < n) (hN : N ≤ 60) : ∀ (k i : Nat) (h : Hp) (m : Nat → Nat) (sd : Nat) (E : Hp → Prop), i + k = N → h.1 0 1 = nI n → CS (h.1 26) m → WF n m → m 1 + k ≤ 9060 → h.1 3 0 = nI sd → sd < 2 ^ 31 → (∀ g : Hp, CS (g.1 26) (hoursM n k m sd).1 → g.1 3 0 = nI (hoursM n k m sd).2 → (∀ c, c ≠ 3 → c ≠ 26 → g.1 c = h.1 c) → g.2 = h.2 → E g) → lp_Fe_drift_40 (k + 1) (nI N) (nI i) h E := by
  intro k
  induction k with
  | zero =>
    intro i h m sd E hi hw hcs hwf hb hs hsd hE
    rw [hoursM_0] at hE
    unfold lp_Fe_drift_40
    exact ⟨fun _ => hE h hcs hs (fun c _ _ => rfl) rfl, fun z => absurd (nI_le (by omega) (by omega)) z⟩
  | succ k ih =>
    intro i h m sd E hi hw hcs hwf hb hs hsd hE
    rw [hoursM_s] at hE
    unfold lp_Fe_drift_40
    refine ⟨fun z => absurd z (nI_ge (by omega) (by omega)), fun _ => ?_⟩
    dsimp only [lt]
    rw [nI_1]
    refine hour_F hw hn h0 hcs hwf hs hsd (fun g w1 w2 w3 w4 => ?_)
    exact ih (i + 1) g (hourM n m sd) (hourS sd) E (by omega) (by rw [w3 0 (by omega) (by omega)]; exact hw) w1 (WF_hour hwf hn h0 (by omega)) (by rw [hourM_1]; omega) w2 (hourS_lt sd) (fun g2 y1 y2 y3 y4 => hE g2 y1 y2 (fun c c1 c2 => by rw [y3 c c1 c2, w3 c c1 c2]) (by rw [y4, w4]))
theorem hours_M {n N : Nat} (hn : n ≤ 5) (h0 : 0 < n) (hN : N ≤ 60) : ∀ (k i : Nat) (h : Hp) (m : Nat → Nat) (sd : Nat) (E : Hp → Prop), i + k = N → h.1 7 0 = nI n → ML h m → WF n m → m 1 + k ≤ 9060 → h.2 7 10 = lN sd → sd < 2 ^ 31 → (∀ g : Hp, ML g (hoursM n k m sd).1 → g.2 7 10 = lN (hoursM n k m sd).2 → (∀ c, c ≠ 7 → c ≠ 78 → c ≠ 79 → c ≠ 80 → g.1 c = h.1 c) → (∀ j, j < 2 ∨ 6 < j → g.1 7 j = h.1 7 j) → (∀ c, c ≠ 7 → g.2 c = h.2 c) → E g) → lp_Md_drift_18 (k + 1) (nI N) (nI i) h E := by
  intro k
  induction k with
  | zero =>
    intro i h m sd E hi hw hml hwf hb hs hsd hE
    rw [hoursM_0] at hE
    unfold lp_Md_drift_18
    exact ⟨fun _ => hE h hml hs (fun c _ _ _ _ => rfl) (fun j _ => rfl) (fun c _ => rfl), fun z => absurd (nI_le (by omega) (by omega)) z⟩
  | succ k ih =>
    intro i h m sd E hi hw hml hwf hb hs hsd hE
    rw [hoursM_s] at hE
    unfold lp_Md_drift_18
    refine ⟨fun z => absurd z (nI_ge (by omega) (by omega)), fun _ => ?_⟩
    dsimp only [lt]
    rw [nI_1]
    refine hour_M hw hn h0 hml hwf hs hsd (fun g w1 w2 w3 w4 w5 => ?_)
    exact ih (i + 1) g (hourM n m sd) (hourS sd) E (by omega) (by rw [w4 0 (by omega)]; exact hw) w1 (WF_hour hwf hn h0 (by omega)) (by rw [hourM_1]; omega) w2 (hourS_lt sd) (fun g2 y1 y2 y3 y4 y5 => hE g2 y1 y2 (fun c c1 c2 c3 c4 => by rw [y3 c c1 c2 c3 c4, w3 c c1 c2 c3 c4]) (fun j hj => by rw [y4 j hj, w4 j hj]) (fun c hc => by rw [y5 c hc, w5 c hc]))
theorem hoursM_wf {n : Nat} (hn : n ≤ 5) (h0 : 0 < n) : ∀ (k : Nat) (m : Nat → Nat) (sd : Nat), WF n m → m 1 + k ≤ 9060 → sd < 2 ^ 31 → WF n (hoursM n k m sd).1 ∧ (hoursM n k m sd).2 < 2 ^ 31 ∧ (hoursM n k m sd).1 1 = m 1 + k := by
  intro k
  induction k with
  | zero => intro m sd h1 h2 h3; rw [hoursM_0]; exact ⟨h1, h3, rfl⟩
  | succ k ih =>
    intro m sd h1 h2 h3
    obtain ⟨q1, q2, q3⟩ := ih (hourM n m sd) (hourS sd) (WF_hour h1 hn h0 (by omega)) (by rw [hourM_1]; omega) (hourS_lt sd)
    rw [hoursM_s]
    refine ⟨q1, q2, ?_⟩
    rw [q3, hourM_1]; omega
theorem G15 : ∀ (h : Hp) (p0 : Int32), Rel h → wp_Fe_drift p0 h (fun v1 h1 => wp_Md_drift p0 h1 (fun v2 h2 => v1 = v2 ∧ Rel h2)) := by
  intro h p0 hR
  obtain ⟨n, o, a1, ⟨m, a2⟩, ⟨uc, nx, un, huc, hnx, u1, u2, u3, hun⟩, ⟨sd, b1, b2, b3⟩, a5, a6, a7, a8, a9⟩ := id hR
  obtain ⟨hcs, hml, hwf⟩ := id a2
  have hw := a1.1
  have hw2 := a1.2.1
  have hn := a1.2.2.1
  have ht : h.1 26 5 = nI (m 1) := hcs.2.2.2.2.2.1
  have ht2 : h.1 7 3 = nI (m 1) := hml.2.1
  have hb := hwf.2.1
  have outside : (p0 < 1 ∨ ¬ p0 ≤ 60) → wp_Md_drift p0 h (fun v2 h2 => (-1000000002 : Int32) = v2 ∧ Rel h2) := fun hc => by
    unfold wp_Md_drift
    exact may_out hc ⟨fun z => absurd z (by decide), fun _ => ⟨rfl, hR⟩⟩
  unfold wp_Fe_drift
  dsimp only [jn, lt]
  refine ⟨fun q => ⟨fun z => absurd z (by decide), fun _ => outside (Or.inl q)⟩, fun q0 => ⟨fun q1 => ?_, fun q => ⟨fun z => absurd z (by decide), fun _ => outside (Or.inr q)⟩⟩⟩
  by_cases h0 : n = 0
  · subst h0
    refine wp_mono_why0 hw ⟨fun z => absurd z (by decide), fun _ => ?_⟩
    unfold wp_Md_drift
    exact may_not q0 q1 hw2 ⟨fun z => absurd z (by decide), fun _ => ⟨rfl, hR⟩⟩
  by_cases h1 : m 1 ≤ 9000
  · refine why_ok hw hn h0 ht h1 ⟨fun _ => ?_, fun z => absurd rfl z⟩
    have hp1 : ¬ p0 < 0 := fun z => q0 (by
      rw [Int32.lt_iff_toInt_lt] at z ⊢
      have e1 : (0 : Int32).toInt = 0 := by decide
      have e2 : (1 : Int32).toInt = 1 := by decide
      omega)
    obtain ⟨N, hN, rfl⟩ := nI_of2 (x := p0) (M := 60) (n := 60) (by decide) hp1 q1
    refine remember_s u3 hnx u1 huc ?_
    have r26 : (rem h nx uc).1 26 = h.1 26 := rem_ne (by omega) (by omega)
    have r3 : (rem h nx uc).1 3 = h.1 3 := rem_ne (by omega) (by omega)
    have r0 : (rem h nx uc).1 0 = h.1 0 := rem_ne (by omega) (by omega)
    obtain ⟨y1, y2, y3⟩ := hoursM_wf hn (by omega) N m sd hwf (by omega) b1
    refine ⟨N + 1, hours_F hn (by omega) hN N 0 _ m sd _ (by omega) (by rw [r0]; exact hw) (by rw [r26]; exact hcs) hwf (by omega) (by rw [r3]; exact b2) b1 (fun h1' w1 w2 w3 w4 => ?_)⟩
    rw [w1.2.2.2.2.2.1, y3]
    have hm : ∀ c, c ≠ 26 → c ≠ 3 → c ≠ 2 → c < 10 ∨ 25 < c → h1'.1 c = h.1 c := fun c d1 d2 d3 d4 => by rw [w3 c d2 d1, rem_ne d3 (by omega)]
    have r7 : h1'.1 7 = h.1 7 := hm 7 (by omega) (by omega) (by omega) (by omega)
    have hl : h1'.2 = h.2 := by rw [w4]; rfl
    unfold wp_Md_drift
    refine may_ok q0 q1 (by rw [r7]; exact hw2) hn h0 (by rw [r7]; exact ht2) h1 ⟨fun _ => ?_, fun z => absurd (by decide) z⟩
    refine notes_s (uc := uc) (m := m) (by rw [r7]; exact u2) huc (hml.keep (by rw [r7]) (by rw [r7]) (by rw [r7]) (by rw [r7]) (by rw [r7]) (hm 78 (by omega) (by omega) (by omega) (by omega)) (hm 79 (by omega) (by omega) (by omega) (by omega)) (hm 80 (by omega) (by omega) (by omega) (by omega))) (fun g0 x1 x2 x3 x4 x5 x6 => ?_)
    have x4' : ∀ j, j ≠ 28 → g0.1 7 j = h.1 7 j := fun j hj => by rw [x4 j hj, r7]
    have g0m : ML g0 m := hml.keep (x4' 2 (by omega)) (x4' 3 (by omega)) (x4' 4 (by omega)) (x4' 5 (by omega)) (x4' 6 (by omega)) (by rw [x3 78 (by omega) (by omega), hm 78 (by omega) (by omega) (by omega) (by omega)]) (by rw [x3 79 (by omega) (by omega), hm 79 (by omega) (by omega) (by omega) (by omega)]) (by rw [x3 80 (by omega) (by omega), hm 80 (by omega) (by omega) (by omega) (by omega)])
    refine ⟨N + 1, hours_M hn (by omega) hN N 0 g0 m sd _ (by omega) (by rw [x4' 0 (by omega)]; exact hw2) g0m hwf (by omega) (by rw [x6, hl]; exact b3) b1 (fun g v1 v2 v3 v4 v5 => ?_)⟩
    have e87 : g.1 87 = g0.1 87 := v3 87 (by omega) (by omega) (by omega) (by omega)
    refine ⟨by rw [v1.2.1, y3], ?_⟩
    refine Rel_act (m' := (hoursM n N m sd).1) a1 a2 huc hnx hun ⟨(hoursM n N m sd).2, y2, ?_, v2⟩ a5 a6 a7 a8 a9 y1 ?_ v1 (fun c c1 c2 c3 c4 => by rw [v3 c (by omega) (by omega) (by omega) (by omega), x3 c (by omega) (by omega), w3 c c4 c3]) (fun j j1 j2 => by rw [v4 j j2, x4' j j1]) (fun c c1 c2 c3 c4 c5 => by rw [v3 c (by omega) (by omega) (by omega) (by omega), x3 c (by omega) (by omega), hm c (by omega) (by omega) (by omega) (by omega)]) (by rw [v4 28 (by omega)]; exact x5) (fun j hj => by rw [e87]; exact x1 j hj) (fun q hq j hj => by rw [e87, x2 q hq j hj, hm 87 (by omega) (by omega) (by omega) (by omega)]) (by rw [v5 89 (by omega), x6, hl])
    · rw [v3 3 (by omega) (by omega) (by omega) (by omega), x3 3 (by omega) (by omega)]; exact w2
    · rw [v3 26 (by omega) (by omega) (by omega) (by omega), x3 26 (by omega) (by omega)]; exact w1
  · refine why_full hw hn h0 ht h1 hb ⟨fun z => absurd z (by decide), fun _ => ?_⟩
    unfold wp_Md_drift
    exact may_full q0 q1 hw2 hn h0 ht2 h1 hb ⟨fun z => absurd z (by decide), fun _ => ⟨rfl, hR⟩⟩
end
