section
/-- the other end of the bell -/
def bnd (n p : Nat) (b : Int32) (jb : Nat) : Prop := (b = -1 ∧ jb = 10) ∨ ∃ j, j < n ∧ b = nI j ∧ jb = 5 * p + j
theorem bnd_lt {n p jb : Nat} {b : Int32} (hn : n ≤ 5) (hp : p ≤ 1) (h : bnd n p b jb) : jb < 11 := by
  rcases h with ⟨_, h⟩ | ⟨j, h1, _, h2⟩ <;> omega
theorem hold_bnd {n : Nat} {a b : Int32} (p : Nat) (h : hold n a b) : ∃ i jb, i < n ∧ a = nI i ∧ bnd n p b jb := by
  obtain ⟨⟨i, hi, e⟩, h2⟩ := h
  rcases h2 with h2 | ⟨⟨j, hj, e2⟩, _⟩
  · exact ⟨i, 10, hi, e, Or.inl ⟨h2, rfl⟩⟩
  · exact ⟨i, 5 * p + j, hi, e, Or.inr ⟨j, hj, e2, rfl⟩⟩
theorem node_b {n p jb : Nat} {b : Int32} (hn : n ≤ 5) (hp : p ≤ 1) (h : bnd n p b jb) {P : Int32 → Prop} (k : P (nI jb)) : wp_Fe_nodeOf (nI p) b P := by
  rcases h with ⟨rfl, rfl⟩ | ⟨j, h1, rfl, rfl⟩
  · exact nodeOf_e k
  · exact nodeOf_s hp (by omega) k
theorem m1_ne {j : Nat} (hj : j < 2 ^ 31) : ¬ nI j = (-1 : Int32) := fun e => by
  have h : ¬ ((-1 : Int32) < 0) := by rw [← e]; exact nI_pos hj
  exact h (by decide)
theorem bit_b {n p jb : Nat} {b : Int32} (hn : n ≤ 5) (hp : p ≤ 1) (h : bnd n p b jb) {P : Int32 → Prop} (k : P (nI jb)) : wp_Md_bitOf (nI p) b P := by
  unfold wp_Md_bitOf
  rcases h with ⟨rfl, rfl⟩ | ⟨j, h1, rfl, rfl⟩
  · exact ⟨fun z => absurd rfl z, fun _ => k⟩
  · rw [eq5 hp, nI_add]
    exact ⟨fun _ => k, fun z => absurd z (m1_ne (by omega))⟩
theorem ringsBy_s {n : Nat} {o : Nat → Nat} {m : Nat → Nat} {h : Hp} (a1 : R1 n o h) (hcs : CS (h.1 26) m) (hwf : WF n m) {K : Nat → Nat} (hK : ∀ w, w < 5 → K w < 4) {i jb : Nat} {b : Int32} (hi : i < n) (hb : bnd n (m 0) b jb) {P : Bool → Hp → Prop} (k : ∀ (v : Bool) (h2 : Hp), (∀ c, c ≠ 54 → c ≠ 63 → h2.1 c = h.1 c) → h2.2 = h.2 → Sc h h2 → (v = true ↔ Con (NR n o (m 1) K (m 4) (fun w => m (10 + w)) (fun w => m (15 + w))) (5 * m 0 + i) jb) → P v h2) : wp_Fe_ringsBy (nI (pk K)) (nI i) b h P := by
  have hp := hwf.1
  have hn := a1.2.2.1
  unfold wp_Fe_ringsBy
  refine joinAll_s a1 hcs hwf hK (fun h2 q1 q2 hsc f g hf hpf hg hpg => ?_)
  rw [q1 26 (by omega) (by omega), hcs.2.2.2.2.1]
  exact nodeOf_s hp (by omega) (node_b hn hp hb (areJoined_s (r := 45) hg hpg (by omega) (bnd_lt hn hp hb) (fun v hv => k v h2 q1 q2 hsc hv)))
theorem ringsNow_s {n : Nat} {o : Nat → Nat} {m : Nat → Nat} {h : Hp} (a1 : R1 n o h) (hml : ML h m) (hwf : WF n m) {cut : Nat} (hcut : cut < 2 ^ n) {i jb : Nat} {b : Int32} (hi : i < n) (hb : bnd n (m 0) b jb) {P : Bool → Prop} (k : ∀ v : Bool, (v = true ↔ Con (NR n o (m 1) (kc (fun w => m (5 + w)) cut) (m 4) (fun w => m (10 + w)) (fun w => m (15 + w))) (5 * m 0 + i) jb) → P v) : wp_Md_ringsNow (nI i) b (nI cut) h P := by
  have hp := hwf.1
  have hn := a1.2.2.1
  have hj := bnd_lt hn hp hb
  unfold wp_Md_ringsNow
  rw [hml.1]
  refine netNow_s a1 hml hwf hcut hp hi (fun t ht => bit_b hn hp hb (has_s (by have := ht.lt; omega) (by omega) (k _ ?_)))
  rw [ht jb]
  exact ⟨fun q => q.2, fun q => ⟨hj, q⟩⟩
theorem iff_b {u v : Bool} {C : Prop} (a : u = true ↔ C) (b : v = true ↔ C) : u = v := by
  cases u <;> cases v <;> simp_all
theorem G7 : ∀ (h : Hp) (p0 p1 : Int32), Rel h → wp_Fe_rings p0 p1 h (fun v1 h1 => wp_Md_rings p0 p1 h1 (fun v2 => v1 = v2 ∧ Rel h1)) := by
  intro h p0 p1 hR
  obtain ⟨n, o, a1, ⟨m, a2⟩, a3, a4, a5, a6, a7, a8, a9⟩ := id hR
  obtain ⟨hcs, hml, hwf⟩ := id a2
  have hw := a1.1
  have hw2 := a1.2.1
  have hn := a1.2.2.1
  unfold wp_Fe_rings
  by_cases hh : hold n p0 p1
  · rw [can_t hw hn hh]
    refine ⟨fun _ => ?_, fun z => absurd rfl z⟩
    obtain ⟨i, jb, hi, rfl, hb⟩ := hold_bnd (m 0) hh
    rw [hcs.1]
    refine ringsBy_s a1 hcs hwf (fun w hw => (hwf.2.2.2.2.2 w hw).1) hi hb (fun v h2 q1 q2 hsc hv => ?_)
    have b1 : R1 n o h2 := a1.sc hsc
    have b2 : R2 n m h2 := a2.sc hsc
    have mo : ∀ r : Int32, r = bI v → wp_Md_rings (nI i) p1 h2 (fun v2 => r = v2 ∧ Rel h2) := fun r hr => by
      unfold wp_Md_rings
      rw [ends_t b1.2.1 hn hh]
      refine ⟨fun _ => ringsNow_s b1 b2.2.1 hwf (cut := 0) (Nat.two_pow_pos n) hi hb (fun u hu => ?_), fun z => absurd rfl z⟩
      rw [kc0] at hu
      have e := iff_b hv hu
      subst e
      rw [hr]
      cases v
      · exact ⟨fun _ => ⟨rfl, hR.sc hsc⟩, fun z => absurd z (by decide)⟩
      · exact ⟨fun z => absurd rfl z, fun _ => ⟨rfl, hR.sc hsc⟩⟩
    cases v
    · exact ⟨fun _ => mo _ rfl, fun z => absurd z (by decide)⟩
    · exact ⟨fun z => absurd rfl z, fun _ => mo _ rfl⟩
  · rw [can_f hw hn hh]
    refine ⟨fun z => absurd z (by decide), fun _ => ?_⟩
    (try dsimp only)
    unfold wp_Md_rings
    rw [ends_f hw2 hn hh]
    exact ⟨fun z => absurd z (by decide), fun _ => ⟨rfl, hR⟩⟩
theorem G11 : ∀ (h : Hp) (p0 p1 : Int32), Rel h → wp_Fe_test p0 p1 h (fun v1 h1 => wp_Md_test p0 p1 h1 (fun v2 h2 => v1 = v2 ∧ Rel h2)) := by
  intro h p0 p1 hR
  obtain ⟨n, o, a1, ⟨m, a2⟩, ⟨uc, nx, un, huc, hnx, u1, u2, u3, hun⟩, a4, a5, a6, a7, a8, a9⟩ := id hR
  obtain ⟨hcs, hml, hwf⟩ := id a2
  have hw := a1.1
  have hw2 := a1.2.1
  have hn := a1.2.2.1
  unfold wp_Fe_test
  by_cases hh : hold n p0 p1
  · rw [can_t hw hn hh]
    refine ⟨fun _ => ?_, fun z => absurd rfl z⟩
    obtain ⟨i, jb, hi, rfl, hb⟩ := hold_bnd (m 0) hh
    have r26 : (rem h nx uc).1 26 = h.1 26 := rem_ne (by omega) (by omega)
    refine remember_s u3 hnx u1 huc ?_
    refine test_F (by rw [r26]; exact hcs) hwf (fun f hf => ?_)
    have hwf' : WF n (um m 3 (min (m 3 + 1) 9999)) := WF_sc hwf (by omega) (fun h => by omega) (fun h => by omega) (fun _ => by omega)
    have k1 : R1 n o (sr (rem h nx uc) 26 f) := a1.keep (by rw [sr_ne (by omega), rem_ne (by omega) (by omega)]) (by rw [sr_ne (by omega), rem_ne (by omega) (by omega)]) (by rw [sr_ne (by omega), rem_ne (by omega) (by omega)]) (by rw [sr_ne (by omega), rem_ne (by omega) (by omega)])
    rw [sr_eq, hf.1]
    refine ringsBy_s (m := um m 3 (min (m 3 + 1) 9999)) k1 (by rw [sr_eq]; exact hf) hwf' (fun w hw => (hwf'.2.2.2.2.2 w hw).1) hi hb (fun v h2 q1 q2 hsc hv => ?_)
    -- the base, with the scratch as it is now
    obtain ⟨hs, es⟩ : ∃ hs : Hp, hs = (fun c => if c = 54 ∨ c = 63 then h2.1 c else h.1 c, h.2) := ⟨_, rfl⟩
    have hs1 : ∀ c, c ≠ 54 → c ≠ 63 → hs.1 c = h.1 c := fun c c1 c2 => by rw [es]; exact if_neg (by omega)
    have hs2 : hs.2 = h.2 := by rw [es]
    have ssc : Sc h hs := ⟨hs2, fun c j q => by
      by_cases c1 : c = 54
      · rw [c1] at q; exact absurd (show true = false from q) (by decide)
      · by_cases c2 : c = 63
        · rw [c2] at q; exact absurd (show true = false from q) (by decide)
        · rw [hs1 c c1 c2]⟩
    have hRs : Rel hs := hR.sc ssc
    have rs : ∀ c, c ≠ 54 → c ≠ 63 → (rem hs nx uc).1 c = (rem h nx uc).1 c := fun c c1 c2 => by
      show (if c = 2 then upd (upd (hs.1 2) 2 (nI ((nx + 1) % 16))) 1 (nI (min (uc + 1) 16)) else if c = 10 + nx then row8 (hs.1 26) (hs.1 (10 + nx)) else hs.1 c) = (if c = 2 then upd (upd (h.1 2) 2 (nI ((nx + 1) % 16))) 1 (nI (min (uc + 1) 16)) else if c = 10 + nx then row8 (h.1 26) (h.1 (10 + nx)) else h.1 c)
      rw [hs1 2 (by omega) (by omega), hs1 26 (by omega) (by omega), hs1 (10 + nx) (by omega) (by omega), hs1 c c1 c2]
    have rs2 : ∀ c, c = 54 ∨ c = 63 → (rem hs nx uc).1 c = h2.1 c := fun c hc => by
      rw [rem_ne (by omega) (by omega), es]; exact if_pos hc
    have n1 : R1 n o hs := a1.sc ssc
    have n2 : R2 n m hs := a2.sc ssc
    obtain ⟨n', o', b1, ⟨m', b2⟩, b3, b4, b5, b6, b7, b8, b9⟩ := hRs
    have en : n' = n := by
      have e := b1.1
      rw [n1.1] at e
      exact (nI_inj (by omega) (by have := b1.2.2.1; omega) e).symm
    subst en
    have mo : ∀ r : Int32, r = bI v → wp_Md_test (nI i) p1 h2 (fun v2 h2 => r = v2 ∧ Rel h2) := fun r hr => by
      unfold wp_Md_test
      rw [ends_t (by rw [q1 7 (by omega) (by omega), sr_ne (by omega), rem_ne (by omega) (by omega)]; exact hw2) hn hh]
      refine ⟨fun _ => ?_, fun z => absurd rfl z⟩
      refine act_pair (h := hs) (un := un) (m' := um m 3 (min (m 3 + 1) 9999)) n1 n2 huc hnx (by rw [hs1 7 (by omega) (by omega)]; exact u2) (fun k hk => by rw [hs1 _ (by omega) (by omega), hs1 87 (by omega) (by omega)]; exact hun k hk) b4 b5 b6 b7 b8 b9 hwf' (fun c hc => ?_) (by rw [q2, hs2]; rfl) (by rw [q1 26 (by omega) (by omega), sr_eq]; exact hf) (fun g0 k1' k2 k3 k4 k5 => test_M k4 hwf ?_)
      · by_cases c1 : c = 54 ∨ c = 63
        · rw [rs2 c c1]
        · rw [q1 c (by omega) (by omega), sr_ne hc, rs c (by omega) (by omega)]
      · have ml2 : ML (wi g0 7 5 (nI (min (m 3 + 1) 9999))) (um m 3 (min (m 3 + 1) 9999)) := ML_sc (q := 3) k4 (by omega)
        have relg : Rel (wi g0 7 5 (nI (min (m 3 + 1) 9999))) := k5 _ ml2 (fun c c1 _ _ _ => wi_ne c1) (fun j hj => by rw [wi_eq, pk_un (by omega)]) rfl
        have g1 : R1 n' o (wi g0 7 5 (nI (min (m 3 + 1) 9999))) := n1.keep (by rw [wi_ne (by omega), k1' 0 (by omega) (by omega), q1 0 (by omega) (by omega), sr_ne (by omega), rem_ne (by omega) (by omega), hs1 0 (by omega) (by omega)]) (by rw [wi_eq, pk_un (by omega), k2 0 (by omega)]) (by rw [wi_ne (by omega), k1' 69 (by omega) (by omega), q1 69 (by omega) (by omega), sr_ne (by omega), rem_ne (by omega) (by omega), hs1 69 (by omega) (by omega)]) (by rw [wi_ne (by omega), k1' 77 (by omega) (by omega), q1 77 (by omega) (by omega), sr_ne (by omega), rem_ne (by omega) (by omega), hs1 77 (by omega) (by omega)])
        refine ringsNow_s (m := um m 3 (min (m 3 + 1) 9999)) g1 ml2 hwf' (cut := 0) (Nat.two_pow_pos n') hi hb (fun u hu => ?_)
        rw [kc0] at hu
        have e := iff_b hv hu
        subst e
        rw [hr]
        cases v
        · exact ⟨fun _ => ⟨rfl, relg⟩, fun z => absurd z (by decide)⟩
        · exact ⟨fun z => absurd rfl z, fun _ => ⟨rfl, relg⟩⟩
    cases v
    · exact ⟨fun _ => mo _ rfl, fun z => absurd z (by decide)⟩
    · exact ⟨fun z => absurd rfl z, fun _ => mo _ rfl⟩
  · rw [can_f hw hn hh]
    refine ⟨fun z => absurd z (by decide), fun _ => ?_⟩
    (try dsimp only)
    unfold wp_Md_test
    rw [ends_f hw2 hn hh]
    exact ⟨fun z => absurd z (by decide), fun _ => ⟨rfl, hR⟩⟩
end
