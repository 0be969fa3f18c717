section
theorem nI_zero {n : Nat} (hn : n < 2 ^ 31) : nI n = 0 ↔ n = 0 := nI_eq (b := 0) hn (by omega)
theorem wp_mono_why0 {h : Hp} {P : Int32 → Prop} (hw : h.1 0 1 = nI 0) (k : P (-1000000003)) : wp_Fe_whyNoTime h P := ⟨fun z => absurd hw z, fun _ => k⟩
theorem why_ok {n t : Nat} {h : Hp} {P : Int32 → Prop} (hw : h.1 0 1 = nI n) (hn : n ≤ 5) (h0 : n ≠ 0) (ht : h.1 26 5 = nI t) (h1 : t ≤ 9000) (k : P 0) : wp_Fe_whyNoTime h P := by
  refine ⟨fun _ => ⟨fun _ => k, fun z => ?_⟩, fun z => ?_⟩
  · rw [ht] at z; exact absurd (nI_le (a := t) (b := 9000) h1 (by omega)) z
  · rw [hw] at z; exact absurd ((nI_zero (by omega)).mp z) h0
theorem why_full {n t : Nat} {h : Hp} {P : Int32 → Prop} (hw : h.1 0 1 = nI n) (hn : n ≤ 5) (h0 : n ≠ 0) (ht : h.1 26 5 = nI t) (h1 : ¬ t ≤ 9000) (h2 : t ≤ 9060) (k : P (-1000000004)) : wp_Fe_whyNoTime h P := by
  refine ⟨fun _ => ⟨fun z => ?_, fun _ => k⟩, fun z => ?_⟩
  · rw [ht] at z; exact absurd ((nI_leI (b := 9000) (by omega) (by omega)).mp z) h1
  · rw [hw] at z; exact absurd ((nI_zero (by omega)).mp z) h0
theorem one_sub {p : Nat} (h : p ≤ 1) : (1 : Int32) - nI p = nI (1 - p) := by
  rcases (show p = 0 ∨ p = 1 by omega) with rfl | rfl <;> decide
theorem plus_min {a : Nat} (h : a ≤ 9999) : jmin (nI a + 1) 9999 = nI (min (a + 1) 9999) := by rw [nI_1]; exact jmin_nI (b := 9999) (by omega) (by omega)
def mwalk (m : Nat → Nat) : Nat → Nat := um (um m 0 (1 - m 0)) 2 (min (m 2 + 1) 9999)
theorem WF_walk {n : Nat} {m : Nat → Nat} (a : WF n m) : WF n (mwalk m) := WF_sc (WF_sc a (by omega) (fun _ => by omega) (fun h => by omega) (fun h => by omega)) (by omega) (fun h => by omega) (fun h => by omega) (fun _ => by omega)
theorem walk_s {g : Hp} {m : Nat → Nat} {n : Nat} {P : Hp → Prop} (hcs : CS (g.1 26) m) (hwf : WF n m) (k : ∀ f, CS f (mwalk m) → P (sr g 26 f)) : wp_State_walk 26 g P := by
  unfold wp_State_walk
  dsimp only [lt]
  have e1 : wi g 26 4 (1 - g.1 26 4) = sr g 26 (upd (g.1 26) 4 (nI (1 - m 0))) := by
    rw [hcs.2.2.2.2.1, one_sub hwf.1]; rfl
  have c1 := CS_sc (q := 0) (v := 1 - m 0) hcs (by omega)
  rw [e1, sr_eq, show upd (g.1 26) 4 (nI (1 - m 0)) 6 = nI (m 2) from hcs.2.2.2.2.2.2.1, plus_min hwf.2.2.1, sr_wi]
  exact k _ (CS_sc (q := 2) c1 (by omega))
theorem goes_s {g : Hp} {m : Nat → Nat} {n : Nat} {P : Hp → Prop} (hml : ML g m) (hwf : WF n m) (k : ∀ g2 : Hp, ML g2 (mwalk m) → (∀ c, c ≠ 7 → g2.1 c = g.1 c) → (∀ j, j < 2 ∨ 6 < j → g2.1 7 j = g.1 7 j) → g2.2 = g.2 → P g2) : wp_Md_goesOver g P := by
  unfold wp_Md_goesOver
  dsimp only [lt, jn]
  have e1 : wi g 7 2 (1 - g.1 7 2) = wi g 7 (2 + 0) (nI (1 - m 0)) := by rw [hml.1, one_sub hwf.1]
  have ml1 := ML_sc (q := 0) (v := 1 - m 0) hml (by omega)
  rw [e1]
  have e4 : (wi g 7 (2 + 0) (nI (1 - m 0))).1 7 4 = nI (m 2) := hml.2.2.1
  rw [e4]
  have fin : ∀ z : Int32, nI (m 2) + z = nI (min (m 2 + 1) 9999) → P (wi (wi g 7 (2 + 0) (nI (1 - m 0))) 7 4 (nI (m 2) + z)) := fun z hz => by
    rw [hz]
    refine k _ (ML_sc (q := 2) ml1 (by omega)) (fun c hc => by rw [wi_ne hc, wi_ne hc]) (fun j hj => by rw [wi_eq, pk_un (by omega), wi_eq, pk_un (by omega)]) rfl
  have hm2 := hwf.2.2.1
  refine ⟨fun q => fin 0 ?_, fun q => fin 1 ?_⟩
  · have : 9999 ≤ m 2 := (nI_leI (a := 9999) (by omega) (by omega)).mp q
    rw [show m 2 = 9999 by omega]; decide
  · have : ¬ 9999 ≤ m 2 := fun z => q (nI_le (a := 9999) z (by omega))
    rw [nI_1, Nat.min_eq_left (by omega)]
theorem G10 : ∀ (h : Hp), Rel h → wp_Fe_cross h (fun v1 h1 => wp_Md_cross h1 (fun v2 h2 => v1 = v2 ∧ Rel h2)) := by
  intro h hR
  obtain ⟨n, o, a1, ⟨m, a2⟩, ⟨uc, nx, un, huc, hnx, u1, u2, u3, hun⟩, a4, a5, a6, a7, a8, a9⟩ := id hR
  obtain ⟨hcs, hml, hwf⟩ := id a2
  have hw := a1.1
  have hw2 := a1.2.1
  have hn := a1.2.2.1
  have ht : h.1 26 5 = nI (m 1) := hcs.2.2.2.2.2.1
  have ht2 : h.1 7 3 = nI (m 1) := hml.2.1
  have hb := hwf.2.1
  unfold wp_Fe_cross
  by_cases h0 : n = 0
  · subst h0
    refine wp_mono_why0 hw ⟨fun z => absurd z (by decide), fun _ => ?_⟩
    exact ⟨fun z => absurd hw2 z, fun _ => ⟨rfl, hR⟩⟩
  have hw3 : ¬ h.1 7 0 = 0 := by rw [hw2]; exact fun z => h0 ((nI_zero (by omega)).mp z)
  by_cases h1 : m 1 ≤ 9000
  · refine why_ok hw hn h0 ht h1 ⟨fun _ => ?_, fun z => absurd rfl z⟩
    refine remember_s u3 hnx u1 huc ?_
    have r26 : (rem h nx uc).1 26 = h.1 26 := rem_ne (by omega) (by omega)
    refine walk_s (m := m) (n := n) (by rw [r26]; exact hcs) hwf (fun f hf => ?_)
    dsimp only [lt]
    rw [sr_eq, hf.2.2.2.2.2.1, sr_wi, sr_eq]
    have e1 : mwalk m 1 = m 1 := by unfold mwalk; rw [um_ne (by omega), um_ne (by omega)]
    rw [e1, nI_1, pk_us]
    have r7 : (sr (rem h nx uc) 26 (upd f 5 (nI (m 1 + 1)))).1 7 = h.1 7 := by rw [sr_ne (by omega), rem_ne (by omega) (by omega)]
    refine ⟨fun _ => ⟨fun _ => ?_, fun z => ?_⟩, fun z => ?_⟩
    · refine act_pair (m' := um (mwalk m) 1 (m 1 + 1)) a1 a2 huc hnx u2 hun a4 a5 a6 a7 a8 a9 (WF_sc (WF_walk hwf) (by omega) (fun h => by omega) (fun _ => by omega) (fun h => by omega)) (fun c hc => sr_ne hc) rfl (by rw [sr_eq]; exact CS_sc (q := 1) hf (by omega)) (fun g0 k1 k2 k3 k4 k5 => ?_)
      refine goes_s k4 hwf (fun g2 w1 w2 w3 w4 => ?_)
      dsimp only [lt]
      have e5 : g2.1 7 3 = nI (m 1) := by rw [w1.2.1, e1]
      rw [e5, nI_1, wi_eq, pk_us]
      refine ⟨rfl, k5 _ (ML_sc (q := 1) w1 (by omega)) (fun c c1 _ _ _ => by rw [wi_ne c1, w2 c c1]) (fun j hj => by rw [wi_eq, pk_un (by omega), w3 j hj]) w4⟩
    · rw [r7, ht2] at z; exact absurd (nI_le (a := m 1) (b := 9000) h1 (by omega)) z
    · rw [r7] at z; exact absurd z hw3
  · refine why_full hw hn h0 ht h1 hb ⟨fun z => absurd z (by decide), fun _ => ?_⟩
    refine ⟨fun _ => ⟨fun z => ?_, fun _ => ⟨rfl, hR⟩⟩, fun z => absurd z hw3⟩
    rw [ht2] at z; exact absurd ((nI_leI (b := 9000) (by omega) (by omega)).mp z) h1
theorem part_s {g : Nat → Nat} (hg : ∀ w, w < 5 → g w < 4) {i : Nat} (hi : i < 5) {P : Int32 → Prop} (k : P (nI (g i))) : wp_Fe_part (nI (pk g)) (nI i) P := by
  unfold wp_Fe_part
  rw [part_pack (fun w hw => Nat.lt_trans (hg w hw) (by omega)) hi]; exact k
theorem withPart_s {g : Nat → Nat} (hg : ∀ w, w < 5 → g w < 4) {i v : Nat} (hi : i < 5) (hv : v < 8) {P : Int32 → Prop} (k : P (nI (pk (setd g i v)))) : wp_Fe_withPart (nI (pk g)) (nI i) (nI v) P := by
  unfold wp_Fe_withPart
  rw [with_pack (fun w hw => Nat.lt_trans (hg w hw) (by omega)) hi hv]; exact k
def tb (m : Nat → Nat) : Nat := if m 0 = 0 then 10 else 15
theorem tiesHere_s {g : Hp} {m : Nat → Nat} {n : Nat} {P : Int32 → Prop} (hcs : CS (g.1 26) m) (hwf : WF n m) (k : P (nI (pk fun w => m (tb m + w)))) : wp_State_tiesHere 26 g P := by
  unfold wp_State_tiesHere
  rw [hcs.2.2.2.2.1, hcs.2.2.2.1, hcs.2.2.1]
  unfold tb at k
  have h0 := hwf.1
  refine ⟨fun q => ?_, fun q => ?_⟩
  · rw [if_neg (fun z => q (by rw [z]; rfl))] at k; exact k
  · rw [if_pos ((nI_zero (by omega)).mp q)] at k; exact k
theorem tie_s {g : Hp} {m : Nat → Nat} {n i v : Nat} {P : Hp → Prop} (hcs : CS (g.1 26) m) (hwf : WF n m) (hi : i < 5) (hv : v < 4) (k : ∀ f, CS f (um m (tb m + i) v) → P (sr g 26 f)) : wp_State_tieHere 26 (nI i) (nI v) g P := by
  unfold wp_State_tieHere
  rw [hcs.2.2.2.2.1, hcs.2.2.2.1, hcs.2.2.1]
  have h0 := hwf.1
  unfold tb at k
  refine ⟨fun q => ?_, fun q => ?_⟩
  · rw [if_neg (fun z => q (by rw [z]; rfl))] at k
    refine withPart_s (fun w hw => (hwf.2.2.2.2.2 w hw).2.2.1) hi (by omega) ?_
    exact k _ (CS_far hcs hi)
  · rw [if_pos ((nI_zero (by omega)).mp q)] at k
    refine withPart_s (fun w hw => (hwf.2.2.2.2.2 w hw).2.1) hi (by omega) ?_
    exact k _ (CS_near hcs hi)
theorem comes_s {g : Hp} {m : Nat → Nat} {n i v : Nat} {P : Hp → Prop} (hml : ML g m) (hwf : WF n m) (hi : i < 5) (k : ∀ g2 : Hp, ML g2 (um m (tb m + i) v) → (∀ c, c ≠ 79 → c ≠ 80 → g2.1 c = g.1 c) → g2.2 = g.2 → P g2) : wp_Md_comesInto (nI i) (nI v) g P := by
  unfold wp_Md_comesInto
  dsimp only [lt]
  rw [hml.1, cl_nI (n := i) (by omega)]
  have h0 := hwf.1
  have v0 : vp_in (nI i) 5 := vp_in_nI hi (by omega)
  unfold tb at k
  refine ⟨fun q => ⟨v0, ?_⟩, fun q => ⟨v0, ?_⟩⟩
  · rw [if_neg (fun z => q (by rw [z]; rfl))] at k
    exact k _ (ML_arr (c := 2) hml hi (by omega)) (fun c _ h2 => wi_ne h2) rfl
  · rw [if_pos ((nI_zero (by omega)).mp q)] at k
    exact k _ (ML_arr (c := 1) hml hi (by omega)) (fun c h1 _ => wi_ne h1) rfl
theorem group_s {g : Hp} {m : Nat → Nat} {n i : Nat} {P : Int32 → Prop} (hml : ML g m) (hwf : WF n m) (hi : i < 5) (k : P (nI (m (tb m + i)))) : wp_Md_groupOf (nI i) g P := by
  unfold wp_Md_groupOf
  rw [hml.1, cl_nI (n := i) (by omega)]
  have h0 := hwf.1
  have v0 : vp_in (nI i) 5 := vp_in_nI hi (by omega)
  unfold tb at k
  refine ⟨fun q => ⟨v0, ?_⟩, fun q => ⟨v0, ?_⟩⟩
  · rw [if_neg (fun z => q (by rw [z]; rfl))] at k
    rw [(hml.2.2.2.2.2 i hi).2.2]; exact k
  · rw [if_pos ((nI_zero (by omega)).mp q)] at k
    rw [(hml.2.2.2.2.2 i hi).2.1]; exact k
theorem WF_tie {n : Nat} {m : Nat → Nat} {i v : Nat} (a : WF n m) (hi : i < n) (hn : n ≤ 5) (hv : v < 4) : WF n (um m (tb m + i) v) := by
  unfold tb
  split
  · exact WF_arr (c := 1) a hi hn hv (by omega)
  · exact WF_arr (c := 2) a hi hn hv (by omega)
theorem tb_lt {n i : Nat} {m : Nat → Nat} (a : WF n m) (hi : i < 5) : m (tb m + i) < 4 := by
  unfold tb
  split
  · exact (a.2.2.2.2.2 i hi).2.1
  · exact (a.2.2.2.2.2 i hi).2.2.1
theorem G9 : ∀ (h : Hp) (p0 p1 : Int32), Rel h → wp_Fe_tie p0 p1 h (fun v1 h1 => wp_Md_tie p0 p1 h1 (fun v2 h2 => v1 = v2 ∧ Rel h2)) := by
  intro h p0 p1 hR
  obtain ⟨n, o, a1, ⟨m, a2⟩, ⟨uc, nx, un, huc, hnx, u1, u2, u3, hun⟩, a4, a5, a6, a7, a8, a9⟩ := id hR
  obtain ⟨hcs, hml, hwf⟩ := id a2
  have hw := a1.1
  have hw2 := a1.2.1
  have hn := a1.2.2.1
  unfold wp_Fe_tie
  by_cases hv0 : vld n p0
  · rw [isN_t hw hn hv0]
    refine ⟨fun _ => ?_, fun z => absurd rfl z⟩
    have outside : (p1 < 0 ∨ ¬ p1 < 4) → wp_Md_tie p0 p1 h (fun v2 h2 => (-1000000002 : Int32) = v2 ∧ Rel h2) := fun hc => by
      (try dsimp only [lt])
      unfold wp_Md_tie
      rw [isW_t hw2 hn hv0]
      refine ⟨fun _ => ?_, fun z => absurd rfl z⟩
      rw [in_f (hc.imp id (fun z => by
        have z2 := Int32.not_lt.mp z
        rw [Int32.lt_iff_toInt_lt]
        rw [Int32.le_iff_toInt_le] at z2
        have e1 : (4 : Int32).toInt = 4 := by decide
        have e2 : (3 : Int32).toInt = 3 := by decide
        omega))]
      exact ⟨fun z => absurd z (by decide), fun _ => ⟨rfl, hR⟩⟩
    refine ⟨fun q => outside (Or.inl q), fun q0 => ⟨fun q1 => ?_, fun q => outside (Or.inr q)⟩⟩
    obtain ⟨i, hi, rfl⟩ := hv0
    obtain ⟨v, hv, rfl⟩ := vld_of (n := 4) (by omega) q0 (Int32.not_le.mpr q1)
    refine tiesHere_s hcs hwf ?_
    refine part_s (fun w hw => tb_lt hwf hw) (by omega) ?_
    have hin : ∀ {P : Bool → Prop}, wp_Md_in (nI v) 0 3 P ↔ P true := in_t q0 (nI_nlt (a := v) (b := 3) |> fun f => by
      exact fun z => absurd ((nI_ltI (a := 3) (by omega) (by omega)).mp z) (by omega))
    refine ⟨fun hne => ?_, fun heq => ?_⟩
    · have r26 : (rem h nx uc).1 26 = h.1 26 := rem_ne (by omega) (by omega)
      refine remember_s u3 hnx u1 huc ?_
      refine tie_s (m := m) (n := n) (by rw [r26]; exact hcs) hwf (by omega) hv (fun f hf => ?_)
      have r7 : (sr (rem h nx uc) 26 f).1 7 = h.1 7 := by rw [sr_ne (by omega), rem_ne (by omega) (by omega)]
      have rr : ∀ c, 26 < c → (sr (rem h nx uc) 26 f).1 c = h.1 c := fun c hc => by rw [sr_ne (by omega), rem_ne (by omega) (by omega)]
      have hml1 : ML (sr (rem h nx uc) 26 f) m := hml.keep (by rw [r7]) (by rw [r7]) (by rw [r7]) (by rw [r7]) (by rw [r7]) (rr 78 (by omega)) (rr 79 (by omega)) (rr 80 (by omega))
      (try dsimp only [lt])
      unfold wp_Md_tie
      rw [isW_t (by rw [r7]; exact hw2) hn ⟨i, hi, rfl⟩]
      refine ⟨fun _ => ?_, fun z => absurd rfl z⟩
      rw [hin]
      refine ⟨fun _ => ?_, fun z => absurd rfl z⟩
      refine group_s hml1 hwf (by omega) ⟨fun _ => ?_, fun z => absurd z hne⟩
      refine act_pair (m' := um m (tb m + i) v) a1 a2 huc hnx u2 hun a4 a5 a6 a7 a8 a9 (WF_tie hwf hi hn hv) (fun c hc => sr_ne hc) rfl (by rw [sr_eq]; exact hf) (fun g0 k1 k2 k3 k4 k5 => ?_)
      refine comes_s k4 hwf (by omega) (fun g2 w1 w2 w3 => ⟨rfl, k5 g2 w1 (fun c _ _ c3 c4 => w2 c c3 c4) (fun j _ => by rw [w2 7 (by omega) (by omega)]) w3⟩)
    · (try dsimp only [lt])
      unfold wp_Md_tie
      rw [isW_t hw2 hn ⟨i, hi, rfl⟩]
      refine ⟨fun _ => ?_, fun z => absurd rfl z⟩
      rw [hin]
      refine ⟨fun _ => ?_, fun z => absurd rfl z⟩
      exact group_s hml hwf (by omega) ⟨fun z => absurd heq z, fun _ => ⟨rfl, hR⟩⟩
  · rw [isN_f hw hn hv0]
    refine ⟨fun z => absurd z (by decide), fun _ => ?_⟩
    (try dsimp only [lt])
    unfold wp_Md_tie
    rw [isW_f hw2 hn hv0]
    exact ⟨fun z => absurd z (by decide), fun _ => ⟨rfl, hR⟩⟩
end
