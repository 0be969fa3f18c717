section
theorem lt4 {p1 : Int32} (z : ¬ p1 < 4) : 3 < p1 := by
  have z2 := Int32.not_lt.mp z
  rw [Int32.lt_iff_toInt_lt]
  rw [Int32.le_iff_toInt_le] at z2
  have e1 : (4 : Int32).toInt = 4 := by decide
  have e2 : (3 : Int32).toInt = 3 := by decide
  omega
theorem in03 {v : Nat} (hv : v < 4) {P : Bool → Prop} : wp_Md_in (nI v) 0 3 P ↔ P true :=
  in_t (nI_pos (by omega)) (fun z => absurd ((nI_ltI (a := 3) (by omega) (by omega)).mp z) (by omega))
theorem G13 : ∀ (h : Hp) (p0 p1 : Int32), Rel h → wp_Fe_mend p0 p1 h (fun v1 h1 => wp_Md_mend p0 p1 h1 (fun v2 h2 => v1 = v2 ∧ Rel h2)) := by
  intro h p0 p1 hR
  obtain ⟨n, o, a1, ⟨m, a2⟩, ⟨uc, nx, un, huc, hnx, u1, u2, u3, hun⟩, a4, a5, a6, a7, a8, a9⟩ := id hR
  obtain ⟨hcs, hml, hwf⟩ := id a2
  have hw := a1.1
  have hw2 := a1.2.1
  have hn := a1.2.2.1
  unfold wp_Fe_mend
  by_cases hv0 : vld n p0
  · rw [isN_t hw hn hv0]
    refine ⟨fun _ => ?_, fun z => absurd rfl z⟩
    have outside : (p1 < 0 ∨ ¬ p1 < 4) → wp_Md_mend p0 p1 h (fun v2 h2 => (-1000000002 : Int32) = v2 ∧ Rel h2) := fun hc => by
      unfold wp_Md_mend
      rw [isW_t hw2 hn hv0]
      refine ⟨fun _ => ?_, fun z => absurd rfl z⟩
      rw [in_f (hc.imp id lt4)]
      exact ⟨fun z => absurd z (by decide), fun _ => ⟨rfl, hR⟩⟩
    refine ⟨fun q => outside (Or.inl q), fun q0 => ⟨fun q1 => ?_, fun q => outside (Or.inr q)⟩⟩
    obtain ⟨i, hi, rfl⟩ := hv0
    obtain ⟨v, hv, rfl⟩ := vld_of (n := 4) (by omega) q0 (Int32.not_le.mpr q1)
    have hkk : ∀ w, w < 5 → (fun w => m (5 + w)) w < 4 := fun w hw => (hwf.2.2.2.2.2 w hw).1
    have v0 : vp_in (nI i) 5 := vp_in_nI (by omega) (by omega)
    rw [hcs.1]
    refine part_s hkk (by omega) ?_
    dsimp only
    refine ⟨fun hne => ?_, fun heq => ?_⟩
    · have r26 : (rem h nx uc).1 26 = h.1 26 := rem_ne (by omega) (by omega)
      refine remember_s u3 hnx u1 huc ?_
      rw [r26, hcs.1]
      refine withPart_s hkk (by omega) (by omega) ?_
      dsimp only [lt]
      have es : ∀ x, wi (rem h nx uc) 26 0 x = sr (rem h nx uc) 26 (upd (h.1 26) 0 x) := fun x => by rw [← r26]; rfl
      rw [es]
      obtain ⟨f, hf⟩ : ∃ f, f = upd (h.1 26) 0 (nI (pk (setd (fun w => m (5 + w)) i v))) := ⟨_, rfl⟩
      have hf2 : CS f (um m (5 + i) v) := by rw [hf]; exact CS_kind hcs (by omega)
      rw [← hf]
      have r7 : (sr (rem h nx uc) 26 f).1 7 = h.1 7 := by rw [sr_ne (by omega), rem_ne (by omega) (by omega)]
      have r78 : (sr (rem h nx uc) 26 f).1 78 = h.1 78 := by rw [sr_ne (by omega), rem_ne (by omega) (by omega)]
      unfold wp_Md_mend
      rw [isW_t (by rw [r7]; exact hw2) hn ⟨i, hi, rfl⟩]
      refine ⟨fun _ => ?_, fun z => absurd rfl z⟩
      rw [in03 hv]
      refine ⟨fun _ => ⟨v0, ?_⟩, fun z => absurd rfl z⟩
      dsimp only [lt]
      rw [cl_nI (n := i) (by omega), r78, (hml.2.2.2.2.2 i (by omega)).1]
      refine ⟨fun _ => ?_, fun z => absurd z hne⟩
      refine act_pair (m' := um m (5 + i) v) a1 a2 huc hnx u2 hun a4 a5 a6 a7 a8 a9 (WF_arr (c := 0) hwf hi hn hv (by omega)) (fun c hc => sr_ne hc) rfl (by rw [sr_eq]; exact hf2) (fun g0 k1 k2 k3 k4 k5 => ?_)
      exact ⟨v0, rfl, k5 _ (ML_arr (c := 0) k4 (by omega) (by omega)) (fun c _ c2 _ _ => wi_ne c2) (fun j _ => by rw [wi_ne (by omega)]) rfl⟩
    · (try dsimp only [lt])
      unfold wp_Md_mend
      rw [isW_t hw2 hn ⟨i, hi, rfl⟩]
      refine ⟨fun _ => ?_, fun z => absurd rfl z⟩
      rw [in03 hv]
      refine ⟨fun _ => ⟨v0, ?_⟩, fun z => absurd rfl z⟩
      dsimp only [lt]
      rw [cl_nI (n := i) (by omega), (hml.2.2.2.2.2 i (by omega)).1]
      exact ⟨fun z => absurd heq z, fun _ => ⟨rfl, hR⟩⟩
  · rw [isN_f hw hn hv0]
    refine ⟨fun z => absurd z (by decide), fun _ => ?_⟩
    (try dsimp only [lt])
    unfold wp_Md_mend
    rw [isW_f hw2 hn hv0]
    exact ⟨fun z => absurd z (by decide), fun _ => ⟨rfl, hR⟩⟩
theorem may_out {h : Hp} {p0 : Int32} {P : Int32 → Prop} (hc : p0 < 1 ∨ ¬ p0 ≤ 60) (k : P (-1000000002)) : wp_Md_mayGoOn p0 h P := by
  unfold wp_Md_mayGoOn
  rw [in_f (hc.imp id Int32.not_le.mp)]
  exact ⟨fun z => absurd z (by decide), fun _ => k⟩
theorem may_not {h : Hp} {p0 : Int32} {P : Int32 → Prop} (h1 : ¬ p0 < 1) (h2 : p0 ≤ 60) (hw : h.1 7 0 = nI 0) (k : P (-1000000003)) : wp_Md_mayGoOn p0 h P := by
  unfold wp_Md_mayGoOn
  rw [in_t h1 (Int32.not_lt.mpr h2)]
  exact ⟨fun _ => ⟨fun z => absurd hw z, fun _ => k⟩, fun z => absurd rfl z⟩
theorem may_ok {n t : Nat} {h : Hp} {p0 : Int32} {P : Int32 → Prop} (h1 : ¬ p0 < 1) (h2 : p0 ≤ 60) (hw : h.1 7 0 = nI n) (hn : n ≤ 5) (h0 : n ≠ 0) (ht : h.1 7 3 = nI t) (h3 : t ≤ 9000) (k : P 0) : wp_Md_mayGoOn p0 h P := by
  unfold wp_Md_mayGoOn
  rw [in_t h1 (Int32.not_lt.mpr h2)]
  refine ⟨fun _ => ⟨fun _ => ⟨fun _ => k, fun z => ?_⟩, fun z => ?_⟩, fun z => absurd rfl z⟩
  · rw [ht] at z; exact absurd (nI_le (a := t) (b := 9000) h3 (by omega)) z
  · rw [hw] at z; exact absurd ((nI_zero (by omega)).mp z) h0
theorem may_full {n t : Nat} {h : Hp} {p0 : Int32} {P : Int32 → Prop} (h1 : ¬ p0 < 1) (h2 : p0 ≤ 60) (hw : h.1 7 0 = nI n) (hn : n ≤ 5) (h0 : n ≠ 0) (ht : h.1 7 3 = nI t) (h3 : ¬ t ≤ 9000) (h4 : t ≤ 9060) (k : P (-1000000004)) : wp_Md_mayGoOn p0 h P := by
  unfold wp_Md_mayGoOn
  rw [in_t h1 (Int32.not_lt.mpr h2)]
  refine ⟨fun _ => ⟨fun _ => ⟨fun z => ?_, fun _ => k⟩, fun z => ?_⟩, fun z => absurd rfl z⟩
  · rw [ht] at z; exact absurd ((nI_leI (b := 9000) (by omega) (by omega)).mp z) h3
  · rw [hw] at z; exact absurd ((nI_zero (by omega)).mp z) h0
theorem G12 : ∀ (h : Hp) (p0 : Int32), Rel h → wp_Fe_rest p0 h (fun v1 h1 => wp_Md_rest p0 h1 (fun v2 h2 => v1 = v2 ∧ Rel h2)) := by
  intro h p0 hR
  obtain ⟨n, o, a1, ⟨m, a2⟩, ⟨uc, nx, un, huc, hnx, u1, u2, u3, hun⟩, a4, a5, a6, a7, a8, a9⟩ := id hR
  obtain ⟨hcs, hml, hwf⟩ := id a2
  have hw := a1.1
  have hw2 := a1.2.1
  have hn := a1.2.2.1
  have ht : h.1 26 5 = nI (m 1) := hcs.2.2.2.2.2.1
  have ht2 : h.1 7 3 = nI (m 1) := hml.2.1
  have hb := hwf.2.1
  have outside : (p0 < 1 ∨ ¬ p0 ≤ 60) → wp_Md_rest p0 h (fun v2 h2 => (-1000000002 : Int32) = v2 ∧ Rel h2) := fun hc => by
    unfold wp_Md_rest
    exact may_out hc ⟨fun z => absurd z (by decide), fun _ => ⟨rfl, hR⟩⟩
  unfold wp_Fe_rest
  dsimp only [jn, lt]
  refine ⟨fun q => ⟨fun z => absurd z (by decide), fun _ => outside (Or.inl q)⟩, fun q0 => ⟨fun q1 => ?_, fun q => ⟨fun z => absurd z (by decide), fun _ => outside (Or.inr q)⟩⟩⟩
  by_cases h0 : n = 0
  · subst h0
    refine wp_mono_why0 hw ⟨fun z => absurd z (by decide), fun _ => ?_⟩
    unfold wp_Md_rest
    exact may_not q0 q1 hw2 ⟨fun z => absurd z (by decide), fun _ => ⟨rfl, hR⟩⟩
  by_cases h1 : m 1 ≤ 9000
  · refine why_ok hw hn h0 ht h1 ⟨fun _ => ?_, fun z => absurd rfl z⟩
    have r26 : (rem h nx uc).1 26 = h.1 26 := rem_ne (by omega) (by omega)
    have hp1 : ¬ p0 < 0 := fun z => q0 (by
      rw [Int32.lt_iff_toInt_lt] at z ⊢
      have e1 : (0 : Int32).toInt = 0 := by decide
      have e2 : (1 : Int32).toInt = 1 := by decide
      omega)
    obtain ⟨d, hd, rfl⟩ := nI_of2 (x := p0) (M := 60) (n := 60) (by decide) hp1 q1
    refine remember_s u3 hnx u1 huc ?_
    rw [r26, ht, nI_add]
    have es : ∀ x, wi (rem h nx uc) 26 5 x = sr (rem h nx uc) 26 (upd (h.1 26) 5 x) := fun x => by rw [← r26]; rfl
    rw [es, sr_eq, pk_us]
    obtain ⟨f, hf⟩ : ∃ f, f = upd (h.1 26) 5 (nI (m 1 + d)) := ⟨_, rfl⟩
    have hf2 : CS f (um m 1 (m 1 + d)) := by rw [hf]; exact CS_sc (q := 1) hcs (by omega)
    rw [← hf]
    have r7 : (sr (rem h nx uc) 26 f).1 7 = h.1 7 := by rw [sr_ne (by omega), rem_ne (by omega) (by omega)]
    unfold wp_Md_rest
    refine may_ok q0 q1 (by rw [r7]; exact hw2) hn h0 (by rw [r7]; exact ht2) h1 ⟨fun _ => ?_, fun z => absurd (by decide) z⟩
    refine act_pair (m' := um m 1 (m 1 + d)) a1 a2 huc hnx u2 hun a4 a5 a6 a7 a8 a9 (WF_sc hwf (by omega) (fun h => by omega) (fun _ => by omega) (fun h => by omega)) (fun c hc => sr_ne hc) rfl (by rw [sr_eq]; exact hf2) (fun g0 k1 k2 k3 k4 k5 => ?_)
    dsimp only [lt]
    rw [k4.2.1, nI_add, wi_eq, pk_us]
    exact ⟨rfl, k5 _ (ML_sc (q := 1) k4 (by omega)) (fun c c1 _ _ _ => wi_ne c1) (fun j hj => by rw [wi_eq, pk_un (by omega)]) rfl⟩
  · refine why_full hw hn h0 ht h1 hb ⟨fun z => absurd z (by decide), fun _ => ?_⟩
    unfold wp_Md_rest
    exact may_full q0 q1 hw2 hn h0 ht2 h1 hb ⟨fun z => absurd z (by decide), fun _ => ⟨rfl, hR⟩⟩
/-! undo -/
theorem G16 : ∀ (h : Hp), Rel h → wp_Fe_undo h (fun v1 h1 => wp_Md_undo h1 (fun v2 h2 => v1 = v2 ∧ Rel h2)) := by
  intro h hR
  obtain ⟨n, o, a1, ⟨m, a2⟩, ⟨uc, nx, un, huc, hnx, u1, u2, u3, hun⟩, a4, a5, a6, a7, a8, a9⟩ := id hR
  unfold wp_Fe_undo
  refine ⟨fun q => ?_, fun q => ?_⟩
  · have hpos : uc ≠ 0 := fun z => q (by rw [u1, z]; rfl)
    obtain ⟨y1, y2, y3⟩ := hun (uc - 1) (by omega)
    have hslot : (nx + 16 - uc + (uc - 1)) % 16 = (nx + 15) % 16 := by omega
    rw [hslot] at y1
    unfold wp_Past_restore
    dsimp only [jn, lt]
    refine ⟨fun _ => ?_, fun z => absurd z q⟩
    have core : ∀ z : Int32, z = nI ((nx + 15) % 16) → (vp_in ((wi h 2 2 z).1 2 2) 16 ∧ wp_State_become 26 (10 + ((wi h 2 2 z).1 2 2).toNatClampNeg) (wi h 2 2 z) fun h49 => (fun v1 h1 => wp_Md_undo h1 (fun v2 h2 => v1 = v2 ∧ Rel h2)) ((wi h49 2 1 (h49.1 2 1 - 1)).1 2 1) (wi h49 2 1 (h49.1 2 1 - 1))) := fun z hz => by
      have ez : (wi h 2 2 z).1 2 2 = nI ((nx + 15) % 16) := by rw [wi_eq, pk_us, hz]
      refine ⟨by rw [ez]; exact vp_in_nI (by omega) (by omega), ?_⟩
      rw [ez, cl_nI (by omega)]
      refine become_s (by omega) ?_
      have rs : (wi h 2 2 z).1 (10 + (nx + 15) % 16) = h.1 (10 + (nx + 15) % 16) := wi_ne (by omega)
      rw [rs]
      obtain ⟨f, hf⟩ : ∃ f, f = row8 (h.1 (10 + (nx + 15) % 16)) ((wi h 2 2 z).1 26) := ⟨_, rfl⟩
      rw [← hf]
      have hf2 : CS f (un (uc - 1)) := y1.keep8 (fun j hj => by rw [hf]; simp only [row8, if_pos hj])
      have e21 : (sr (wi h 2 2 z) 26 f).1 2 1 = nI uc := by rw [sr_ne (by omega), wi_eq, pk_un (by omega)]; exact u1
      have ep : nI uc - 1 = nI (uc - 1) := by
        have := nI_pred (uc - 1)
        rwa [show uc - 1 + 1 = uc by omega] at this
      rw [e21, ep]
      obtain ⟨h1, hh1⟩ : ∃ h1 : Hp, h1 = wi (sr (wi h 2 2 z) 26 f) 2 1 (nI (uc - 1)) := ⟨_, rfl⟩
      rw [← hh1]
      have c1 : ∀ c, c ≠ 2 → c ≠ 26 → h1.1 c = h.1 c := fun c d1 d2 => by rw [hh1, wi_ne d1, sr_ne d2, wi_ne d1]
      have c26 : h1.1 26 = f := by rw [hh1, wi_ne (by omega), sr_eq]
      have c21 : h1.1 2 1 = nI (uc - 1) := by rw [hh1, wi_eq, pk_us]
      have c22 : h1.1 2 2 = nI ((nx + 15) % 16) := by rw [hh1, wi_eq, pk_un (by omega), sr_ne (by omega)]; exact ez
      rw [c21]
      have r7 : h1.1 7 = h.1 7 := c1 7 (by omega) (by omega)
      dsimp only
      unfold wp_Md_undo
      rw [r7, u2]
      refine ⟨fun _ => ?_, fun z2 => absurd ((nI_zero (by omega)).mp z2) hpos⟩
      dsimp only [lt]
      rw [ep, wi_eq, pk_us, show (20 : Int32) * nI (uc - 1) = nI (20 * (uc - 1)) from pk_mul 20 (uc - 1)]
      refine takes_s (m := un (uc - 1)) (Or.inl rfl) (by show 20 * (uc - 1) + 20 ≤ 320; omega) (by rw [wi_ne (by omega), c1 87 (by omega) (by omega)]; exact y2) (fun g w1 w2 w3 w4 => ?_)
      have g28 : g.1 7 28 = nI (uc - 1) := by rw [w3 28 (by omega), wi_eq, pk_us]
      have gx : ∀ c, c ≠ 7 → c ≠ 78 → c ≠ 79 → c ≠ 80 → c ≠ 2 → c ≠ 26 → g.1 c = h.1 c := fun c d1 d2 d3 d4 d5 d6 => by rw [w2 c d1 d2 d3 d4, wi_ne d1, c1 c d5 d6]
      have g2 : g.1 2 = h1.1 2 := by rw [w2 2 (by omega) (by omega) (by omega) (by omega), wi_ne (by omega)]
      have g26 : g.1 26 = f := by rw [w2 26 (by omega) (by omega) (by omega) (by omega), wi_ne (by omega), c26]
      have g7 : ∀ j, j ≠ 28 → (j < 2 ∨ 6 < j) → g.1 7 j = h.1 7 j := fun j d1 d2 => by rw [w3 j d2, wi_eq, pk_un d1, r7]
      have gl : g.2 = h.2 := by rw [w4, hh1]; rfl
      rw [g28]
      refine ⟨rfl, n, o, a1.keep (by rw [gx 0 (by omega) (by omega) (by omega) (by omega) (by omega) (by omega)]) (g7 0 (by omega) (by omega)) (gx 69 (by omega) (by omega) (by omega) (by omega) (by omega) (by omega)) (gx 77 (by omega) (by omega) (by omega) (by omega) (by omega) (by omega)), ⟨un (uc - 1), by rw [g26]; exact hf2, w1, y3⟩, ⟨uc - 1, (nx + 15) % 16, un, by omega, by omega, by rw [g2]; exact c21, g28, by rw [g2]; exact c22, fun k hk => ?_⟩, a4.keep (gx 3 (by omega) (by omega) (by omega) (by omega) (by omega) (by omega)) (by rw [gl]), a5.keep (gx 8 (by omega) (by omega) (by omega) (by omega) (by omega) (by omega)) (gx 9 (by omega) (by omega) (by omega) (by omega) (by omega) (by omega)) (gx 27 (by omega) (by omega) (by omega) (by omega) (by omega) (by omega)) (gx 28 (by omega) (by omega) (by omega) (by omega) (by omega) (by omega)) (gx 90 (by omega) (by omega) (by omega) (by omega) (by omega) (by omega)) (gx 88 (by omega) (by omega) (by omega) (by omega) (by omega) (by omega)) (by rw [gl]), a6.keep (by rw [gx 0 (by omega) (by omega) (by omega) (by omega) (by omega) (by omega)]) (g7 11 (by omega) (by omega)) (gx 81 (by omega) (by omega) (by omega) (by omega) (by omega) (by omega)) (gx 92 (by omega) (by omega) (by omega) (by omega) (by omega) (by omega)) (fun k hk j hj => by rw [gx (29 + k) (by omega) (by omega) (by omega) (by omega) (by omega) (by omega)]), a7.keep (by rw [gx 0 (by omega) (by omega) (by omega) (by omega) (by omega) (by omega)]) (g7 13 (by omega) (by omega)) (gx 70 (by omega) (by omega) (by omega) (by omega) (by omega) (by omega)) (gx 71 (by omega) (by omega) (by omega) (by omega) (by omega) (by omega)) (gx 82 (by omega) (by omega) (by omega) (by omega) (by omega) (by omega)) (gx 83 (by omega) (by omega) (by omega) (by omega) (by omega) (by omega)), a8.keep (by rw [gx 1 (by omega) (by omega) (by omega) (by omega) (by omega) (by omega)]) (g7 17 (by omega) (by omega)) (gx 67 (by omega) (by omega) (by omega) (by omega) (by omega) (by omega)) (gx 84 (by omega) (by omega) (by omega) (by omega) (by omega) (by omega)), a9.keep (by rw [gx 1 (by omega) (by omega) (by omega) (by omega) (by omega) (by omega)]) (g7 20 (by omega) (by omega)) (gx 97 (by omega) (by omega) (by omega) (by omega) (by omega) (by omega))⟩
      obtain ⟨z1, z2, z3⟩ := hun k (by omega)
      have hidx : ((nx + 15) % 16 + 16 - (uc - 1) + k) % 16 = (nx + 16 - uc + k) % 16 := by omega
      rw [hidx, gx _ (by omega) (by omega) (by omega) (by omega) (by omega) (by omega), gx 87 (by omega) (by omega) (by omega) (by omega) (by omega) (by omega)]
      exact ⟨z1, z2, z3⟩
    have hz0 : ∀ {z : Int32}, z = nI ((nx + 15) % 16) → _ := fun {z} hz => core z hz
    rw [u3]
    refine ⟨fun z => core 15 ?_, fun z => ⟨fun z2 => ?_, fun _ => core _ ?_⟩⟩
    · have : nx = 0 := by
        have := (nI_leI (b := 0) (by omega) (by omega)).mp z
        omega
      subst this; rfl
    · exact absurd ((nI_leI (a := 16) (by omega) (by omega)).mp z2) (by omega)
    · have hp : nx ≠ 0 := fun e => z (by rw [e]; decide)
      have := nI_pred (nx - 1)
      rw [show nx - 1 + 1 = nx by omega] at this
      rw [this, show (nx + 15) % 16 = nx - 1 by omega]
  · have hz : uc = 0 := (nI_zero (by omega)).mp (by rw [← u1]; exact q)
    subst hz
    exact ⟨fun z => absurd u2 z, fun _ => ⟨rfl, hR⟩⟩
end
