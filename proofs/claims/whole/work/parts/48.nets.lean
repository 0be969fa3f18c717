section
/-- what is joined with what -/
def NR (n : Nat) (o : Nat → Nat) (hr : Nat) (K : Nat → Nat) (T : Nat) (N F : Nat → Nat) : Nat → Nat → Prop := Ej n o (pset K hr) (El K T N F)
theorem cm_cld {n : Nat} {o : Nat → Nat} {T : Nat} {K : Nat → Nat} {cut hr : Nat} {N F : Nat → Nat} (hn : n ≤ 5) (ho : ∀ e, e < n → o e < n) (hT : tmk n T) (hK : ∀ w, n ≤ w → w < 5 → kc K cut w ≠ 2) (hNF : ∀ w, w < 5 → N w ≤ 5 ∧ F w ≤ 5 ∧ (n ≤ w → N w = 0 ∧ F w = 0)) (S : Nat → Prop) : Cm n o T K cut hr N F S ↔ Cld (NR n o hr (kc K cut) T N F) S := by
  constructor
  · rintro ⟨hw, hg⟩ x y (((⟨h1, h2, h3⟩ | ⟨h1, h2, h3⟩ | ⟨h1, h2, h3, h4⟩)) | ⟨h1, h2, h3, h4⟩)
    · have hx : x < n := Nat.lt_of_not_le (fun z => hK x z h1 h2)
      rw [h3]; exact (hw x hx).2.1 h2
    · rcases h3 with h3 | ⟨h3, h4⟩
      · obtain ⟨a, b, q1, q2, q3⟩ := hT.2 _ h3
        unfold pn at q3
        exact (hw y (by omega)).2.2 x h1 h3
      · have hx : x < n := Nat.lt_of_not_le (fun z => h3 ((hNF x (by omega)).2.2 z).1)
        have hy : y < n := Nat.lt_of_not_le (fun z => h3 (by rw [h4]; exact ((hNF y (by omega)).2.2 z).1))
        have l := (hNF x (by omega)).1
        have := (hg (N x) (by omega) (by omega)).1
        exact ⟨this x y hx hy rfl h4.symm, this y x hy hx h4.symm rfl⟩
    · obtain ⟨q1, q2⟩ := h4
      have hx : x - 5 < n := Nat.lt_of_not_le (fun z => q1 ((hNF (x - 5) (by omega)).2.2 z).2)
      have hy : y - 5 < n := Nat.lt_of_not_le (fun z => q1 (by rw [q2]; exact ((hNF (y - 5) (by omega)).2.2 z).2))
      have l := (hNF (x - 5) (by omega)).2.1
      have h5 := (hg (F (x - 5)) (by omega) (by omega)).2
      have r1 := h5 (x - 5) (y - 5) hx hy rfl q2.symm
      have r2 := h5 (y - 5) (x - 5) hy hx q2.symm rfl
      rw [show 5 + (x - 5) = x by omega, show 5 + (y - 5) = y by omega] at r1 r2
      exact ⟨r1, r2⟩
    · have hx : x < n := by rw [h3]; exact ho _ h2
      rw [pset_bit (by omega)] at h4
      have := (hw x hx).1 h4 (y - 5) h2 h3.symm
      rw [show 5 + (y - 5) = y by omega] at this
      exact this
  · intro hc
    refine ⟨fun u hu => ⟨fun hp e he hoe => ?_, fun h2 => ?_, fun v hv hb => ?_⟩, fun i h1 h2 => ⟨fun u v hu hv e1 e2 => ?_, fun u v hu hv e1 e2 => ?_⟩⟩
    · refine hc u (5 + e) (Or.inr ⟨by omega, by omega, by rw [Nat.add_sub_cancel_left]; exact hoe.symm, ?_⟩)
      rw [pset_bit (by omega)]; exact hp
    · exact hc u 10 (Or.inl (Or.inl ⟨by omega, h2, rfl⟩))
    · exact hc v u (Or.inl (Or.inr (Or.inl ⟨hv, by omega, Or.inl hb⟩)))
    · rcases Nat.lt_trichotomy u v with z | z | z
      · exact (hc u v (Or.inl (Or.inr (Or.inl ⟨z, by omega, Or.inr ⟨by omega, by rw [e1, e2]⟩⟩)))).mp
      · rw [z]; exact id
      · exact (hc v u (Or.inl (Or.inr (Or.inl ⟨z, by omega, Or.inr ⟨by omega, by rw [e1, e2]⟩⟩)))).mpr
    · have hf : ∀ u v, u < v → v < n → F u = i → F v = i → (S (5 + u) ↔ S (5 + v)) := fun u v z hv e1 e2 =>
        hc (5 + u) (5 + v) (Or.inl (Or.inr (Or.inr ⟨by omega, by omega, by omega, by rw [Nat.add_sub_cancel_left, Nat.add_sub_cancel_left]; exact ⟨by omega, by rw [e1, e2]⟩⟩)))
      rcases Nat.lt_trichotomy u v with z | z | z
      · exact (hf u v z hv e1 e2).mp
      · rw [z]; exact id
      · exact (hf v u z hu e2 e1).mpr
/-! what the scratch is -/
def scr (c j : Nat) : Bool := c == 5 || (37 ≤ c && c ≤ 63) || (72 ≤ c && c ≤ 76) || (29 ≤ c && c ≤ 36 && j == 6) || c == 91 || c == 93 || c == 94 || c == 95 || c == 96 || c == 98 || (c == 7 && j == 34)
def Sc (h g : Hp) : Prop := g.2 = h.2 ∧ ∀ c j, scr c j = false → g.1 c j = h.1 c j
theorem Sc.refl (h : Hp) : Sc h h := ⟨rfl, fun _ _ _ => rfl⟩
theorem Sc.trans {h g f : Hp} (a : Sc h g) (b : Sc g f) : Sc h f := ⟨b.1.trans a.1, fun c j q => (b.2 c j q).trans (a.2 c j q)⟩
theorem Sc.sr {h g : Hp} (a : Sc h g) {c : Nat} {f : Nat → Int32} (hc : ∀ j, scr c j = true) : Sc h (sr g c f) := ⟨a.1, fun c' j q => by
  by_cases e : c' = c
  · rw [e, hc j] at q; exact absurd q (by decide)
  · rw [sr_ne e]; exact a.2 c' j q⟩
theorem Sc.wi {h g : Hp} (a : Sc h g) {c k : Nat} {v : Int32} (hc : scr c k = true) : Sc h (wi g c k v) := ⟨a.1, fun c' j q => by
  rw [wi1]
  by_cases e : c' = c
  · rw [if_pos e, e, upd_a]
    by_cases e2 : j = k
    · rw [e, e2, hc] at q; exact absurd q (by decide)
    · rw [if_neg e2]; rw [e] at q; exact a.2 c j q
  · rw [if_neg e]; exact a.2 c' j q⟩
theorem Sc.cell {h g : Hp} (a : Sc h g) {c : Nat} (hc : ∀ j, scr c j = false) : g.1 c = h.1 c := funext fun j => a.2 c j (hc j)
theorem scr_lo {c j : Nat} (h1 : c ≠ 5) (h2 : c < 29) (h3 : c ≠ 7) : scr c j = false := by
  unfold scr
  simp only [Bool.or_eq_false_iff, Bool.and_eq_false_iff, beq_eq_false_iff_ne, decide_eq_false_iff_not]
  omega
theorem R1.sc {n : Nat} {o : Nat → Nat} {h g : Hp} (a : R1 n o h) (s : Sc h g) : R1 n o g := a.keep (s.2 0 1 rfl) (s.2 7 0 rfl) (s.cell (fun _ => rfl)) (s.cell (fun _ => rfl))
theorem R2.sc {n : Nat} {m : Nat → Nat} {h g : Hp} (a : R2 n m h) (s : Sc h g) : R2 n m g := a.keep (s.cell (fun _ => rfl)) (s.2 7 2 rfl) (s.2 7 3 rfl) (s.2 7 4 rfl) (s.2 7 5 rfl) (s.2 7 6 rfl) (s.cell (fun _ => rfl)) (s.cell (fun _ => rfl)) (s.cell (fun _ => rfl))
theorem R6.sc {n : Nat} {h g : Hp} (a : R6 n h) (s : Sc h g) : R6 n g := a.keep (s.2 0 8 rfl) (s.2 7 11 rfl) (s.cell (fun _ => rfl)) (s.cell (fun _ => rfl)) (fun k hk j hj => s.2 (29 + k) j (by
    unfold scr
    simp only [Bool.or_eq_false_iff, Bool.and_eq_false_iff, beq_eq_false_iff_ne, decide_eq_false_iff_not]
    omega))
theorem Rel.sc {h g : Hp} (a : Rel h) (s : Sc h g) : Rel g := by
  obtain ⟨n, o, a1, ⟨m, a2⟩, a3, a4, a5, a6, a7, a8, a9⟩ := a
  exact ⟨n, o, a1.sc s, ⟨m, a2.sc s⟩, a3.keep (s.cell (fun _ => rfl)) (s.2 7 28 rfl) (s.cell (fun _ => rfl)) (fun c h1 h2 => s.cell (fun j => scr_lo (by omega) (by omega) (by omega))), a4.keep (s.cell (fun _ => rfl)) (by rw [s.1]), a5.keep (s.cell (fun _ => rfl)) (s.cell (fun _ => rfl)) (s.cell (fun _ => rfl)) (s.cell (fun _ => rfl)) (s.cell (fun _ => rfl)) (s.cell (fun _ => rfl)) (by rw [s.1]), a6.sc s, a7.keep (s.2 0 11 rfl) (s.2 7 13 rfl) (s.cell (fun _ => rfl)) (s.cell (fun _ => rfl)) (s.cell (fun _ => rfl)) (s.cell (fun _ => rfl)), a8.keep (s.2 1 1 rfl) (s.2 7 17 rfl) (s.cell (fun _ => rfl)) (s.cell (fun _ => rfl)), a9.keep (s.2 1 3 rfl) (s.2 7 20 rfl) (s.cell (fun _ => rfl))⟩
/-! the class, all joined -/
def row (h : Hp) (c : Nat) (f : Nat → Nat) : Prop := ∀ k, k < 11 → h.1 c k = nI (f k)
theorem joinAll_s {n : Nat} {o : Nat → Nat} {m : Nat → Nat} {h : Hp} (a1 : R1 n o h) (hcs : CS (h.1 26) m) (hwf : WF n m) {K : Nat → Nat} (hK : ∀ w, w < 5 → K w < 4) {P : Hp → Prop} (k : ∀ h2 : Hp, (∀ c, c ≠ 54 → c ≠ 63 → h2.1 c = h.1 c) → h2.2 = h.2 → Sc h h2 → ∀ f g, row h2 54 f → PR (El K (m 4) (fun w => m (10 + w)) (fun w => m (15 + w))) f → row h2 63 g → PR (NR n o (m 1) K (m 4) (fun w => m (10 + w)) (fun w => m (15 + w))) g → P h2) : wp_Fe_joinAll (nI (pk K)) h P := by
  have hT : m 4 < 2 ^ 31 := Nat.lt_of_lt_of_le hwf.2.2.2.2.1.1 (by omega)
  have ht : m 1 < 2 ^ 31 := Nat.lt_of_le_of_lt hwf.2.1 (by omega)
  obtain ⟨s0, s1, s2, s3, s4, s5, s6, s7⟩ := hcs
  unfold wp_Fe_joinAll
  rw [s1, s2, s3]
  refine lay_s (r := 45) (by omega) hT (fun w hw => by have := hK w hw; omega) (fun w hw => by have := (hwf.2.2.2.2.2 w hw).2.1; (try dsimp only); omega) (fun w hw => by have := (hwf.2.2.2.2.2 w hw).2.2.1; (try dsimp only); omega) (fun G g e1 e2 => ?_)
  rw [sr_ne (show 26 ≠ 45 + 9 by omega), s5, sr_ne (show 0 ≠ 45 + 9 by omega), a1.1]
  refine passing_s hK ht ?_
  refine join_s (r := 45) (by omega) (by omega) (by omega) rfl a1.2.2.1 (fun e he => ⟨(a1.2.2.2.2.1 e he).1, by rw [sr_ne (show 69 ≠ 45 + 9 by omega)]; exact (a1.2.2.2.2.1 e he).2.1⟩) (Nat.lt_trans (pset_lt K (m 1)) (by omega)) e2 (fun k hk => by rw [sr_eq]; exact e1 k hk) (fun G2 g2 e3 e4 => ?_)
  refine k _ (fun c h1 h2 => by rw [sr_ne h2, sr_ne h1]) rfl (((Sc.refl h).sr (fun _ => rfl)).sr (fun _ => rfl)) g g2 (fun k hk => by rw [sr_ne (show 54 ≠ 45 + 18 by omega), sr_eq]; exact e1 k hk) e2 (fun k hk => by rw [sr_eq]; exact e3 k hk) e4
theorem of_s {r : Nat} {h : Hp} {g : Nat → Nat} (hg : row h (r + 18) g) {i : Nat} (hi : i < 11) {P : Int32 → Prop} (k : P (nI (g i))) : wp_Nets_of r (nI i) h P := by
  unfold wp_Nets_of
  rw [cl_nI (n := i) (by omega), hg i hi]
  exact ⟨fun z => absurd z (nI_pos (by omega)), fun _ => ⟨fun z => absurd z (nI_ge (b := 11) hi (by omega)), fun _ => ⟨vp_in_nI hi (by omega), k⟩⟩⟩
theorem areJoined_s {r : Nat} {h : Hp} {g : Nat → Nat} (hg : row h (r + 18) g) {R : Nat → Nat → Prop} (hp : PR R g) {i j : Nat} (hi : i < 11) (hj : j < 11) {P : Bool → Prop} (k : ∀ b : Bool, (b = true ↔ Con R i j) → P b) : wp_Nets_areJoined r (nI i) (nI j) h P := by
  unfold wp_Nets_areJoined
  refine of_s hg hi ?_
  have l := (hp i hi).lt
  have e := hp i hi j
  rw [bit_shr (by omega) (by omega)]
  refine ⟨fun z => k false ?_, fun z => k true ?_⟩
  · have hB : ¬ (g i).testBit j = true := fun q => by rw [q] at z; exact absurd z (by decide)
    exact ⟨fun q => absurd q (by decide), fun q => absurd (e.mpr ⟨hj, q⟩) hB⟩
  · have hB : (g i).testBit j = true := by
      cases q : (g i).testBit j
      · rw [q] at z; exact absurd rfl z
      · rfl
    exact ⟨fun _ => (e.mp hB).2, fun _ => rfl⟩
theorem kc0 (K : Nat → Nat) : kc K 0 = K := funext fun w => by unfold kc; rw [if_neg (by simp)]
theorem NR_cg {n : Nat} {o o2 : Nat → Nat} {hr : Nat} {K K2 : Nat → Nat} {T : Nat} {N N2 F F2 : Nat → Nat} (hn : n ≤ 5) (ho : ∀ e, e < n → o e < n) (h0 : ∀ e, e < n → o e = o2 e) (h1 : ∀ w, w < 5 → K w = K2 w) (h2 : ∀ w, w < 5 → N w = N2 w) (h3 : ∀ w, w < 5 → F w = F2 w) (x y : Nat) : NR n o hr K T N F x y ↔ NR n o2 hr K2 T N2 F2 x y := by
  unfold NR Ej
  refine or_congr ?_ ?_
  · unfold El CN CF
    refine or_congr ?_ (or_congr ?_ ?_)
    · exact and_congr_right (fun q => by rw [h1 x q])
    · exact and_congr_right (fun q1 => and_congr_right (fun q2 => by rw [h2 x (by omega), h2 y q2]))
    · exact and_congr_right (fun q1 => and_congr_right (fun q2 => and_congr_right (fun q3 => by rw [h3 (x - 5) (by omega), h3 (y - 5) (by omega)])))
  · refine and_congr_right (fun q1 => and_congr_right (fun q2 => ?_))
    rw [← h0 _ q2]
    refine and_congr_right (fun q3 => ?_)
    have hx : x < 5 := by rw [q3]; have := ho _ q2; omega
    rw [pset_bit hx, pset_bit hx, h1 x hx]
theorem eq5 {p : Nat} (hp : p ≤ 1) : (5 : Int32) * nI p = nI (5 * p) := by
  rcases (show p = 0 ∨ p = 1 by omega) with rfl | rfl <;> decide
/-- the model's net of now -/
theorem MH_now {n : Nat} {o : Nat → Nat} {m : Nat → Nat} {h : Hp} (a1 : R1 n o h) (hml : ML h m) (hwf : WF n m) {cut : Nat} (hcut : cut < 2 ^ 31) : MH n o 77 (m 4) (fun w => m (5 + w)) cut (m 1) 79 80 0 (fun w => m (10 + w)) (fun w => m (15 + w)) h := by
  have hn := a1.2.2.1
  have hT : m 4 < 2 ^ 31 := Nat.lt_of_lt_of_le hwf.2.2.2.2.1.1 (by omega)
  have ht : m 1 < 2 ^ 31 := Nat.lt_of_le_of_lt hwf.2.1 (by omega)
  refine ⟨⟨a1.2.1, hn, hml.2.2.2.2.1, hT, hcut, ht⟩, ⟨fun e he => ⟨(a1.2.2.2.2.1 e he).1, (a1.2.2.2.2.1 e he).2.2⟩, a1.2.2.2.2.2, by decide, by decide⟩, fun w hw => ⟨(hml.2.2.2.2.2 w (by omega)).1, (hwf.2.2.2.2.2 w (by omega)).1⟩, fun w hw => ?_, by decide, by decide, by decide, by decide⟩
  obtain ⟨q1, q2, q3⟩ := hml.2.2.2.2.2 w (by omega)
  obtain ⟨r1, r2, r3, r4⟩ := hwf.2.2.2.2.2 w (by omega)
  rw [Nat.zero_add]
  exact ⟨q2, q3, by (try dsimp only); omega, by (try dsimp only); omega⟩
theorem netNow_s {n : Nat} {o : Nat → Nat} {m : Nat → Nat} {h : Hp} (a1 : R1 n o h) (hml : ML h m) (hwf : WF n m) {cut : Nat} (hcut : cut < 2 ^ n) {p i : Nat} (hp : p ≤ 1) (hi : i < n) {P : Int32 → Prop} (k : ∀ t, NT (NR n o (m 1) (kc (fun w => m (5 + w)) cut) (m 4) (fun w => m (10 + w)) (fun w => m (15 + w))) (5 * p + i) t → P (nI t)) : wp_Md_netNow (nI p) (nI i) (nI cut) h P := by
  have hn := a1.2.2.1
  have hc5 : cut < 2 ^ 5 := Nat.lt_of_lt_of_le hcut (Nat.pow_le_pow_right (by omega) hn)
  unfold wp_Md_netNow
  have e5 : (5 : Int32) * nI p + nI i = nI (5 * p + i) := by rw [show (5 : Int32) * nI p = nI (5 * p) from eq5 hp, nI_add]
  rw [e5, hml.2.1]
  refine joined_s (g0 := 0) (MH_now a1 hml hwf (by omega)) (cm_cld hn (fun e he => (a1.2.2.2.2.1 e he).1) hwf.2.2.2.2.1 (fun w h1 h2 => ?_) (fun w hw => ?_)) (by omega) k
  · unfold kc
    split
    · omega
    · have := ((hwf.2.2.2.2.2 w h2).2.2.2 h1).1; (try dsimp only); omega
  · obtain ⟨r1, r2, r3, r4⟩ := hwf.2.2.2.2.2 w hw
    exact ⟨by (try dsimp only); omega, by (try dsimp only); omega, fun q => (r4 q).2⟩
theorem G6 : ∀ (h : Hp) (p0 p1 : Int32), Rel h → wp_Fe_net p0 p1 h (fun v1 h1 => wp_Md_net p0 p1 h1 (fun v2 => v1 = v2 ∧ Rel h1)) := by
  intro h p0 p1 hR
  obtain ⟨n, o, a1, ⟨m, a2⟩, a3, a4, a5, a6, a7, a8, a9⟩ := id hR
  obtain ⟨hcs, hml, hwf⟩ := id a2
  have hw := a1.1
  have hw2 := a1.2.1
  have hn := a1.2.2.1
  unfold wp_Fe_net
  by_cases hv1 : vld n p1
  · rw [isN_t hw hn hv1]
    obtain ⟨i, hi, rfl⟩ := id hv1
    have bad : (p0 < 0 ∨ 1 < p0) → wp_Md_net p0 (nI i) h (fun v2 => -1000000002 = v2 ∧ Rel h) := fun q => by
      unfold wp_Md_net
      rw [isW_t hw2 hn hv1, in_f q]
      exact ⟨fun _ => ⟨fun _ => ⟨rfl, hR⟩, fun z => absurd z (by decide)⟩, fun z => absurd rfl z⟩
    refine ⟨fun _ => ⟨fun z => bad (Or.inl z), fun z0 => ⟨fun z1 => ?_, fun z1 => bad (Or.inr (Int32.not_le.mp z1))⟩⟩, fun z => absurd rfl z⟩
    obtain ⟨p, hp, rfl⟩ : vld 2 p0 := vld_of (by omega) z0 (fun q => by
      have h2 : nI 2 ≤ (1 : Int32) := Int32.le_trans q z1
      exact absurd h2 (by decide))
    rw [hcs.1]
    refine joinAll_s a1 hcs hwf (fun w hw => (hwf.2.2.2.2.2 w hw).1) (fun h2 q1 q2 hsc f g hf hpf hg hpg => nodeOf_s (by omega) (by omega) (of_s (r := 45) hg (by omega) ?_))
    (try dsimp only)
    unfold wp_Md_net
    have b1 : R1 n o h2 := a1.sc hsc
    have b2 : R2 n m h2 := a2.sc hsc
    rw [isW_t b1.2.1 hn hv1, in_t (p := nI p) (a := 0) (b := 1) (nI_pos (by omega)) (nI_nlt (a := 1) (by omega) (by omega))]
    refine ⟨fun _ => ⟨fun z => absurd rfl z, fun _ => netNow_s b1 b2.2.1 hwf (cut := 0) (Nat.two_pow_pos n) (by omega) hi (fun t ht => ⟨?_, hR.sc hsc⟩)⟩, fun z => absurd rfl z⟩
    rw [kc0] at ht
    rw [(hpg (5 * p + i) (by omega)).uniq ht]
  · rw [isN_f hw hn hv1]
    refine ⟨fun z => absurd z (by decide), fun _ => ?_⟩
    (try dsimp only)
    unfold wp_Md_net
    rw [isW_f hw2 hn hv1]
    exact ⟨fun z => absurd z (by decide), fun _ => ⟨rfl, hR⟩⟩
end
