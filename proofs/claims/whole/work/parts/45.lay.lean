section
theorem sr_sr {h : Hp} {c : Nat} {f g : Nat → Int32} : sr (sr h c f) c g = sr h c g := hp_ext (fun c' => by by_cases e : c' = c <;> simp [sr, e]) rfl
theorem part8_s {g : Nat → Nat} (hg : ∀ w, w < 5 → g w < 8) {i : Nat} (hi : i < 5) {P : Int32 → Prop} (k : P (nI (g i))) : wp_Fe_part (nI (pk g)) (nI i) P := by
  unfold wp_Fe_part
  rw [part_pack hg hi]
  exact k
def Up (C : Nat → Nat → Prop) (a b x y : Nat) : Prop := x < y ∧ y < 5 ∧ (x < a ∨ x = a ∧ y < b) ∧ C x y
theorem Up_t {C : Nat → Nat → Prop} {a b : Nat} (hab : a < b) (hb : b < 5) (hC : C a b) (x y : Nat) : Up C a b x y ∨ (x = a ∧ y = b) ↔ Up C a (b + 1) x y := by
  unfold Up
  constructor
  · rintro (⟨h1, h2, h3, h4⟩ | ⟨rfl, rfl⟩)
    · exact ⟨h1, h2, by omega, h4⟩
    · exact ⟨hab, hb, by omega, hC⟩
  · rintro ⟨h1, h2, h3, h4⟩
    by_cases e : x = a ∧ y = b
    · exact Or.inr e
    · exact Or.inl ⟨h1, h2, by omega, h4⟩
theorem Up_f {C : Nat → Nat → Prop} {a b : Nat} (hC : ¬ C a b) (x y : Nat) : Up C a b x y ↔ Up C a (b + 1) x y := by
  unfold Up
  constructor
  · rintro ⟨h1, h2, h3, h4⟩
    exact ⟨h1, h2, by omega, h4⟩
  · rintro ⟨h1, h2, h3, h4⟩
    refine ⟨h1, h2, ?_, h4⟩
    by_cases e : x = a ∧ y = b
    · rw [e.1, e.2] at h4; exact absurd h4 hC
    · omega
theorem Up_n {C : Nat → Nat → Prop} {a : Nat} (x y : Nat) : Up C a 5 x y ↔ Up C (a + 1) (a + 2) x y := by
  unfold Up
  constructor
  · rintro ⟨h1, h2, h3, h4⟩
    exact ⟨h1, h2, by omega, h4⟩
  · rintro ⟨h1, h2, h3, h4⟩
    exact ⟨h1, h2, by omega, h4⟩
def CN (T : Nat) (N : Nat → Nat) (u v : Nat) : Prop := T.testBit (pn u v) = true ∨ (N u ≠ 0 ∧ N u = N v)
def CF (F : Nat → Nat) (u v : Nat) : Prop := F u ≠ 0 ∧ F u = F v
/-- the edges of lay, up to a place in its loops -/
def Elt (K : Nat → Nat) (T : Nat) (N F : Nat → Nat) (wb a b c x y : Nat) : Prop := (x < wb ∧ x < 5 ∧ K x = 2 ∧ y = 10) ∨ Up (CN T N) a b x y ∨ (5 ≤ x ∧ 5 ≤ y ∧ Up (CF F) a c (x - 5) (y - 5))
def El (K : Nat → Nat) (T : Nat) (N F : Nat → Nat) (x y : Nat) : Prop := (x < 5 ∧ K x = 2 ∧ y = 10) ∨ (x < y ∧ y < 5 ∧ CN T N x y) ∨ (5 ≤ x ∧ x < y ∧ y < 10 ∧ CF F (x - 5) (y - 5))
theorem lay0 {r : Nat} (hr : r + 9 < 67) {p1 p2 p3 p4 : Int32} {h : Hp} : ∀ (k i : Nat) (G : Nat → Int32) (E : Hp → Prop), i + k = 11 → (∀ G2 : Nat → Int32, (∀ j, j < 11 → G2 j = if i ≤ j then nI (2 ^ j) else G j) → E (sr h (r + 9) G2)) → ∃ N, lp_Nets_lay_3 N r p1 p2 p3 p4 (nI i) (sr h (r + 9) G) E := by
  intro k
  induction k with
  | zero =>
    intro i G E hi hE
    refine ⟨1, ?_⟩
    unfold lp_Nets_lay_3
    exact ⟨fun _ => hE G (fun j hj => by rw [if_neg (by omega)]), fun z => absurd (nI_le (a := 11) (by omega) (by omega)) z⟩
  | succ k ih =>
    intro i G E hi hE
    obtain ⟨N, hN⟩ := ih (i + 1) (upd G i (nI (2 ^ i))) E (by omega) (fun G2 h2 => hE G2 (fun j hj => by
      rw [h2 j hj, upd_a]
      by_cases ej : j = i
      · subst ej
        rw [if_neg (by omega), if_pos rfl, if_pos (Nat.le_refl _)]
      · rw [if_neg ej]
        by_cases q : i + 1 ≤ j
        · rw [if_pos q, if_pos (by omega)]
        · rw [if_neg q, if_neg (by omega)]))
    refine ⟨N + 1, ?_⟩
    unfold lp_Nets_lay_3
    dsimp only [lt]
    rw [cl_nI (n := i) (by omega), nI_1, sr_wi, shl1 (by omega)]
    exact ⟨fun z => absurd z (nI_ge (b := 11) (by omega) (by omega)), fun _ => ⟨vp_in_nI (by omega) (by omega), hN⟩⟩
theorem PR_id {K : Nat → Nat} {T : Nat} {N F : Nat → Nat} : PR (Elt K T N F 0 0 1 1) (fun k => 2 ^ k) := by
  intro i hi j
  rw [Nat.testBit_two_pow]
  have hc : Cld (Elt K T N F 0 0 1 1) (fun x => x = i) := fun a b r => by
    rcases r with ⟨q, _⟩ | ⟨q1, q2, q3, _⟩ | ⟨_, _, q1, q2, q3, _⟩ <;> omega
  constructor
  · intro z
    have e : i = j := by simpa using z
    subst e
    exact ⟨hi, con_refl _ _⟩
  · rintro ⟨h1, h2⟩
    have e : j = i := h2 (fun x => x = i) hc rfl
    simp [e]
theorem tied_s {g : Nat → Nat} (hg : ∀ w, w < 5 → g w < 8) {a b : Nat} (ha : a < 5) (hb : b < 5) {P : Bool → Prop} (k1 : CF g a b → P true) (k2 : ¬ CF g a b → P false) : wp_Nets_areTied (nI (pk g)) (nI a) (nI b) P := by
  unfold wp_Nets_areTied
  have l1 := hg a ha
  have l2 := hg b hb
  refine part8_s hg ha ⟨fun z => k2 (fun q => q.1 ((nI_zero (by omega)).mp z)), fun z => part8_s hg hb ⟨fun y => k2 (fun q => y (by rw [q.2])), fun y => k1 ⟨fun q => z (by rw [q]; rfl), nI_inj (by omega) (by omega) y⟩⟩⟩
theorem add5 {a : Nat} : (5 : Int32) + nI a = nI (5 + a) := nI_add 5 a
theorem lay_in {r : Nat} (hr : r + 9 < 67) {K N F : Nat → Nat} {T : Nat} (hT : T < 2 ^ 31) (hN : ∀ w, w < 5 → N w < 8) (hF : ∀ w, w < 5 → F w < 8) {h : Hp} {a : Nat} (ha : a < 5) {p1 : Int32} : ∀ (k b : Nat) (G : Nat → Int32) (g : Nat → Nat) (E : Hp → Prop), b + k = 5 → a < b → (∀ k, k < 11 → G k = nI (g k)) → PR (Elt K T N F (a + 1) a b b) g → (∀ (G : Nat → Int32) (g : Nat → Nat), (∀ k, k < 11 → G k = nI (g k)) → PR (Elt K T N F (a + 1) a 5 5) g → E (sr h (r + 9) G)) → lp_Nets_lay_63 (k + 1) r p1 (nI T) (nI (pk N)) (nI (pk F)) (nI a) (nI b) (sr h (r + 9) G) E := by
  have hal : al (r + 9) = 11 := by unfold al; rw [if_pos hr]
  intro k
  induction k with
  | zero =>
    intro b G g E hb hab hG hg hE
    have e : b = 5 := by omega
    subst e
    unfold lp_Nets_lay_63
    exact ⟨fun _ => hE G g hG hg, fun z => absurd (nI_le (a := 5) (by omega) (by omega)) z⟩
  | succ k ih =>
    intro b G g E hb hab hG hg hE
    have hb5 : b < 5 := by omega
    unfold lp_Nets_lay_63
    dsimp only [jn, lt]
    rw [nI_1, add5, add5]
    -- the end of a step
    have last : ∀ (G : Nat → Int32) (g : Nat → Nat), (∀ k, k < 11 → G k = nI (g k)) → PR (Elt K T N F (a + 1) a (b + 1) (b + 1)) g → lp_Nets_lay_63 (k + 1) r p1 (nI T) (nI (pk N)) (nI (pk F)) (nI a) (nI (b + 1)) (sr h (r + 9) G) E := fun G g q1 q2 => ih (b + 1) G g E (by omega) (by omega) q1 q2 hE
    -- the far half
    have far : ∀ (G : Nat → Int32) (g : Nat → Nat), (∀ k, k < 11 → G k = nI (g k)) → PR (Elt K T N F (a + 1) a (b + 1) b) g → wp_Nets_areTied (nI (pk F)) (nI a) (nI b) (fun (v109 : Bool) => ((¬ v109 = true) → lp_Nets_lay_63 (k + 1) r p1 (nI T) (nI (pk N)) (nI (pk F)) (nI a) (nI (b + 1)) (sr h (r + 9) G) E) ∧ ((v109 = true) → wp_Nets_merge (r + 9) (nI (5 + a)) (nI (5 + b)) (sr h (r + 9) G) (fun (h127 : Hp) => lp_Nets_lay_63 (k + 1) r p1 (nI T) (nI (pk N)) (nI (pk F)) (nI a) (nI (b + 1)) h127 E))) := fun G g q1 q2 => by
      refine tied_s hF ha hb5 (fun hC => ⟨fun z => absurd rfl z, fun _ => ?_⟩) (fun hC => ⟨fun _ => ?_, fun z => absurd z (by decide)⟩)
      · refine merge_s hal q2 (fun k hk => by rw [sr_eq]; exact q1 k hk) (by omega) (by omega) (fun G2 g2 e1 e2 => ?_)
        have := last G2 g2 e1 (e2.cg (fun x y => ?_))
        · rw [sr_sr]; exact this
        · unfold ad Elt
          rw [← Up_t (C := CF F) hab hb5 hC (x - 5) (y - 5)]
          constructor
          · rintro ((z | z | z) | z)
            · exact Or.inl z
            · exact Or.inr (Or.inl z)
            · exact Or.inr (Or.inr ⟨z.1, z.2.1, Or.inl z.2.2⟩)
            · exact Or.inr (Or.inr ⟨by omega, by omega, Or.inr (by omega)⟩)
          · rintro (z | z | ⟨z1, z2, z3 | z3⟩)
            · exact Or.inl (Or.inl z)
            · exact Or.inl (Or.inr (Or.inl z))
            · exact Or.inl (Or.inr (Or.inr ⟨z1, z2, z3⟩))
            · exact Or.inr (by omega)
      · refine last G g q1 (q2.cg (fun x y => ?_))
        unfold Elt
        rw [Up_f (C := CF F) hC (x - 5) (y - 5)]
    have near1 : ∀ (hC : CN T N a b), wp_Nets_merge (r + 9) (nI a) (nI b) (sr h (r + 9) G) (fun (h100 : Hp) => wp_Nets_areTied (nI (pk F)) (nI a) (nI b) (fun (v109 : Bool) => ((¬ v109 = true) → lp_Nets_lay_63 (k + 1) r p1 (nI T) (nI (pk N)) (nI (pk F)) (nI a) (nI (b + 1)) h100 E) ∧ ((v109 = true) → wp_Nets_merge (r + 9) (nI (5 + a)) (nI (5 + b)) h100 (fun (h127 : Hp) => lp_Nets_lay_63 (k + 1) r p1 (nI T) (nI (pk N)) (nI (pk F)) (nI a) (nI (b + 1)) h127 E)))) := fun hC => by
      refine merge_s hal hg (fun k hk => by rw [sr_eq]; exact hG k hk) (by omega) (by omega) (fun G2 g2 e1 e2 => ?_)
      rw [sr_sr]
      refine far G2 g2 e1 (e2.cg (fun x y => ?_))
      unfold ad Elt
      rw [← Up_t (C := CN T N) hab hb5 hC x y]
      constructor
      · rintro ((z | z | z) | z)
        · exact Or.inl z
        · exact Or.inr (Or.inl (Or.inl z))
        · exact Or.inr (Or.inr z)
        · exact Or.inr (Or.inl (Or.inr z))
      · rintro (z | (z | z) | z)
        · exact Or.inl (Or.inl z)
        · exact Or.inl (Or.inr (Or.inl z))
        · exact Or.inr z
        · exact Or.inl (Or.inr (Or.inr z))
    have near0 : ∀ (hC : ¬ CN T N a b), wp_Nets_areTied (nI (pk F)) (nI a) (nI b) (fun (v109 : Bool) => ((¬ v109 = true) → lp_Nets_lay_63 (k + 1) r p1 (nI T) (nI (pk N)) (nI (pk F)) (nI a) (nI (b + 1)) (sr h (r + 9) G) E) ∧ ((v109 = true) → wp_Nets_merge (r + 9) (nI (5 + a)) (nI (5 + b)) (sr h (r + 9) G) (fun (h127 : Hp) => lp_Nets_lay_63 (k + 1) r p1 (nI T) (nI (pk N)) (nI (pk F)) (nI a) (nI (b + 1)) h127 E))) := fun hC => by
      refine far G g hG (hg.cg (fun x y => ?_))
      unfold Elt
      rw [Up_f (C := CN T N) hC x y]
    refine ⟨fun z => absurd z (nI_ge (b := 5) (by omega) (by omega)), fun _ => pairBit_s ha hb5 ?_⟩
    rw [bit_and hT (by have := pn_lt ha hb5; omega)]
    refine ⟨fun z => near1 (Or.inl (by simpa using z)), fun z => tied_s hN ha hb5 (fun q => ⟨fun y => absurd rfl y, fun _ => near1 (Or.inr q)⟩) (fun q => ⟨fun _ => near0 (fun y => y.elim (fun y => by rw [y] at z; exact absurd z (by decide)) q), fun y => absurd y (by decide)⟩)⟩
theorem lay_out {r : Nat} (hr : r + 9 < 67) {K N F : Nat → Nat} {T : Nat} (hT : T < 2 ^ 31) (hK : ∀ w, w < 5 → K w < 8) (hN : ∀ w, w < 5 → N w < 8) (hF : ∀ w, w < 5 → F w < 8) {h : Hp} : ∀ (k a : Nat) (G : Nat → Int32) (g : Nat → Nat) (E : Hp → Prop), a + k = 5 → (∀ k, k < 11 → G k = nI (g k)) → PR (Elt K T N F a a (a + 1) (a + 1)) g → (∀ (G : Nat → Int32) (g : Nat → Nat), (∀ k, k < 11 → G k = nI (g k)) → PR (Elt K T N F 5 5 6 6) g → E (sr h (r + 9) G)) → lp_Nets_lay_30 (k + 1) r (nI (pk K)) (nI T) (nI (pk N)) (nI (pk F)) (nI a) (sr h (r + 9) G) E := by
  have hal : al (r + 9) = 11 := by unfold al; rw [if_pos hr]
  intro k
  induction k with
  | zero =>
    intro a G g E hb hG hg hE
    have e : a = 5 := by omega
    subst e
    unfold lp_Nets_lay_30
    exact ⟨fun _ => hE G g hG hg, fun z => absurd (nI_le (a := 5) (by omega) (by omega)) z⟩
  | succ k ih =>
    intro a G g E hb hG hg hE
    have ha : a < 5 := by omega
    unfold lp_Nets_lay_30
    dsimp only [jn, lt]
    rw [nI_1]
    have inn : ∀ (G : Nat → Int32) (g : Nat → Nat), (∀ k, k < 11 → G k = nI (g k)) → PR (Elt K T N F (a + 1) a (a + 1) (a + 1)) g → ∃ n63, lp_Nets_lay_63 n63 r (nI (pk K)) (nI T) (nI (pk N)) (nI (pk F)) (nI a) (nI (a + 1)) (sr h (r + 9) G) (fun (h63x : Hp) => lp_Nets_lay_30 (k + 1) r (nI (pk K)) (nI T) (nI (pk N)) (nI (pk F)) (nI (a + 1)) h63x E) := fun G g q1 q2 =>
      ⟨_, lay_in hr hT hN hF ha (5 - (a + 1)) (a + 1) G g _ (by omega) (by omega) q1 q2 (fun G2 g2 e1 e2 => ih (a + 1) G2 g2 E (by omega) e1 (e2.cg (fun x y => by unfold Elt; rw [Up_n x y, Up_n (x - 5) (y - 5)])) hE)⟩
    refine ⟨fun z => absurd z (nI_ge (b := 5) (by omega) (by omega)), fun _ => part8_s hK ha ⟨fun z => ?_, fun z => ?_⟩⟩
    · have hk : ¬ K a = 2 := fun e => z (by rw [e]; rfl)
      refine inn G g hG (hg.cg (fun x y => or_congr ?_ Iff.rfl))
      constructor
      · rintro ⟨h1, h2, h3, h4⟩
        exact ⟨by omega, h2, h3, h4⟩
      · rintro ⟨h1, h2, h3, h4⟩
        by_cases e : x = a
        · rw [e] at h3; exact absurd h3 hk
        · exact ⟨by omega, h2, h3, h4⟩
    · have l1 := hK a ha
      have hk : K a = 2 := nI_inj (b := 2) (by omega) (by omega) z
      refine merge_s (j := 10) hal hg (fun k hk => by rw [sr_eq]; exact hG k hk) (by omega) (by omega) (fun G2 g2 e1 e2 => ?_)
      rw [sr_sr]
      refine inn G2 g2 e1 (e2.cg (fun x y => ?_))
      unfold ad Elt
      constructor
      · rintro ((⟨h1, h2, h3, h4⟩ | z) | ⟨rfl, rfl⟩)
        · exact Or.inl ⟨by omega, h2, h3, h4⟩
        · exact Or.inr z
        · exact Or.inl ⟨by omega, ha, hk, rfl⟩
      · rintro (⟨h1, h2, h3, h4⟩ | z)
        · by_cases e : x = a
          · exact Or.inr ⟨e, h4⟩
          · exact Or.inl (Or.inl ⟨by omega, h2, h3, h4⟩)
        · exact Or.inl (Or.inr z)
theorem lay_s {r : Nat} (hr : r + 9 < 67) {K N F : Nat → Nat} {T : Nat} (hT : T < 2 ^ 31) (hK : ∀ w, w < 5 → K w < 8) (hN : ∀ w, w < 5 → N w < 8) (hF : ∀ w, w < 5 → F w < 8) {h : Hp} {P : Hp → Prop} (k : ∀ (G : Nat → Int32) (g : Nat → Nat), (∀ k, k < 11 → G k = nI (g k)) → PR (El K T N F) g → P (sr h (r + 9) G)) : wp_Nets_lay r (nI (pk K)) (nI T) (nI (pk N)) (nI (pk F)) h P := by
  unfold wp_Nets_lay
  have := lay0 hr (p1 := nI (pk K)) (p2 := nI T) (p3 := nI (pk N)) (p4 := nI (pk F)) (h := h) 11 0 (h.1 (r + 9)) (fun (h3x : Hp) => ∃ n30, lp_Nets_lay_30 n30 r (nI (pk K)) (nI T) (nI (pk N)) (nI (pk F)) (0 : Int32) h3x (fun (h30x : Hp) => P h30x)) (by omega) (fun G2 h2 => ⟨_, lay_out hr hT hK hN hF 5 0 G2 (fun k => 2 ^ k) P (by omega) (fun j hj => by rw [h2 j hj, if_pos (by omega)]) PR_id (fun G3 g3 e1 e2 => k G3 g3 e1 (e2.cg (fun x y => by
    unfold Elt El Up
    constructor
    · rintro (⟨h1, h2, h3, h4⟩ | ⟨h1, h2, h3, h4⟩ | ⟨z1, z2, h1, h2, h3, h4⟩)
      · exact Or.inl ⟨h2, h3, h4⟩
      · exact Or.inr (Or.inl ⟨h1, h2, h4⟩)
      · exact Or.inr (Or.inr ⟨z1, by omega, by omega, h4⟩)
    · rintro (⟨h2, h3, h4⟩ | ⟨h1, h2, h4⟩ | ⟨z1, h1, h2, h4⟩)
      · exact Or.inl ⟨h2, h2, h3, h4⟩
      · exact Or.inr (Or.inl ⟨h1, h2, by omega, h4⟩)
      · exact Or.inr (Or.inr ⟨z1, by omega, by omega, by omega, by omega, h4⟩))))⟩)
  rw [sr_self] at this
  exact this
/-- and what passes, up to an end -/
def Ej (n : Nat) (o : Nat → Nat) (ps : Nat) (R : Nat → Nat → Prop) (x y : Nat) : Prop := R x y ∨ (5 ≤ y ∧ y - 5 < n ∧ x = o (y - 5) ∧ ps.testBit x = true)
theorem join_lp {r c n ps : Nat} (hr : r + 18 < 67) (hc : c < 100) (hrc : c ≠ r + 18) (hcl : al c = 5) {o : Nat → Nat} (hn : n ≤ 5) {h : Hp} (ho : ∀ e, e < n → o e < n ∧ h.1 c e = nI (o e)) (hps : ps < 2 ^ 31) {R : Nat → Nat → Prop} : ∀ (k b : Nat) (G : Nat → Int32) (g : Nat → Nat) (E : Hp → Prop), b + k = n → (∀ k, k < 11 → G k = nI (g k)) → PR (Ej b o ps R) g → (∀ (G : Nat → Int32) (g : Nat → Nat), (∀ k, k < 11 → G k = nI (g k)) → PR (Ej n o ps R) g → E (sr h (r + 18) G)) → lp_Nets_join_18 (k + 1) r c (nI n) (nI ps) (nI b) (sr h (r + 18) G) E := by
  have hal : al (r + 18) = 11 := by unfold al; rw [if_pos hr]
  intro k
  induction k with
  | zero =>
    intro b G g E hb hG hg hE
    have e : b = n := by omega
    subst e
    unfold lp_Nets_join_18
    exact ⟨fun _ => hE G g hG hg, fun z => absurd (nI_le (by omega) (by omega)) z⟩
  | succ k ih =>
    intro b G g E hb hG hg hE
    obtain ⟨o1, o2⟩ := ho b (by omega)
    unfold lp_Nets_join_18
    dsimp only [jn, lt]
    rw [hcl, nI_1, cl_nI (n := b) (by omega), sr_ne hrc, o2, bit_shr hps (by omega), add5]
    refine ⟨fun z => absurd z (nI_ge (by omega) (by omega)), fun _ => ⟨fun z => absurd z (nI_ge (b := 5) (by omega) (by omega)), fun _ => ⟨vp_in_nI (by omega) (by omega), fun z => ?_, fun z => ?_⟩⟩⟩
    · have hB : ¬ ps.testBit (o b) = true := fun q => by rw [q] at z; exact absurd z (by decide)
      refine ih (b + 1) G g E (by omega) hG (hg.cg (fun x y => or_congr Iff.rfl ?_)) hE
      constructor
      · rintro ⟨h1, h2, h3, h4⟩
        exact ⟨h1, by omega, h3, h4⟩
      · rintro ⟨h1, h2, h3, h4⟩
        by_cases e : y - 5 = b
        · rw [e] at h3; rw [h3] at h4; exact absurd h4 hB
        · exact ⟨h1, by omega, h3, h4⟩
    · have hB : ps.testBit (o b) = true := by
        cases q : ps.testBit (o b)
        · rw [q] at z; exact absurd rfl z
        · rfl
      refine merge_s hal hg (fun k hk => by rw [sr_eq]; exact hG k hk) (by omega) (by omega) (fun G2 g2 e1 e2 => ?_)
      rw [sr_sr]
      refine ih (b + 1) G2 g2 E (by omega) e1 (e2.cg (fun x y => ?_)) hE
      unfold ad Ej
      constructor
      · rintro ((z | ⟨h1, h2, h3, h4⟩) | ⟨rfl, rfl⟩)
        · exact Or.inl z
        · exact Or.inr ⟨h1, by omega, h3, h4⟩
        · exact Or.inr ⟨by omega, by omega, by rw [Nat.add_sub_cancel_left], hB⟩
      · rintro (z | ⟨h1, h2, h3, h4⟩)
        · exact Or.inl (Or.inl z)
        · by_cases e : y - 5 = b
          · rw [e] at h3; exact Or.inr ⟨h3, by omega⟩
          · exact Or.inl (Or.inr ⟨h1, by omega, h3, h4⟩)
theorem join_s {r c n ps : Nat} (hr : r + 18 < 67) (hc : c < 100) (hrc : c ≠ r + 18) (hcl : al c = 5) {o : Nat → Nat} (hn : n ≤ 5) {h : Hp} (ho : ∀ e, e < n → o e < n ∧ h.1 c e = nI (o e)) (hps : ps < 2 ^ 31) {R : Nat → Nat → Prop} {f : Nat → Nat} (hf : PR R f) (hr9 : ∀ k, k < 11 → h.1 (r + 9) k = nI (f k)) {P : Hp → Prop} (k : ∀ (G : Nat → Int32) (g : Nat → Nat), (∀ k, k < 11 → G k = nI (g k)) → PR (Ej n o ps R) g → P (sr h (r + 18) G)) : wp_Nets_join r c (nI n) (nI ps) h P := by
  unfold wp_Nets_join
  dsimp only [lt]
  have hw : wc h (r + 9) (r + 18) ((11 : Int32)).toNatClampNeg = sr h (r + 18) (va_cpy (h.1 (r + 9)) (h.1 (r + 18)) 0 0 11) := rfl
  rw [hw]
  refine ⟨_, join_lp hr hc hrc hcl hn ho hps n 0 _ f P (by omega) (fun j hj => ?_) (hf.cg (fun x y => ?_)) k⟩
  · rw [← hr9 j hj]
    unfold va_cpy
    simp [hj]
  · unfold Ej
    constructor
    · exact Or.inl
    · rintro (z | ⟨h1, h2, h3, h4⟩)
      · exact z
      · omega
end
