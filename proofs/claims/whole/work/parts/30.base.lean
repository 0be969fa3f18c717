section
theorem wi1 (h : Hp) (c k : Nat) (v : Int32) (c' : Nat) : (wi h c k v).1 c' = if c' = c then upd (h.1 c) k v else h.1 c' := rfl
theorem wi2 (h : Hp) (c k : Nat) (v : Int32) : (wi h c k v).2 = h.2 := rfl
theorem wl1 (h : Hp) (c k : Nat) (v : Int64) : (wl h c k v).1 = h.1 := rfl
theorem wl2 (h : Hp) (c k : Nat) (v : Int64) (c' : Nat) : (wl h c k v).2 c' = if c' = c then vp_updL (h.2 c) k v else h.2 c' := rfl
theorem upd_a (f : Nat → Int32) (k : Nat) (x : Int32) (j : Nat) : upd f k x j = if j = k then x else f j := rfl
theorem updL_a (f : Nat → Int64) (k : Nat) (x : Int64) (j : Nat) : vp_updL f k x j = if j = k then x else f j := rfl
def vld (n : Nat) (p : Int32) : Prop := ∃ i : Nat, i < n ∧ p = nI i
theorem vld_of {n : Nat} {p : Int32} (hn : n < 2 ^ 31) (h0 : ¬ p < 0) (h1 : ¬ nI n ≤ p) : vld n p := by
  rcases pk_ix p hn with q | q | ⟨j, hj, e⟩
  · exact absurd q h0
  · exact absurd q h1
  · exact ⟨j, hj, e⟩
theorem vld_lt {n : Nat} {p : Int32} (hn : n < 2 ^ 31) (h : vld n p) : ¬ p < 0 ∧ ¬ nI n ≤ p := by
  obtain ⟨i, hi, rfl⟩ := h
  exact ⟨nI_pos (by omega), nI_ge hi hn⟩
theorem vld_no {n : Nat} {p : Int32} (hn : n < 2 ^ 31) (h : ¬ vld n p) : p < 0 ∨ nI n ≤ p := by
  rcases pk_ix p hn with q | q | ⟨j, hj, e⟩
  · exact Or.inl q
  · exact Or.inr q
  · exact absurd ⟨j, hj, e⟩ h
theorem isN_t {n : Nat} {p : Int32} {h : Hp} {P : Bool → Prop} (hw : h.1 0 1 = nI n) (hn : n ≤ 5) (hv : vld n p) : wp_Fe_isNumber p h P ↔ P true := by
  obtain ⟨h1, h2⟩ := vld_lt (by omega) hv
  have h3 : ¬ (5 : Int32) ≤ p := (vld_lt (n := 5) (by omega) (hv.imp fun i hi => ⟨by omega, hi.2⟩)).2
  unfold wp_Fe_isNumber
  rw [hw]
  exact ⟨fun q => ((q.2 h1).2 h2).2 h3, fun q => ⟨fun z => absurd z h1, fun _ => ⟨fun z => absurd z h2, fun _ => ⟨fun z => absurd z h3, fun _ => q⟩⟩⟩⟩
theorem isN_f {n : Nat} {p : Int32} {h : Hp} {P : Bool → Prop} (hw : h.1 0 1 = nI n) (hn : n ≤ 5) (hv : ¬ vld n p) : wp_Fe_isNumber p h P ↔ P false := by
  have h1 := vld_no (by omega) hv
  unfold wp_Fe_isNumber
  rw [hw]
  by_cases h0 : p < 0
  · exact ⟨fun q => q.1 h0, fun q => ⟨fun _ => q, fun z => absurd h0 z⟩⟩
  · have h2 := h1.resolve_left h0
    exact ⟨fun q => (q.2 h0).1 h2, fun q => ⟨fun z => absurd z h0, fun _ => ⟨fun _ => q, fun z => absurd h2 z⟩⟩⟩
theorem in_t {p a b : Int32} {P : Bool → Prop} (h1 : ¬ p < a) (h2 : ¬ b < p) : wp_Md_in p a b P ↔ P true :=
  ⟨fun q => (q.2 h1).2 h2, fun q => ⟨fun z => absurd z h1, fun _ => ⟨fun z => absurd z h2, fun _ => q⟩⟩⟩
theorem in_f {p a b : Int32} {P : Bool → Prop} (h : p < a ∨ b < p) : wp_Md_in p a b P ↔ P false := by
  unfold wp_Md_in
  by_cases h1 : p < a
  · exact ⟨fun q => q.1 h1, fun q => ⟨fun _ => q, fun z => absurd h1 z⟩⟩
  · have h2 := h.resolve_left h1
    exact ⟨fun q => (q.2 h1).1 h2, fun q => ⟨fun z => absurd z h1, fun _ => ⟨fun _ => q, fun z => absurd h2 z⟩⟩⟩
theorem le_pred {n : Nat} {p : Int32} (hn : n ≤ 5) : (nI n - 1 < p) ↔ nI n ≤ p := by
  have e1 : (nI n - nI 1).toInt = (n : Int) - (1 : Nat) := pk_sub_toInt (by omega) (by omega)
  have e2 : (nI n).toInt = (n : Int) := nI_toInt (by omega)
  have e3 : nI n - 1 = nI n - nI 1 := rfl
  rw [e3, Int32.lt_iff_toInt_lt, Int32.le_iff_toInt_le, e1, e2]
  omega
theorem isW_t {n : Nat} {p : Int32} {h : Hp} {P : Bool → Prop} (hw : h.1 7 0 = nI n) (hn : n ≤ 5) (hv : vld n p) : wp_Md_isWire p h P ↔ P true := by
  obtain ⟨h1, h2⟩ := vld_lt (by omega) hv
  unfold wp_Md_isWire
  rw [hw]
  exact in_t h1 (fun q => h2 ((le_pred hn).mp q))
theorem isW_f {n : Nat} {p : Int32} {h : Hp} {P : Bool → Prop} (hw : h.1 7 0 = nI n) (hn : n ≤ 5) (hv : ¬ vld n p) : wp_Md_isWire p h P ↔ P false := by
  unfold wp_Md_isWire
  rw [hw]
  exact in_f ((vld_no (by omega) hv).imp id (fun q => (le_pred hn).mpr q))
def hold (n : Nat) (a b : Int32) : Prop := vld n a ∧ (b = -1 ∨ (vld n b ∧ a ≠ b))
theorem vld_m1 {n : Nat} (hn : n ≤ 5) : ¬ vld n (-1) := fun ⟨i, hi, e⟩ => by
  have h : ¬ ((-1 : Int32) < 0) := by rw [e]; exact nI_pos (by omega)
  exact h (by decide)
theorem two_t {n : Nat} {a b : Int32} {h : Hp} {P : Bool → Prop} (hw : h.1 0 1 = nI n) (hn : n ≤ 5) (h1 : vld n a) (h2 : vld n b) (h3 : a ≠ b) : wp_Fe_areTwo a b h P ↔ P true := by
  unfold wp_Fe_areTwo
  rw [isN_t hw hn h1]
  refine ⟨fun q => ?_, fun q => ⟨fun z => absurd rfl z, fun _ => ?_⟩⟩
  · have q := q.2 rfl
    rw [isN_t hw hn h2] at q
    exact (q.2 rfl).2 h3
  · rw [isN_t hw hn h2]
    exact ⟨fun z => absurd rfl z, fun _ => ⟨fun z => absurd z h3, fun _ => q⟩⟩
theorem two_f {n : Nat} {a b : Int32} {h : Hp} {P : Bool → Prop} (hw : h.1 0 1 = nI n) (hn : n ≤ 5) (h1 : ¬ (vld n a ∧ vld n b ∧ a ≠ b)) : wp_Fe_areTwo a b h P ↔ P false := by
  unfold wp_Fe_areTwo
  by_cases ha : vld n a
  · rw [isN_t hw hn ha]
    by_cases hb : vld n b
    · have he : a = b := Decidable.byContradiction fun q => h1 ⟨ha, hb, q⟩
      refine ⟨fun q => ?_, fun q => ⟨fun z => absurd rfl z, fun _ => ?_⟩⟩
      · have q := q.2 rfl
        rw [isN_t hw hn hb] at q
        exact (q.2 rfl).1 he
      · rw [isN_t hw hn hb]
        exact ⟨fun z => absurd rfl z, fun _ => ⟨fun _ => q, fun z => absurd he z⟩⟩
    · refine ⟨fun q => ?_, fun q => ⟨fun z => absurd rfl z, fun _ => ?_⟩⟩
      · have q := q.2 rfl
        rw [isN_f hw hn hb] at q
        exact q.1 (by decide)
      · rw [isN_f hw hn hb]
        exact ⟨fun _ => q, fun z => absurd z (by decide)⟩
  · rw [isN_f hw hn ha]
    exact ⟨fun q => q.1 (by decide), fun q => ⟨fun _ => q, fun z => absurd z (by decide)⟩⟩
theorem can_t {n : Nat} {a b : Int32} {h : Hp} {P : Bool → Prop} (hw : h.1 0 1 = nI n) (hn : n ≤ 5) (hh : hold n a b) : wp_Fe_canHold a b h P ↔ P true := by
  unfold wp_Fe_canHold
  by_cases hb : b = -1
  · exact ⟨fun q => (isN_t hw hn hh.1).mp (q.2 hb), fun q => ⟨fun z => absurd hb z, fun _ => (isN_t hw hn hh.1).mpr q⟩⟩
  · obtain ⟨h2, h3⟩ := hh.2.resolve_left hb
    exact ⟨fun q => (two_t hw hn hh.1 h2 h3).mp (q.1 hb), fun q => ⟨fun _ => (two_t hw hn hh.1 h2 h3).mpr q, fun z => absurd z hb⟩⟩
theorem can_f {n : Nat} {a b : Int32} {h : Hp} {P : Bool → Prop} (hw : h.1 0 1 = nI n) (hn : n ≤ 5) (hh : ¬ hold n a b) : wp_Fe_canHold a b h P ↔ P false := by
  unfold wp_Fe_canHold
  by_cases hb : b = -1
  · have h1 : ¬ vld n a := fun q => hh ⟨q, Or.inl hb⟩
    exact ⟨fun q => (isN_f hw hn h1).mp (q.2 hb), fun q => ⟨fun z => absurd hb z, fun _ => (isN_f hw hn h1).mpr q⟩⟩
  · have h1 : ¬ (vld n a ∧ vld n b ∧ a ≠ b) := fun q => hh ⟨q.1, Or.inr q.2⟩
    exact ⟨fun q => (two_f hw hn h1).mp (q.1 hb), fun q => ⟨fun _ => (two_f hw hn h1).mpr q, fun z => absurd z hb⟩⟩
theorem ends_t {n : Nat} {a b : Int32} {h : Hp} {P : Bool → Prop} (hw : h.1 7 0 = nI n) (hn : n ≤ 5) (hh : hold n a b) : wp_Md_areEnds a b h P ↔ P true := by
  unfold wp_Md_areEnds
  rw [isW_t hw hn hh.1]
  dsimp only [jn]
  by_cases hb : b = -1
  · exact ⟨fun q => (q.2 rfl).1 hb, fun q => ⟨fun z => absurd rfl z, fun _ => ⟨fun _ => q, fun z => absurd hb z⟩⟩⟩
  · obtain ⟨h2, h3⟩ := hh.2.resolve_left hb
    rw [isW_t hw hn h2]
    exact ⟨fun q => (((q.2 rfl).2 hb).2 rfl).2 h3, fun q => ⟨fun z => absurd rfl z, fun _ => ⟨fun z => absurd z hb, fun _ => ⟨fun z => absurd rfl z, fun _ => ⟨fun z => absurd z h3, fun _ => q⟩⟩⟩⟩⟩
theorem ends_f {n : Nat} {a b : Int32} {h : Hp} {P : Bool → Prop} (hw : h.1 7 0 = nI n) (hn : n ≤ 5) (hh : ¬ hold n a b) : wp_Md_areEnds a b h P ↔ P false := by
  unfold wp_Md_areEnds
  dsimp only [jn]
  by_cases ha : vld n a
  · rw [isW_t hw hn ha]
    have hb : ¬ b = -1 := fun q => hh ⟨ha, Or.inl q⟩
    by_cases h2 : vld n b
    · have h3 : a = b := Decidable.byContradiction fun q => hh ⟨ha, Or.inr ⟨h2, q⟩⟩
      rw [isW_t hw hn h2]
      exact ⟨fun q => (((q.2 rfl).2 hb).2 rfl).1 h3, fun q => ⟨fun z => absurd rfl z, fun _ => ⟨fun z => absurd z hb, fun _ => ⟨fun z => absurd rfl z, fun _ => ⟨fun _ => q, fun z => absurd h3 z⟩⟩⟩⟩⟩
    · rw [isW_f hw hn h2]
      exact ⟨fun q => ((q.2 rfl).2 hb).1 (by decide), fun q => ⟨fun z => absurd rfl z, fun _ => ⟨fun z => absurd z hb, fun _ => ⟨fun _ => q, fun z => absurd z (by decide)⟩⟩⟩⟩
  · rw [isW_f hw hn ha]
    exact ⟨fun q => q.1 (by decide), fun q => ⟨fun _ => q, fun z => absurd z (by decide)⟩⟩
/-! the relation -/
def pk (g : Nat → Nat) : Nat := g 0 + 8 * g 1 + 64 * g 2 + 512 * g 3 + 4096 * g 4
def CS (f : Nat → Int32) (m : Nat → Nat) : Prop := f 0 = nI (pk fun w => m (5 + w)) ∧ f 1 = nI (m 4) ∧ f 2 = nI (pk fun w => m (10 + w)) ∧ f 3 = nI (pk fun w => m (15 + w)) ∧ f 4 = nI (m 0) ∧ f 5 = nI (m 1) ∧ f 6 = nI (m 2) ∧ f 7 = nI (m 3)
def ML (h : Hp) (m : Nat → Nat) : Prop := h.1 7 2 = nI (m 0) ∧ h.1 7 3 = nI (m 1) ∧ h.1 7 4 = nI (m 2) ∧ h.1 7 5 = nI (m 3) ∧ h.1 7 6 = nI (m 4) ∧ ∀ w, w < 5 → h.1 78 w = nI (m (5 + w)) ∧ h.1 79 w = nI (m (10 + w)) ∧ h.1 80 w = nI (m (15 + w))
def MR (f : Nat → Int32) (b : Nat) (m : Nat → Nat) : Prop := ∀ j, j < 20 → f (b + j) = nI (m j)
def tmk (n t : Nat) : Prop := t < 2 ^ 25 ∧ ∀ i, t.testBit i = true → ∃ a b, a < b ∧ b < n ∧ i = 5 * a + b
def WF (n : Nat) (m : Nat → Nat) : Prop := m 0 ≤ 1 ∧ m 1 ≤ 9060 ∧ m 2 ≤ 9999 ∧ m 3 ≤ 9999 ∧ tmk n (m 4) ∧ ∀ w, w < 5 → m (5 + w) < 4 ∧ m (10 + w) < 4 ∧ m (15 + w) < 4 ∧ (n ≤ w → m (5 + w) = 0 ∧ m (10 + w) = 0 ∧ m (15 + w) = 0)
def R1 (n : Nat) (o : Nat → Nat) (h : Hp) : Prop := h.1 0 1 = nI n ∧ h.1 7 0 = nI n ∧ n ≤ 5 ∧ n ≠ 1 ∧ (∀ e, e < n → o e < n ∧ h.1 69 e = nI (o e) ∧ h.1 77 e = nI (o e)) ∧ (∀ e f, e < n → f < n → o e = o f → e = f)
def R2 (n : Nat) (m : Nat → Nat) (h : Hp) : Prop := CS (h.1 26) m ∧ ML h m ∧ WF n m
def R3 (n : Nat) (h : Hp) : Prop := ∃ (uc nx : Nat) (un : Nat → Nat → Nat), uc ≤ 16 ∧ nx < 16 ∧ h.1 2 1 = nI uc ∧ h.1 7 28 = nI uc ∧ h.1 2 2 = nI nx ∧ ∀ k, k < uc → CS (h.1 (10 + (nx + 16 - uc + k) % 16)) (un k) ∧ MR (h.1 87) (20 * k) (un k) ∧ WF n (un k)
def R4 (h : Hp) : Prop := ∃ sd, sd < 2 ^ 31 ∧ h.1 3 0 = nI sd ∧ h.2 7 10 = lN sd
def R5 (n : Nat) (h : Hp) : Prop := ∀ i, i < 2 → ∃ kp, kp ≤ 1 ∧ h.1 (8 + i) 2 = nI kp ∧ h.1 90 i = nI kp ∧ (kp = 1 → ∃ m sd, CS (h.1 (27 + i)) m ∧ MR (h.1 88) (20 * i) m ∧ WF n m ∧ sd < 2 ^ 31 ∧ h.1 (8 + i) 1 = nI sd ∧ h.2 89 i = lN sd)
def SN (n : Nat) (h : Hp) (k : Nat) : Prop := ∃ (p hr a b rg : Nat) (N F : Nat → Nat), p ≤ 1 ∧ hr ≤ 9060 ∧ a < n ∧ (b = 10 ∧ h.1 81 (14 * k + 3) = -1 ∨ ∃ c, b = 5 * p + c ∧ c < n ∧ c ≠ a ∧ h.1 81 (14 * k + 3) = nI c) ∧ rg ≤ 1 ∧ (∀ w, w < 5 → N w < 4 ∧ F w < 4 ∧ (n ≤ w → N w = 0 ∧ F w = 0)) ∧
  (h.1 (29 + k) 0 = nI (pk N) ∧ h.1 (29 + k) 1 = nI (pk F) ∧ h.1 (29 + k) 2 = nI hr ∧ h.1 (29 + k) 3 = nI (5 * p + a) ∧ h.1 (29 + k) 4 = nI b ∧ h.1 (29 + k) 5 = nI rg) ∧
  (h.1 81 (14 * k) = nI p ∧ h.1 81 (14 * k + 1) = nI hr ∧ h.1 81 (14 * k + 2) = nI a ∧ h.1 81 (14 * k + 4) = nI rg ∧ ∀ w, w < 5 → h.1 81 (14 * k + 5 + w) = nI (N w) ∧ h.1 92 (14 * k + 5 + w) = nI (F w))
def R6 (n : Nat) (h : Hp) : Prop := ∃ sc, sc ≤ 8 ∧ h.1 0 8 = nI sc ∧ h.1 7 11 = nI sc ∧ ∀ k, k < sc → SN n h k
def R7 (n : Nat) (h : Hp) : Prop := ∃ bc, bc ≤ 15 ∧ h.1 0 11 = nI bc ∧ h.1 7 13 = nI bc ∧ ∀ k, k < bc → ∃ e w, e < n ∧ w < n ∧ h.1 70 k = nI e ∧ h.1 82 k = nI e ∧ h.1 71 k = nI w ∧ h.1 83 k = nI w
def R8 (h : Hp) : Prop := ∃ tc, tc ≤ 240 ∧ h.1 1 1 = nI tc ∧ h.1 7 17 = nI tc ∧ ∀ k, k < tc → ∃ x, x < 256 ∧ h.1 67 k = nI x ∧ h.1 84 k = nI x
def R9 (h : Hp) : Prop := h.1 1 3 = h.1 7 20 ∧ ∀ w, w < 5 → h.1 97 w = 0
def Rel (h : Hp) : Prop := ∃ (n : Nat) (o : Nat → Nat), R1 n o h ∧ (∃ m, R2 n m h) ∧ R3 n h ∧ R4 h ∧ R5 n h ∧ R6 n h ∧ R7 n h ∧ R8 h ∧ R9 h
/-! what keeps a part of it -/
theorem R1.keep {n : Nat} {o : Nat → Nat} {h g : Hp} (a : R1 n o h) (e1 : g.1 0 1 = h.1 0 1) (e2 : g.1 7 0 = h.1 7 0) (e3 : g.1 69 = h.1 69) (e4 : g.1 77 = h.1 77) : R1 n o g := by
  unfold R1 at *; rw [e1, e2, e3, e4]; exact a
theorem ML.keep {h g : Hp} {m : Nat → Nat} (a : ML h m) (e1 : g.1 7 2 = h.1 7 2) (e2 : g.1 7 3 = h.1 7 3) (e3 : g.1 7 4 = h.1 7 4) (e4 : g.1 7 5 = h.1 7 5) (e5 : g.1 7 6 = h.1 7 6) (e6 : g.1 78 = h.1 78) (e7 : g.1 79 = h.1 79) (e8 : g.1 80 = h.1 80) : ML g m := by
  unfold ML at *; rw [e1, e2, e3, e4, e5, e6, e7, e8]; exact a
theorem R2.keep {n : Nat} {h g : Hp} {m : Nat → Nat} (a : R2 n m h) (e0 : g.1 26 = h.1 26) (e1 : g.1 7 2 = h.1 7 2) (e2 : g.1 7 3 = h.1 7 3) (e3 : g.1 7 4 = h.1 7 4) (e4 : g.1 7 5 = h.1 7 5) (e5 : g.1 7 6 = h.1 7 6) (e6 : g.1 78 = h.1 78) (e7 : g.1 79 = h.1 79) (e8 : g.1 80 = h.1 80) : R2 n m g :=
  ⟨by rw [e0]; exact a.1, a.2.1.keep e1 e2 e3 e4 e5 e6 e7 e8, a.2.2⟩
theorem R3.keep {n : Nat} {h g : Hp} (a : R3 n h) (e1 : g.1 2 = h.1 2) (e2 : g.1 7 28 = h.1 7 28) (e3 : g.1 87 = h.1 87) (e4 : ∀ c, 10 ≤ c → c < 26 → g.1 c = h.1 c) : R3 n g := by
  obtain ⟨uc, nx, un, h1, h2, h3, h4, h5, h6⟩ := a
  refine ⟨uc, nx, un, h1, h2, by rw [e1]; exact h3, by rw [e2]; exact h4, by rw [e1]; exact h5, fun k hk => ?_⟩
  rw [e3, e4 _ (by omega) (by omega)]
  exact h6 k hk
theorem R4.keep {h g : Hp} (a : R4 h) (e1 : g.1 3 = h.1 3) (e2 : g.2 7 10 = h.2 7 10) : R4 g := by
  unfold R4 at *; rw [e1, e2]; exact a
theorem R5.keep {n : Nat} {h g : Hp} (a : R5 n h) (e1 : g.1 8 = h.1 8) (e2 : g.1 9 = h.1 9) (e3 : g.1 27 = h.1 27) (e4 : g.1 28 = h.1 28) (e5 : g.1 90 = h.1 90) (e6 : g.1 88 = h.1 88) (e7 : g.2 89 = h.2 89) : R5 n g := by
  intro i hi
  have f1 : g.1 (8 + i) = h.1 (8 + i) := by rcases (show i = 0 ∨ i = 1 by omega) with rfl | rfl <;> assumption
  have f2 : g.1 (27 + i) = h.1 (27 + i) := by rcases (show i = 0 ∨ i = 1 by omega) with rfl | rfl <;> assumption
  rw [f1, f2, e5, e6, e7]
  exact a i hi
theorem SN.keep {n : Nat} {h g : Hp} {k : Nat} (a : SN n h k) (e1 : g.1 81 = h.1 81) (e2 : g.1 92 = h.1 92) (e3 : ∀ j, j < 6 → g.1 (29 + k) j = h.1 (29 + k) j) : SN n g k := by
  unfold SN at *; rw [e1, e2, e3 0 (by omega), e3 1 (by omega), e3 2 (by omega), e3 3 (by omega), e3 4 (by omega), e3 5 (by omega)]; exact a
theorem R6.keep {n : Nat} {h g : Hp} (a : R6 n h) (e1 : g.1 0 8 = h.1 0 8) (e2 : g.1 7 11 = h.1 7 11) (e3 : g.1 81 = h.1 81) (e4 : g.1 92 = h.1 92) (e5 : ∀ k, k < 8 → ∀ j, j < 6 → g.1 (29 + k) j = h.1 (29 + k) j) : R6 n g := by
  obtain ⟨sc, h1, h2, h3, h4⟩ := a
  exact ⟨sc, h1, by rw [e1]; exact h2, by rw [e2]; exact h3, fun k hk => (h4 k hk).keep e3 e4 (e5 k (by omega))⟩
theorem R7.keep {n : Nat} {h g : Hp} (a : R7 n h) (e1 : g.1 0 11 = h.1 0 11) (e2 : g.1 7 13 = h.1 7 13) (e3 : g.1 70 = h.1 70) (e4 : g.1 71 = h.1 71) (e5 : g.1 82 = h.1 82) (e6 : g.1 83 = h.1 83) : R7 n g := by
  unfold R7 at *; rw [e1, e2, e3, e4, e5, e6]; exact a
theorem R8.keep {h g : Hp} (a : R8 h) (e1 : g.1 1 1 = h.1 1 1) (e2 : g.1 7 17 = h.1 7 17) (e3 : g.1 67 = h.1 67) (e4 : g.1 84 = h.1 84) : R8 g := by
  unfold R8 at *; rw [e1, e2, e3, e4]; exact a
theorem R9.keep {h g : Hp} (a : R9 h) (e1 : g.1 1 3 = h.1 1 3) (e2 : g.1 7 20 = h.1 7 20) (e3 : g.1 97 = h.1 97) : R9 g := by
  unfold R9 at *; rw [e1, e2, e3]; exact a
theorem Rel_h0 : Rel h0 := by
  refine ⟨0, fun _ => 0, ⟨rfl, rfl, by omega, by omega, fun e h => by omega, fun e f h => by omega⟩, ⟨fun _ => 0, ⟨rfl, rfl, rfl, rfl, rfl, rfl, rfl, rfl⟩, ⟨rfl, rfl, rfl, rfl, rfl, fun w _ => ⟨rfl, rfl, rfl⟩⟩, by dsimp only; omega, by dsimp only; omega, by dsimp only; omega, by dsimp only; omega, ⟨by decide, fun i h => by simp at h⟩, fun w _ => ⟨by dsimp only; omega, by dsimp only; omega, by dsimp only; omega, fun _ => ⟨rfl, rfl, rfl⟩⟩⟩, ⟨0, 0, fun _ _ => 0, by omega, by omega, rfl, rfl, rfl, fun k h => by omega⟩, ⟨0, by decide, rfl, rfl⟩, fun i hi => ⟨0, by omega, ?_, ?_, fun h => by omega⟩, ⟨0, by omega, rfl, rfl, fun k h => by omega⟩, ⟨0, by omega, rfl, rfl, fun k h => by omega⟩, ⟨0, by omega, rfl, rfl, fun k h => by omega⟩, rfl, fun w _ => rfl⟩
  · rcases (show i = 0 ∨ i = 1 by omega) with rfl | rfl <;> rfl
  · rcases (show i = 0 ∨ i = 1 by omega) with rfl | rfl <;> rfl
end
