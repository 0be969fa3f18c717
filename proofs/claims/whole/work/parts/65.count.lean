section
def cd (c : Nat → Nat) : Nat → Nat
  | 0 => 0
  | w + 1 => cd c w + c w * 8 ^ w
theorem g3_div (C i : Nat) : g3 C i = C / 8 ^ i % 8 := by
  unfold g3
  show (C >>> (3 * i)) &&& 7 = C / 8 ^ i % 8
  rw [Nat.shiftRight_eq_div_pow, Nat.pow_mul, show (7 : Nat) = 2 ^ 3 - 1 from rfl, Nat.and_two_pow_sub_one_eq_mod]
theorem cd_lt {c : Nat → Nat} : ∀ w, (∀ i, i < w → c i < 8) → cd c w < 8 ^ w := by
  intro w
  induction w with
  | zero => intro _; exact Nat.one_pos
  | succ w ih =>
    intro h
    have h1 := ih (fun i hi => h i (by omega))
    have h2 := h w (by omega)
    have h3 : c w * 8 ^ w ≤ 7 * 8 ^ w := Nat.mul_le_mul_right _ (by omega)
    show cd c w + c w * 8 ^ w < 8 ^ (w + 1)
    rw [Nat.pow_succ]
    omega
theorem g3_cd {c : Nat → Nat} : ∀ w, (∀ i, i < w → c i < 8) → ∀ i, i < w → g3 (cd c w) i = c i := by
  intro w
  induction w with
  | zero => intro _ i hi; omega
  | succ w ih =>
    intro h i hi
    have l1 := cd_lt w (fun i hi => h i (by omega))
    have l2 := h w (by omega)
    rw [g3_div]
    show (cd c w + c w * 8 ^ w) / 8 ^ i % 8 = c i
    by_cases e : i = w
    · subst e
      rw [Nat.add_mul_div_right _ _ (Nat.pow_pos (by omega)), Nat.div_eq_of_lt l1, Nat.zero_add, Nat.mod_eq_of_lt l2]
    · have := ih (fun i hi => h i (by omega)) i (by omega)
      rw [g3_div] at this
      have ew : c w * 8 ^ w = (c w * 8 ^ (w - i - 1) * 8) * 8 ^ i := by
        rw [Nat.mul_assoc, Nat.mul_assoc, ← Nat.pow_succ', ← Nat.pow_add, show w - i - 1 + i.succ = w by omega]
      rw [ew, Nat.add_mul_div_right _ _ (Nat.pow_pos (by omega)), Nat.add_mul_mod_self_right, this]
def st (n : Nat) (t : Nat) (o : Nat → Nat) (e : Nat) : Nat := if e < n then o e else (if t = 0 then e else 7)
def pcs (n : Nat) : Nat → List Nat → List Nat
  | 0, _ => []
  | k + 1, L => cd (gt L) 5 :: pcs n k (adv n L)
theorem pcs2 : pcs 2 2 [0, 1, 2, 3, 4] = P2 := by decide +kernel
theorem pcs3 : pcs 3 6 [0, 1, 2, 3, 4] = P3 := by decide +kernel
theorem pcs4 : pcs 4 24 [0, 1, 2, 3, 4] = P4 := by decide +kernel
theorem pcs5 : pcs 5 120 [0, 1, 2, 3, 4] = P5 := by decide +kernel
def pgen (n : Nat) : Nat → List Nat
  | 0 => [0]
  | w + 1 => (pgen n w).flatMap (fun p => ((List.range n).filter (fun v => (List.range w).all (fun i => g3 p i != v))).map (fun v => p + v * 8 ^ w))
def cgen : Nat → List Nat
  | 0 => [0]
  | w + 1 => (cgen w).flatMap (fun C => (5 :: w :: (List.range w).filter (fun v => g3 C v == v)).map (fun v => C + v * 8 ^ w))
def tl (n t : Nat) : Nat := cd (st n t (fun _ => 0)) 5
theorem pg2 : (pgen 2 2).all (fun p => P2.contains (p + tl 2 0)) = true ∧ (cgen 2).all (fun p => C2.contains (p + tl 2 1)) = true := by decide +kernel
theorem pg3 : (pgen 3 3).all (fun p => P3.contains (p + tl 3 0)) = true ∧ (cgen 3).all (fun p => C3.contains (p + tl 3 1)) = true := by decide +kernel
theorem pg4 : (pgen 4 4).all (fun p => P4.contains (p + tl 4 0)) = true ∧ (cgen 4).all (fun p => C4.contains (p + tl 4 1)) = true := by decide +kernel
theorem pg5 : (pgen 5 5).all (fun p => P5.contains (p + tl 5 0)) = true ∧ (cgen 5).all (fun p => C5.contains (p + tl 5 1)) = true := by decide +kernel
theorem pgen_mem {n : Nat} {o : Nat → Nat} (hn : n ≤ 8) (ho : ∀ e, e < n → o e < n) (hoi : ∀ e f, e < n → f < n → o e = o f → e = f) : ∀ w, w ≤ n → cd o w ∈ pgen n w := by
  intro w
  induction w with
  | zero => intro _; exact List.mem_singleton.mpr rfl
  | succ w ih =>
    intro hw
    refine List.mem_flatMap.mpr ⟨cd o w, ih (by omega), List.mem_map.mpr ⟨o w, List.mem_filter.mpr ⟨List.mem_range.mpr (ho w (by omega)), ?_⟩, rfl⟩⟩
    rw [List.all_eq_true]
    intro i hi
    have hi' := List.mem_range.mp hi
    rw [g3_cd w (fun i hi => by have := ho i (by omega); omega) i hi']
    have : o i ≠ o w := fun q => by have := hoi i w (by omega) (by omega) q; omega
    simpa using this
def Cnn (n : Nat) (c : Nat → Nat) : Prop := ∀ w, w < n → c w = 5 ∨ (c w ≤ w ∧ c (c w) = c w)
theorem cgen_mem {n : Nat} {c : Nat → Nat} (hn : n ≤ 5) (hc : Cnn n c) : ∀ w, w ≤ n → cd c w ∈ cgen w := by
  have h8 : ∀ i, i < n → c i < 8 := fun i hi => by rcases hc i hi with z | z <;> omega
  intro w
  induction w with
  | zero => intro _; exact List.mem_singleton.mpr rfl
  | succ w ih =>
    intro hw
    refine List.mem_flatMap.mpr ⟨cd c w, ih (by omega), List.mem_map.mpr ⟨c w, ?_, rfl⟩⟩
    rcases hc w (by omega) with z | ⟨z1, z2⟩
    · rw [z]; exact List.mem_cons_self
    · by_cases e : c w = w
      · rw [e]; exact List.mem_cons_of_mem _ List.mem_cons_self
      · refine List.mem_cons_of_mem _ (List.mem_cons_of_mem _ (List.mem_filter.mpr ⟨List.mem_range.mpr (by omega), ?_⟩))
        rw [g3_cd w (fun i hi => h8 i (by omega)) (c w) (by omega), z2]
        simp
theorem cd_st {n t : Nat} {o : Nat → Nat} (h2 : 2 ≤ n) (hn : n ≤ 5) : cd (st n t o) 5 = cd o n + tl n t := by
  rcases (show n = 2 ∨ n = 3 ∨ n = 4 ∨ n = 5 by omega) with rfl | rfl | rfl | rfl <;> simp [cd, st, tl] <;> omega
def Pn (n : Nat) : List Nat := match n with
  | 2 => P2
  | 3 => P3
  | 4 => P4
  | _ => P5
theorem perm_in {n : Nat} {o : Nat → Nat} (h2 : 2 ≤ n) (hn : n ≤ 5) (ho : ∀ e, e < n → o e < n) (hoi : ∀ e f, e < n → f < n → o e = o f → e = f) : cd (st n 0 o) 5 ∈ Pn n := by
  have hm := pgen_mem (by omega) ho hoi n (Nat.le_refl _)
  rw [cd_st h2 hn]
  rcases (show n = 2 ∨ n = 3 ∨ n = 4 ∨ n = 5 by omega) with rfl | rfl | rfl | rfl
  · have := List.all_eq_true.mp pg2.1 _ hm; exact List.contains_iff_mem.mp this
  · have := List.all_eq_true.mp pg3.1 _ hm; exact List.contains_iff_mem.mp this
  · have := List.all_eq_true.mp pg4.1 _ hm; exact List.contains_iff_mem.mp this
  · have := List.all_eq_true.mp pg5.1 _ hm; exact List.contains_iff_mem.mp this
theorem can_ok {n : Nat} {c : Nat → Nat} (h2 : 2 ≤ n) (hn : n ≤ 5) (hc : Cnn n c) : okC n (Pn n) (cd (st n 1 c) 5) = true := by
  have hm := cgen_mem hn hc n (Nat.le_refl _)
  rw [cd_st h2 hn]
  rcases (show n = 2 ∨ n = 3 ∨ n = 4 ∨ n = 5 by omega) with rfl | rfl | rfl | rfl
  · have := List.contains_iff_mem.mp (List.all_eq_true.mp pg2.2 _ hm); exact List.all_eq_true.mp ok2 _ this
  · have := List.contains_iff_mem.mp (List.all_eq_true.mp pg3.2 _ hm); exact List.all_eq_true.mp ok3 _ this
  · have := List.contains_iff_mem.mp (List.all_eq_true.mp pg4.2 _ hm); exact List.all_eq_true.mp ok4 _ this
  · have := List.contains_iff_mem.mp (List.all_eq_true.mp pg5.2 _ hm); exact List.all_eq_true.mp ok5 _ this
theorem Pn_eq {n : Nat} (h2 : 2 ≤ n) (hn : n ≤ 5) : Pn n = pcs n (fc n) (oL n 0) := by
  rcases (show n = 2 ∨ n = 3 ∨ n = 4 ∨ n = 5 by omega) with rfl | rfl | rfl | rfl
  · exact pcs2.symm
  · exact pcs3.symm
  · exact pcs4.symm
  · exact pcs5.symm
theorem cnt_rm {s x : Nat} (h : x ≠ s) : ∀ l, cnt x (rm s l) = cnt x l := by
  intro l
  induction l with
  | nil => rfl
  | cons y l ih =>
    show cnt x (cond (Nat.beq y s) (rm s l) (y :: rm s l)) = cond (Nat.beq y x) (Nat.succ (cnt x l)) (cnt x l)
    cases hb : Nat.beq y s
    · show cond (Nat.beq y x) (Nat.succ (cnt x (rm s l))) (cnt x (rm s l)) = _
      rw [ih]
    · have e : y = s := Nat.eq_of_beq_eq_true hb
      have : Nat.beq y x = false := by
        cases hc : Nat.beq y x
        · rfl
        · exact absurd ((Nat.eq_of_beq_eq_true hc).symm.trans e) h
      rw [this]
      exact ih
theorem mem_rm {s x : Nat} (h : x ≠ s) : ∀ l, x ∈ l → x ∈ rm s l := by
  intro l
  induction l with
  | nil => intro h; exact h
  | cons y l ih =>
    intro hm
    show x ∈ cond (Nat.beq y s) (rm s l) (y :: rm s l)
    rcases List.mem_cons.mp hm with e | hm
    · subst e
      have : Nat.beq x s = false := by
        cases hc : Nat.beq x s
        · rfl
        · exact absurd (Nat.eq_of_beq_eq_true hc) h
      rw [this]
      exact List.mem_cons_self
    · cases Nat.beq y s
      · exact List.mem_cons_of_mem _ (ih hm)
      · exact ih hm
theorem chkc_ok {F : Nat} : ∀ (f : Nat) (l : List Nat), chkc F f l = true → ∀ x, x ∈ l → cnt x l = F := by
  intro f
  induction f with
  | zero =>
    intro l h x hx
    cases l with
    | nil => exact absurd hx (List.not_mem_nil)
    | cons s l => exact absurd h (by simp [chkc])
  | succ f ih =>
    intro l h x hx
    cases l with
    | nil => exact absurd hx (List.not_mem_nil)
    | cons s l =>
      have h' : cond (Nat.beq (Nat.succ (cnt s l)) F) (chkc F f (rm s l)) false = true := h
      cases hb : Nat.beq (Nat.succ (cnt s l)) F
      · rw [hb] at h'; exact absurd (show false = true from h') (by decide)
      · rw [hb] at h'
        have e1 := Nat.eq_of_beq_eq_true hb
        by_cases e : x = s
        · subst e
          show cond (Nat.beq x x) (Nat.succ (cnt x l)) (cnt x l) = F
          rw [Nat.beq_refl]
          exact e1
        · have hm : x ∈ l := (List.mem_cons.mp hx).resolve_left e
          have := ih (rm s l) h' x (mem_rm e l hm)
          rw [cnt_rm e] at this
          show cond (Nat.beq s x) (Nat.succ (cnt x l)) (cnt x l) = F
          have hs : Nat.beq s x = false := by
            cases hc : Nat.beq s x
            · rfl
            · exact absurd (Nat.eq_of_beq_eq_true hc).symm e
          rw [hs]
          exact this
theorem sl_mem {C p : Nat} : ∀ l, p ∈ l → sgc C p ∈ sl C l := by
  intro l
  induction l with
  | nil => intro h; exact absurd h (List.not_mem_nil)
  | cons y l ih =>
    intro h
    rcases List.mem_cons.mp h with e | h
    · subst e; exact List.mem_cons_self
    · exact List.mem_cons_of_mem _ (ih h)
theorem cnt_gc {n C S : Nat} {sm : Nat → Bool} : ∀ (k i : Nat), (∀ j, j < i + k → (sm j = true ↔ sgc C (cd (gt (oL n j)) 5) = S)) → gc sm i + cnt S (sl C (pcs n k (oL n i))) = gc sm (i + k) := by
  intro k
  induction k with
  | zero => intro i _; rfl
  | succ k ih =>
    intro i h
    have := ih (i + 1) (fun j hj => h j (by omega))
    rw [show i + 1 + k = i + (k + 1) by omega] at this
    rw [← this]
    show gc sm i + cond (Nat.beq (sgc C (cd (gt (oL n i)) 5)) S) (Nat.succ (cnt S (sl C (pcs n k (oL n (i + 1)))))) (cnt S (sl C (pcs n k (oL n (i + 1))))) = _
    have hi := h i (by omega)
    rw [show gc sm (i + 1) = if sm i = true then gc sm i + 1 else gc sm i from rfl]
    cases hb : Nat.beq (sgc C (cd (gt (oL n i)) 5)) S
    · have : ¬ sm i = true := fun q => by rw [hi.mp q, Nat.beq_refl] at hb; exact absurd hb (by decide)
      rw [if_neg this]; rfl
    · have e := Nat.eq_of_beq_eq_true hb
      rw [if_pos (hi.mpr e)]
      show gc sm i + Nat.succ _ = gc sm i + 1 + _
      omega
/-! the bits of a sign -/
theorem b1_inj {x y x' y' r r' : Nat} : Nat.add (b1 x y) (Nat.mul 2 r) = Nat.add (b1 x' y') (Nat.mul 2 r') ↔ (x = y ↔ x' = y') ∧ r = r' := by
  show b1 x y + 2 * r = b1 x' y' + 2 * r' ↔ _
  have e : ∀ x y, b1 x y = if x = y then 1 else 0 := fun x y => by
    unfold b1
    by_cases h : x = y
    · rw [h, Nat.beq_refl, if_pos rfl]; rfl
    · have : Nat.beq x y = false := by
        cases hc : Nat.beq x y
        · rfl
        · exact absurd (Nat.eq_of_beq_eq_true hc) h
      rw [this, if_neg h]; rfl
  rw [e, e]
  by_cases h1 : x = y <;> by_cases h2 : x' = y'
  · rw [if_pos h1, if_pos h2]
    exact ⟨fun q => ⟨⟨fun _ => h2, fun _ => h1⟩, by omega⟩, fun q => by rw [q.2]⟩
  · rw [if_pos h1, if_neg h2]
    exact ⟨fun q => by omega, fun q => absurd (q.1.mp h1) h2⟩
  · rw [if_neg h1, if_pos h2]
    exact ⟨fun q => by omega, fun q => absurd (q.1.mpr h2) h1⟩
  · rw [if_neg h1, if_neg h2]
    exact ⟨fun q => ⟨⟨fun z => absurd z h1, fun z => absurd z h2⟩, by omega⟩, fun q => by rw [q.2]⟩
theorem sx_iff {x y : Nat → Nat} : sx (x 0) (x 1) (x 2) (x 3) (x 4) = sx (y 0) (y 1) (y 2) (y 3) (y 4) ↔ ∀ a, a < 5 → (∀ b, a < b → b < 5 → (x a = x b ↔ y a = y b)) ∧ (x a = 5 ↔ y a = 5) := by
  unfold sx
  rw [b1_inj, b1_inj, b1_inj, b1_inj, b1_inj, b1_inj, b1_inj, b1_inj, b1_inj, b1_inj, b1_inj, b1_inj, b1_inj, b1_inj, b1_inj]
  constructor
  · rintro ⟨h01, h02, h03, h04, h12, h13, h14, h23, h24, h34, h0, h1, h2, h3, h4, _⟩ a ha
    rcases (show a = 0 ∨ a = 1 ∨ a = 2 ∨ a = 3 ∨ a = 4 by omega) with rfl | rfl | rfl | rfl | rfl
    · refine ⟨fun b hb1 hb2 => ?_, h0⟩
      rcases (show b = 1 ∨ b = 2 ∨ b = 3 ∨ b = 4 by omega) with rfl | rfl | rfl | rfl <;> assumption
    · refine ⟨fun b hb1 hb2 => ?_, h1⟩
      rcases (show b = 2 ∨ b = 3 ∨ b = 4 by omega) with rfl | rfl | rfl <;> assumption
    · refine ⟨fun b hb1 hb2 => ?_, h2⟩
      rcases (show b = 3 ∨ b = 4 by omega) with rfl | rfl <;> assumption
    · refine ⟨fun b hb1 hb2 => ?_, h3⟩
      rcases (show b = 4 by omega) with rfl; assumption
    · exact ⟨fun b hb1 hb2 => by omega, h4⟩
  · intro h
    have t : ∀ a b, a < b → b < 5 → (x a = x b ↔ y a = y b) := fun a b h1 h2 => (h a (by omega)).1 b h1 h2
    exact ⟨t 0 1 (by omega) (by omega), t 0 2 (by omega) (by omega), t 0 3 (by omega) (by omega), t 0 4 (by omega) (by omega), t 1 2 (by omega) (by omega), t 1 3 (by omega) (by omega), t 1 4 (by omega) (by omega), t 2 3 (by omega) (by omega), t 2 4 (by omega) (by omega), t 3 4 (by omega) (by omega), (h 0 (by omega)).2, (h 1 (by omega)).2, (h 2 (by omega)).2, (h 3 (by omega)).2, (h 4 (by omega)).2, rfl⟩
theorem sgc_iff {n : Nat} (hn : n ≤ 5) {c p q : Nat → Nat} (hc : ∀ w, w < n → c w < 7) (hp : ∀ e, e < n → p e < n) (hq : ∀ e, e < n → q e < n) {p5 q5 : Nat → Nat} (e1 : ∀ e, e < 5 → p5 e = st n 0 p e) (e2 : ∀ e, e < 5 → q5 e = st n 0 q e) : sgc (cd (st n 1 c) 5) (cd p5 5) = sgc (cd (st n 1 c) 5) (cd q5 5) ↔ ∀ a, a < n → (∀ b, a < b → b < n → (c (p a) = c (p b) ↔ c (q a) = c (q b))) ∧ (c (p a) = 5 ↔ c (q a) = 5) := by
  have s5 : ∀ r : Nat → Nat, (∀ e, e < n → r e < n) → ∀ e, e < 5 → st n 0 r e < 5 := fun r hr e he => by
    unfold st
    by_cases q : e < n
    · rw [if_pos q]; have := hr e q; omega
    · rw [if_neg q, if_pos rfl]; exact he
  have c8 : ∀ i, i < 5 → st n 1 c i < 8 := fun i hi => by
    unfold st
    by_cases q : i < n
    · rw [if_pos q]; have := hc i q; omega
    · rw [if_neg q, if_neg (by omega)]; omega
  have gx : ∀ (r r5 : Nat → Nat), (∀ e, e < n → r e < n) → (∀ e, e < 5 → r5 e = st n 0 r e) → ∀ e, e < 5 → g3 (cd (st n 1 c) 5) (g3 (cd r5 5) e) = st n 1 c (st n 0 r e) := fun r r5 hr er e he => by
    have h8 := s5 r hr
    rw [g3_cd 5 (fun i hi => by rw [er i hi]; have := h8 i hi; omega) e he, er e he, g3_cd 5 c8 _ (h8 e he)]
  have hv : ∀ (r : Nat → Nat), (∀ e, e < n → r e < n) → ∀ e, e < 5 → st n 1 c (st n 0 r e) = if e < n then c (r e) else 7 := fun r hr e he => by
    by_cases q : e < n
    · rw [if_pos q]
      have := hr e q
      unfold st
      rw [if_pos q, if_pos this]
    · rw [if_neg q]
      unfold st
      rw [if_neg q, if_pos rfl, if_neg q, if_neg (by omega)]
  unfold sgc
  rw [gx p p5 hp e1 0 (by omega), gx p p5 hp e1 1 (by omega), gx p p5 hp e1 2 (by omega), gx p p5 hp e1 3 (by omega), gx p p5 hp e1 4 (by omega), gx q q5 hq e2 0 (by omega), gx q q5 hq e2 1 (by omega), gx q q5 hq e2 2 (by omega), gx q q5 hq e2 3 (by omega), gx q q5 hq e2 4 (by omega)]
  rw [sx_iff (x := fun e => st n 1 c (st n 0 p e)) (y := fun e => st n 1 c (st n 0 q e))]
  (try dsimp only)
  constructor
  · intro h a ha
    obtain ⟨h1, h2⟩ := h a (by omega)
    rw [hv p hp a (by omega), hv q hq a (by omega), if_pos ha, if_pos ha] at h2
    refine ⟨fun b hb1 hb2 => ?_, h2⟩
    have := h1 b hb1 (by omega)
    rw [hv p hp a (by omega), hv q hq a (by omega), if_pos ha, if_pos ha, hv p hp b (by omega), hv q hq b (by omega), if_pos hb2, if_pos hb2] at this
    exact this
  · intro h a ha
    rw [hv p hp a ha, hv q hq a ha]
    by_cases qa : a < n
    · rw [if_pos qa, if_pos qa]
      obtain ⟨h1, h2⟩ := h a qa
      refine ⟨fun b hb1 hb2 => ?_, h2⟩
      rw [hv p hp b hb2, hv q hq b hb2]
      by_cases qb : b < n
      · rw [if_pos qb, if_pos qb]; exact h1 b hb1 qb
      · rw [if_neg qb, if_neg qb]
        have l1 := hc (p a) (hp a qa)
        have l2 := hc (q a) (hq a qa)
        exact ⟨fun z => by omega, fun z => by omega⟩
    · rw [if_neg qa, if_neg qa]
      refine ⟨fun b hb1 hb2 => ?_, Iff.rfl⟩
      rw [hv p hp b hb2, hv q hq b hb2, if_neg (by omega), if_neg (by omega)]
end
