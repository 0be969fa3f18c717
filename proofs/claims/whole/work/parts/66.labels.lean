section
def ls (b : Nat → Bool) : Nat → Nat → Nat
  | 0, i => i
  | f + 1, i => if b i = true then i else ls b f (i + 1)
theorem ls_ok {b : Nat → Bool} : ∀ f i, b (i + f) = true → (i ≤ ls b f i ∧ ls b f i ≤ i + f) ∧ b (ls b f i) = true ∧ ∀ j, i ≤ j → j < ls b f i → ¬ b j = true := by
  intro f
  induction f with
  | zero => intro i h; exact ⟨⟨Nat.le_refl _, Nat.le_refl _⟩, h, fun j h1 h2 => absurd h2 (Nat.not_lt.mpr h1)⟩
  | succ f ih =>
    intro i h
    by_cases q : b i = true
    · have e : ls b (f + 1) i = i := by rw [ls, if_pos q]
      rw [e]
      exact ⟨⟨Nat.le_refl _, by omega⟩, q, fun j h1 h2 => by omega⟩
    · have e : ls b (f + 1) i = ls b f (i + 1) := by rw [ls, if_neg q]
      rw [e]
      obtain ⟨⟨h1, h2⟩, h3, h4⟩ := ih (i + 1) (by rw [show i + 1 + f = i + (f + 1) by omega]; exact h)
      refine ⟨⟨by omega, by omega⟩, h3, fun j j1 j2 => ?_⟩
      by_cases ej : j = i
      · rw [ej]; exact q
      · exact h4 j (by omega) j2
def Rnr (K : Nat → Nat) (T : Nat) (N : Nat → Nat) : Nat → Nat → Prop := El K T N (fun _ => 0)
def eW (hr : Nat) (K : Nat → Nat) (T : Nat) (N : Nat → Nat) (w v : Nat) : Prop := w = v ∨ (pss (K w) hr = true ∧ pss (K v) hr = true ∧ Con (Rnr K T N) w v)
def eE (hr : Nat) (K : Nat → Nat) (T : Nat) (N : Nat → Nat) (w : Nat) : Prop := pss (K w) hr = true ∧ Con (Rnr K T N) w 10
theorem eW_symm {hr : Nat} {K : Nat → Nat} {T : Nat} {N : Nat → Nat} {w v : Nat} (h : eW hr K T N w v) : eW hr K T N v w := by
  rcases h with h | ⟨h1, h2, h3⟩
  · exact Or.inl h.symm
  · exact Or.inr ⟨h2, h1, con_symm h3⟩
theorem eW_trans {hr : Nat} {K : Nat → Nat} {T : Nat} {N : Nat → Nat} {w v u : Nat} (h : eW hr K T N w v) (g : eW hr K T N v u) : eW hr K T N w u := by
  rcases h with h | ⟨h1, h2, h3⟩
  · rw [h]; exact g
  · rcases g with g | ⟨g1, g2, g3⟩
    · rw [← g]; exact Or.inr ⟨h1, h2, h3⟩
    · exact Or.inr ⟨h1, g2, con_trans h3 g3⟩
theorem eE_cg {hr : Nat} {K : Nat → Nat} {T : Nat} {N : Nat → Nat} {w v : Nat} (h : eW hr K T N w v) (g : eE hr K T N w) : eE hr K T N v := by
  rcases h with h | ⟨h1, h2, h3⟩
  · rw [← h]; exact g
  · exact ⟨h2, con_trans (con_symm h3) g.2⟩
def Lab (n hr : Nat) (K : Nat → Nat) (T : Nat) (N : Nat → Nat) (c : Nat → Nat) : Prop := Cnn n c ∧ (∀ w, w < n → (c w = 5 ↔ eE hr K T N w)) ∧ ∀ w v, w < n → v < n → (c w = c v ↔ eW hr K T N w v)
theorem lab_ex {n : Nat} (hn : n ≤ 5) (hr : Nat) (K : Nat → Nat) (T : Nat) (N : Nat → Nat) : ∃ c, Lab n hr K T N c := by
  obtain ⟨eb, heb⟩ := toB3 (fun _ w v => eW hr K T N w v)
  obtain ⟨Eb, hEb⟩ := toB (fun w => eE hr K T N w)
  obtain ⟨c, hc⟩ : ∃ c : Nat → Nat, c = fun w => if Eb w = true then 5 else ls (eb 0 w) w 0 := ⟨_, rfl⟩
  have c1 : ∀ w, eE hr K T N w → c w = 5 := fun w h => by rw [hc]; exact if_pos ((hEb w).mpr h)
  have c2 : ∀ w, ¬ eE hr K T N w → c w ≤ w ∧ eW hr K T N w (c w) ∧ ∀ j, j < c w → ¬ eW hr K T N w j := fun w h => by
    have e : c w = ls (eb 0 w) w 0 := by rw [hc]; exact if_neg (fun q => h ((hEb w).mp q))
    obtain ⟨⟨_, h2⟩, h3, h4⟩ := ls_ok (b := eb 0 w) w 0 (by rw [Nat.zero_add]; exact (heb 0 w w).mpr (Or.inl rfl))
    rw [e]
    exact ⟨by omega, (heb 0 w _).mp h3, fun j hj q => h4 j (by omega) hj ((heb 0 w j).mpr q)⟩
  have c5 : ∀ w, w < n → (c w = 5 ↔ eE hr K T N w) := fun w hw => ⟨fun h => Classical.byContradiction (fun q => by have := (c2 w q).1; omega), c1 w⟩
  have back : ∀ w v, w < n → v < n → eW hr K T N w v → c w = c v := fun w v hw hv h => by
    by_cases q : eE hr K T N w
    · rw [c1 w q, c1 v (eE_cg h q)]
    · have q2 : ¬ eE hr K T N v := fun z => q (eE_cg (eW_symm h) z)
      obtain ⟨x1, x2, x3⟩ := c2 w q
      obtain ⟨y1, y2, y3⟩ := c2 v q2
      rcases Nat.lt_trichotomy (c w) (c v) with z | z | z
      · exact absurd (eW_trans (eW_symm h) x2) (y3 _ z)
      · exact z
      · exact absurd (eW_trans h y2) (x3 _ z)
  refine ⟨c, fun w hw => ?_, c5, fun w v hw hv => ⟨fun h => ?_, back w v hw hv⟩⟩
  · by_cases q : eE hr K T N w
    · exact Or.inl (c1 w q)
    · obtain ⟨x1, x2, x3⟩ := c2 w q
      exact Or.inr ⟨x1, (back w (c w) hw (by omega) x2).symm⟩
  · by_cases q : eE hr K T N w
    · have q2 : eE hr K T N v := (c5 v hv).mp (by rw [← h]; exact c1 w q)
      exact Or.inr ⟨q.1, q2.1, con_trans q.2 (con_symm q2.2)⟩
    · have q2 : ¬ eE hr K T N v := fun z => q ((c5 w hw).mp (by rw [h]; exact c1 v z))
      obtain ⟨x1, x2, x3⟩ := c2 w q
      obtain ⟨y1, y2, y3⟩ := c2 v q2
      rw [← h] at y2
      exact eW_trans x2 (eW_symm y2)
/-! the far ends, by labels -/
theorem Rn_lt {K : Nat → Nat} {T : Nat} {N : Nat → Nat} {x y : Nat} (h : Rnr K T N x y) : x < 5 ∧ (y < 5 ∨ y = 10) := by
  rcases h with ⟨h1, h2, h3⟩ | ⟨h1, h2, h3⟩ | ⟨h1, h2, h3, h4⟩
  · exact ⟨h1, Or.inr h3⟩
  · exact ⟨by omega, Or.inl h2⟩
  · exact absurd rfl h4.1
theorem far_con {n hr : Nat} {K : Nat → Nat} {T : Nat} {N o : Nat → Nat} (hn : n ≤ 5) (ho : ∀ e, e < n → o e < n) (hoi : ∀ e f, e < n → f < n → o e = o f → e = f) {a : Nat} (ha : a < n) : (∀ b, b < n → (Con (NR n o hr K T N (fun _ => 0)) (5 + a) (5 + b) ↔ eW hr K T N (o a) (o b))) ∧ (Con (NR n o hr K T N (fun _ => 0)) (5 + a) 10 ↔ eE hr K T N (o a)) := by
  have lift : ∀ x y, Con (Rnr K T N) x y → Con (NR n o hr K T N (fun _ => 0)) x y := fun x y => con_mono (fun _ _ r => con_of (Or.inl r))
  have edge : ∀ e, e < n → pss (K (o e)) hr = true → Con (NR n o hr K T N (fun _ => 0)) (o e) (5 + e) := fun e he hp => con_of (Or.inr ⟨by omega, by omega, by rw [Nat.add_sub_cancel_left], by rw [pset_bit (by have := ho e he; omega)]; exact hp⟩)
  have hoa := ho a ha
  have fwd : (∀ b, b < n → Con (NR n o hr K T N (fun _ => 0)) (5 + a) (5 + b) → eW hr K T N (o a) (o b)) ∧ (Con (NR n o hr K T N (fun _ => 0)) (5 + a) 10 → eE hr K T N (o a)) := by
    by_cases hp : pss (K (o a)) hr = true
    · have hS : Cld (NR n o hr K T N (fun _ => 0)) (fun x => ((x < 5 ∨ x = 10) ∧ Con (Rnr K T N) (o a) x) ∨ (5 ≤ x ∧ x - 5 < n ∧ pss (K (o (x - 5))) hr = true ∧ Con (Rnr K T N) (o a) (o (x - 5)))) := fun x y r => by
        rcases r with r | ⟨r1, r2, r3, r4⟩
        · have l := Rn_lt r
          have cc := con_cld (Rnr K T N) (o a) x y r
          refine ⟨fun q => Or.inl ⟨l.2, ?_⟩, fun q => Or.inl ⟨Or.inl l.1, ?_⟩⟩
          · rcases q with ⟨_, q⟩ | ⟨q, _⟩
            · exact cc.mp q
            · omega
          · rcases q with ⟨_, q⟩ | ⟨q1, q2, _⟩
            · exact cc.mpr q
            · omega
        · have hx : x < n := by rw [r3]; exact ho _ r2
          rw [pset_bit (by omega)] at r4
          refine ⟨fun q => Or.inr ⟨r1, r2, by rw [← r3]; exact r4, ?_⟩, fun q => Or.inl ⟨Or.inl (by omega), ?_⟩⟩
          · rcases q with ⟨_, q⟩ | ⟨q, _⟩
            · rw [← r3]; exact q
            · omega
          · rcases q with ⟨q1, _⟩ | ⟨_, _, _, q⟩
            · omega
            · rw [r3]; exact q
      have s0 : (fun x => ((x < 5 ∨ x = 10) ∧ Con (Rnr K T N) (o a) x) ∨ (5 ≤ x ∧ x - 5 < n ∧ pss (K (o (x - 5))) hr = true ∧ Con (Rnr K T N) (o a) (o (x - 5)))) (5 + a) := Or.inr ⟨by omega, by omega, by rw [Nat.add_sub_cancel_left]; exact hp, by rw [Nat.add_sub_cancel_left]; exact con_refl _ _⟩
      refine ⟨fun b hb q => ?_, fun q => ?_⟩
      · have := q _ hS s0
        rcases this with ⟨z, _⟩ | ⟨_, _, z1, z2⟩
        · omega
        · rw [Nat.add_sub_cancel_left] at z1 z2
          exact Or.inr ⟨hp, z1, z2⟩
      · have := q _ hS s0
        rcases this with ⟨_, z⟩ | ⟨_, z, _⟩
        · exact ⟨hp, z⟩
        · omega
    · have hS : Cld (NR n o hr K T N (fun _ => 0)) (fun x => x = 5 + a) := fun x y r => by
        rcases r with r | ⟨r1, r2, r3, r4⟩
        · have l := Rn_lt r
          omega
        · have hx : x < n := by rw [r3]; exact ho _ r2
          rw [pset_bit (by omega)] at r4
          refine ⟨fun q => by omega, fun q => ?_⟩
          have ea : y - 5 = a := by omega
          rw [ea] at r3
          rw [r3] at r4
          exact absurd r4 hp
      refine ⟨fun b hb q => ?_, fun q => ?_⟩
      · have e : 5 + b = 5 + a := q _ hS rfl
        have e2 : b = a := by omega
        rw [e2]; exact Or.inl rfl
      · have e : 10 = 5 + a := q _ hS rfl
        omega
  refine ⟨fun b hb => ⟨fwd.1 b hb, fun q => ?_⟩, ⟨fwd.2, fun q => ?_⟩⟩
  · rcases q with q | ⟨q1, q2, q3⟩
    · rw [hoi a b ha hb q]; exact con_refl _ _
    · exact con_trans (con_symm (edge a ha q1)) (con_trans (lift _ _ q3) (edge b hb q2))
  · exact con_trans (con_symm (edge a ha q.1)) (lift _ _ q.2)
/-! beyond the wires the table stands still -/
def chk2 (n : Nat) : Nat → List Nat → Bool
  | 0, _ => true
  | f + 1, L => (List.range 5).all (fun e => decide (e < n) || gt L e == e) && chk2 n f (adv n L)
theorem chk2_ok : chk2 2 2 [0, 1, 2, 3, 4] = true ∧ chk2 3 6 [0, 1, 2, 3, 4] = true ∧ chk2 4 24 [0, 1, 2, 3, 4] = true ∧ chk2 5 120 [0, 1, 2, 3, 4] = true := by decide +kernel
theorem chk2_at {n : Nat} : ∀ (f i : Nat), chk2 n f (oL n i) = true → ∀ k, k < f → ∀ e, e < 5 → n ≤ e → gt (oL n (i + k)) e = e := by
  intro f
  induction f with
  | zero => intro i _ k hk; omega
  | succ f ih =>
    intro i h k hk e he hne
    unfold chk2 at h
    rw [Bool.and_eq_true] at h
    cases k with
    | zero =>
      have := List.all_eq_true.mp h.1 e (List.mem_range.mpr he)
      rw [Bool.or_eq_true] at this
      rcases this with z | z
      · have : e < n := by simpa using z
        omega
      · simpa using z
    | succ k =>
      have := ih (i + 1) h.2 k (by omega) e he hne
      rw [show i + 1 + k = i + (k + 1) by omega] at this
      exact this
theorem tail_id {n : Nat} (h2 : 2 ≤ n) (hn : n ≤ 5) {k : Nat} (hk : k < fc n) : ∀ e, e < 5 → gt (oL n k) e = st n 0 (om n k) e := fun e he => by
  unfold st
  by_cases q : e < n
  · rw [if_pos q]; rfl
  · rw [if_neg q, if_pos rfl]
    have hc : chk2 n (fc n) (oL n 0) = true := by
      rcases (show n = 2 ∨ n = 3 ∨ n = 4 ∨ n = 5 by omega) with rfl | rfl | rfl | rfl
      · exact chk2_ok.1
      · exact chk2_ok.2.1
      · exact chk2_ok.2.2.1
      · exact chk2_ok.2.2.2
    have := chk2_at (fc n) 0 hc k hk e he (by omega)
    rw [Nat.zero_add] at this
    exact this
theorem mk_cg {c d : Nat → Nat} {v : Nat} : ∀ k, (∀ w, w < k → c w = d w) → mk c v k = mk d v k := by
  intro k
  induction k with
  | zero => intro _; rfl
  | succ k ih =>
    intro h
    show Nat.lor (mk c v k) _ = Nat.lor (mk d v k) _
    rw [ih (fun w hw => h w (by omega)), h k (by omega)]
theorem lf_cg {n : Nat} {c d : Nat → Nat} (h : ∀ w, w < n → c w = d w) : ∀ k w l er s, w + k = n → lf n c k w l er s = lf n d k w l er s := by
  intro k
  induction k with
  | zero => intro w l er s _; rfl
  | succ k ih =>
    intro w l er s hw
    unfold lf
    rw [h w (by omega), mk_cg n h, ih (w + 1) _ _ _ (by omega), ih (w + 1) _ _ _ (by omega), ih (w + 1) _ _ _ (by omega)]
theorem lab_count {n hr : Nat} {K : Nat → Nat} {T : Nat} {N o c : Nat → Nat} (h2 : 2 ≤ n) (hn : n ≤ 5) (ho : ∀ e, e < n → o e < n) (hoi : ∀ e f, e < n → f < n → o e = o f → e = f) (hL : Lab n hr K T N c) {sm : Nat → Bool} (hsm : ∀ k, k < fc n → (sm k = true ↔ sameR n 1 (NR n (om n k) hr K T N (fun _ => 0)) (NR n o hr K T N (fun _ => 0)))) : gc sm (fc n) = fmw n c := by
  obtain ⟨l1, l2, l3⟩ := hL
  have c7 : ∀ w, w < n → c w < 7 := fun w hw => by rcases l1 w hw with z | z <;> omega
  have fmc : fmw n (g3 (cd (st n 1 c) 5)) = fmw n c := lf_cg (fun w hw => by
    rw [g3_cd 5 (fun i hi => by
      unfold st
      by_cases q : i < n
      · rw [if_pos q]; have := c7 i q; omega
      · rw [if_neg q, if_neg (by omega)]; omega) w (by omega)]
    unfold st
    rw [if_pos hw]) n 0 1 0 (fun _ => 0) (by omega)
  have hok := can_ok h2 hn l1
  unfold okC at hok
  rw [fmc] at hok
  have hin := sl_mem (C := cd (st n 1 c) 5) (Pn n) (perm_in h2 hn ho hoi)
  have e1 := chkc_ok 120 _ hok _ hin
  have e2 := cnt_gc (n := n) (C := cd (st n 1 c) 5) (S := sgc (cd (st n 1 c) 5) (cd (st n 0 o) 5)) (sm := sm) (fc n) 0 (fun j hj => by
    have hj' : j < fc n := by omega
    have oo := orders h2 hn j hj'
    rw [hsm j hj', sgc_iff hn c7 (p := om n j) (q := o) oo.1 ho (tail_id h2 hn hj') (fun _ _ => rfl)]
    unfold sameR
    refine forall_congr' (fun a => forall_congr' (fun ha => and_congr (forall_congr' (fun b => forall_congr' (fun hb1 => forall_congr' (fun hb2 => ?_)))) ?_))
    · have f1 := (far_con (hr := hr) (K := K) (T := T) (N := N) hn oo.1 oo.2.1 ha).1 b hb2
      have f2 := (far_con (hr := hr) (K := K) (T := T) (N := N) hn ho hoi ha).1 b hb2
      rw [l3 (om n j a) (om n j b) (oo.1 a ha) (oo.1 b hb2), l3 _ _ (ho a ha) (ho b hb2)]
      exact iff_congr f1 f2
    · have f1 := (far_con (hr := hr) (K := K) (T := T) (N := N) hn oo.1 oo.2.1 ha).2
      have f2 := (far_con (hr := hr) (K := K) (T := T) (N := N) hn ho hoi ha).2
      rw [l2 (om n j a) (oo.1 a ha), l2 _ (ho a ha)]
      exact iff_congr f1 f2)
  rw [Nat.zero_add, ← Pn_eq h2 hn, e1] at e2
  have g0 : gc sm 0 = 0 := rfl
  omega
end
