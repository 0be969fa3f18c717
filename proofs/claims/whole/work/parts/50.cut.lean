section
theorem toB (C : Nat → Prop) : ∃ f : Nat → Bool, ∀ s, f s = true ↔ C s := ⟨fun s => @decide (C s) (Classical.propDecidable _), fun s => @decide_eq_true_iff (C s) (Classical.propDecidable _)⟩
def pc (k : Nat) : Nat := (k.testBit 0).toNat + (k.testBit 1).toNat + (k.testBit 2).toNat + (k.testBit 3).toNat + (k.testBit 4).toNat
theorem pc_le (k : Nat) : pc k ≤ 5 := by
  unfold pc
  have t : ∀ b : Bool, b.toNat ≤ 1 := fun b => by cases b <;> decide
  have := t (k.testBit 0)
  have := t (k.testBit 1)
  have := t (k.testBit 2)
  have := t (k.testBit 3)
  have := t (k.testBit 4)
  omega
theorem bc5 : ∀ {k : Nat}, k < 32 → bcI (nI k) = nI (pc k) := fun h => co_dec (P := fun k => bcI (nI k) = nI (pc k)) (by decide +kernel) h
theorem bitCount5 {k : Nat} (hk : k < 32) {P : Int32 → Prop} (q : P (nI (pc k))) : wp_Int_bitCount (nI k) P := by
  have e := bc5 hk
  have : P (bcI (nI k)) := by rw [e]; exact q
  exact this
def bsum (s : Nat) : Nat → Nat → Nat
  | 0, _ => 0
  | k + 1, i => (s.testBit i).toNat + bsum s k (i + 1)
theorem bits_lp {s : Nat} (hs : s < 2 ^ 31) : ∀ (k i acc : Nat) (E : Int32 → Prop), i + k = 11 → E (nI (acc + bsum s k i)) → lp_Md_bits_4 (k + 1) (nI s) (nI acc) (nI i) E := by
  intro k
  induction k with
  | zero =>
    intro i acc E hi hE
    unfold lp_Md_bits_4
    exact ⟨fun _ => hE, fun z => absurd (nI_le (a := 11) (by omega) (by omega)) z⟩
  | succ k ih =>
    intro i acc E hi hE
    unfold lp_Md_bits_4
    dsimp only [lt]
    rw [nI_1, bit_shr hs (by omega), nI_add]
    refine ⟨fun z => absurd z (nI_ge (b := 11) (by omega) (by omega)), fun _ => ih (i + 1) _ E (by omega) ?_⟩
    rw [Nat.add_assoc]; exact hE
theorem bsum_pc : ∀ {k : Nat}, k < 32 → bsum k 11 0 = pc k := fun h => co_dec (P := fun k => bsum k 11 0 = pc k) (by decide +kernel) h
theorem bits5 {k : Nat} (hk : k < 32) {P : Int32 → Prop} (q : P (nI (pc k))) : wp_Md_bits (nI k) P := by
  unfold wp_Md_bits
  refine ⟨_, bits_lp (s := k) (by omega) 11 0 0 _ (by omega) ?_⟩
  rw [bsum_pc hk, Nat.zero_add]; exact q
theorem kwb_lp {n s : Nat} (hn : n ≤ 5) (hs : s < 2 ^ n) {K : Nat → Nat} (hK : ∀ w, w < 5 → K w < 4) {h : Hp} (hw : h.1 0 1 = nI n) : ∀ (k i : Nat) (E : Int32 → Prop), i + k = n → E (nI (pk (kc K s))) → lp_Fe_kindsWithBroken_10 (k + 1) (nI s) (nI (pk fun w => if w < i then kc K s w else K w)) (nI i) h E := by
  have hs5 : s < 2 ^ 5 := Nat.lt_of_lt_of_le hs (Nat.pow_le_pow_right (by omega) hn)
  intro k
  induction k with
  | zero =>
    intro i E hi hE
    unfold lp_Fe_kindsWithBroken_10
    rw [hw]
    refine ⟨fun _ => ?_, fun z => absurd (nI_le (by omega) (by omega)) z⟩
    have e : pk (fun w => if w < i then kc K s w else K w) = pk (kc K s) := pack_cg (fun w hw5 => by
      (try dsimp only)
      split
      · rfl
      · rename_i q
        unfold kc
        rw [if_neg]
        rw [Nat.testBit_lt_two_pow (Nat.lt_of_lt_of_le hs (Nat.pow_le_pow_right (by omega) (by omega)))]
        decide)
    rw [e]; exact hE
  | succ k ih =>
    intro i E hi hE
    unfold lp_Fe_kindsWithBroken_10
    dsimp only [jn, lt]
    rw [hw, nI_1, bit_shr (by omega) (by omega)]
    have nx := ih (i + 1) E (by omega) hE
    have hg : ∀ w, w < 5 → (fun w => if w < i then kc K s w else K w) w < 4 := fun w hw5 => by
      (try dsimp only)
      have := hK w hw5
      unfold kc
      split
      · split <;> omega
      · omega
    refine ⟨fun z => absurd z (nI_ge (by omega) (by omega)), fun _ => ⟨fun z => ?_, fun z => ?_⟩⟩
    · have hB : ¬ s.testBit i = true := fun q => by rw [q] at z; exact absurd z (by decide)
      have e : pk (fun w => if w < i then kc K s w else K w) = pk (fun w => if w < i + 1 then kc K s w else K w) := pack_cg (fun w hw5 => by
        (try dsimp only)
        by_cases q : w = i
        · subst q; rw [if_neg (by omega), if_pos (by omega)]; unfold kc; rw [if_neg hB]
        · by_cases q2 : w < i
          · rw [if_pos q2, if_pos (by omega)]
          · rw [if_neg q2, if_neg (by omega)])
      rw [e]; exact nx
    · have hB : s.testBit i = true := by
        cases q : s.testBit i
        · rw [q] at z; exact absurd rfl z
        · rfl
      refine withPart_s (v := 1) hg (by omega) (by omega) ?_
      have e : pk (setd (fun w => if w < i then kc K s w else K w) i 1) = pk (fun w => if w < i + 1 then kc K s w else K w) := pack_cg (fun w hw5 => by
        unfold setd
        (try dsimp only)
        by_cases q : w = i
        · subst q; rw [if_pos rfl, if_pos (by omega)]; unfold kc; rw [if_pos hB]
        · rw [if_neg q]
          by_cases q2 : w < i
          · rw [if_pos q2, if_pos (by omega)]
          · rw [if_neg q2, if_neg (by omega)])
      rw [e]; exact nx
theorem kwb_s {n s : Nat} (hn : n ≤ 5) (hs : s < 2 ^ n) {K : Nat → Nat} (hK : ∀ w, w < 5 → K w < 4) {h : Hp} (hw : h.1 0 1 = nI n) (h26 : h.1 26 0 = nI (pk K)) {P : Int32 → Prop} (k : P (nI (pk (kc K s)))) : wp_Fe_kindsWithBroken (nI s) h P := by
  unfold wp_Fe_kindsWithBroken
  dsimp only [lt]
  rw [h26]
  have := kwb_lp hn hs hK hw n 0 P (by omega) k
  have e : pk (fun w => if w < 0 then kc K s w else K w) = pk K := pack_cg (fun w _ => by simp)
  rw [e] at this
  exact ⟨_, this⟩
/-- the best of the sets below k -/
def cb (rg : Nat → Bool) : Nat → Option Nat
  | 0 => none
  | k + 1 => match cb rg k with
    | none => if rg k then none else some k
    | some b => if pc k < pc b ∧ rg k = false then some k else some b
def oI : Option Nat → Int32
  | none => -1
  | some b => nI b
def oF : Option Nat → Int32
  | none => 1048576
  | some b => nI (pc b)
theorem cb_lt {rg : Nat → Bool} : ∀ {k b : Nat}, cb rg k = some b → b < k := by
  intro k
  induction k with
  | zero => intro b h; exact absurd h (by simp [cb])
  | succ k ih =>
    intro b h
    unfold cb at h
    split at h
    · split at h
      · exact absurd h (by simp)
      · have : k = b := by simpa using h
        omega
    · rename_i b' hb
      split at h
      · have : k = b := by simpa using h
        omega
      · have e : b' = b := by simpa using h
        have := ih hb
        omega
theorem cut_F {n : Nat} {o : Nat → Nat} {m : Nat → Nat} (hwf : WF n m) {i jb : Nat} {b : Int32} (hi : i < n) (hb : bnd n (m 0) b jb) {rg : Nat → Bool} (hrg : ∀ s, s < 2 ^ n → (rg s = true ↔ Con (NR n o (m 1) (kc (fun w => m (5 + w)) s) (m 4) (fun w => m (10 + w)) (fun w => m (15 + w))) (5 * m 0 + i) jb)) {h0 : Hp} (a1 : R1 n o h0) (a2 : R2 n m h0) : ∀ (k s : Nat) (h : Hp) (E : Int32 → Hp → Prop), s + k = 2 ^ n → Sc h0 h → (∀ h2, Sc h0 h2 → E (oI (cb rg (2 ^ n))) h2) → lp_Fe_cut_17 (k + 1) (nI i) b (oI (cb rg s)) (nI s) h E := by
  have hn := a1.2.2.1
  have h32 : 2 ^ n ≤ 32 := by
    have : 2 ^ n ≤ 2 ^ 5 := Nat.pow_le_pow_right (by omega) hn
    omega
  intro k
  induction k with
  | zero =>
    intro s h E hs hsc hE
    have e : s = 2 ^ n := by omega
    subst e
    unfold lp_Fe_cut_17
    rw [(a1.sc hsc).1, shl1 (by omega)]
    exact ⟨fun _ => hE h hsc, fun z => absurd (nI_le (by omega) (by omega)) z⟩
  | succ k ih =>
    intro s h E hs hsc hE
    have c1 := a1.sc hsc
    have c2 := a2.sc hsc
    unfold lp_Fe_cut_17
    dsimp only [jn, lt]
    rw [c1.1, shl1 (by omega), nI_1]
    refine ⟨fun z => absurd z (nI_ge (by omega) (by omega)), fun _ => ?_⟩
    have yes : ∀ x : Int32, x = oI (cb rg s) → (cb rg (s + 1) = if rg s then cb rg s else some s) → ((1 : Int32) = 0 → lp_Fe_cut_17 (k + 1) (nI i) b x (nI (s + 1)) h E) ∧ (¬ (1 : Int32) = 0 → wp_Fe_kindsWithBroken (nI s) h (fun (v61 : Int32) => wp_Fe_ringsBy v61 (nI i) b h (fun (v66 : Bool) (h66 : Hp) => ((v66 = true) → lp_Fe_cut_17 (k + 1) (nI i) b x (nI (s + 1)) h66 E) ∧ ((¬ v66 = true) → lp_Fe_cut_17 (k + 1) (nI i) b (nI s) (nI (s + 1)) h66 E)))) := fun x hx hc => by
      refine ⟨fun z => absurd z (by decide), fun _ => kwb_s hn (by omega) (fun w hw => (hwf.2.2.2.2.2 w hw).1) c1.1 c2.1.1 (ringsBy_s c1 c2.1 hwf (fun w hw => ?_) hi hb (fun v h2 q1 q2 hsc2 hv => ?_))⟩
      · have := (hwf.2.2.2.2.2 w hw).1
        unfold kc
        split <;> omega
      · have ev : v = rg s := iff_b hv (hrg s (by omega))
        refine ⟨fun z => ?_, fun z => ?_⟩
        · have := ih (s + 1) h2 E (by omega) (hsc.trans hsc2) hE
          rw [hc, ← ev, if_pos z, ← hx] at this
          exact this
        · have := ih (s + 1) h2 E (by omega) (hsc.trans hsc2) hE
          rw [hc, ← ev, if_neg z] at this
          exact this
    cases hc : cb rg s with
    | none =>
      have e1 : cb rg (s + 1) = if rg s then none else some s := by
        show (match cb rg s with | none => if rg s then none else some s | some b => if pc s < pc b ∧ rg s = false then some s else some b) = _
        rw [hc]
      exact ⟨fun _ => yes _ (by rw [hc]) (by rw [e1, hc]), fun z => absurd rfl z⟩
    | some b' =>
      have hb' := cb_lt hc
      have e1 : cb rg (s + 1) = if pc s < pc b' ∧ rg s = false then some s else some b' := by
        show (match cb rg s with | none => if rg s then none else some s | some b => if pc s < pc b ∧ rg s = false then some s else some b) = _
        rw [hc]
      have l1 := pc_le s
      have l2 := pc_le b'
      refine ⟨fun z => absurd z (m1_ne (by omega)), fun _ => bitCount5 (by omega) (bitCount5 (by omega) ⟨fun z => ⟨fun _ => ?_, fun y => absurd rfl y⟩, fun z => ?_⟩)⟩
      · have := ih (s + 1) h E (by omega) hsc hE
        have hp : ¬ pc s < pc b' := by have := (nI_leI (by omega) (by omega)).mp z; omega
        rw [e1, if_neg (fun q => hp q.1)] at this
        exact this
      · have hp : pc s < pc b' := Nat.lt_of_not_le (fun q => z (nI_le q (by omega)))
        refine yes _ (by rw [hc]) ?_
        rw [e1, hc]
        cases rg s
        · rw [if_pos ⟨hp, rfl⟩]; rfl
        · rw [if_neg (fun q => absurd q.2 (by decide))]; rfl
theorem cut_M {n : Nat} {o : Nat → Nat} {m : Nat → Nat} (hwf : WF n m) {i jb : Nat} {b : Int32} (hi : i < n) (hb : bnd n (m 0) b jb) {rg : Nat → Bool} (hrg : ∀ s, s < 2 ^ n → (rg s = true ↔ Con (NR n o (m 1) (kc (fun w => m (5 + w)) s) (m 4) (fun w => m (10 + w)) (fun w => m (15 + w))) (5 * m 0 + i) jb)) {h : Hp} (a1 : R1 n o h) (a2 : R2 n m h) : ∀ (k s : Nat) (E : Int32 → Prop), s + k = 2 ^ n → E (oI (cb rg (2 ^ n))) → lp_Md_cut_27 (k + 1) (nI i) b (oI (cb rg s)) (oF (cb rg s)) (nI s) h E := by
  have hn := a1.2.2.1
  have h32 : 2 ^ n ≤ 32 := by
    have : 2 ^ n ≤ 2 ^ 5 := Nat.pow_le_pow_right (by omega) hn
    omega
  intro k
  induction k with
  | zero =>
    intro s E hs hE
    have e : s = 2 ^ n := by omega
    subst e
    unfold lp_Md_cut_27
    rw [a1.2.1, shl1 (by omega)]
    exact ⟨fun _ => hE, fun z => absurd (nI_le (by omega) (by omega)) z⟩
  | succ k ih =>
    intro s E hs hE
    have l1 := pc_le s
    have nx := ih (s + 1) E (by omega) hE
    unfold lp_Md_cut_27
    dsimp only [jn, lt]
    rw [a1.2.1, shl1 (by omega), nI_1]
    refine ⟨fun z => absurd z (nI_ge (by omega) (by omega)), fun _ => bits5 (by omega) ?_⟩
    cases hc : cb rg s with
    | none =>
      have e1 : cb rg (s + 1) = if rg s then none else some s := by
        show (match cb rg s with | none => if rg s then none else some s | some b => if pc s < pc b ∧ rg s = false then some s else some b) = _
        rw [hc]
      refine ⟨fun z => absurd z (nI_ge (b := 1048576) (by omega) (by omega)), fun _ => ringsNow_s a1 a2.2.1 hwf (by omega) hi hb (fun v hv => ?_)⟩
      have ev : v = rg s := iff_b hv (hrg s (by omega))
      rw [e1, ← ev] at nx
      refine ⟨fun z => ?_, fun z => bits5 (by omega) ?_⟩
      · rw [if_pos z] at nx; exact nx
      · rw [if_neg z] at nx; exact nx
    | some b' =>
      have hb' := cb_lt hc
      have l2 := pc_le b'
      have e1 : cb rg (s + 1) = if pc s < pc b' ∧ rg s = false then some s else some b' := by
        show (match cb rg s with | none => if rg s then none else some s | some b => if pc s < pc b ∧ rg s = false then some s else some b) = _
        rw [hc]
      refine ⟨fun z => ?_, fun z => ringsNow_s a1 a2.2.1 hwf (by omega) hi hb (fun v hv => ?_)⟩
      · have hp : ¬ pc s < pc b' := by have := (nI_leI (by omega) (by omega)).mp z; omega
        rw [e1, if_neg (fun q => hp q.1)] at nx
        exact nx
      · have hp : pc s < pc b' := Nat.lt_of_not_le (fun q => z (nI_le q (by omega)))
        have ev : v = rg s := iff_b hv (hrg s (by omega))
        rw [e1, ← ev] at nx
        refine ⟨fun y => ?_, fun y => bits5 (by omega) ?_⟩
        · rw [if_neg (fun q => by rw [y] at q; exact absurd q.2 (by decide))] at nx; exact nx
        · rw [if_pos ⟨hp, by simpa using y⟩] at nx; exact nx
theorem G17 : ∀ (h : Hp) (p0 p1 : Int32), Rel h → wp_Fe_cut p0 p1 h (fun v1 h1 => wp_Md_cut p0 p1 h1 (fun v2 => v1 = v2 ∧ Rel h1)) := by
  intro h p0 p1 hR
  obtain ⟨n, o, a1, ⟨m, a2⟩, a3, a4, a5, a6, a7, a8, a9⟩ := id hR
  obtain ⟨hcs, hml, hwf⟩ := id a2
  have hw := a1.1
  have hw2 := a1.2.1
  have hn := a1.2.2.1
  unfold wp_Fe_cut
  by_cases hh : vld n p0 ∧ vld n p1 ∧ p0 ≠ p1
  · obtain ⟨⟨i, hi, rfl⟩, ⟨j, hj, rfl⟩, hne⟩ := id hh
    rw [two_t hw hn ⟨i, hi, rfl⟩ ⟨j, hj, rfl⟩ hne]
    refine ⟨fun _ => ?_, fun z => absurd rfl z⟩
    have hb : bnd n (m 0) (nI j) (5 * m 0 + j) := Or.inr ⟨j, hj, rfl, rfl⟩
    obtain ⟨rg, hrg⟩ : ∃ rg : Nat → Bool, ∀ s, s < 2 ^ n → (rg s = true ↔ Con (NR n o (m 1) (kc (fun w => m (5 + w)) s) (m 4) (fun w => m (10 + w)) (fun w => m (15 + w))) (5 * m 0 + i) (5 * m 0 + j)) :=
      (toB _).imp (fun rg q s _ => q s)
    refine ⟨_, cut_F hwf hi hb hrg a1 a2 (2 ^ n) 0 h _ (by omega) (Sc.refl h) (fun h2 hsc => ?_)⟩
    (try dsimp only)
    unfold wp_Md_cut
    refine ⟨fun z => absurd z (m1_ne (by omega)), fun _ => ?_⟩
    rw [ends_t (a1.sc hsc).2.1 hn ⟨⟨i, hi, rfl⟩, Or.inr ⟨⟨j, hj, rfl⟩, hne⟩⟩]
    exact ⟨fun _ => ⟨_, cut_M hwf hi hb hrg (a1.sc hsc) (a2.sc hsc) (2 ^ n) 0 _ (by omega) ⟨rfl, hR.sc hsc⟩⟩, fun z => absurd rfl z⟩
  · rw [two_f hw hn hh]
    refine ⟨fun z => absurd z (by decide), fun _ => ?_⟩
    (try dsimp only)
    unfold wp_Md_cut
    refine ⟨fun _ => ⟨rfl, hR⟩, fun z => ?_⟩
    rw [ends_f hw2 hn (fun q => hh ⟨q.1, q.2.resolve_left z⟩)]
    exact ⟨fun z => absurd z (by decide), fun _ => ⟨rfl, hR⟩⟩
end
