section
/-- ints by cell and place, longs by cell and place -/
abbrev Hp : Type := (Nat → Nat → Int32) × (Nat → Nat → Int64)
def wi (h : Hp) (c k : Nat) (v : Int32) : Hp := (fun c' => if c' = c then upd (h.1 c) k v else h.1 c', h.2)
def wl (h : Hp) (c k : Nat) (v : Int64) : Hp := (h.1, fun c' => if c' = c then vp_updL (h.2 c) k v else h.2 c')
def wc (h : Hp) (c1 c2 n : Nat) : Hp := (fun c' => if c' = c2 then va_cpy (h.1 c1) (h.1 c2) 0 0 n else h.1 c', h.2)
def bI (b : Bool) : Int32 := if b = true then 1 else 0
def fac : Nat → Int32 := fun k => match k with | 0 => 1 | 1 => 1 | 2 => 2 | 3 => 6 | 4 => 24 | _ => 120
/-- the kind of a cell -/
def kd (i : Nat) : Nat := if i < 8 then i else if i < 10 then 8 else if i < 29 then 9 else if i < 37 then 10 else if i < 46 then 11 else if i < 64 then 12 else if i = 64 then 13 else if i = 65 then 14 else if i = 66 then 15 else if i = 89 then 16 else if i < 99 then 12 else 17
/-- the length of a row of ints -/
def al (i : Nat) : Nat := if i < 67 then 11 else match i with | 67 => 240 | 70 => 15 | 71 => 15 | 75 => 25 | 81 => 112 | 82 => 15 | 83 => 15 | 84 => 240 | 87 => 320 | 88 => 40 | 90 => 2 | 92 => 112 | 95 => 25 | _ => 5
def en (cs : Nat → ClassId) (φ : Nat → Nat) (h : Hp) (i : Nat) : va_E := match kd i with
  | 0 => .inr (10, [.ref (φ 1), .int (h.1 i 1), .ref (φ 69), .ref (φ 26), .ref (φ 2), .ref (φ 3), .ref (φ 65), .ref (φ 66), .int (h.1 i 8), .ref (φ 70), .ref (φ 71), .int (h.1 i 11), .ref (φ 45), .ref (φ 4), .ref (φ 5), .ref (φ 6)])
  | 1 => .inr (6, [.ref (φ 67), .int (h.1 i 1), .int (h.1 i 2), .int (h.1 i 3), .int (h.1 i 4), .ref (φ 68), .int (h.1 i 6), .int (h.1 i 7), .int (h.1 i 8), .int (h.1 i 9), .int (h.1 i 10)])
  | 2 => .inr (5, [.ref (φ 64), .int (h.1 i 1), .int (h.1 i 2)])
  | 3 => .inr (0, [.int (h.1 i 0)])
  | 4 => .inr (4, [.ref (φ 72)])
  | 5 => .inr (1, [.int (h.1 i 0), .ref (φ 73), .ref (φ 74), .ref (φ 75)])
  | 6 => .inr (9, [.ref (φ 76)])
  | 7 => .inr (11, [.int (h.1 i 0), .ref (φ 77), .int (h.1 i 2), .int (h.1 i 3), .int (h.1 i 4), .int (h.1 i 5), .int (h.1 i 6), .ref (φ 78), .ref (φ 79), .ref (φ 80), .long (h.2 i 10), .int (h.1 i 11), .ref (φ 81), .int (h.1 i 13), .ref (φ 82), .ref (φ 83), .ref (φ 84), .int (h.1 i 17), .int (h.1 i 18), .int (h.1 i 19), .int (h.1 i 20), .int (h.1 i 21), .int (h.1 i 22), .ref (φ 85), .ref (φ 86), .int (h.1 i 25), .int (h.1 i 26), .ref (φ 87), .int (h.1 i 28), .ref (φ 88), .ref (φ 89), .ref (φ 90), .ref (φ 91), .ref (φ 92), .int (h.1 i 34), .ref (φ 93), .ref (φ 94), .ref (φ 95), .ref (φ 96), .ref (φ 97), .ref (φ 98)])
  | 8 => .inr (2, [.ref (φ (i + 19)), .int (h.1 i 1), .int (h.1 i 2)])
  | 9 => .inr (8, [.int (h.1 i 0), .int (h.1 i 1), .int (h.1 i 2), .int (h.1 i 3), .int (h.1 i 4), .int (h.1 i 5), .int (h.1 i 6), .int (h.1 i 7)])
  | 10 => .inr (7, [.int (h.1 i 0), .int (h.1 i 1), .int (h.1 i 2), .int (h.1 i 3), .int (h.1 i 4), .int (h.1 i 5), .int (h.1 i 6), .ref (φ (i + 8))])
  | 11 => .inr (3, [.ref (φ (i + 9)), .ref (φ (i + 18))])
  | 13 => .inl (cs 2, 16, .inr (.inr (.inr (.inr (fun k => some (φ (10 + k)))))))
  | 14 => .inl (cs 3, 2, .inr (.inr (.inr (.inr (fun k => some (φ (8 + k)))))))
  | 15 => .inl (cs 4, 8, .inr (.inr (.inr (.inr (fun k => some (φ (29 + k)))))))
  | 16 => .inl (cs 1, 2, .inr (.inl (h.2 i)))
  | _ => .inl (cs 0, al i, .inl (h.1 i))
theorem en_c {cs : Nat → ClassId} {φ : Nat → Nat} {h h' : Hp} {i : Nat} (a : h.1 i = h'.1 i) (b : h.2 i = h'.2 i) : en cs φ h i = en cs φ h' i := by simp only [en, a, b]
theorem wi_ne {h : Hp} {c k : Nat} {v : Int32} {i : Nat} (hi : i ≠ c) : (wi h c k v).1 i = h.1 i := by simp [wi, hi]
theorem wi_eq {h : Hp} {c k : Nat} {v : Int32} : (wi h c k v).1 c = upd (h.1 c) k v := by simp [wi]
theorem wi_2 {h : Hp} {c k : Nat} {v : Int32} : (wi h c k v).2 = h.2 := rfl
theorem wl_ne {h : Hp} {c k : Nat} {v : Int64} {i : Nat} (hi : i ≠ c) : (wl h c k v).2 i = h.2 i := by simp [wl, hi]
theorem wl_eq {h : Hp} {c k : Nat} {v : Int64} : (wl h c k v).2 c = vp_updL (h.2 c) k v := by simp [wl]
theorem wl_1 {h : Hp} {c k : Nat} {v : Int64} : (wl h c k v).1 = h.1 := rfl
theorem wc_ne {h : Hp} {c1 c2 n i : Nat} (hi : i ≠ c2) : (wc h c1 c2 n).1 i = h.1 i := by simp [wc, hi]
theorem wc_eq {h : Hp} {c1 c2 n : Nat} : (wc h c1 c2 n).1 c2 = va_cpy (h.1 c1) (h.1 c2) 0 0 n := by simp [wc]
theorem wc_2 {h : Hp} {c1 c2 n : Nat} : (wc h c1 c2 n).2 = h.2 := rfl
def tys (cs : Nat → ClassId) : List (ClassId × FieldType) := [(cs 0, .int), (cs 1, .long), (cs 2, .object "FarEnds$State"), (cs 3, .object "FarEnds$Image"), (cs 4, .object "FarEnds$Seen")]
def wlst (cs : Nat → ClassId) (φ : Nat → Nat) (h : Hp) : va_W := (List.range 99).map (fun i => (φ i, en cs φ h i))
def Wh (D : va_G) (cs : Nat → ClassId) (φ : Nat → Nat) (h : Hp) (H : Heap) : Prop := va_P D vwCl (wlst cs φ h) H
def inj (φ : Nat → Nat) : Prop := ∀ i j, i < 99 → j < 99 → φ i = φ j → i = j
theorem wl_get {cs : Nat → ClassId} {φ : Nat → Nat} {h : Hp} {r : Nat} (hr : r < 99) : (wlst cs φ h)[r]? = some (φ r, en cs φ h r) := by simp [wlst, hr]
theorem wl_len {cs : Nat → ClassId} {φ : Nat → Nat} {h : Hp} : (wlst cs φ h).length = 99 := by simp [wlst]
theorem wl_none {cs : Nat → ClassId} {φ : Nat → Nat} {h : Hp} {r : Nat} (hr : ¬ r < 99) : (wlst cs φ h)[r]? = none := by simp [wlst]; omega
theorem wl_lt {cs : Nat → ClassId} {φ : Nat → Nat} {h : Hp} {r : Nat} {q : Nat × va_E} (hq : (wlst cs φ h)[r]? = some q) : r < 99 ∧ q = (φ r, en cs φ h r) := by
  by_cases hr : r < 99
  · rw [wl_get hr] at hq; exact ⟨hr, (Option.some.inj hq).symm⟩
  · rw [wl_none hr] at hq; cases hq
theorem wl_set {cs : Nat → ClassId} {φ : Nat → Nat} {h h' : Hp} {r : Nat} {e : va_E} (he : en cs φ h' r = e) (ho : ∀ i, i ≠ r → en cs φ h' i = en cs φ h i) : (wlst cs φ h).set r (φ r, e) = wlst cs φ h' := by
  subst he
  apply List.ext_getElem?
  intro i
  by_cases hi : i < 99
  · by_cases hr : i = r
    · subst hr
      rw [List.getElem?_set_self (by rw [wl_len]; exact hi), wl_get hi]
    · rw [List.getElem?_set_ne (Ne.symm hr), wl_get hi, wl_get hi, ho i hr]
  · rw [wl_none hi, List.getElem?_eq_none_iff.mpr (by rw [List.length_set, wl_len]; omega)]
theorem wl_D {cs : Nat → ClassId} {φ : Nat → Nat} {h : Hp} {A : Nat → Prop} (hi : inj φ) (hA : ∀ i, i < 99 → A (φ i)) : va_D A (wlst cs φ h) := by
  refine ⟨fun i j p q hp hq e => ?_, fun k q hq => ?_⟩
  · obtain ⟨h1, rfl⟩ := wl_lt hp
    obtain ⟨h2, rfl⟩ := wl_lt hq
    exact hi i j h1 h2 e
  · obtain ⟨h1, rfl⟩ := wl_lt hq
    exact hA k h1
def isNest : Cond → Bool
  | .methodLinkNest .. => true
  | _ => false
def lw_n : List Cond := tables_1.filter isNest
def lw_g : List Cond := lw_tbl.filter goodWord
theorem lw_n_is {w : Cond} (h : w ∈ lw_n) : ∃ a i x b, w = .methodLinkNest a i x b := by
  have h2 := (List.mem_filter.mp h).2
  cases w <;> first | exact ⟨_, _, _, _, rfl⟩ | cases h2
theorem lw_g_good {w : Cond} (h : w ∈ lw_g) : (w.onTables && w.keeps) = true ∨ ∃ ty, w = .arrayClass ty := good_of_word (List.mem_filter.mp h).2
def Af (φ : Nat → Nat) : Nat → Prop := fun q => ∃ i, i < 99 ∧ q = φ i
def Cx (D : va_G) (cs : Nat → ClassId) (φ : Nat → Nat) (A : Nat → Prop) (U : State) : Prop := va_K D vwCl (tys cs) U ∧ inj φ ∧ (∀ w ∈ lw_n, va_Nw w U) ∧ va_Z "FarEnds" "FACTORIAL" "[I" (.ref (φ 99)) A U U.heap ∧ va_T .int (φ 99) 6 (fun j => .int (fac j)) A U U.heap
def Wd (D : va_G) (cs : Nat → ClassId) (φ : Nat → Nat) (h : Hp) (U : State) : Prop := Wh D cs φ h U.heap ∧ Cx D cs φ (Af φ) U
theorem Cx_calling {D : va_G} {cs : Nat → ClassId} {φ : Nat → Nat} {A : Nat → Prop} {U : State} {g : JFrame} {mk : MethodId} {a : Array Value} (h : Cx D cs φ A U) : Cx D cs φ A (U.calling g mk a) := by
  obtain ⟨h1, h2, h3, h4, h5⟩ := h
  refine ⟨va_K.moved (u := U) (Vm.Alike.refl U.vm) h1, h2, fun w hw => ?_, va_Z.moved (u := U) (U := U.calling g mk a) (Vm.Alike.refl U.vm) h4, va_T.moved (u := U) (U := U.calling g mk a) (Vm.Alike.refl U.vm) h5⟩
  obtain ⟨x1, x2, x3, x4, rfl⟩ := lw_n_is hw
  exact va_Nw.same rfl rfl (h3 _ hw)
theorem Cx_call {D : va_G} {cs : Nat → ClassId} {φ : Nat → Nat} {A : Nat → Prop} {s U : State} {H : Heap} {locs : List Loc} (h : Cx D cs φ A s) (hA : ∀ i, i < 99 → A (φ i)) (hS : va_S A s.heap H locs) (hU : U.heap = H) (hW : s.WarmedH U.vm) : Cx D cs φ (Af φ) U := by
  obtain ⟨h1, h2, h3, h4, h5⟩ := h
  have hAf : ∀ q, Af φ q → A q := fun q ⟨i, hi, e⟩ => by rw [e]; exact hA i hi
  refine ⟨va_K.moved hW.alike h1, h2, fun w hw => ?_, ?_, ?_⟩
  · obtain ⟨x1, x2, x3, x4, rfl⟩ := lw_n_is hw
    exact va_Nw.warmM hW (h3 _ hw)
  · rw [hU]
    exact ((h4.moved hW.alike).kept (H1 := H) hS.2.1).narrow hAf
  · rw [hU]
    exact ((h5.moved hW.alike).kept (H1 := H) hS.2.1).narrow hAf
theorem Wd_calling {D : va_G} {cs : Nat → ClassId} {φ : Nat → Nat} {h : Hp} {U : State} {g : JFrame} {mk : MethodId} {a : Array Value} (q : Wd D cs φ h U) : Wd D cs φ h (U.calling g mk a) := ⟨q.1, Cx_calling q.2⟩
/-- a method: name, code, places, answer, room -/
abbrev Mi : Type := MethodName × ByteArray × Nat × Option FieldType × Room
def QcP (D : va_G) (cs : Nat → ClassId) (φ : Nat → Nat) (post : Option Value → Hp → Prop) : Array Value → State → Outcome → State → Prop := fun _ st oc t => (∃ (r : Option Value) (h' : Hp), oc = .returned r ∧ post r h' ∧ Wh D cs φ h' t.heap) ∧ va_F (Af φ) st t
def wsM (M : Mi) : List Cond := .code M.1 M.2.1 M.2.2.1 M.2.2.2.1 :: lw_g
/-- a method's contract: from the heap h it answers, and leaves a heap, as post says; no cell is made, none but the world's changes -/
def Ct (l : Launch) (D : va_G) (cs : Nat → ClassId) (φ : Nat → Nat) (M : Mi) (av : List Value) (h : Hp) (post : Option Value → Hp → Prop) : Prop :=
  Met l M.1 (wsM M) M.2.2.2.2 (va_Pc av (fun U => Wd D cs φ h U)) (QcP D cs φ post) 0 0 (Af φ)
def asl : Nat → List (Option Value) → List (Nat × Value)
  | _, [] => []
  | n, none :: r => asl (n + 1) r
  | n, some v :: r => (n, v) :: asl (n + 1) r
theorem asl_in {lc : List (Option Value)} : ∀ {n i : Nat} {v : Value}, lc[i]? = some (some v) → (n + i, v) ∈ asl n lc := by
  induction lc with
  | nil => intro n i v h; simp at h
  | cons a r ih =>
    intro n i v h
    cases i with
    | zero =>
      simp at h
      subst h
      simp [asl]
    | succ i =>
      have h2 := ih (n := n + 1) (i := i) (v := v) (by simpa using h)
      rw [Nat.add_right_comm, Nat.add_assoc] at h2
      cases a with
      | none => exact h2
      | some a => exact List.mem_cons_of_mem _ h2
theorem asl_of {lc : List (Option Value)} : ∀ {n : Nat} {q : Nat × Value}, q ∈ asl n lc → ∃ i, q.1 = n + i ∧ lc[i]? = some (some q.2) := by
  induction lc with
  | nil => intro n q h; cases h
  | cons a r ih =>
    intro n q h
    cases a with
    | none =>
      obtain ⟨i, h1, h2⟩ := ih h
      exact ⟨i + 1, by omega, by simpa using h2⟩
    | some a =>
      rcases List.mem_cons.mp h with h | h
      · subst h; exact ⟨0, rfl, rfl⟩
      · obtain ⟨i, h1, h2⟩ := ih h
        exact ⟨i + 1, by omega, by simpa using h2⟩
theorem as_at {ls : Array Slot} {nL : Nat} {lc : List (Option Value)} (h : lv_has ls nL (asl 0 lc)) {i : Nat} {v : Value} (hi : lc[i]? = some (some v)) : ls[i]? = some (.val v) := by
  have h1 := h.2.2 _ (asl_in (n := 0) hi)
  simpa using h1
def stOk (lc : List (Option Value)) : Nat → Bool
  | 0 => true
  | i + 1 => match lc[i]? with
    | some (some v) => v.category != 2
    | _ => true
theorem as_set {ls : Array Slot} {nL i : Nat} {lc : List (Option Value)} {v : Value} (hk : stOk lc i = true) (h : lv_has ls nL ((i, v) :: (asl 0 lc).filter (fun q => !(q.1 == i) && !(q.1 + 1 == i && q.2.category == 2)))) : lv_has ls nL (asl 0 (lc.set i (some v))) := by
  refine ⟨h.1, h.2.1, fun q hq => ?_⟩
  obtain ⟨j, h1, h2⟩ := asl_of hq
  rw [Nat.zero_add] at h1
  apply h.2.2
  by_cases e : j = i
  · subst e
    have hl : j < lc.length := by
      have := (List.getElem?_eq_some_iff.mp h2).1
      simpa using this
    rw [List.getElem?_set_self hl] at h2
    have e2 : q = (j, v) := by
      obtain ⟨q1, q2⟩ := q
      simp at h1 h2
      rw [h1, h2]
    rw [e2]; exact List.mem_cons_self
  · rw [List.getElem?_set_ne (Ne.symm e)] at h2
    apply List.mem_cons_of_mem
    apply List.mem_filter.mpr
    refine ⟨?_, ?_⟩
    · have := asl_in (n := 0) h2
      rw [Nat.zero_add, ← h1] at this
      exact this
    · simp only [h1, Bool.and_eq_true, Bool.not_eq_true', beq_eq_false_iff_ne, ne_eq, Bool.and_eq_false_iff]
      refine ⟨e, ?_⟩
      by_cases e2 : j + 1 = i
      · right
        subst e2
        simpa [stOk, h2] using hk
      · left; simpa using e2
theorem as_set2 {ls : Array Slot} {nL i : Nat} {lc : List (Option Value)} {v : Value} (hk : stOk lc i = true) (h : lv_has ls nL ((i, v) :: (asl 0 lc).filter (fun q => !(q.1 == i) && (!(q.1 == i + 1) && !(q.1 + 1 == i && q.2.category == 2))))) : lv_has ls nL (asl 0 ((lc.set i (some v)).set (i + 1) none)) := by
  refine ⟨h.1, h.2.1, fun q hq => ?_⟩
  obtain ⟨j, h1, h2⟩ := asl_of hq
  rw [Nat.zero_add] at h1
  apply h.2.2
  by_cases e0 : j = i + 1
  · subst e0
    by_cases hl : i + 1 < (lc.set i (some v)).length
    · rw [List.getElem?_set_self hl] at h2; cases h2
    · rw [List.getElem?_eq_none_iff.mpr (by simp at hl ⊢; omega)] at h2; cases h2
  rw [List.getElem?_set_ne (Ne.symm e0)] at h2
  by_cases e : j = i
  · subst e
    have hl : j < lc.length := by
      have := (List.getElem?_eq_some_iff.mp h2).1
      simpa using this
    rw [List.getElem?_set_self hl] at h2
    have e2 : q = (j, v) := by
      obtain ⟨q1, q2⟩ := q
      simp at h1 h2
      rw [h1, h2]
    rw [e2]; exact List.mem_cons_self
  · rw [List.getElem?_set_ne (Ne.symm e)] at h2
    apply List.mem_cons_of_mem
    apply List.mem_filter.mpr
    refine ⟨?_, ?_⟩
    · have := asl_in (n := 0) h2
      rw [Nat.zero_add, ← h1] at this
      exact this
    · simp only [h1, Bool.and_eq_true, Bool.not_eq_true', beq_eq_false_iff_ne, ne_eq, Bool.and_eq_false_iff]
      refine ⟨e, e0, ?_⟩
      by_cases e2 : j + 1 = i
      · right
        subst e2
        simpa [stOk, h2] using hk
      · left; simpa using e2
def Vw (p : Program) (l : Launch) (e : Env) (R : Room) (s : State) (m : MethodId) (args : Array Value) (below : List Frame) (meth : Method) (c : Code) (D : va_G) (cs : Nat → ClassId) (φ : Nat → Nat) (A : Nat → Prop) (nL cells slots : Nat) (Q : State → Prop) (pc : Nat) (lc : List (Option Value)) (st : List Value) (h : Hp) : Prop :=
  ∀ (H : Heap) (locs : List Loc) (ls : Array Slot), Wh D cs φ h H → va_S A s.heap H locs → lv_has ls nL (asl 0 lc) → W p l e R s m args below meth c H locs cells slots Q (F0 m pc ls st)
/-- V is a judgement of the machine in a method of class own with code cc: place, locals, stack, heap -/
def Ru (l : Launch) (D : va_G) (cs : Nat → ClassId) (φ : Nat → Nat) (own : String) (cc : ByteArray) (nL fr lo : Nat) (V : Nat → List (Option Value) → List Value → Hp → Prop) : Prop :=
  ∃ (p : Program) (e : Env) (R : Room) (s : State) (m : MethodId) (args : Array Value) (below : List Frame) (meth : Method) (c : Code) (A : Nat → Prop) (cells slots : Nat) (Q : State → Prop),
    p.tables.exec = Jvm.exec ∧ c.code = cc ∧ c.maxLocals = nL ∧ s.vm.findClass own = some m.cls ∧ (∀ w ∈ lw_g, w.before args s = true) ∧ Cx D cs φ A s ∧ (∀ i, i < 99 → A (φ i)) ∧ R.frames = fr ∧ R.locals = lo ∧ cells ≤ R.cells ∧ slots ≤ R.slots ∧ V = Vw p l e R s m args below meth c D cs φ A nL cells slots Q
theorem Ct.of {l : Launch} {D : va_G} {cs : Nat → ClassId} {φ : Nat → Nat} {M : Mi} {av : List Value} {h : Hp} {post : Option Value → Hp → Prop} (lc : List (Option Value)) (own : String) (fr lo : Nat) (ho : own = M.1.cls) (hy : plainName M.1.cls = true) (hl : asl 0 lc = lv_args 0 av) (hn : (lg_sl av).length ≤ M.2.2.1) (hfr : M.2.2.2.2.frames = fr) (hlo : M.2.2.2.2.locals = lo)
    (body : ∀ V : Nat → List (Option Value) → List Value → Hp → Prop, Ru l D cs φ own M.2.1 M.2.2.1 fr lo V →
      (∀ pc lc v ty h', M.2.2.2.1 = some ty → narrow ty (.int v) = .int v → decode M.2.1 pc = .ok (.ireturn, 1) → post (some (.int v)) h' → V pc lc [.int v] h') →
      (∀ pc lc h', M.2.2.2.1 = none → decode M.2.1 pc = .ok (.return_, 1) → post none h' → V pc lc [] h') → V 0 lc [] h) : Ct l D cs φ M av h post := by
  obtain ⟨y, cc, maxL, ret, rm⟩ := M
  dsimp only at ho hy hn hfr hlo body
  refine Met.ofW (cc := cc) (maxL := maxL) (ret := ret) hy rfl ?_
  intro p e s m args below meth c s₁ B hml hv
  obtain ⟨rfl, hWh, hCx⟩ := hv
  have hts := atoms_spec (ws := wsM (y, cc, maxL, ret, rm)) B.pre
  have hown : s.vm.findClass own = some m.cls := by rw [ho]; exact findClass_of_methodNamed B.named
  have hlocks := B.notSynchronized
  have K := body (Vw p l e (headSpec (wsM (y, cc, maxL, ret, rm)) rm).room s m av.toArray below meth c D cs φ (Af φ) maxL 0 0 (MQ below (QcP D cs φ post) av.toArray s 0 0 (Af φ))) ⟨p, e, _, s, m, av.toArray, below, meth, c, Af φ, 0, 0, _, B.exec, B.bytes, hml, hown, fun w hw => hts w (List.mem_cons_of_mem _ hw), hCx, fun i hi => ⟨i, hi, rfl⟩, hfr, hlo, Nat.zero_le _, Nat.zero_le _, rfl⟩
    (fun pc lc v ty h' e1 e2 hd hp H locs ls hW hS hl => W.zret (ty := ty) B.exec B.bytes (B.returns.trans e1) e2 (fun t ht _ => ⟨⟨_, h', rfl, hp, by rw [ht]; exact hW⟩, hS.F ht⟩) hS.2.2 hd)
    (fun pc lc h' e1 hd hp H locs ls hW hS hl => W.vret B.exec B.bytes (B.returns.trans e1) (fun t ht _ => ⟨⟨_, h', rfl, hp, by rw [ht]; exact hW⟩, hS.F ht⟩) hS.2.2 hd)
  rw [lg_entry_eq]
  exact K s.heap [] _ hWh va_S.rf (by rw [hl]; exact lv_entry av hn)
end
