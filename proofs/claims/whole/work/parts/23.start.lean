/-! THE CLAIM OUT OF ONE WALK OF THE LAW'S BODY. Your part is whole_start (and what it stands on); all else here is the same for every law, but numbers. -/
def R_law : String := "FarEndsLaw"
def lw_P (b : Addr) (xs : List Int32) (args : Array Value) (s : State) : Prop := args = #[.ref b] ∧ s.IntsAt b xs ∧ xs.length ≤ 2048 ∧ (Jvm.Cond.and given_1 narrow_1).before args s = true
def lw_Q (_ : Array Value) (s : State) (o : Outcome) (t : State) : Prop := o = .returned (some (.int 1)) ∧ Framed s o t [] 600000 7302250
def lw_Z (below : List Frame) (a : Array Value) (s : State) : State → Prop := fun t => ∃ o, t.status = .running ∧ Ended t below o ∧ lw_Q a s o t
/-- the law's own end, with 1 on the stack, nothing written that was there before, its room as the claim has it -/
theorem lw_ret {p : Program} {l : Launch} {e : Env} {s : State} {m : MethodId} {below : List Frame} {meth : Method} {c : Code} {b : Nat} (hx : p.tables.exec = Jvm.exec) (hb : c.code = code) (hr : meth.sig.returnType = ret) (hlocks : meth.locks = false) {pc : Nat} {H : Heap} {ls : Array Slot} (hdg : decode code pc = .ok (.ireturn, 1)) : W p l e room_1 s m #[Value.ref b] below meth c H [] 600000 7302250 (lw_Z below #[Value.ref b] s) (F0 m pc ls [.int 1]) := by
  intro T hT X
  obtain ⟨fs, hret, hrun, hended, hW, hframe⟩ := X.leave (v := some (.int 1)) (hlocks := hlocks) (fun h => by rw [hr] at h; cases h)
  have hmeth' : T.vm.method? m = some meth := X.method'
  refine ⟨T.setFrames fs, ?_, .returned (some (.int 1)), hrun, hended, rfl, ⟨_, rfl⟩, hW, hframe⟩
  jvm_step X.here [X.here.top, hx, hb, hdg, hmeth', hr, ret, narrow_b1]
  (try refine ⟨rfl, ?_⟩); (try refine ⟨rfl, ?_⟩)
  first | (intro acts; rw [hret _ acts rfl rfl rfl]) | rw [hret _ _ rfl rfl rfl]
  exact Steps.refl _
/-- what holds at the law's entry: the machine, the code, the tables' words (any of lw_tbl by 'hts w (by decide +kernel)'), the script of L ints xs at the cell b, what the Statement gives of the start (any of its parts by flat_of_before) -/
def lw_At (p : Program) (s : State) (m : MethodId) (meth : Method) (c : Code) (b L : Nat) (xs : Nat → Int32) : Prop :=
  p.tables.exec = Jvm.exec ∧ c.code = code ∧ meth.sig.returnType = ret ∧ c.maxLocals = 4 ∧ s.vm.findClass R_law = some m.cls ∧ (∀ w ∈ lw_tbl, w.before #[Value.ref b] s = true) ∧ va_X b L xs s s.heap ∧ b < s.heap.size ∧ meth.locks = false ∧ (Jvm.Cond.and given_1 narrow_1).before #[Value.ref b] s = true

def pm (i : Nat) : Nat := [0, 1, 6, 24, 32, 34, 38, 76, 40, 42, 8, 9, 10, 11, 12, 13, 14, 15, 16, 17, 18, 19, 20, 21, 22, 23, 5, 41, 43, 44, 48, 52, 56, 60, 64, 68, 72, 45, 49, 53, 57, 61, 65, 69, 73, 29, 46, 50, 54, 58, 62, 66, 70, 74, 30, 47, 51, 55, 59, 63, 67, 71, 75, 31, 7, 25, 26, 2, 3, 4, 27, 28, 33, 35, 36, 37, 39, 77, 78, 79, 80, 81, 82, 83, 84, 85, 86, 87, 88, 89, 90, 91, 92, 93, 94, 95, 96, 97, 98].getD i 0
theorem pm_inj : ∀ i j : Fin 99, pm i.1 = pm j.1 → i = j := by decide +kernel
def ph (u f : Nat) (i : Nat) : Nat := if i = 99 then f else u + pm i
theorem ph_lt {u f i : Nat} (h : i < 99) : ph u f i = u + pm i := by unfold ph; rw [if_neg (by omega)]
theorem ph_inj (u f : Nat) : inj (ph u f) := fun i j hi hj e => by
  rw [ph_lt hi, ph_lt hj] at e
  have := pm_inj ⟨i, hi⟩ ⟨j, hj⟩ (by simpa using e)
  simpa using this
/-- the heap at the start: all is 0, but the two letters of the latest fault -/
def h0 : Hp := (fun c => if c = 1 then (fun k => if k = 3 then -1 else 0) else if c = 7 then (fun k => if k = 20 then -1 else 0) else fun _ => 0, fun _ _ => 0)
theorem arrV_e {c : ClassId} {n : Nat} {f g : Nat → Value} (h : ∀ j, j < n → f j = g j) : arrV c n f = arrV c n g := by
  unfold arrV
  congr 1
  congr 1
  funext j
  exact h j.1 j.2
def t99 (cs : Nat → ClassId) (u : Nat) : List va_E := [.inr (10, [.ref (u + 1), .int 0, .ref (u + 4), .ref (u + 5), .ref (u + 6), .ref (u + 24), .ref (u + 25), .ref (u + 26), .int 0, .ref (u + 27), .ref (u + 28), .int 0, .ref (u + 29), .ref (u + 32), .ref (u + 34), .ref (u + 38)]), .inr (6, [.ref (u + 2), .int 0, .int 0, .int (-1), .int 0, .ref (u + 3), .int 0, .int 0, .int 0, .int 0, .int 0]), .inl (cs 0, 240, .inl (fun _ => 0)), .inl (cs 0, 5, .inl (fun _ => 0)), .inl (cs 0, 5, .inl (fun _ => 0)), .inr (8, [.int 0, .int 0, .int 0, .int 0, .int 0, .int 0, .int 0, .int 0]), .inr (5, [.ref (u + 7), .int 0, .int 0]), .inl (cs 2, 16, .inr (.inr (.inr (.inr (va_up (va_up (va_up (va_up (va_up (va_up (va_up (va_up (va_up (va_up (va_up (va_up (va_up (va_up (va_up (va_up (fun _ => none) ((0 : Int32)).toNatClampNeg (some (u + 8))) ((1 : Int32)).toNatClampNeg (some (u + 9))) ((2 : Int32)).toNatClampNeg (some (u + 10))) ((3 : Int32)).toNatClampNeg (some (u + 11))) ((4 : Int32)).toNatClampNeg (some (u + 12))) ((5 : Int32)).toNatClampNeg (some (u + 13))) ((6 : Int32)).toNatClampNeg (some (u + 14))) ((7 : Int32)).toNatClampNeg (some (u + 15))) ((8 : Int32)).toNatClampNeg (some (u + 16))) ((9 : Int32)).toNatClampNeg (some (u + 17))) ((10 : Int32)).toNatClampNeg (some (u + 18))) ((11 : Int32)).toNatClampNeg (some (u + 19))) ((12 : Int32)).toNatClampNeg (some (u + 20))) ((13 : Int32)).toNatClampNeg (some (u + 21))) ((14 : Int32)).toNatClampNeg (some (u + 22))) ((15 : Int32)).toNatClampNeg (some (u + 23))))))), .inr (8, [.int 0, .int 0, .int 0, .int 0, .int 0, .int 0, .int 0, .int 0]), .inr (8, [.int 0, .int 0, .int 0, .int 0, .int 0, .int 0, .int 0, .int 0]), .inr (8, [.int 0, .int 0, .int 0, .int 0, .int 0, .int 0, .int 0, .int 0]), .inr (8, [.int 0, .int 0, .int 0, .int 0, .int 0, .int 0, .int 0, .int 0]), .inr (8, [.int 0, .int 0, .int 0, .int 0, .int 0, .int 0, .int 0, .int 0]), .inr (8, [.int 0, .int 0, .int 0, .int 0, .int 0, .int 0, .int 0, .int 0]), .inr (8, [.int 0, .int 0, .int 0, .int 0, .int 0, .int 0, .int 0, .int 0]), .inr (8, [.int 0, .int 0, .int 0, .int 0, .int 0, .int 0, .int 0, .int 0]), .inr (8, [.int 0, .int 0, .int 0, .int 0, .int 0, .int 0, .int 0, .int 0]), .inr (8, [.int 0, .int 0, .int 0, .int 0, .int 0, .int 0, .int 0, .int 0]), .inr (8, [.int 0, .int 0, .int 0, .int 0, .int 0, .int 0, .int 0, .int 0]), .inr (8, [.int 0, .int 0, .int 0, .int 0, .int 0, .int 0, .int 0, .int 0]), .inr (8, [.int 0, .int 0, .int 0, .int 0, .int 0, .int 0, .int 0, .int 0]), .inr (8, [.int 0, .int 0, .int 0, .int 0, .int 0, .int 0, .int 0, .int 0]), .inr (8, [.int 0, .int 0, .int 0, .int 0, .int 0, .int 0, .int 0, .int 0]), .inr (8, [.int 0, .int 0, .int 0, .int 0, .int 0, .int 0, .int 0, .int 0]), .inr (0, [.int 0]), .inl (cs 3, 2, .inr (.inr (.inr (.inr (va_up (va_up (fun _ => none) ((0 : Int32)).toNatClampNeg (some (u + 40))) ((1 : Int32)).toNatClampNeg (some (u + 42))))))), .inl (cs 4, 8, .inr (.inr (.inr (.inr (va_up (va_up (va_up (va_up (va_up (va_up (va_up (va_up (fun _ => none) ((0 : Int32)).toNatClampNeg (some (u + 44))) ((1 : Int32)).toNatClampNeg (some (u + 48))) ((2 : Int32)).toNatClampNeg (some (u + 52))) ((3 : Int32)).toNatClampNeg (some (u + 56))) ((4 : Int32)).toNatClampNeg (some (u + 60))) ((5 : Int32)).toNatClampNeg (some (u + 64))) ((6 : Int32)).toNatClampNeg (some (u + 68))) ((7 : Int32)).toNatClampNeg (some (u + 72))))))), .inl (cs 0, 15, .inl (fun _ => 0)), .inl (cs 0, 15, .inl (fun _ => 0)), .inr (3, [.ref (u + 30), .ref (u + 31)]), .inl (cs 0, 11, .inl (fun _ => 0)), .inl (cs 0, 11, .inl (fun _ => 0)), .inr (4, [.ref (u + 33)]), .inl (cs 0, 5, .inl (fun _ => 0)), .inr (1, [.int 0, .ref (u + 35), .ref (u + 36), .ref (u + 37)]), .inl (cs 0, 5, .inl (fun _ => 0)), .inl (cs 0, 5, .inl (fun _ => 0)), .inl (cs 0, 25, .inl (fun _ => 0)), .inr (9, [.ref (u + 39)]), .inl (cs 0, 5, .inl (fun _ => 0)), .inr (2, [.ref (u + 41), .int 0, .int 0]), .inr (8, [.int 0, .int 0, .int 0, .int 0, .int 0, .int 0, .int 0, .int 0]), .inr (2, [.ref (u + 43), .int 0, .int 0]), .inr (8, [.int 0, .int 0, .int 0, .int 0, .int 0, .int 0, .int 0, .int 0]), .inr (7, [.int 0, .int 0, .int 0, .int 0, .int 0, .int 0, .int 0, .ref (u + 45)]), .inr (3, [.ref (u + 46), .ref (u + 47)]), .inl (cs 0, 11, .inl (fun _ => 0)), .inl (cs 0, 11, .inl (fun _ => 0)), .inr (7, [.int 0, .int 0, .int 0, .int 0, .int 0, .int 0, .int 0, .ref (u + 49)]), .inr (3, [.ref (u + 50), .ref (u + 51)]), .inl (cs 0, 11, .inl (fun _ => 0)), .inl (cs 0, 11, .inl (fun _ => 0)), .inr (7, [.int 0, .int 0, .int 0, .int 0, .int 0, .int 0, .int 0, .ref (u + 53)]), .inr (3, [.ref (u + 54), .ref (u + 55)]), .inl (cs 0, 11, .inl (fun _ => 0)), .inl (cs 0, 11, .inl (fun _ => 0)), .inr (7, [.int 0, .int 0, .int 0, .int 0, .int 0, .int 0, .int 0, .ref (u + 57)]), .inr (3, [.ref (u + 58), .ref (u + 59)]), .inl (cs 0, 11, .inl (fun _ => 0)), .inl (cs 0, 11, .inl (fun _ => 0)), .inr (7, [.int 0, .int 0, .int 0, .int 0, .int 0, .int 0, .int 0, .ref (u + 61)]), .inr (3, [.ref (u + 62), .ref (u + 63)]), .inl (cs 0, 11, .inl (fun _ => 0)), .inl (cs 0, 11, .inl (fun _ => 0)), .inr (7, [.int 0, .int 0, .int 0, .int 0, .int 0, .int 0, .int 0, .ref (u + 65)]), .inr (3, [.ref (u + 66), .ref (u + 67)]), .inl (cs 0, 11, .inl (fun _ => 0)), .inl (cs 0, 11, .inl (fun _ => 0)), .inr (7, [.int 0, .int 0, .int 0, .int 0, .int 0, .int 0, .int 0, .ref (u + 69)]), .inr (3, [.ref (u + 70), .ref (u + 71)]), .inl (cs 0, 11, .inl (fun _ => 0)), .inl (cs 0, 11, .inl (fun _ => 0)), .inr (7, [.int 0, .int 0, .int 0, .int 0, .int 0, .int 0, .int 0, .ref (u + 73)]), .inr (3, [.ref (u + 74), .ref (u + 75)]), .inl (cs 0, 11, .inl (fun _ => 0)), .inl (cs 0, 11, .inl (fun _ => 0)), .inr (11, [.int 0, .ref (u + 77), .int 0, .int 0, .int 0, .int 0, .int 0, .ref (u + 78), .ref (u + 79), .ref (u + 80), .long 0, .int 0, .ref (u + 81), .int 0, .ref (u + 82), .ref (u + 83), .ref (u + 84), .int 0, .int 0, .int 0, .int (-1), .int 0, .int 0, .ref (u + 85), .ref (u + 86), .int 0, .int 0, .ref (u + 87), .int 0, .ref (u + 88), .ref (u + 89), .ref (u + 90), .ref (u + 91), .ref (u + 92), .int 0, .ref (u + 93), .ref (u + 94), .ref (u + 95), .ref (u + 96), .ref (u + 97), .ref (u + 98)]), .inl (cs 0, 5, .inl (fun _ => 0)), .inl (cs 0, 5, .inl (fun _ => 0)), .inl (cs 0, 5, .inl (fun _ => 0)), .inl (cs 0, 5, .inl (fun _ => 0)), .inl (cs 0, 112, .inl (fun _ => 0)), .inl (cs 0, 15, .inl (fun _ => 0)), .inl (cs 0, 15, .inl (fun _ => 0)), .inl (cs 0, 240, .inl (fun _ => 0)), .inl (cs 0, 5, .inl (fun _ => 0)), .inl (cs 0, 5, .inl (fun _ => 0)), .inl (cs 0, 320, .inl (fun _ => 0)), .inl (cs 0, 40, .inl (fun _ => 0)), .inl (cs 1, 2, .inr (.inl (fun _ => 0))), .inl (cs 0, 2, .inl (fun _ => 0)), .inl (cs 0, 5, .inl (fun _ => 0)), .inl (cs 0, 112, .inl (fun _ => 0)), .inl (cs 0, 5, .inl (fun _ => 0)), .inl (cs 0, 5, .inl (fun _ => 0)), .inl (cs 0, 25, .inl (fun _ => 0)), .inl (cs 0, 5, .inl (fun _ => 0)), .inl (cs 0, 5, .inl (fun _ => 0)), .inl (cs 0, 5, .inl (fun _ => 0))]
theorem tn0 : (0 : Int32).toNatClampNeg = 0 := by decide +kernel
theorem tn1 : (1 : Int32).toNatClampNeg = 1 := by decide +kernel
theorem tn2 : (2 : Int32).toNatClampNeg = 2 := by decide +kernel
theorem tn3 : (3 : Int32).toNatClampNeg = 3 := by decide +kernel
theorem tn4 : (4 : Int32).toNatClampNeg = 4 := by decide +kernel
theorem tn5 : (5 : Int32).toNatClampNeg = 5 := by decide +kernel
theorem tn6 : (6 : Int32).toNatClampNeg = 6 := by decide +kernel
theorem tn7 : (7 : Int32).toNatClampNeg = 7 := by decide +kernel
theorem tn8 : (8 : Int32).toNatClampNeg = 8 := by decide +kernel
theorem tn9 : (9 : Int32).toNatClampNeg = 9 := by decide +kernel
theorem tn10 : (10 : Int32).toNatClampNeg = 10 := by decide +kernel
theorem tn11 : (11 : Int32).toNatClampNeg = 11 := by decide +kernel
theorem tn12 : (12 : Int32).toNatClampNeg = 12 := by decide +kernel
theorem tn13 : (13 : Int32).toNatClampNeg = 13 := by decide +kernel
theorem tn14 : (14 : Int32).toNatClampNeg = 14 := by decide +kernel
theorem tn15 : (15 : Int32).toNatClampNeg = 15 := by decide +kernel
theorem wi_0a {D : va_G} {cs : Nat → ClassId} {u f : Nat} {H : Heap} (h : Reg D u (t99 cs u) H) : va_at D vwCl (ph u f 0, en cs (ph u f) h0 0) H := h.2 0 _ rfl
theorem wi_1a {D : va_G} {cs : Nat → ClassId} {u f : Nat} {H : Heap} (h : Reg D u (t99 cs u) H) : va_at D vwCl (ph u f 1, en cs (ph u f) h0 1) H := h.2 1 _ rfl
theorem wi_2a {D : va_G} {cs : Nat → ClassId} {u f : Nat} {H : Heap} (h : Reg D u (t99 cs u) H) : va_at D vwCl (ph u f 2, en cs (ph u f) h0 2) H := h.2 6 _ rfl
theorem wi_3a {D : va_G} {cs : Nat → ClassId} {u f : Nat} {H : Heap} (h : Reg D u (t99 cs u) H) : va_at D vwCl (ph u f 3, en cs (ph u f) h0 3) H := h.2 24 _ rfl
theorem wi_4a {D : va_G} {cs : Nat → ClassId} {u f : Nat} {H : Heap} (h : Reg D u (t99 cs u) H) : va_at D vwCl (ph u f 4, en cs (ph u f) h0 4) H := h.2 32 _ rfl
theorem wi_5a {D : va_G} {cs : Nat → ClassId} {u f : Nat} {H : Heap} (h : Reg D u (t99 cs u) H) : va_at D vwCl (ph u f 5, en cs (ph u f) h0 5) H := h.2 34 _ rfl
theorem wi_6a {D : va_G} {cs : Nat → ClassId} {u f : Nat} {H : Heap} (h : Reg D u (t99 cs u) H) : va_at D vwCl (ph u f 6, en cs (ph u f) h0 6) H := h.2 38 _ rfl
theorem wi_7a {D : va_G} {cs : Nat → ClassId} {u f : Nat} {H : Heap} (h : Reg D u (t99 cs u) H) : va_at D vwCl (ph u f 7, en cs (ph u f) h0 7) H := h.2 76 _ rfl
theorem wi_8a {D : va_G} {cs : Nat → ClassId} {u f : Nat} {H : Heap} (h : Reg D u (t99 cs u) H) : va_at D vwCl (ph u f 8, en cs (ph u f) h0 8) H := h.2 40 _ rfl
theorem wi_9a {D : va_G} {cs : Nat → ClassId} {u f : Nat} {H : Heap} (h : Reg D u (t99 cs u) H) : va_at D vwCl (ph u f 9, en cs (ph u f) h0 9) H := h.2 42 _ rfl
theorem wi_10a {D : va_G} {cs : Nat → ClassId} {u f : Nat} {H : Heap} (h : Reg D u (t99 cs u) H) : va_at D vwCl (ph u f 10, en cs (ph u f) h0 10) H := h.2 8 _ rfl
theorem wi_11a {D : va_G} {cs : Nat → ClassId} {u f : Nat} {H : Heap} (h : Reg D u (t99 cs u) H) : va_at D vwCl (ph u f 11, en cs (ph u f) h0 11) H := h.2 9 _ rfl
theorem wi_12a {D : va_G} {cs : Nat → ClassId} {u f : Nat} {H : Heap} (h : Reg D u (t99 cs u) H) : va_at D vwCl (ph u f 12, en cs (ph u f) h0 12) H := h.2 10 _ rfl
theorem wi_13a {D : va_G} {cs : Nat → ClassId} {u f : Nat} {H : Heap} (h : Reg D u (t99 cs u) H) : va_at D vwCl (ph u f 13, en cs (ph u f) h0 13) H := h.2 11 _ rfl
theorem wi_14a {D : va_G} {cs : Nat → ClassId} {u f : Nat} {H : Heap} (h : Reg D u (t99 cs u) H) : va_at D vwCl (ph u f 14, en cs (ph u f) h0 14) H := h.2 12 _ rfl
theorem wi_15a {D : va_G} {cs : Nat → ClassId} {u f : Nat} {H : Heap} (h : Reg D u (t99 cs u) H) : va_at D vwCl (ph u f 15, en cs (ph u f) h0 15) H := h.2 13 _ rfl
theorem wi_16a {D : va_G} {cs : Nat → ClassId} {u f : Nat} {H : Heap} (h : Reg D u (t99 cs u) H) : va_at D vwCl (ph u f 16, en cs (ph u f) h0 16) H := h.2 14 _ rfl
theorem wi_17a {D : va_G} {cs : Nat → ClassId} {u f : Nat} {H : Heap} (h : Reg D u (t99 cs u) H) : va_at D vwCl (ph u f 17, en cs (ph u f) h0 17) H := h.2 15 _ rfl
theorem wi_18a {D : va_G} {cs : Nat → ClassId} {u f : Nat} {H : Heap} (h : Reg D u (t99 cs u) H) : va_at D vwCl (ph u f 18, en cs (ph u f) h0 18) H := h.2 16 _ rfl
theorem wi_19a {D : va_G} {cs : Nat → ClassId} {u f : Nat} {H : Heap} (h : Reg D u (t99 cs u) H) : va_at D vwCl (ph u f 19, en cs (ph u f) h0 19) H := h.2 17 _ rfl
theorem wi_20a {D : va_G} {cs : Nat → ClassId} {u f : Nat} {H : Heap} (h : Reg D u (t99 cs u) H) : va_at D vwCl (ph u f 20, en cs (ph u f) h0 20) H := h.2 18 _ rfl
theorem wi_21a {D : va_G} {cs : Nat → ClassId} {u f : Nat} {H : Heap} (h : Reg D u (t99 cs u) H) : va_at D vwCl (ph u f 21, en cs (ph u f) h0 21) H := h.2 19 _ rfl
theorem wi_22a {D : va_G} {cs : Nat → ClassId} {u f : Nat} {H : Heap} (h : Reg D u (t99 cs u) H) : va_at D vwCl (ph u f 22, en cs (ph u f) h0 22) H := h.2 20 _ rfl
theorem wi_23a {D : va_G} {cs : Nat → ClassId} {u f : Nat} {H : Heap} (h : Reg D u (t99 cs u) H) : va_at D vwCl (ph u f 23, en cs (ph u f) h0 23) H := h.2 21 _ rfl
theorem wi_24a {D : va_G} {cs : Nat → ClassId} {u f : Nat} {H : Heap} (h : Reg D u (t99 cs u) H) : va_at D vwCl (ph u f 24, en cs (ph u f) h0 24) H := h.2 22 _ rfl
theorem wi_25a {D : va_G} {cs : Nat → ClassId} {u f : Nat} {H : Heap} (h : Reg D u (t99 cs u) H) : va_at D vwCl (ph u f 25, en cs (ph u f) h0 25) H := h.2 23 _ rfl
theorem wi_26a {D : va_G} {cs : Nat → ClassId} {u f : Nat} {H : Heap} (h : Reg D u (t99 cs u) H) : va_at D vwCl (ph u f 26, en cs (ph u f) h0 26) H := h.2 5 _ rfl
theorem wi_27a {D : va_G} {cs : Nat → ClassId} {u f : Nat} {H : Heap} (h : Reg D u (t99 cs u) H) : va_at D vwCl (ph u f 27, en cs (ph u f) h0 27) H := h.2 41 _ rfl
theorem wi_28a {D : va_G} {cs : Nat → ClassId} {u f : Nat} {H : Heap} (h : Reg D u (t99 cs u) H) : va_at D vwCl (ph u f 28, en cs (ph u f) h0 28) H := h.2 43 _ rfl
theorem wi_29a {D : va_G} {cs : Nat → ClassId} {u f : Nat} {H : Heap} (h : Reg D u (t99 cs u) H) : va_at D vwCl (ph u f 29, en cs (ph u f) h0 29) H := h.2 44 _ rfl
theorem wi_30a {D : va_G} {cs : Nat → ClassId} {u f : Nat} {H : Heap} (h : Reg D u (t99 cs u) H) : va_at D vwCl (ph u f 30, en cs (ph u f) h0 30) H := h.2 48 _ rfl
theorem wi_31a {D : va_G} {cs : Nat → ClassId} {u f : Nat} {H : Heap} (h : Reg D u (t99 cs u) H) : va_at D vwCl (ph u f 31, en cs (ph u f) h0 31) H := h.2 52 _ rfl
theorem wi_32a {D : va_G} {cs : Nat → ClassId} {u f : Nat} {H : Heap} (h : Reg D u (t99 cs u) H) : va_at D vwCl (ph u f 32, en cs (ph u f) h0 32) H := h.2 56 _ rfl
theorem wi_33a {D : va_G} {cs : Nat → ClassId} {u f : Nat} {H : Heap} (h : Reg D u (t99 cs u) H) : va_at D vwCl (ph u f 33, en cs (ph u f) h0 33) H := h.2 60 _ rfl
theorem wi_34a {D : va_G} {cs : Nat → ClassId} {u f : Nat} {H : Heap} (h : Reg D u (t99 cs u) H) : va_at D vwCl (ph u f 34, en cs (ph u f) h0 34) H := h.2 64 _ rfl
theorem wi_35a {D : va_G} {cs : Nat → ClassId} {u f : Nat} {H : Heap} (h : Reg D u (t99 cs u) H) : va_at D vwCl (ph u f 35, en cs (ph u f) h0 35) H := h.2 68 _ rfl
theorem wi_36a {D : va_G} {cs : Nat → ClassId} {u f : Nat} {H : Heap} (h : Reg D u (t99 cs u) H) : va_at D vwCl (ph u f 36, en cs (ph u f) h0 36) H := h.2 72 _ rfl
theorem wi_37a {D : va_G} {cs : Nat → ClassId} {u f : Nat} {H : Heap} (h : Reg D u (t99 cs u) H) : va_at D vwCl (ph u f 37, en cs (ph u f) h0 37) H := h.2 45 _ rfl
theorem wi_38a {D : va_G} {cs : Nat → ClassId} {u f : Nat} {H : Heap} (h : Reg D u (t99 cs u) H) : va_at D vwCl (ph u f 38, en cs (ph u f) h0 38) H := h.2 49 _ rfl
theorem wi_39a {D : va_G} {cs : Nat → ClassId} {u f : Nat} {H : Heap} (h : Reg D u (t99 cs u) H) : va_at D vwCl (ph u f 39, en cs (ph u f) h0 39) H := h.2 53 _ rfl
theorem wi_40a {D : va_G} {cs : Nat → ClassId} {u f : Nat} {H : Heap} (h : Reg D u (t99 cs u) H) : va_at D vwCl (ph u f 40, en cs (ph u f) h0 40) H := h.2 57 _ rfl
theorem wi_41a {D : va_G} {cs : Nat → ClassId} {u f : Nat} {H : Heap} (h : Reg D u (t99 cs u) H) : va_at D vwCl (ph u f 41, en cs (ph u f) h0 41) H := h.2 61 _ rfl
theorem wi_42a {D : va_G} {cs : Nat → ClassId} {u f : Nat} {H : Heap} (h : Reg D u (t99 cs u) H) : va_at D vwCl (ph u f 42, en cs (ph u f) h0 42) H := h.2 65 _ rfl
theorem wi_43a {D : va_G} {cs : Nat → ClassId} {u f : Nat} {H : Heap} (h : Reg D u (t99 cs u) H) : va_at D vwCl (ph u f 43, en cs (ph u f) h0 43) H := h.2 69 _ rfl
theorem wi_44a {D : va_G} {cs : Nat → ClassId} {u f : Nat} {H : Heap} (h : Reg D u (t99 cs u) H) : va_at D vwCl (ph u f 44, en cs (ph u f) h0 44) H := h.2 73 _ rfl
theorem wi_45a {D : va_G} {cs : Nat → ClassId} {u f : Nat} {H : Heap} (h : Reg D u (t99 cs u) H) : va_at D vwCl (ph u f 45, en cs (ph u f) h0 45) H := h.2 29 _ rfl
theorem wi_46a {D : va_G} {cs : Nat → ClassId} {u f : Nat} {H : Heap} (h : Reg D u (t99 cs u) H) : va_at D vwCl (ph u f 46, en cs (ph u f) h0 46) H := h.2 46 _ rfl
theorem wi_47a {D : va_G} {cs : Nat → ClassId} {u f : Nat} {H : Heap} (h : Reg D u (t99 cs u) H) : va_at D vwCl (ph u f 47, en cs (ph u f) h0 47) H := h.2 50 _ rfl
theorem wi_48a {D : va_G} {cs : Nat → ClassId} {u f : Nat} {H : Heap} (h : Reg D u (t99 cs u) H) : va_at D vwCl (ph u f 48, en cs (ph u f) h0 48) H := h.2 54 _ rfl
theorem wi_49a {D : va_G} {cs : Nat → ClassId} {u f : Nat} {H : Heap} (h : Reg D u (t99 cs u) H) : va_at D vwCl (ph u f 49, en cs (ph u f) h0 49) H := h.2 58 _ rfl
theorem wi_50a {D : va_G} {cs : Nat → ClassId} {u f : Nat} {H : Heap} (h : Reg D u (t99 cs u) H) : va_at D vwCl (ph u f 50, en cs (ph u f) h0 50) H := h.2 62 _ rfl
theorem wi_51a {D : va_G} {cs : Nat → ClassId} {u f : Nat} {H : Heap} (h : Reg D u (t99 cs u) H) : va_at D vwCl (ph u f 51, en cs (ph u f) h0 51) H := h.2 66 _ rfl
theorem wi_52a {D : va_G} {cs : Nat → ClassId} {u f : Nat} {H : Heap} (h : Reg D u (t99 cs u) H) : va_at D vwCl (ph u f 52, en cs (ph u f) h0 52) H := h.2 70 _ rfl
theorem wi_53a {D : va_G} {cs : Nat → ClassId} {u f : Nat} {H : Heap} (h : Reg D u (t99 cs u) H) : va_at D vwCl (ph u f 53, en cs (ph u f) h0 53) H := h.2 74 _ rfl
theorem wi_54a {D : va_G} {cs : Nat → ClassId} {u f : Nat} {H : Heap} (h : Reg D u (t99 cs u) H) : va_at D vwCl (ph u f 54, en cs (ph u f) h0 54) H := h.2 30 _ rfl
theorem wi_55a {D : va_G} {cs : Nat → ClassId} {u f : Nat} {H : Heap} (h : Reg D u (t99 cs u) H) : va_at D vwCl (ph u f 55, en cs (ph u f) h0 55) H := h.2 47 _ rfl
theorem wi_56a {D : va_G} {cs : Nat → ClassId} {u f : Nat} {H : Heap} (h : Reg D u (t99 cs u) H) : va_at D vwCl (ph u f 56, en cs (ph u f) h0 56) H := h.2 51 _ rfl
theorem wi_57a {D : va_G} {cs : Nat → ClassId} {u f : Nat} {H : Heap} (h : Reg D u (t99 cs u) H) : va_at D vwCl (ph u f 57, en cs (ph u f) h0 57) H := h.2 55 _ rfl
theorem wi_58a {D : va_G} {cs : Nat → ClassId} {u f : Nat} {H : Heap} (h : Reg D u (t99 cs u) H) : va_at D vwCl (ph u f 58, en cs (ph u f) h0 58) H := h.2 59 _ rfl
theorem wi_59a {D : va_G} {cs : Nat → ClassId} {u f : Nat} {H : Heap} (h : Reg D u (t99 cs u) H) : va_at D vwCl (ph u f 59, en cs (ph u f) h0 59) H := h.2 63 _ rfl
theorem wi_60a {D : va_G} {cs : Nat → ClassId} {u f : Nat} {H : Heap} (h : Reg D u (t99 cs u) H) : va_at D vwCl (ph u f 60, en cs (ph u f) h0 60) H := h.2 67 _ rfl
theorem wi_61a {D : va_G} {cs : Nat → ClassId} {u f : Nat} {H : Heap} (h : Reg D u (t99 cs u) H) : va_at D vwCl (ph u f 61, en cs (ph u f) h0 61) H := h.2 71 _ rfl
theorem wi_62a {D : va_G} {cs : Nat → ClassId} {u f : Nat} {H : Heap} (h : Reg D u (t99 cs u) H) : va_at D vwCl (ph u f 62, en cs (ph u f) h0 62) H := h.2 75 _ rfl
theorem wi_63a {D : va_G} {cs : Nat → ClassId} {u f : Nat} {H : Heap} (h : Reg D u (t99 cs u) H) : va_at D vwCl (ph u f 63, en cs (ph u f) h0 63) H := h.2 31 _ rfl
theorem wi_64a {D : va_G} {cs : Nat → ClassId} {u f : Nat} {H : Heap} (h : Reg D u (t99 cs u) H) : va_at D vwCl (ph u f 64, en cs (ph u f) h0 64) H := by
  have h2 : H[u + 7]? = some (vp_cell (cs 2) (16, .inr (.inr (.inr (.inr (va_up (va_up (va_up (va_up (va_up (va_up (va_up (va_up (va_up (va_up (va_up (va_up (va_up (va_up (va_up (va_up (fun _ => none) ((0 : Int32)).toNatClampNeg (some (u + 8))) ((1 : Int32)).toNatClampNeg (some (u + 9))) ((2 : Int32)).toNatClampNeg (some (u + 10))) ((3 : Int32)).toNatClampNeg (some (u + 11))) ((4 : Int32)).toNatClampNeg (some (u + 12))) ((5 : Int32)).toNatClampNeg (some (u + 13))) ((6 : Int32)).toNatClampNeg (some (u + 14))) ((7 : Int32)).toNatClampNeg (some (u + 15))) ((8 : Int32)).toNatClampNeg (some (u + 16))) ((9 : Int32)).toNatClampNeg (some (u + 17))) ((10 : Int32)).toNatClampNeg (some (u + 18))) ((11 : Int32)).toNatClampNeg (some (u + 19))) ((12 : Int32)).toNatClampNeg (some (u + 20))) ((13 : Int32)).toNatClampNeg (some (u + 21))) ((14 : Int32)).toNatClampNeg (some (u + 22))) ((15 : Int32)).toNatClampNeg (some (u + 23)))))))) := h.2 7 _ rfl
  have h4 : vp_cell (cs 2) (16, .inr (.inr (.inr (.inr (va_up (va_up (va_up (va_up (va_up (va_up (va_up (va_up (va_up (va_up (va_up (va_up (va_up (va_up (va_up (va_up (fun _ => none) ((0 : Int32)).toNatClampNeg (some (u + 8))) ((1 : Int32)).toNatClampNeg (some (u + 9))) ((2 : Int32)).toNatClampNeg (some (u + 10))) ((3 : Int32)).toNatClampNeg (some (u + 11))) ((4 : Int32)).toNatClampNeg (some (u + 12))) ((5 : Int32)).toNatClampNeg (some (u + 13))) ((6 : Int32)).toNatClampNeg (some (u + 14))) ((7 : Int32)).toNatClampNeg (some (u + 15))) ((8 : Int32)).toNatClampNeg (some (u + 16))) ((9 : Int32)).toNatClampNeg (some (u + 17))) ((10 : Int32)).toNatClampNeg (some (u + 18))) ((11 : Int32)).toNatClampNeg (some (u + 19))) ((12 : Int32)).toNatClampNeg (some (u + 20))) ((13 : Int32)).toNatClampNeg (some (u + 21))) ((14 : Int32)).toNatClampNeg (some (u + 22))) ((15 : Int32)).toNatClampNeg (some (u + 23))))))) = vp_cell (cs 2) (16, .inr (.inr (.inr (.inr (fun k => some (ph u f (10 + k))))))) := by
    rw [vp_cell_q, vp_cell_q]
    refine arrV_e (fun j hj => ?_)
    match j, hj with
    | 0, _ =>
      have e1 : ph u f (10 + 0) = u + 8 := rfl
      simp only [e1, va_up, tn0, tn1, tn2, tn3, tn4, tn5, tn6, tn7, tn8, tn9, tn10, tn11, tn12, tn13, tn14, tn15, reduceIte, Nat.reduceEqDiff, va_rf]; try rfl
    | 1, _ =>
      have e1 : ph u f (10 + 1) = u + 9 := rfl
      simp only [e1, va_up, tn0, tn1, tn2, tn3, tn4, tn5, tn6, tn7, tn8, tn9, tn10, tn11, tn12, tn13, tn14, tn15, reduceIte, Nat.reduceEqDiff, va_rf]; try rfl
    | 2, _ =>
      have e1 : ph u f (10 + 2) = u + 10 := rfl
      simp only [e1, va_up, tn0, tn1, tn2, tn3, tn4, tn5, tn6, tn7, tn8, tn9, tn10, tn11, tn12, tn13, tn14, tn15, reduceIte, Nat.reduceEqDiff, va_rf]; try rfl
    | 3, _ =>
      have e1 : ph u f (10 + 3) = u + 11 := rfl
      simp only [e1, va_up, tn0, tn1, tn2, tn3, tn4, tn5, tn6, tn7, tn8, tn9, tn10, tn11, tn12, tn13, tn14, tn15, reduceIte, Nat.reduceEqDiff, va_rf]; try rfl
    | 4, _ =>
      have e1 : ph u f (10 + 4) = u + 12 := rfl
      simp only [e1, va_up, tn0, tn1, tn2, tn3, tn4, tn5, tn6, tn7, tn8, tn9, tn10, tn11, tn12, tn13, tn14, tn15, reduceIte, Nat.reduceEqDiff, va_rf]; try rfl
    | 5, _ =>
      have e1 : ph u f (10 + 5) = u + 13 := rfl
      simp only [e1, va_up, tn0, tn1, tn2, tn3, tn4, tn5, tn6, tn7, tn8, tn9, tn10, tn11, tn12, tn13, tn14, tn15, reduceIte, Nat.reduceEqDiff, va_rf]; try rfl
    | 6, _ =>
      have e1 : ph u f (10 + 6) = u + 14 := rfl
      simp only [e1, va_up, tn0, tn1, tn2, tn3, tn4, tn5, tn6, tn7, tn8, tn9, tn10, tn11, tn12, tn13, tn14, tn15, reduceIte, Nat.reduceEqDiff, va_rf]; try rfl
    | 7, _ =>
      have e1 : ph u f (10 + 7) = u + 15 := rfl
      simp only [e1, va_up, tn0, tn1, tn2, tn3, tn4, tn5, tn6, tn7, tn8, tn9, tn10, tn11, tn12, tn13, tn14, tn15, reduceIte, Nat.reduceEqDiff, va_rf]; try rfl
    | 8, _ =>
      have e1 : ph u f (10 + 8) = u + 16 := rfl
      simp only [e1, va_up, tn0, tn1, tn2, tn3, tn4, tn5, tn6, tn7, tn8, tn9, tn10, tn11, tn12, tn13, tn14, tn15, reduceIte, Nat.reduceEqDiff, va_rf]; try rfl
    | 9, _ =>
      have e1 : ph u f (10 + 9) = u + 17 := rfl
      simp only [e1, va_up, tn0, tn1, tn2, tn3, tn4, tn5, tn6, tn7, tn8, tn9, tn10, tn11, tn12, tn13, tn14, tn15, reduceIte, Nat.reduceEqDiff, va_rf]; try rfl
    | 10, _ =>
      have e1 : ph u f (10 + 10) = u + 18 := rfl
      simp only [e1, va_up, tn0, tn1, tn2, tn3, tn4, tn5, tn6, tn7, tn8, tn9, tn10, tn11, tn12, tn13, tn14, tn15, reduceIte, Nat.reduceEqDiff, va_rf]; try rfl
    | 11, _ =>
      have e1 : ph u f (10 + 11) = u + 19 := rfl
      simp only [e1, va_up, tn0, tn1, tn2, tn3, tn4, tn5, tn6, tn7, tn8, tn9, tn10, tn11, tn12, tn13, tn14, tn15, reduceIte, Nat.reduceEqDiff, va_rf]; try rfl
    | 12, _ =>
      have e1 : ph u f (10 + 12) = u + 20 := rfl
      simp only [e1, va_up, tn0, tn1, tn2, tn3, tn4, tn5, tn6, tn7, tn8, tn9, tn10, tn11, tn12, tn13, tn14, tn15, reduceIte, Nat.reduceEqDiff, va_rf]; try rfl
    | 13, _ =>
      have e1 : ph u f (10 + 13) = u + 21 := rfl
      simp only [e1, va_up, tn0, tn1, tn2, tn3, tn4, tn5, tn6, tn7, tn8, tn9, tn10, tn11, tn12, tn13, tn14, tn15, reduceIte, Nat.reduceEqDiff, va_rf]; try rfl
    | 14, _ =>
      have e1 : ph u f (10 + 14) = u + 22 := rfl
      simp only [e1, va_up, tn0, tn1, tn2, tn3, tn4, tn5, tn6, tn7, tn8, tn9, tn10, tn11, tn12, tn13, tn14, tn15, reduceIte, Nat.reduceEqDiff, va_rf]; try rfl
    | 15, _ =>
      have e1 : ph u f (10 + 15) = u + 23 := rfl
      simp only [e1, va_up, tn0, tn1, tn2, tn3, tn4, tn5, tn6, tn7, tn8, tn9, tn10, tn11, tn12, tn13, tn14, tn15, reduceIte, Nat.reduceEqDiff, va_rf]; try rfl
    | j + 16, hj => omega
  exact h2.trans (congrArg some h4)
theorem wi_65a {D : va_G} {cs : Nat → ClassId} {u f : Nat} {H : Heap} (h : Reg D u (t99 cs u) H) : va_at D vwCl (ph u f 65, en cs (ph u f) h0 65) H := by
  have h2 : H[u + 25]? = some (vp_cell (cs 3) (2, .inr (.inr (.inr (.inr (va_up (va_up (fun _ => none) ((0 : Int32)).toNatClampNeg (some (u + 40))) ((1 : Int32)).toNatClampNeg (some (u + 42)))))))) := h.2 25 _ rfl
  have h4 : vp_cell (cs 3) (2, .inr (.inr (.inr (.inr (va_up (va_up (fun _ => none) ((0 : Int32)).toNatClampNeg (some (u + 40))) ((1 : Int32)).toNatClampNeg (some (u + 42))))))) = vp_cell (cs 3) (2, .inr (.inr (.inr (.inr (fun k => some (ph u f (8 + k))))))) := by
    rw [vp_cell_q, vp_cell_q]
    refine arrV_e (fun j hj => ?_)
    match j, hj with
    | 0, _ =>
      have e1 : ph u f (8 + 0) = u + 40 := rfl
      simp only [e1, va_up, tn0, tn1, reduceIte, Nat.reduceEqDiff, va_rf]; try rfl
    | 1, _ =>
      have e1 : ph u f (8 + 1) = u + 42 := rfl
      simp only [e1, va_up, tn0, tn1, reduceIte, Nat.reduceEqDiff, va_rf]; try rfl
    | j + 2, hj => omega
  exact h2.trans (congrArg some h4)
theorem wi_66a {D : va_G} {cs : Nat → ClassId} {u f : Nat} {H : Heap} (h : Reg D u (t99 cs u) H) : va_at D vwCl (ph u f 66, en cs (ph u f) h0 66) H := by
  have h2 : H[u + 26]? = some (vp_cell (cs 4) (8, .inr (.inr (.inr (.inr (va_up (va_up (va_up (va_up (va_up (va_up (va_up (va_up (fun _ => none) ((0 : Int32)).toNatClampNeg (some (u + 44))) ((1 : Int32)).toNatClampNeg (some (u + 48))) ((2 : Int32)).toNatClampNeg (some (u + 52))) ((3 : Int32)).toNatClampNeg (some (u + 56))) ((4 : Int32)).toNatClampNeg (some (u + 60))) ((5 : Int32)).toNatClampNeg (some (u + 64))) ((6 : Int32)).toNatClampNeg (some (u + 68))) ((7 : Int32)).toNatClampNeg (some (u + 72)))))))) := h.2 26 _ rfl
  have h4 : vp_cell (cs 4) (8, .inr (.inr (.inr (.inr (va_up (va_up (va_up (va_up (va_up (va_up (va_up (va_up (fun _ => none) ((0 : Int32)).toNatClampNeg (some (u + 44))) ((1 : Int32)).toNatClampNeg (some (u + 48))) ((2 : Int32)).toNatClampNeg (some (u + 52))) ((3 : Int32)).toNatClampNeg (some (u + 56))) ((4 : Int32)).toNatClampNeg (some (u + 60))) ((5 : Int32)).toNatClampNeg (some (u + 64))) ((6 : Int32)).toNatClampNeg (some (u + 68))) ((7 : Int32)).toNatClampNeg (some (u + 72))))))) = vp_cell (cs 4) (8, .inr (.inr (.inr (.inr (fun k => some (ph u f (29 + k))))))) := by
    rw [vp_cell_q, vp_cell_q]
    refine arrV_e (fun j hj => ?_)
    match j, hj with
    | 0, _ =>
      have e1 : ph u f (29 + 0) = u + 44 := rfl
      simp only [e1, va_up, tn0, tn1, tn2, tn3, tn4, tn5, tn6, tn7, reduceIte, Nat.reduceEqDiff, va_rf]; try rfl
    | 1, _ =>
      have e1 : ph u f (29 + 1) = u + 48 := rfl
      simp only [e1, va_up, tn0, tn1, tn2, tn3, tn4, tn5, tn6, tn7, reduceIte, Nat.reduceEqDiff, va_rf]; try rfl
    | 2, _ =>
      have e1 : ph u f (29 + 2) = u + 52 := rfl
      simp only [e1, va_up, tn0, tn1, tn2, tn3, tn4, tn5, tn6, tn7, reduceIte, Nat.reduceEqDiff, va_rf]; try rfl
    | 3, _ =>
      have e1 : ph u f (29 + 3) = u + 56 := rfl
      simp only [e1, va_up, tn0, tn1, tn2, tn3, tn4, tn5, tn6, tn7, reduceIte, Nat.reduceEqDiff, va_rf]; try rfl
    | 4, _ =>
      have e1 : ph u f (29 + 4) = u + 60 := rfl
      simp only [e1, va_up, tn0, tn1, tn2, tn3, tn4, tn5, tn6, tn7, reduceIte, Nat.reduceEqDiff, va_rf]; try rfl
    | 5, _ =>
      have e1 : ph u f (29 + 5) = u + 64 := rfl
      simp only [e1, va_up, tn0, tn1, tn2, tn3, tn4, tn5, tn6, tn7, reduceIte, Nat.reduceEqDiff, va_rf]; try rfl
    | 6, _ =>
      have e1 : ph u f (29 + 6) = u + 68 := rfl
      simp only [e1, va_up, tn0, tn1, tn2, tn3, tn4, tn5, tn6, tn7, reduceIte, Nat.reduceEqDiff, va_rf]; try rfl
    | 7, _ =>
      have e1 : ph u f (29 + 7) = u + 72 := rfl
      simp only [e1, va_up, tn0, tn1, tn2, tn3, tn4, tn5, tn6, tn7, reduceIte, Nat.reduceEqDiff, va_rf]; try rfl
    | j + 8, hj => omega
  exact h2.trans (congrArg some h4)
theorem wi_67a {D : va_G} {cs : Nat → ClassId} {u f : Nat} {H : Heap} (h : Reg D u (t99 cs u) H) : va_at D vwCl (ph u f 67, en cs (ph u f) h0 67) H := h.2 2 _ rfl
theorem wi_68a {D : va_G} {cs : Nat → ClassId} {u f : Nat} {H : Heap} (h : Reg D u (t99 cs u) H) : va_at D vwCl (ph u f 68, en cs (ph u f) h0 68) H := h.2 3 _ rfl
theorem wi_69a {D : va_G} {cs : Nat → ClassId} {u f : Nat} {H : Heap} (h : Reg D u (t99 cs u) H) : va_at D vwCl (ph u f 69, en cs (ph u f) h0 69) H := h.2 4 _ rfl
theorem wi_70a {D : va_G} {cs : Nat → ClassId} {u f : Nat} {H : Heap} (h : Reg D u (t99 cs u) H) : va_at D vwCl (ph u f 70, en cs (ph u f) h0 70) H := h.2 27 _ rfl
theorem wi_71a {D : va_G} {cs : Nat → ClassId} {u f : Nat} {H : Heap} (h : Reg D u (t99 cs u) H) : va_at D vwCl (ph u f 71, en cs (ph u f) h0 71) H := h.2 28 _ rfl
theorem wi_72a {D : va_G} {cs : Nat → ClassId} {u f : Nat} {H : Heap} (h : Reg D u (t99 cs u) H) : va_at D vwCl (ph u f 72, en cs (ph u f) h0 72) H := h.2 33 _ rfl
theorem wi_73a {D : va_G} {cs : Nat → ClassId} {u f : Nat} {H : Heap} (h : Reg D u (t99 cs u) H) : va_at D vwCl (ph u f 73, en cs (ph u f) h0 73) H := h.2 35 _ rfl
theorem wi_74a {D : va_G} {cs : Nat → ClassId} {u f : Nat} {H : Heap} (h : Reg D u (t99 cs u) H) : va_at D vwCl (ph u f 74, en cs (ph u f) h0 74) H := h.2 36 _ rfl
theorem wi_75a {D : va_G} {cs : Nat → ClassId} {u f : Nat} {H : Heap} (h : Reg D u (t99 cs u) H) : va_at D vwCl (ph u f 75, en cs (ph u f) h0 75) H := h.2 37 _ rfl
theorem wi_76a {D : va_G} {cs : Nat → ClassId} {u f : Nat} {H : Heap} (h : Reg D u (t99 cs u) H) : va_at D vwCl (ph u f 76, en cs (ph u f) h0 76) H := h.2 39 _ rfl
theorem wi_77a {D : va_G} {cs : Nat → ClassId} {u f : Nat} {H : Heap} (h : Reg D u (t99 cs u) H) : va_at D vwCl (ph u f 77, en cs (ph u f) h0 77) H := h.2 77 _ rfl
theorem wi_78a {D : va_G} {cs : Nat → ClassId} {u f : Nat} {H : Heap} (h : Reg D u (t99 cs u) H) : va_at D vwCl (ph u f 78, en cs (ph u f) h0 78) H := h.2 78 _ rfl
theorem wi_79a {D : va_G} {cs : Nat → ClassId} {u f : Nat} {H : Heap} (h : Reg D u (t99 cs u) H) : va_at D vwCl (ph u f 79, en cs (ph u f) h0 79) H := h.2 79 _ rfl
theorem wi_80a {D : va_G} {cs : Nat → ClassId} {u f : Nat} {H : Heap} (h : Reg D u (t99 cs u) H) : va_at D vwCl (ph u f 80, en cs (ph u f) h0 80) H := h.2 80 _ rfl
theorem wi_81a {D : va_G} {cs : Nat → ClassId} {u f : Nat} {H : Heap} (h : Reg D u (t99 cs u) H) : va_at D vwCl (ph u f 81, en cs (ph u f) h0 81) H := h.2 81 _ rfl
theorem wi_82a {D : va_G} {cs : Nat → ClassId} {u f : Nat} {H : Heap} (h : Reg D u (t99 cs u) H) : va_at D vwCl (ph u f 82, en cs (ph u f) h0 82) H := h.2 82 _ rfl
theorem wi_83a {D : va_G} {cs : Nat → ClassId} {u f : Nat} {H : Heap} (h : Reg D u (t99 cs u) H) : va_at D vwCl (ph u f 83, en cs (ph u f) h0 83) H := h.2 83 _ rfl
theorem wi_84a {D : va_G} {cs : Nat → ClassId} {u f : Nat} {H : Heap} (h : Reg D u (t99 cs u) H) : va_at D vwCl (ph u f 84, en cs (ph u f) h0 84) H := h.2 84 _ rfl
theorem wi_85a {D : va_G} {cs : Nat → ClassId} {u f : Nat} {H : Heap} (h : Reg D u (t99 cs u) H) : va_at D vwCl (ph u f 85, en cs (ph u f) h0 85) H := h.2 85 _ rfl
theorem wi_86a {D : va_G} {cs : Nat → ClassId} {u f : Nat} {H : Heap} (h : Reg D u (t99 cs u) H) : va_at D vwCl (ph u f 86, en cs (ph u f) h0 86) H := h.2 86 _ rfl
theorem wi_87a {D : va_G} {cs : Nat → ClassId} {u f : Nat} {H : Heap} (h : Reg D u (t99 cs u) H) : va_at D vwCl (ph u f 87, en cs (ph u f) h0 87) H := h.2 87 _ rfl
theorem wi_88a {D : va_G} {cs : Nat → ClassId} {u f : Nat} {H : Heap} (h : Reg D u (t99 cs u) H) : va_at D vwCl (ph u f 88, en cs (ph u f) h0 88) H := h.2 88 _ rfl
theorem wi_89a {D : va_G} {cs : Nat → ClassId} {u f : Nat} {H : Heap} (h : Reg D u (t99 cs u) H) : va_at D vwCl (ph u f 89, en cs (ph u f) h0 89) H := h.2 89 _ rfl
theorem wi_90a {D : va_G} {cs : Nat → ClassId} {u f : Nat} {H : Heap} (h : Reg D u (t99 cs u) H) : va_at D vwCl (ph u f 90, en cs (ph u f) h0 90) H := h.2 90 _ rfl
theorem wi_91a {D : va_G} {cs : Nat → ClassId} {u f : Nat} {H : Heap} (h : Reg D u (t99 cs u) H) : va_at D vwCl (ph u f 91, en cs (ph u f) h0 91) H := h.2 91 _ rfl
theorem wi_92a {D : va_G} {cs : Nat → ClassId} {u f : Nat} {H : Heap} (h : Reg D u (t99 cs u) H) : va_at D vwCl (ph u f 92, en cs (ph u f) h0 92) H := h.2 92 _ rfl
theorem wi_93a {D : va_G} {cs : Nat → ClassId} {u f : Nat} {H : Heap} (h : Reg D u (t99 cs u) H) : va_at D vwCl (ph u f 93, en cs (ph u f) h0 93) H := h.2 93 _ rfl
theorem wi_94a {D : va_G} {cs : Nat → ClassId} {u f : Nat} {H : Heap} (h : Reg D u (t99 cs u) H) : va_at D vwCl (ph u f 94, en cs (ph u f) h0 94) H := h.2 94 _ rfl
theorem wi_95a {D : va_G} {cs : Nat → ClassId} {u f : Nat} {H : Heap} (h : Reg D u (t99 cs u) H) : va_at D vwCl (ph u f 95, en cs (ph u f) h0 95) H := h.2 95 _ rfl
theorem wi_96a {D : va_G} {cs : Nat → ClassId} {u f : Nat} {H : Heap} (h : Reg D u (t99 cs u) H) : va_at D vwCl (ph u f 96, en cs (ph u f) h0 96) H := h.2 96 _ rfl
theorem wi_97a {D : va_G} {cs : Nat → ClassId} {u f : Nat} {H : Heap} (h : Reg D u (t99 cs u) H) : va_at D vwCl (ph u f 97, en cs (ph u f) h0 97) H := h.2 97 _ rfl
theorem wi_98a {D : va_G} {cs : Nat → ClassId} {u f : Nat} {H : Heap} (h : Reg D u (t99 cs u) H) : va_at D vwCl (ph u f 98, en cs (ph u f) h0 98) H := h.2 98 _ rfl
theorem wh_init {D : va_G} {cs : Nat → ClassId} {u f : Nat} {H : Heap} (h : Reg D u (t99 cs u) H) : Wh D cs (ph u f) h0 H := by
  intro k q hq
  obtain ⟨hk, rfl⟩ := wl_lt hq
  match k, hk with
  | 0, _ => exact wi_0a h
  | 1, _ => exact wi_1a h
  | 2, _ => exact wi_2a h
  | 3, _ => exact wi_3a h
  | 4, _ => exact wi_4a h
  | 5, _ => exact wi_5a h
  | 6, _ => exact wi_6a h
  | 7, _ => exact wi_7a h
  | 8, _ => exact wi_8a h
  | 9, _ => exact wi_9a h
  | 10, _ => exact wi_10a h
  | 11, _ => exact wi_11a h
  | 12, _ => exact wi_12a h
  | 13, _ => exact wi_13a h
  | 14, _ => exact wi_14a h
  | 15, _ => exact wi_15a h
  | 16, _ => exact wi_16a h
  | 17, _ => exact wi_17a h
  | 18, _ => exact wi_18a h
  | 19, _ => exact wi_19a h
  | 20, _ => exact wi_20a h
  | 21, _ => exact wi_21a h
  | 22, _ => exact wi_22a h
  | 23, _ => exact wi_23a h
  | 24, _ => exact wi_24a h
  | 25, _ => exact wi_25a h
  | 26, _ => exact wi_26a h
  | 27, _ => exact wi_27a h
  | 28, _ => exact wi_28a h
  | 29, _ => exact wi_29a h
  | 30, _ => exact wi_30a h
  | 31, _ => exact wi_31a h
  | 32, _ => exact wi_32a h
  | 33, _ => exact wi_33a h
  | 34, _ => exact wi_34a h
  | 35, _ => exact wi_35a h
  | 36, _ => exact wi_36a h
  | 37, _ => exact wi_37a h
  | 38, _ => exact wi_38a h
  | 39, _ => exact wi_39a h
  | 40, _ => exact wi_40a h
  | 41, _ => exact wi_41a h
  | 42, _ => exact wi_42a h
  | 43, _ => exact wi_43a h
  | 44, _ => exact wi_44a h
  | 45, _ => exact wi_45a h
  | 46, _ => exact wi_46a h
  | 47, _ => exact wi_47a h
  | 48, _ => exact wi_48a h
  | 49, _ => exact wi_49a h
  | 50, _ => exact wi_50a h
  | 51, _ => exact wi_51a h
  | 52, _ => exact wi_52a h
  | 53, _ => exact wi_53a h
  | 54, _ => exact wi_54a h
  | 55, _ => exact wi_55a h
  | 56, _ => exact wi_56a h
  | 57, _ => exact wi_57a h
  | 58, _ => exact wi_58a h
  | 59, _ => exact wi_59a h
  | 60, _ => exact wi_60a h
  | 61, _ => exact wi_61a h
  | 62, _ => exact wi_62a h
  | 63, _ => exact wi_63a h
  | 64, _ => exact wi_64a h
  | 65, _ => exact wi_65a h
  | 66, _ => exact wi_66a h
  | 67, _ => exact wi_67a h
  | 68, _ => exact wi_68a h
  | 69, _ => exact wi_69a h
  | 70, _ => exact wi_70a h
  | 71, _ => exact wi_71a h
  | 72, _ => exact wi_72a h
  | 73, _ => exact wi_73a h
  | 74, _ => exact wi_74a h
  | 75, _ => exact wi_75a h
  | 76, _ => exact wi_76a h
  | 77, _ => exact wi_77a h
  | 78, _ => exact wi_78a h
  | 79, _ => exact wi_79a h
  | 80, _ => exact wi_80a h
  | 81, _ => exact wi_81a h
  | 82, _ => exact wi_82a h
  | 83, _ => exact wi_83a h
  | 84, _ => exact wi_84a h
  | 85, _ => exact wi_85a h
  | 86, _ => exact wi_86a h
  | 87, _ => exact wi_87a h
  | 88, _ => exact wi_88a h
  | 89, _ => exact wi_89a h
  | 90, _ => exact wi_90a h
  | 91, _ => exact wi_91a h
  | 92, _ => exact wi_92a h
  | 93, _ => exact wi_93a h
  | 94, _ => exact wi_94a h
  | 95, _ => exact wi_95a h
  | 96, _ => exact wi_96a h
  | 97, _ => exact wi_97a h
  | 98, _ => exact wi_98a h
  | k + 99, hk => omega
set_option maxRecDepth 100000 in
set_option maxHeartbeats 8000000 in
/-- the law from its entry, over a relation that holds at the start and that every pair of calls keeps -/
theorem whole_open (Rel : Hp → Prop) (hR0 : Rel h0)
  (G0 : ∀ (h : Hp) (p0 : Int32), Rel h → wp_Fe_feed p0 h (fun v1 h1 => wp_Md_feed p0 h1 (fun v2 h2 => v1 = v2 ∧ Rel h2)))
  (G1 : ∀ (h : Hp), Rel h → wp_Fe_cable h (fun v1 h1 => wp_Md_cable h1 (fun v2 h2 => v1 = v2 ∧ Rel h2)))
  (G2 : ∀ (h : Hp), Rel h → wp_Fe_fault h (fun v1 => wp_Md_fault h (fun v2 => v1 = v2 ∧ Rel h)))
  (G3 : ∀ (h : Hp) (p0 : Int32), Rel h → wp_Fe_told p0 h (fun v1 h1 => wp_Md_told p0 h1 (fun v2 h2 => v1 = v2 ∧ Rel h2)))
  (G4 : ∀ (h : Hp) (p0 p1 : Int32), Rel h → wp_Fe_wire p0 p1 h (fun v1 => wp_Md_wire p0 p1 h (fun v2 => v1 = v2 ∧ Rel h)))
  (G5 : ∀ (h : Hp) (p0 p1 : Int32), Rel h → wp_Fe_end p0 p1 h (fun v1 h1 => wp_Md_end p0 p1 h1 (fun v2 h2 => v1 = v2 ∧ Rel h2)))
  (G6 : ∀ (h : Hp) (p0 p1 : Int32), Rel h → wp_Fe_net p0 p1 h (fun v1 h1 => wp_Md_net p0 p1 h1 (fun v2 => v1 = v2 ∧ Rel h1)))
  (G7 : ∀ (h : Hp) (p0 p1 : Int32), Rel h → wp_Fe_rings p0 p1 h (fun v1 h1 => wp_Md_rings p0 p1 h1 (fun v2 => v1 = v2 ∧ Rel h1)))
  (G8 : ∀ (h : Hp) (p0 p1 : Int32), Rel h → wp_Fe_touches p0 p1 h (fun v1 => wp_Md_touches p0 p1 h (fun v2 => v1 = v2 ∧ Rel h)))
  (G9 : ∀ (h : Hp) (p0 p1 : Int32), Rel h → wp_Fe_tie p0 p1 h (fun v1 h1 => wp_Md_tie p0 p1 h1 (fun v2 h2 => v1 = v2 ∧ Rel h2)))
  (G10 : ∀ (h : Hp), Rel h → wp_Fe_cross h (fun v1 h1 => wp_Md_cross h1 (fun v2 h2 => v1 = v2 ∧ Rel h2)))
  (G11 : ∀ (h : Hp) (p0 p1 : Int32), Rel h → wp_Fe_test p0 p1 h (fun v1 h1 => wp_Md_test p0 p1 h1 (fun v2 h2 => v1 = v2 ∧ Rel h2)))
  (G12 : ∀ (h : Hp) (p0 : Int32), Rel h → wp_Fe_rest p0 h (fun v1 h1 => wp_Md_rest p0 h1 (fun v2 h2 => v1 = v2 ∧ Rel h2)))
  (G13 : ∀ (h : Hp) (p0 p1 : Int32), Rel h → wp_Fe_mend p0 p1 h (fun v1 h1 => wp_Md_mend p0 p1 h1 (fun v2 h2 => v1 = v2 ∧ Rel h2)))
  (G14 : ∀ (h : Hp) (p0 p1 p2 : Int32), Rel h → (p2 = 0 ∨ p2 = 1) → wp_Fe_touch p0 p1 p2 h (fun v1 h1 => wp_Md_touch p0 p1 p2 h1 (fun v2 h2 => v1 = v2 ∧ Rel h2)))
  (G15 : ∀ (h : Hp) (p0 : Int32), Rel h → wp_Fe_drift p0 h (fun v1 h1 => wp_Md_drift p0 h1 (fun v2 h2 => v1 = v2 ∧ Rel h2)))
  (G16 : ∀ (h : Hp), Rel h → wp_Fe_undo h (fun v1 h1 => wp_Md_undo h1 (fun v2 h2 => v1 = v2 ∧ Rel h2)))
  (G17 : ∀ (h : Hp) (p0 p1 : Int32), Rel h → wp_Fe_cut p0 p1 h (fun v1 h1 => wp_Md_cut p0 p1 h1 (fun v2 => v1 = v2 ∧ Rel h1)))
  (G18 : ∀ (h : Hp) (p0 : Int32), Rel h → wp_Fe_ties p0 h (fun v1 h1 => wp_Md_ties p0 h1 (fun v2 h2 => v1 = v2 ∧ Rel h2)))
  (G19 : ∀ (h : Hp) (p0 p1 : Int32), Rel h → wp_Fe_dry p0 p1 (fun v1 => wp_Md_dry p0 p1 (fun v2 => v1 = v2 ∧ Rel h)))
  (G20 : ∀ (h : Hp) (p0 p1 p2 : Int32), Rel h → (p2 = 0 ∨ p2 = 1) → wp_Fe_see p0 p1 p2 h (fun v1 h1 => wp_Md_see p0 p1 p2 h1 (fun v2 h2 => v1 = v2 ∧ Rel h2)))
  (G21 : ∀ (h : Hp) (p0 p1 : Int32), Rel h → wp_Fe_write p0 p1 h (fun v1 h1 => wp_Md_write p0 p1 h1 (fun v2 h2 => v1 = v2 ∧ Rel h2)))
  (G22 : ∀ (h : Hp), Rel h → wp_Fe_tear h (fun v1 h1 => wp_Md_tear h1 (fun v2 h2 => v1 = v2 ∧ Rel h2)))
  (G23 : ∀ (h : Hp), Rel h → wp_Fe_judge h (fun v1 => wp_Md_judge h (fun v2 => v1 = v2 ∧ Rel h)))
  (G24 : ∀ (h : Hp) (p0 : Int32), Rel h → wp_Fe_seed p0 h (fun v1 h1 => wp_Md_seed p0 h1 (fun v2 h2 => v1 = v2 ∧ Rel h2)))
  (G25 : ∀ (h : Hp) (p0 : Int32), Rel h → wp_Fe_keep p0 h (fun v1 h1 => wp_Md_keep p0 h1 (fun v2 h2 => v1 = v2 ∧ Rel h2)))
  (G26 : ∀ (h : Hp) (p0 : Int32), Rel h → wp_Fe_goBack p0 h (fun v1 h1 => wp_Md_goBack p0 h1 (fun v2 h2 => v1 = v2 ∧ Rel h2)))
    {p : Program} {e : Env} {s : State} {m : MethodId} {below : List Frame} {meth : Method} {c : Code} (l : Launch) {b L : Nat} {xs : Nat → Int32} (hL : L ≤ 2048) (C0 : lw_At p s m meth c b L xs) : W p l e room_1 s m #[Value.ref b] below meth c s.heap [] 0 0 (lw_Z below #[Value.ref b] s) (entryFrame m ([Value.ref b] : List Value).toArray 4) := by
  obtain ⟨hx, hb, hr, hml, hown, hts0, hX, hbl, hlocks, hgv⟩ := id C0
  have hts : ∀ w ∈ lw_g, w.before #[Value.ref b] s = true := fun w hw => hts0 w (List.mem_filter.mp hw).1
  have hA0 : ∀ a : Nat, a < s.heap.size → ¬ (fun q : Nat => s.heap.size ≤ q) a := fun a h q => by dsimp only at q; omega
  obtain ⟨c0, i0, K0⟩ := u_known (C := RX0) (T := TX0) (N := 1) (n := 1) hts inG0 (hts _ is_X0)
  obtain ⟨c1, i1, K1⟩ := u_known (C := RX1) (T := TX1) (N := 4) (n := 4) hts inG1 (hts _ is_X1)
  obtain ⟨c2, i2, K2⟩ := u_known (C := RX2) (T := TX2) (N := 3) (n := 3) hts inG2 (hts _ is_X2)
  obtain ⟨c3, i3, K3⟩ := u_known (C := RX3) (T := TX3) (N := 2) (n := 2) hts inG3 (hts _ is_X3)
  obtain ⟨c4, i4, K4⟩ := u_known (C := RX4) (T := TX4) (N := 1) (n := 1) hts inG4 (hts _ is_X4)
  obtain ⟨c5, i5, K5⟩ := u_known (C := RX5) (T := TX5) (N := 3) (n := 3) hts inG5 (hts _ is_X5)
  obtain ⟨c6, i6, K6⟩ := u_known (C := RX6) (T := TX6) (N := 11) (n := 11) hts inG6 (hts _ is_X6)
  obtain ⟨c7, i7, K7⟩ := u_known (C := RX7) (T := TX7) (N := 8) (n := 8) hts inG7 (hts _ is_X7)
  obtain ⟨c8, i8, K8⟩ := u_known (C := RX8) (T := TX8) (N := 8) (n := 8) hts inG8 (hts _ is_X8)
  obtain ⟨c9, i9, K9⟩ := u_known (C := RX9) (T := TX9) (N := 1) (n := 1) hts inG9 (hts _ is_X9)
  obtain ⟨c10, i10, K10⟩ := u_known (C := RX10) (T := TX10) (N := 16) (n := 16) hts inG10 (hts _ is_X10)
  obtain ⟨c11, i11, K11⟩ := u_known (C := RX11) (T := TX11) (N := 41) (n := 41) hts inG11 (hts _ is_X11)
  obtain ⟨dC, dI, hKc⟩ : ∃ (dC : Nat → ClassId) (dI : Nat → Nat → Nat), ∀ (k : Nat) (q : vw_C), vwCl[k]? = some q → u_Kn s q.1 q.2.1 q.2.2 (dC k) (dI k) := by
    refine ⟨fun k => match k with | 0 => c0 | 1 => c1 | 2 => c2 | 3 => c3 | 4 => c4 | 5 => c5 | 6 => c6 | 7 => c7 | 8 => c8 | 9 => c9 | 10 => c10 | _ => c11, fun k => match k with | 0 => i0 | 1 => i1 | 2 => i2 | 3 => i3 | 4 => i4 | 5 => i5 | 6 => i6 | 7 => i7 | 8 => i8 | 9 => i9 | 10 => i10 | _ => i11, ?_⟩
    intro k q hq
    match k, hq with
    | 0, hq => cases hq; exact K0
    | 1, hq => cases hq; exact K1
    | 2, hq => cases hq; exact K2
    | 3, hq => cases hq; exact K3
    | 4, hq => cases hq; exact K4
    | 5, hq => cases hq; exact K5
    | 6, hq => cases hq; exact K6
    | 7, hq => cases hq; exact K7
    | 8, hq => cases hq; exact K8
    | 9, hq => cases hq; exact K9
    | 10, hq => cases hq; exact K10
    | 11, hq => cases hq; exact K11
    | k + 12, hq => simp [vwCl] at hq
  obtain ⟨a0, ka0, comp0, f01, f02, f03⟩ := Cond.arrayClass_spec (hts _ ac_int)
  obtain ⟨a1, ka1, comp1, f11, f12, f13⟩ := Cond.arrayClass_spec (hts _ ac_long)
  have o2 : (Cond.arrayOver (.object "FarEnds$State")).before #[Value.ref b] s = true := hts0 _ (List.mem_of_getElem? (i := 196) (by decide +kernel))
  have o3 : (Cond.arrayOver (.object "FarEnds$Image")).before #[Value.ref b] s = true := hts0 _ (List.mem_of_getElem? (i := 221) (by decide +kernel))
  have o4 : (Cond.arrayOver (.object "FarEnds$Seen")).before #[Value.ref b] s = true := hts0 _ (List.mem_of_getElem? (i := 223) (by decide +kernel))
  obtain ⟨comp2, a2, ka2, g21, g22, g23, g24, g25⟩ := Cond.arrayOver_spec o2
  obtain ⟨comp3, a3, ka3, g31, g32, g33, g34, g35⟩ := Cond.arrayOver_spec o3
  obtain ⟨comp4, a4, ka4, g41, g42, g43, g44, g45⟩ := Cond.arrayOver_spec o4
  obtain ⟨cs, hcs⟩ : ∃ cs : Nat → ClassId, cs 0 = a0 ∧ cs 1 = a1 ∧ cs 2 = a2 ∧ cs 3 = a3 ∧ cs 4 = a4 := ⟨fun k => match k with | 0 => a0 | 1 => a1 | 2 => a2 | 3 => a3 | _ => a4, rfl, rfl, rfl, rfl, rfl⟩
  obtain ⟨rfl, rfl, rfl, rfl, rfl⟩ := hcs
  have hK : va_K (dC, dI) vwCl (tys cs) s := by
    refine ⟨hKc, fun k q hq => ?_⟩
    match k, hq with
    | 0, hq => cases hq; exact ⟨fun n z => ⟨fun k h => (by cases h), ka0, f02, comp0, f03⟩, f01⟩
    | 1, hq => cases hq; exact ⟨fun n z => ⟨fun k h => (by cases h), ka1, f12, comp1, f13⟩, f11⟩
    | 2, hq => cases hq; exact ⟨fun n z => ⟨fun k h => (by cases h), ka2, g23, comp2, g24⟩, ka2, comp2, g23, g24, g21, g25⟩
    | 3, hq => cases hq; exact ⟨fun n z => ⟨fun k h => (by cases h), ka3, g33, comp3, g34⟩, ka3, comp3, g33, g34, g31, g35⟩
    | 4, hq => cases hq; exact ⟨fun n z => ⟨fun k h => (by cases h), ka4, g43, comp4, g44⟩, ka4, comp4, g43, g44, g41, g45⟩
    | k + 5, hq => simp [tys] at hq
  have hN : ∀ w ∈ lw_n, va_Nw w s := fun w hw => by
    have h1 := hts0 w (List.mem_append_right _ (List.mem_filter.mp hw).1)
    obtain ⟨x1, x2, x3, x4, rfl⟩ := lw_n_is hw
    exact va_Nw.of rfl h1
  have hCn : Cn (dC, dI) cs s := ⟨hK, hN, va_AO.of o2, va_AO.of o3, va_AO.of o4⟩
  have hs := flat_of_before _ hgv
  obtain ⟨f9, hf9, hT⟩ := va_Tof (tm := .static "FarEnds" "FACTORIAL" "[I") (ty := .int) (N := 6) (f := fun j => .int (fac j)) (A := fun q : Nat => s.heap.size ≤ q) (by decide) (hs (.arrayOf (.static "FarEnds" "FACTORIAL" "[I") .int) (by decide +kernel)) (va_eqt (hs (.eq (.length (.static "FarEnds" "FACTORIAL" "[I")) (.int 6)) (by decide +kernel))) (fun j hj => by
    match j, hj with
    | 0, _ => exact va_eqt (hs (.eq (.elem (.static "FarEnds" "FACTORIAL" "[I") (.int 0)) (.int 1)) (by decide +kernel))
    | 1, _ => exact va_eqt (hs (.eq (.elem (.static "FarEnds" "FACTORIAL" "[I") (.int 1)) (.int 1)) (by decide +kernel))
    | 2, _ => exact va_eqt (hs (.eq (.elem (.static "FarEnds" "FACTORIAL" "[I") (.int 2)) (.int 2)) (by decide +kernel))
    | 3, _ => exact va_eqt (hs (.eq (.elem (.static "FarEnds" "FACTORIAL" "[I") (.int 3)) (.int 6)) (by decide +kernel))
    | 4, _ => exact va_eqt (hs (.eq (.elem (.static "FarEnds" "FACTORIAL" "[I") (.int 4)) (.int 24)) (by decide +kernel))
    | 5, _ => exact va_eqt (hs (.eq (.elem (.static "FarEnds" "FACTORIAL" "[I") (.int 5)) (.int 120)) (by decide +kernel))
    | j + 6, hj => omega) hA0
  have hZ := va_Zof (A := fun q : Nat => s.heap.size ≤ q) (hts0 (.laysStatic "FarEnds" "FACTORIAL" "[I") (List.mem_of_getElem? (i := 551) (by decide +kernel))) (hts _ in_FarEnds) hf9 hA0
  have R1 : Rn l (dC, dI) cs RL cL_law 4 10 396 600000 7302250 s.heap.size (fun pc lc st t k n => ∀ (H : Heap) (locs : List Loc) (ls : Array Slot), Reg (dC, dI) s.heap.size t H → va_S (fun q : Nat => s.heap.size ≤ q) s.heap H locs → lv_has ls 4 (asl 0 lc) → W p l e room_1 s m #[Value.ref b] below meth c H locs k n (lw_Z below #[Value.ref b] s) (F0 m pc ls st)) := ⟨p, e, room_1, s, m, #[Value.ref b], below, meth, c, fun q => s.heap.size ≤ q, lw_Z below #[Value.ref b] s, hx, hb, hml, hown, hts, hCn, fun _ h => h, Or.inl rfl, rfl, rfl, rfl, rfl, rfl⟩
  have main : (fun (pc : Nat) (lc : List (Option Value)) (st : List Value) (t : List va_E) (k n : Nat) => ∀ (H : Heap) (locs : List Loc) (ls : Array Slot), Reg (dC, dI) s.heap.size t H → va_S (fun q : Nat => s.heap.size ≤ q) s.heap H locs → lv_has ls 4 (asl 0 lc) → W p l e room_1 s m #[Value.ref b] below meth c H locs k n (lw_Z below #[Value.ref b] s) (F0 m pc ls st)) 0 [some (.ref b), none, none, none] [] [] 0 0 := by
    refine n_new R1 [.inr (10, [.null, .int 0, .null, .null, .null, .null, .null, .null, .int 0, .null, .null, .int 0, .null, .null, .null, .null])] dL_law_0 (ci := 10) (C := RX10) (T := TX10) (N := 16) (fs := zf10) (j := 0) inG10 tyX10 tyX10_ok cl_L_7 is_X10 in_FarEnds rfl df10 rfl rfl (Nat.le_of_ble_eq_true rfl) (Nat.le_of_ble_eq_true rfl) ?_
    refine n_dup R1 dL_law_3 rfl ?_
    refine n_init R1 (j := 0) [] [.inr (10, [.ref (s.heap.size + 1), .int 0, .ref (s.heap.size + 4), .ref (s.heap.size + 5), .ref (s.heap.size + 6), .ref (s.heap.size + 24), .ref (s.heap.size + 25), .ref (s.heap.size + 26), .int 0, .ref (s.heap.size + 27), .ref (s.heap.size + 28), .int 0, .ref (s.heap.size + 29), .ref (s.heap.size + 32), .ref (s.heap.size + 34), .ref (s.heap.size + 38)]), .inr (6, [.ref (s.heap.size + 2), .int 0, .int 0, .int (-1), .int 0, .ref (s.heap.size + 3), .int 0, .int 0, .int 0, .int 0, .int 0]), .inl (cs 0, 240, .inl (fun _ => 0)), .inl (cs 0, 5, .inl (fun _ => 0)), .inl (cs 0, 5, .inl (fun _ => 0)), .inr (8, [.int 0, .int 0, .int 0, .int 0, .int 0, .int 0, .int 0, .int 0]), .inr (5, [.ref (s.heap.size + 7), .int 0, .int 0]), .inl (cs 2, 16, .inr (.inr (.inr (.inr (va_up (va_up (va_up (va_up (va_up (va_up (va_up (va_up (va_up (va_up (va_up (va_up (va_up (va_up (va_up (va_up (fun _ => none) ((0 : Int32)).toNatClampNeg (some (s.heap.size + 8))) ((1 : Int32)).toNatClampNeg (some (s.heap.size + 9))) ((2 : Int32)).toNatClampNeg (some (s.heap.size + 10))) ((3 : Int32)).toNatClampNeg (some (s.heap.size + 11))) ((4 : Int32)).toNatClampNeg (some (s.heap.size + 12))) ((5 : Int32)).toNatClampNeg (some (s.heap.size + 13))) ((6 : Int32)).toNatClampNeg (some (s.heap.size + 14))) ((7 : Int32)).toNatClampNeg (some (s.heap.size + 15))) ((8 : Int32)).toNatClampNeg (some (s.heap.size + 16))) ((9 : Int32)).toNatClampNeg (some (s.heap.size + 17))) ((10 : Int32)).toNatClampNeg (some (s.heap.size + 18))) ((11 : Int32)).toNatClampNeg (some (s.heap.size + 19))) ((12 : Int32)).toNatClampNeg (some (s.heap.size + 20))) ((13 : Int32)).toNatClampNeg (some (s.heap.size + 21))) ((14 : Int32)).toNatClampNeg (some (s.heap.size + 22))) ((15 : Int32)).toNatClampNeg (some (s.heap.size + 23))))))), .inr (8, [.int 0, .int 0, .int 0, .int 0, .int 0, .int 0, .int 0, .int 0]), .inr (8, [.int 0, .int 0, .int 0, .int 0, .int 0, .int 0, .int 0, .int 0]), .inr (8, [.int 0, .int 0, .int 0, .int 0, .int 0, .int 0, .int 0, .int 0]), .inr (8, [.int 0, .int 0, .int 0, .int 0, .int 0, .int 0, .int 0, .int 0]), .inr (8, [.int 0, .int 0, .int 0, .int 0, .int 0, .int 0, .int 0, .int 0]), .inr (8, [.int 0, .int 0, .int 0, .int 0, .int 0, .int 0, .int 0, .int 0]), .inr (8, [.int 0, .int 0, .int 0, .int 0, .int 0, .int 0, .int 0, .int 0]), .inr (8, [.int 0, .int 0, .int 0, .int 0, .int 0, .int 0, .int 0, .int 0]), .inr (8, [.int 0, .int 0, .int 0, .int 0, .int 0, .int 0, .int 0, .int 0]), .inr (8, [.int 0, .int 0, .int 0, .int 0, .int 0, .int 0, .int 0, .int 0]), .inr (8, [.int 0, .int 0, .int 0, .int 0, .int 0, .int 0, .int 0, .int 0]), .inr (8, [.int 0, .int 0, .int 0, .int 0, .int 0, .int 0, .int 0, .int 0]), .inr (8, [.int 0, .int 0, .int 0, .int 0, .int 0, .int 0, .int 0, .int 0]), .inr (8, [.int 0, .int 0, .int 0, .int 0, .int 0, .int 0, .int 0, .int 0]), .inr (8, [.int 0, .int 0, .int 0, .int 0, .int 0, .int 0, .int 0, .int 0]), .inr (8, [.int 0, .int 0, .int 0, .int 0, .int 0, .int 0, .int 0, .int 0]), .inr (0, [.int 0]), .inl (cs 3, 2, .inr (.inr (.inr (.inr (va_up (va_up (fun _ => none) ((0 : Int32)).toNatClampNeg (some (s.heap.size + 40))) ((1 : Int32)).toNatClampNeg (some (s.heap.size + 42))))))), .inl (cs 4, 8, .inr (.inr (.inr (.inr (va_up (va_up (va_up (va_up (va_up (va_up (va_up (va_up (fun _ => none) ((0 : Int32)).toNatClampNeg (some (s.heap.size + 44))) ((1 : Int32)).toNatClampNeg (some (s.heap.size + 48))) ((2 : Int32)).toNatClampNeg (some (s.heap.size + 52))) ((3 : Int32)).toNatClampNeg (some (s.heap.size + 56))) ((4 : Int32)).toNatClampNeg (some (s.heap.size + 60))) ((5 : Int32)).toNatClampNeg (some (s.heap.size + 64))) ((6 : Int32)).toNatClampNeg (some (s.heap.size + 68))) ((7 : Int32)).toNatClampNeg (some (s.heap.size + 72))))))), .inl (cs 0, 15, .inl (fun _ => 0)), .inl (cs 0, 15, .inl (fun _ => 0)), .inr (3, [.ref (s.heap.size + 30), .ref (s.heap.size + 31)]), .inl (cs 0, 11, .inl (fun _ => 0)), .inl (cs 0, 11, .inl (fun _ => 0)), .inr (4, [.ref (s.heap.size + 33)]), .inl (cs 0, 5, .inl (fun _ => 0)), .inr (1, [.int 0, .ref (s.heap.size + 35), .ref (s.heap.size + 36), .ref (s.heap.size + 37)]), .inl (cs 0, 5, .inl (fun _ => 0)), .inl (cs 0, 5, .inl (fun _ => 0)), .inl (cs 0, 25, .inl (fun _ => 0)), .inr (9, [.ref (s.heap.size + 39)]), .inl (cs 0, 5, .inl (fun _ => 0)), .inr (2, [.ref (s.heap.size + 41), .int 0, .int 0]), .inr (8, [.int 0, .int 0, .int 0, .int 0, .int 0, .int 0, .int 0, .int 0]), .inr (2, [.ref (s.heap.size + 43), .int 0, .int 0]), .inr (8, [.int 0, .int 0, .int 0, .int 0, .int 0, .int 0, .int 0, .int 0]), .inr (7, [.int 0, .int 0, .int 0, .int 0, .int 0, .int 0, .int 0, .ref (s.heap.size + 45)]), .inr (3, [.ref (s.heap.size + 46), .ref (s.heap.size + 47)]), .inl (cs 0, 11, .inl (fun _ => 0)), .inl (cs 0, 11, .inl (fun _ => 0)), .inr (7, [.int 0, .int 0, .int 0, .int 0, .int 0, .int 0, .int 0, .ref (s.heap.size + 49)]), .inr (3, [.ref (s.heap.size + 50), .ref (s.heap.size + 51)]), .inl (cs 0, 11, .inl (fun _ => 0)), .inl (cs 0, 11, .inl (fun _ => 0)), .inr (7, [.int 0, .int 0, .int 0, .int 0, .int 0, .int 0, .int 0, .ref (s.heap.size + 53)]), .inr (3, [.ref (s.heap.size + 54), .ref (s.heap.size + 55)]), .inl (cs 0, 11, .inl (fun _ => 0)), .inl (cs 0, 11, .inl (fun _ => 0)), .inr (7, [.int 0, .int 0, .int 0, .int 0, .int 0, .int 0, .int 0, .ref (s.heap.size + 57)]), .inr (3, [.ref (s.heap.size + 58), .ref (s.heap.size + 59)]), .inl (cs 0, 11, .inl (fun _ => 0)), .inl (cs 0, 11, .inl (fun _ => 0)), .inr (7, [.int 0, .int 0, .int 0, .int 0, .int 0, .int 0, .int 0, .ref (s.heap.size + 61)]), .inr (3, [.ref (s.heap.size + 62), .ref (s.heap.size + 63)]), .inl (cs 0, 11, .inl (fun _ => 0)), .inl (cs 0, 11, .inl (fun _ => 0)), .inr (7, [.int 0, .int 0, .int 0, .int 0, .int 0, .int 0, .int 0, .ref (s.heap.size + 65)]), .inr (3, [.ref (s.heap.size + 66), .ref (s.heap.size + 67)]), .inl (cs 0, 11, .inl (fun _ => 0)), .inl (cs 0, 11, .inl (fun _ => 0)), .inr (7, [.int 0, .int 0, .int 0, .int 0, .int 0, .int 0, .int 0, .ref (s.heap.size + 69)]), .inr (3, [.ref (s.heap.size + 70), .ref (s.heap.size + 71)]), .inl (cs 0, 11, .inl (fun _ => 0)), .inl (cs 0, 11, .inl (fun _ => 0)), .inr (7, [.int 0, .int 0, .int 0, .int 0, .int 0, .int 0, .int 0, .ref (s.heap.size + 73)]), .inr (3, [.ref (s.heap.size + 74), .ref (s.heap.size + 75)]), .inl (cs 0, 11, .inl (fun _ => 0)), .inl (cs 0, 11, .inl (fun _ => 0))] dL_law_4 (k_Fe_init (u := s.heap.size + 0)) ml_L_9 im_Fe in_FarEnds cw_Fe rfl rfl ⟨by decide +kernel, by decide +kernel, by decide +kernel⟩ (by decide) ⟨Nat.le_of_ble_eq_true rfl, Nat.le_of_ble_eq_true rfl⟩ (Nat.le_of_ble_eq_true rfl) rfl rfl rfl ?_
    refine n_astore_1 R1 dL_law_7 (by decide) rfl ?_
    refine n_new R1 [.inr (10, [.ref (s.heap.size + 1), .int 0, .ref (s.heap.size + 4), .ref (s.heap.size + 5), .ref (s.heap.size + 6), .ref (s.heap.size + 24), .ref (s.heap.size + 25), .ref (s.heap.size + 26), .int 0, .ref (s.heap.size + 27), .ref (s.heap.size + 28), .int 0, .ref (s.heap.size + 29), .ref (s.heap.size + 32), .ref (s.heap.size + 34), .ref (s.heap.size + 38)]), .inr (6, [.ref (s.heap.size + 2), .int 0, .int 0, .int (-1), .int 0, .ref (s.heap.size + 3), .int 0, .int 0, .int 0, .int 0, .int 0]), .inl (cs 0, 240, .inl (fun _ => 0)), .inl (cs 0, 5, .inl (fun _ => 0)), .inl (cs 0, 5, .inl (fun _ => 0)), .inr (8, [.int 0, .int 0, .int 0, .int 0, .int 0, .int 0, .int 0, .int 0]), .inr (5, [.ref (s.heap.size + 7), .int 0, .int 0]), .inl (cs 2, 16, .inr (.inr (.inr (.inr (va_up (va_up (va_up (va_up (va_up (va_up (va_up (va_up (va_up (va_up (va_up (va_up (va_up (va_up (va_up (va_up (fun _ => none) ((0 : Int32)).toNatClampNeg (some (s.heap.size + 8))) ((1 : Int32)).toNatClampNeg (some (s.heap.size + 9))) ((2 : Int32)).toNatClampNeg (some (s.heap.size + 10))) ((3 : Int32)).toNatClampNeg (some (s.heap.size + 11))) ((4 : Int32)).toNatClampNeg (some (s.heap.size + 12))) ((5 : Int32)).toNatClampNeg (some (s.heap.size + 13))) ((6 : Int32)).toNatClampNeg (some (s.heap.size + 14))) ((7 : Int32)).toNatClampNeg (some (s.heap.size + 15))) ((8 : Int32)).toNatClampNeg (some (s.heap.size + 16))) ((9 : Int32)).toNatClampNeg (some (s.heap.size + 17))) ((10 : Int32)).toNatClampNeg (some (s.heap.size + 18))) ((11 : Int32)).toNatClampNeg (some (s.heap.size + 19))) ((12 : Int32)).toNatClampNeg (some (s.heap.size + 20))) ((13 : Int32)).toNatClampNeg (some (s.heap.size + 21))) ((14 : Int32)).toNatClampNeg (some (s.heap.size + 22))) ((15 : Int32)).toNatClampNeg (some (s.heap.size + 23))))))), .inr (8, [.int 0, .int 0, .int 0, .int 0, .int 0, .int 0, .int 0, .int 0]), .inr (8, [.int 0, .int 0, .int 0, .int 0, .int 0, .int 0, .int 0, .int 0]), .inr (8, [.int 0, .int 0, .int 0, .int 0, .int 0, .int 0, .int 0, .int 0]), .inr (8, [.int 0, .int 0, .int 0, .int 0, .int 0, .int 0, .int 0, .int 0]), .inr (8, [.int 0, .int 0, .int 0, .int 0, .int 0, .int 0, .int 0, .int 0]), .inr (8, [.int 0, .int 0, .int 0, .int 0, .int 0, .int 0, .int 0, .int 0]), .inr (8, [.int 0, .int 0, .int 0, .int 0, .int 0, .int 0, .int 0, .int 0]), .inr (8, [.int 0, .int 0, .int 0, .int 0, .int 0, .int 0, .int 0, .int 0]), .inr (8, [.int 0, .int 0, .int 0, .int 0, .int 0, .int 0, .int 0, .int 0]), .inr (8, [.int 0, .int 0, .int 0, .int 0, .int 0, .int 0, .int 0, .int 0]), .inr (8, [.int 0, .int 0, .int 0, .int 0, .int 0, .int 0, .int 0, .int 0]), .inr (8, [.int 0, .int 0, .int 0, .int 0, .int 0, .int 0, .int 0, .int 0]), .inr (8, [.int 0, .int 0, .int 0, .int 0, .int 0, .int 0, .int 0, .int 0]), .inr (8, [.int 0, .int 0, .int 0, .int 0, .int 0, .int 0, .int 0, .int 0]), .inr (8, [.int 0, .int 0, .int 0, .int 0, .int 0, .int 0, .int 0, .int 0]), .inr (8, [.int 0, .int 0, .int 0, .int 0, .int 0, .int 0, .int 0, .int 0]), .inr (0, [.int 0]), .inl (cs 3, 2, .inr (.inr (.inr (.inr (va_up (va_up (fun _ => none) ((0 : Int32)).toNatClampNeg (some (s.heap.size + 40))) ((1 : Int32)).toNatClampNeg (some (s.heap.size + 42))))))), .inl (cs 4, 8, .inr (.inr (.inr (.inr (va_up (va_up (va_up (va_up (va_up (va_up (va_up (va_up (fun _ => none) ((0 : Int32)).toNatClampNeg (some (s.heap.size + 44))) ((1 : Int32)).toNatClampNeg (some (s.heap.size + 48))) ((2 : Int32)).toNatClampNeg (some (s.heap.size + 52))) ((3 : Int32)).toNatClampNeg (some (s.heap.size + 56))) ((4 : Int32)).toNatClampNeg (some (s.heap.size + 60))) ((5 : Int32)).toNatClampNeg (some (s.heap.size + 64))) ((6 : Int32)).toNatClampNeg (some (s.heap.size + 68))) ((7 : Int32)).toNatClampNeg (some (s.heap.size + 72))))))), .inl (cs 0, 15, .inl (fun _ => 0)), .inl (cs 0, 15, .inl (fun _ => 0)), .inr (3, [.ref (s.heap.size + 30), .ref (s.heap.size + 31)]), .inl (cs 0, 11, .inl (fun _ => 0)), .inl (cs 0, 11, .inl (fun _ => 0)), .inr (4, [.ref (s.heap.size + 33)]), .inl (cs 0, 5, .inl (fun _ => 0)), .inr (1, [.int 0, .ref (s.heap.size + 35), .ref (s.heap.size + 36), .ref (s.heap.size + 37)]), .inl (cs 0, 5, .inl (fun _ => 0)), .inl (cs 0, 5, .inl (fun _ => 0)), .inl (cs 0, 25, .inl (fun _ => 0)), .inr (9, [.ref (s.heap.size + 39)]), .inl (cs 0, 5, .inl (fun _ => 0)), .inr (2, [.ref (s.heap.size + 41), .int 0, .int 0]), .inr (8, [.int 0, .int 0, .int 0, .int 0, .int 0, .int 0, .int 0, .int 0]), .inr (2, [.ref (s.heap.size + 43), .int 0, .int 0]), .inr (8, [.int 0, .int 0, .int 0, .int 0, .int 0, .int 0, .int 0, .int 0]), .inr (7, [.int 0, .int 0, .int 0, .int 0, .int 0, .int 0, .int 0, .ref (s.heap.size + 45)]), .inr (3, [.ref (s.heap.size + 46), .ref (s.heap.size + 47)]), .inl (cs 0, 11, .inl (fun _ => 0)), .inl (cs 0, 11, .inl (fun _ => 0)), .inr (7, [.int 0, .int 0, .int 0, .int 0, .int 0, .int 0, .int 0, .ref (s.heap.size + 49)]), .inr (3, [.ref (s.heap.size + 50), .ref (s.heap.size + 51)]), .inl (cs 0, 11, .inl (fun _ => 0)), .inl (cs 0, 11, .inl (fun _ => 0)), .inr (7, [.int 0, .int 0, .int 0, .int 0, .int 0, .int 0, .int 0, .ref (s.heap.size + 53)]), .inr (3, [.ref (s.heap.size + 54), .ref (s.heap.size + 55)]), .inl (cs 0, 11, .inl (fun _ => 0)), .inl (cs 0, 11, .inl (fun _ => 0)), .inr (7, [.int 0, .int 0, .int 0, .int 0, .int 0, .int 0, .int 0, .ref (s.heap.size + 57)]), .inr (3, [.ref (s.heap.size + 58), .ref (s.heap.size + 59)]), .inl (cs 0, 11, .inl (fun _ => 0)), .inl (cs 0, 11, .inl (fun _ => 0)), .inr (7, [.int 0, .int 0, .int 0, .int 0, .int 0, .int 0, .int 0, .ref (s.heap.size + 61)]), .inr (3, [.ref (s.heap.size + 62), .ref (s.heap.size + 63)]), .inl (cs 0, 11, .inl (fun _ => 0)), .inl (cs 0, 11, .inl (fun _ => 0)), .inr (7, [.int 0, .int 0, .int 0, .int 0, .int 0, .int 0, .int 0, .ref (s.heap.size + 65)]), .inr (3, [.ref (s.heap.size + 66), .ref (s.heap.size + 67)]), .inl (cs 0, 11, .inl (fun _ => 0)), .inl (cs 0, 11, .inl (fun _ => 0)), .inr (7, [.int 0, .int 0, .int 0, .int 0, .int 0, .int 0, .int 0, .ref (s.heap.size + 69)]), .inr (3, [.ref (s.heap.size + 70), .ref (s.heap.size + 71)]), .inl (cs 0, 11, .inl (fun _ => 0)), .inl (cs 0, 11, .inl (fun _ => 0)), .inr (7, [.int 0, .int 0, .int 0, .int 0, .int 0, .int 0, .int 0, .ref (s.heap.size + 73)]), .inr (3, [.ref (s.heap.size + 74), .ref (s.heap.size + 75)]), .inl (cs 0, 11, .inl (fun _ => 0)), .inl (cs 0, 11, .inl (fun _ => 0)), .inr (11, [.int 0, .null, .int 0, .int 0, .int 0, .int 0, .int 0, .null, .null, .null, .long 0, .int 0, .null, .int 0, .null, .null, .null, .int 0, .int 0, .int 0, .int 0, .int 0, .int 0, .null, .null, .int 0, .int 0, .null, .int 0, .null, .null, .null, .null, .null, .int 0, .null, .null, .null, .null, .null, .null])] dL_law_8 (ci := 11) (C := RX11) (T := TX11) (N := 41) (fs := zf11) (j := 76) inG11 tyX11 tyX11_ok cl_L_10 is_X11 in_FarEndsModel rfl df11 rfl rfl (Nat.le_of_ble_eq_true rfl) (Nat.le_of_ble_eq_true rfl) ?_
    refine n_dup R1 dL_law_11 rfl ?_
    refine n_init R1 (j := 76) [.inr (10, [.ref (s.heap.size + 1), .int 0, .ref (s.heap.size + 4), .ref (s.heap.size + 5), .ref (s.heap.size + 6), .ref (s.heap.size + 24), .ref (s.heap.size + 25), .ref (s.heap.size + 26), .int 0, .ref (s.heap.size + 27), .ref (s.heap.size + 28), .int 0, .ref (s.heap.size + 29), .ref (s.heap.size + 32), .ref (s.heap.size + 34), .ref (s.heap.size + 38)]), .inr (6, [.ref (s.heap.size + 2), .int 0, .int 0, .int (-1), .int 0, .ref (s.heap.size + 3), .int 0, .int 0, .int 0, .int 0, .int 0]), .inl (cs 0, 240, .inl (fun _ => 0)), .inl (cs 0, 5, .inl (fun _ => 0)), .inl (cs 0, 5, .inl (fun _ => 0)), .inr (8, [.int 0, .int 0, .int 0, .int 0, .int 0, .int 0, .int 0, .int 0]), .inr (5, [.ref (s.heap.size + 7), .int 0, .int 0]), .inl (cs 2, 16, .inr (.inr (.inr (.inr (va_up (va_up (va_up (va_up (va_up (va_up (va_up (va_up (va_up (va_up (va_up (va_up (va_up (va_up (va_up (va_up (fun _ => none) ((0 : Int32)).toNatClampNeg (some (s.heap.size + 8))) ((1 : Int32)).toNatClampNeg (some (s.heap.size + 9))) ((2 : Int32)).toNatClampNeg (some (s.heap.size + 10))) ((3 : Int32)).toNatClampNeg (some (s.heap.size + 11))) ((4 : Int32)).toNatClampNeg (some (s.heap.size + 12))) ((5 : Int32)).toNatClampNeg (some (s.heap.size + 13))) ((6 : Int32)).toNatClampNeg (some (s.heap.size + 14))) ((7 : Int32)).toNatClampNeg (some (s.heap.size + 15))) ((8 : Int32)).toNatClampNeg (some (s.heap.size + 16))) ((9 : Int32)).toNatClampNeg (some (s.heap.size + 17))) ((10 : Int32)).toNatClampNeg (some (s.heap.size + 18))) ((11 : Int32)).toNatClampNeg (some (s.heap.size + 19))) ((12 : Int32)).toNatClampNeg (some (s.heap.size + 20))) ((13 : Int32)).toNatClampNeg (some (s.heap.size + 21))) ((14 : Int32)).toNatClampNeg (some (s.heap.size + 22))) ((15 : Int32)).toNatClampNeg (some (s.heap.size + 23))))))), .inr (8, [.int 0, .int 0, .int 0, .int 0, .int 0, .int 0, .int 0, .int 0]), .inr (8, [.int 0, .int 0, .int 0, .int 0, .int 0, .int 0, .int 0, .int 0]), .inr (8, [.int 0, .int 0, .int 0, .int 0, .int 0, .int 0, .int 0, .int 0]), .inr (8, [.int 0, .int 0, .int 0, .int 0, .int 0, .int 0, .int 0, .int 0]), .inr (8, [.int 0, .int 0, .int 0, .int 0, .int 0, .int 0, .int 0, .int 0]), .inr (8, [.int 0, .int 0, .int 0, .int 0, .int 0, .int 0, .int 0, .int 0]), .inr (8, [.int 0, .int 0, .int 0, .int 0, .int 0, .int 0, .int 0, .int 0]), .inr (8, [.int 0, .int 0, .int 0, .int 0, .int 0, .int 0, .int 0, .int 0]), .inr (8, [.int 0, .int 0, .int 0, .int 0, .int 0, .int 0, .int 0, .int 0]), .inr (8, [.int 0, .int 0, .int 0, .int 0, .int 0, .int 0, .int 0, .int 0]), .inr (8, [.int 0, .int 0, .int 0, .int 0, .int 0, .int 0, .int 0, .int 0]), .inr (8, [.int 0, .int 0, .int 0, .int 0, .int 0, .int 0, .int 0, .int 0]), .inr (8, [.int 0, .int 0, .int 0, .int 0, .int 0, .int 0, .int 0, .int 0]), .inr (8, [.int 0, .int 0, .int 0, .int 0, .int 0, .int 0, .int 0, .int 0]), .inr (8, [.int 0, .int 0, .int 0, .int 0, .int 0, .int 0, .int 0, .int 0]), .inr (8, [.int 0, .int 0, .int 0, .int 0, .int 0, .int 0, .int 0, .int 0]), .inr (0, [.int 0]), .inl (cs 3, 2, .inr (.inr (.inr (.inr (va_up (va_up (fun _ => none) ((0 : Int32)).toNatClampNeg (some (s.heap.size + 40))) ((1 : Int32)).toNatClampNeg (some (s.heap.size + 42))))))), .inl (cs 4, 8, .inr (.inr (.inr (.inr (va_up (va_up (va_up (va_up (va_up (va_up (va_up (va_up (fun _ => none) ((0 : Int32)).toNatClampNeg (some (s.heap.size + 44))) ((1 : Int32)).toNatClampNeg (some (s.heap.size + 48))) ((2 : Int32)).toNatClampNeg (some (s.heap.size + 52))) ((3 : Int32)).toNatClampNeg (some (s.heap.size + 56))) ((4 : Int32)).toNatClampNeg (some (s.heap.size + 60))) ((5 : Int32)).toNatClampNeg (some (s.heap.size + 64))) ((6 : Int32)).toNatClampNeg (some (s.heap.size + 68))) ((7 : Int32)).toNatClampNeg (some (s.heap.size + 72))))))), .inl (cs 0, 15, .inl (fun _ => 0)), .inl (cs 0, 15, .inl (fun _ => 0)), .inr (3, [.ref (s.heap.size + 30), .ref (s.heap.size + 31)]), .inl (cs 0, 11, .inl (fun _ => 0)), .inl (cs 0, 11, .inl (fun _ => 0)), .inr (4, [.ref (s.heap.size + 33)]), .inl (cs 0, 5, .inl (fun _ => 0)), .inr (1, [.int 0, .ref (s.heap.size + 35), .ref (s.heap.size + 36), .ref (s.heap.size + 37)]), .inl (cs 0, 5, .inl (fun _ => 0)), .inl (cs 0, 5, .inl (fun _ => 0)), .inl (cs 0, 25, .inl (fun _ => 0)), .inr (9, [.ref (s.heap.size + 39)]), .inl (cs 0, 5, .inl (fun _ => 0)), .inr (2, [.ref (s.heap.size + 41), .int 0, .int 0]), .inr (8, [.int 0, .int 0, .int 0, .int 0, .int 0, .int 0, .int 0, .int 0]), .inr (2, [.ref (s.heap.size + 43), .int 0, .int 0]), .inr (8, [.int 0, .int 0, .int 0, .int 0, .int 0, .int 0, .int 0, .int 0]), .inr (7, [.int 0, .int 0, .int 0, .int 0, .int 0, .int 0, .int 0, .ref (s.heap.size + 45)]), .inr (3, [.ref (s.heap.size + 46), .ref (s.heap.size + 47)]), .inl (cs 0, 11, .inl (fun _ => 0)), .inl (cs 0, 11, .inl (fun _ => 0)), .inr (7, [.int 0, .int 0, .int 0, .int 0, .int 0, .int 0, .int 0, .ref (s.heap.size + 49)]), .inr (3, [.ref (s.heap.size + 50), .ref (s.heap.size + 51)]), .inl (cs 0, 11, .inl (fun _ => 0)), .inl (cs 0, 11, .inl (fun _ => 0)), .inr (7, [.int 0, .int 0, .int 0, .int 0, .int 0, .int 0, .int 0, .ref (s.heap.size + 53)]), .inr (3, [.ref (s.heap.size + 54), .ref (s.heap.size + 55)]), .inl (cs 0, 11, .inl (fun _ => 0)), .inl (cs 0, 11, .inl (fun _ => 0)), .inr (7, [.int 0, .int 0, .int 0, .int 0, .int 0, .int 0, .int 0, .ref (s.heap.size + 57)]), .inr (3, [.ref (s.heap.size + 58), .ref (s.heap.size + 59)]), .inl (cs 0, 11, .inl (fun _ => 0)), .inl (cs 0, 11, .inl (fun _ => 0)), .inr (7, [.int 0, .int 0, .int 0, .int 0, .int 0, .int 0, .int 0, .ref (s.heap.size + 61)]), .inr (3, [.ref (s.heap.size + 62), .ref (s.heap.size + 63)]), .inl (cs 0, 11, .inl (fun _ => 0)), .inl (cs 0, 11, .inl (fun _ => 0)), .inr (7, [.int 0, .int 0, .int 0, .int 0, .int 0, .int 0, .int 0, .ref (s.heap.size + 65)]), .inr (3, [.ref (s.heap.size + 66), .ref (s.heap.size + 67)]), .inl (cs 0, 11, .inl (fun _ => 0)), .inl (cs 0, 11, .inl (fun _ => 0)), .inr (7, [.int 0, .int 0, .int 0, .int 0, .int 0, .int 0, .int 0, .ref (s.heap.size + 69)]), .inr (3, [.ref (s.heap.size + 70), .ref (s.heap.size + 71)]), .inl (cs 0, 11, .inl (fun _ => 0)), .inl (cs 0, 11, .inl (fun _ => 0)), .inr (7, [.int 0, .int 0, .int 0, .int 0, .int 0, .int 0, .int 0, .ref (s.heap.size + 73)]), .inr (3, [.ref (s.heap.size + 74), .ref (s.heap.size + 75)]), .inl (cs 0, 11, .inl (fun _ => 0)), .inl (cs 0, 11, .inl (fun _ => 0))] (t99 cs s.heap.size) dL_law_12 (k_Md_init (u := s.heap.size + 76)) ml_L_12 im_Md in_FarEndsModel cw_Md rfl rfl ⟨by decide +kernel, by decide +kernel, by decide +kernel⟩ (by decide) ⟨Nat.le_of_ble_eq_true rfl, Nat.le_of_ble_eq_true rfl⟩ (Nat.le_of_ble_eq_true rfl) rfl rfl rfl ?_
    refine n_astore_2 R1 dL_law_15 (by decide) rfl ?_
    refine n_iconst R1 dL_law_16 (v := (0 : Int32)) (by decide) ?_
    refine n_istore_3 R1 dL_law_17 (by decide) rfl ?_
    intro H locs ls hReg hS hl
    have K := law_loop (l := l) (D := (dC, dI)) (cs := cs) (φ := ph s.heap.size f9) (b := b) (xs := xs) (V := Vw p l e room_1 s m #[Value.ref b] below meth c (dC, dI) cs (ph s.heap.size f9) (fun q : Nat => s.heap.size ≤ q) 4 99 1810 (lw_Z below #[Value.ref b] s)) Rel hL
      ⟨p, e, room_1, s, m, #[Value.ref b], below, meth, c, fun q => s.heap.size ≤ q, 99, 1810, lw_Z below #[Value.ref b] s, hx, hb, hml, hown, hts, ⟨hK, ph_inj _ _, hN, hZ, hT⟩, fun i hi => by dsimp only; rw [ph_lt hi]; omega, rfl, rfl, Nat.le_of_ble_eq_true rfl, Nat.le_of_ble_eq_true rfl, rfl⟩
      (fun pc lc st h i hd hi k H locs ls hW hS hl => va_sld hx hb hX hbl (hA0 b hbl) hS hi hd (k H locs ls hW hS hl))
      (fun pc lc st h hd k H locs ls hW hS hl => va_slen hx hb hX hbl (hA0 b hbl) hS hd (k H locs ls hW hS hl))
      (fun pc lc h hd H locs ls hW hS hl => va_forget (fun q hq => hS.2.2 q hq) (W.widen (k := 600000) (n := 7302250) (Nat.le_of_ble_eq_true rfl) (Nat.le_of_ble_eq_true rfl) (lw_ret hx hb hr hlocks hd)))
      G0 G1 G2 G3 G4 G5 G6 G7 G8 G9 G10 G11 G12 G13 G14 G15 G16 G17 G18 G19 G20 G21 G22 G23 G24 G25 G26 (L + 4) 0 h0 (by omega) (by omega) hR0
    exact K H locs ls (wh_init hReg) hS hl
  rw [lg_entry_eq]
  exact main s.heap [] _ ⟨rfl, fun k e h => by simp at h⟩ va_S.rf (lv_entry [.ref b] (Nat.le_of_ble_eq_true rfl))

