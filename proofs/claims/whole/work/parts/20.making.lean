section
def Reg (D : va_G) (u : Nat) (t : List va_E) (H : Heap) : Prop := H.size = u + t.length ∧ ∀ (k : Nat) (e : va_E), t[k]? = some e → va_at D vwCl (u + k, e) H
def Cn (D : va_G) (cs : Nat → ClassId) (U : State) : Prop := va_K D vwCl (tys cs) U ∧ (∀ w ∈ lw_n, va_Nw w U) ∧ va_AO "FarEnds$State" U ∧ va_AO "FarEnds$Image" U ∧ va_AO "FarEnds$Seen" U
theorem Cn_calling {D : va_G} {cs : Nat → ClassId} {U : State} {g : JFrame} {mk : MethodId} {a : Array Value} (h : Cn D cs U) : Cn D cs (U.calling g mk a) := by
  obtain ⟨h1, h2, h3, h4, h5⟩ := h
  refine ⟨va_K.moved (u := U) (Vm.Alike.refl U.vm) h1, fun w hw => ?_, va_AO.moved (u := U) (Vm.Alike.refl U.vm) h3, va_AO.moved (u := U) (Vm.Alike.refl U.vm) h4, va_AO.moved (u := U) (Vm.Alike.refl U.vm) h5⟩
  obtain ⟨x1, x2, x3, x4, rfl⟩ := lw_n_is hw
  exact va_Nw.same rfl rfl (h2 _ hw)
theorem Cn_call {D : va_G} {cs : Nat → ClassId} {s U : State} (h : Cn D cs s) (hW : s.WarmedH U.vm) : Cn D cs U := by
  obtain ⟨h1, h2, h3, h4, h5⟩ := h
  refine ⟨va_K.moved hW.alike h1, fun w hw => ?_, va_AO.moved hW.alike h3, va_AO.moved hW.alike h4, va_AO.moved hW.alike h5⟩
  obtain ⟨x1, x2, x3, x4, rfl⟩ := lw_n_is hw
  exact va_Nw.warmM hW (h2 _ hw)
theorem Reg.kept {D : va_G} {u : Nat} {t : List va_E} {H H1 : Heap} (h : Reg D u t H) (hq : ∀ q : Nat, u ≤ q → q < H.size → H1[q]? = H[q]?) : ∀ (k : Nat) (e : va_E), t[k]? = some e → va_at D vwCl (u + k, e) H1 := fun k e hk => (h.2 k e hk).kept (hq _ (Nat.le_add_right _ _) ((h.2 k e hk).lt))
theorem Reg.push {D : va_G} {u : Nat} {t : List va_E} {H H1 : Heap} {x : va_E} (h : Reg D u t H) (z : H1.size = H.size + 1) (hq : ∀ q : Nat, q < H.size → H1[q]? = H[q]?) (hx : va_at D vwCl (H.size, x) H1) : Reg D u (t ++ [x]) H1 := by
  refine ⟨by rw [z, h.1]; simp; omega, fun k e hk => ?_⟩
  by_cases hl : k < t.length
  · rw [List.getElem?_append_left hl] at hk
    exact h.kept (fun q _ h2 => hq q h2) k e hk
  · have h2 : k < (t ++ [x]).length := (List.getElem?_eq_some_iff.mp hk).1
    have h3 : k = t.length := by simp at h2; omega
    subst h3
    simp at hk
    subst hk
    rw [← h.1]; exact hx
theorem Reg.set {D : va_G} {u : Nat} {t : List va_E} {H H1 : Heap} {x : va_E} {j : Nat} (h : Reg D u t H) (z : H1.size = H.size) (hq : ∀ q : Nat, q ≠ u + j → H1[q]? = H[q]?) (hx : va_at D vwCl (u + j, x) H1) : Reg D u (t.set j x) H1 := by
  refine ⟨by rw [z, h.1, List.length_set], fun k e hk => ?_⟩
  by_cases hl : k = j
  · subst hl
    have h2 : k < t.length := by
      have := (List.getElem?_eq_some_iff.mp hk).1
      simpa using this
    rw [List.getElem?_set_self h2] at hk
    cases hk
    exact hx
  · rw [List.getElem?_set_ne (Ne.symm hl)] at hk
    exact (h.2 k e hk).kept (hq _ (fun q => hl (Nat.add_left_cancel q)))
/-- V is a judgement of the machine in a constructor: place, locals, stack, the region from u on, cells and slots made -/
def Rn (l : Launch) (D : va_G) (cs : Nat → ClassId) (own : String) (cc : ByteArray) (nL fr lo rc rs u : Nat) (V : Nat → List (Option Value) → List Value → List va_E → Nat → Nat → Prop) : Prop :=
  ∃ (p : Program) (e : Env) (R : Room) (s : State) (m : MethodId) (args : Array Value) (below : List Frame) (meth : Method) (c : Code) (A : Nat → Prop) (Q : State → Prop),
    p.tables.exec = Jvm.exec ∧ c.code = cc ∧ c.maxLocals = nL ∧ s.vm.findClass own = some m.cls ∧ (∀ w ∈ lw_g, w.before args s = true) ∧ Cn D cs s ∧ (∀ q, u ≤ q → A q) ∧ (own = RL ∨ meth.name = "<init>") ∧ R.frames = fr ∧ R.locals = lo ∧ R.cells = rc ∧ R.slots = rs ∧
    V = fun pc lc st t k n => ∀ (H : Heap) (locs : List Loc) (ls : Array Slot), Reg D u t H → va_S A s.heap H locs → lv_has ls nL (asl 0 lc) → W p l e R s m args below meth c H locs k n Q (F0 m pc ls st)
def QcN (D : va_G) (u : Nat) (t2 : List va_E) : Array Value → State → Outcome → State → Prop := fun _ st oc t => (oc = .returned none ∧ Reg D u t2 t.heap) ∧ va_F (fun q => u ≤ q) st t
/-- a constructor's contract: at the region's start u it makes t into t2 -/
def Kc (l : Launch) (D : va_G) (cs : Nat → ClassId) (M : Mi) (u : Nat) (t t2 : List va_E) : Prop :=
  Met l M.1 (wsM M) M.2.2.2.2 (va_Pc [.ref u] (fun U => Reg D u t U.heap ∧ Cn D cs U)) (QcN D u t2) M.2.2.2.2.cells M.2.2.2.2.slots (fun q => u ≤ q)
theorem Kc.of {l : Launch} {D : va_G} {cs : Nat → ClassId} {M : Mi} {u : Nat} {t t2 : List va_E} (lc : List (Option Value)) (own : String) (fr lo rc rs : Nat) (ho : own = M.1.cls) (hy : plainName M.1.cls = true) (hin : M.1.name = "<init>") (hl : asl 0 lc = [(0, .ref u)]) (hn : 1 ≤ M.2.2.1) (hret : M.2.2.2.1 = none) (hrm : M.2.2.2.2 = { frames := fr, cells := rc, slots := rs, locals := lo })
    (body : ∀ V : Nat → List (Option Value) → List Value → List va_E → Nat → Nat → Prop, Rn l D cs own M.2.1 M.2.2.1 fr lo rc rs u V → (∀ pc lc, decode M.2.1 pc = .ok (.return_, 1) → V pc lc [] t2 rc rs) → V 0 lc [] t 0 0) : Kc l D cs M u t t2 := by
  obtain ⟨y, cc, maxL, ret, rm⟩ := M
  dsimp only at ho hy hin hn hret hrm body
  subst hret
  subst hrm
  refine Met.ofW (cc := cc) (maxL := maxL) (ret := none) hy rfl ?_
  intro p e s m args below meth c s₁ B hml hv
  obtain ⟨rfl, hWh, hCx⟩ := hv
  have hts := atoms_spec (ws := wsM (y, cc, maxL, none, { frames := fr, cells := rc, slots := rs, locals := lo })) B.pre
  have hown : s.vm.findClass own = some m.cls := by rw [ho]; exact findClass_of_methodNamed B.named
  have hlocks := B.notSynchronized
  have hname : meth.name = "<init>" := by rw [(name_of_methodNamed B.named B.method).1]; exact hin
  have K := body _ ⟨p, e, (headSpec (wsM (y, cc, maxL, none, { frames := fr, cells := rc, slots := rs, locals := lo })) { frames := fr, cells := rc, slots := rs, locals := lo }).room, s, m, ([.ref u] : List Value).toArray, below, meth, c, fun q => u ≤ q, MQ below (QcN D u t2) ([.ref u] : List Value).toArray s rc rs (fun q => u ≤ q), B.exec, B.bytes, hml, hown, fun w hw => hts w (List.mem_cons_of_mem _ hw), hCx, fun _ h => h, Or.inr hname, rfl, rfl, rfl, rfl, rfl⟩
    (fun pc lc hd H locs ls hW hS hl => W.vret B.exec B.bytes B.returns (fun t ht _ => ⟨⟨rfl, by rw [ht]; exact hW⟩, hS.F ht⟩) hS.2.2 hd)
  rw [lg_entry_eq]
  exact K s.heap [] _ hWh va_S.rf (by rw [hl]; exact lv_entry [.ref u] hn)
variable {l : Launch} {D : va_G} {cs : Nat → ClassId} {own : String} {cc : ByteArray} {nL fr lo rc rs u : Nat} {V : Nat → List (Option Value) → List Value → List va_E → Nat → Nat → Prop} {pc k n : Nat} {lc : List (Option Value)} {st : List Value} {t : List va_E}
theorem n_iconst (R : Rn l D cs own cc nL fr lo rc rs u V) {a : Int} {v : Int32} (d : decode cc pc = .ok (.iconst a, 1)) (hv : Int32.ofInt a = v) (kk : V (pc + 1) lc (.int v :: st) t k n) : V pc lc (st) t k n := by
  obtain ⟨p, e, Rm, s, m, args, below, meth, c, A, Q, hx, hb, hml, hown, hts, hC, hA, hini, hfr, hlo, hrc, hrs, rfl⟩ := R
  exact fun H locs ls hW hS hl => lv_iconst hx hb d hv (kk H locs ls hW hS hl)
theorem n_bipush (R : Rn l D cs own cc nL fr lo rc rs u V) {a : Int} {v : Int32} (d : decode cc pc = .ok (.bipush a, 2)) (hv : (Int8.ofInt a).toInt32 = v) (kk : V (pc + 2) lc (.int v :: st) t k n) : V pc lc (st) t k n := by
  obtain ⟨p, e, Rm, s, m, args, below, meth, c, A, Q, hx, hb, hml, hown, hts, hC, hA, hini, hfr, hlo, hrc, hrs, rfl⟩ := R
  exact fun H locs ls hW hS hl => lv_bipush hx hb d hv (kk H locs ls hW hS hl)
theorem n_sipush (R : Rn l D cs own cc nL fr lo rc rs u V) {a : Int} {v : Int32} (d : decode cc pc = .ok (.sipush a, 3)) (hv : (Int16.ofInt a).toInt32 = v) (kk : V (pc + 3) lc (.int v :: st) t k n) : V pc lc (st) t k n := by
  obtain ⟨p, e, Rm, s, m, args, below, meth, c, A, Q, hx, hb, hml, hown, hts, hC, hA, hini, hfr, hlo, hrc, hrs, rfl⟩ := R
  exact fun H locs ls hW hS hl => lv_sipush hx hb d hv (kk H locs ls hW hS hl)
theorem n_dup (R : Rn l D cs own cc nL fr lo rc rs u V) {a : Value} (d : decode cc pc = .ok (.dup, 1)) (ha : a.category = 1) (kk : V (pc + 1) lc (a :: a :: st) t k n) : V pc lc (a :: st) t k n := by
  obtain ⟨p, e, Rm, s, m, args, below, meth, c, A, Q, hx, hb, hml, hown, hts, hC, hA, hini, hfr, hlo, hrc, hrs, rfl⟩ := R
  exact fun H locs ls hW hS hl => lv_dup hx hb d ha (kk H locs ls hW hS hl)
theorem n_aload_0 (R : Rn l D cs own cc nL fr lo rc rs u V) {r : List (Option Value)} {x : Nat} (d : decode cc pc = .ok (.aload_n 0, 1)) (kk : V (pc + 1) (some (.ref x) :: r) (.ref x :: st) t k n) : V pc (some (.ref x) :: r) st t k n := by
  obtain ⟨p, e, Rm, s, m, args, below, meth, c, A, Q, hx, hb, hml, hown, hts, hC, hA, hini, hfr, hlo, hrc, hrs, rfl⟩ := R
  exact fun H locs ls hW hS hl => lv_aload_n hx hb d rfl (as_at hl (i := 0) rfl) (kk H locs ls hW hS hl)
theorem n_iload_1 (R : Rn l D cs own cc nL fr lo rc rs u V) {a0 : Option Value} {r : List (Option Value)} {x : Int32} (d : decode cc pc = .ok (.iload_n 1, 1)) (kk : V (pc + 1) (a0 :: some (.int x) :: r) (.int x :: st) t k n) : V pc (a0 :: some (.int x) :: r) st t k n := by
  obtain ⟨p, e, Rm, s, m, args, below, meth, c, A, Q, hx, hb, hml, hown, hts, hC, hA, hini, hfr, hlo, hrc, hrs, rfl⟩ := R
  exact fun H locs ls hW hS hl => lv_iload_n hx hb d rfl (as_at hl (i := 1) rfl) (kk H locs ls hW hS hl)
theorem n_istore_1 (R : Rn l D cs own cc nL fr lo rc rs u V) {a0 z : Option Value} {r : List (Option Value)} {x : Int32} (d : decode cc pc = .ok (.istore_n 1, 1)) (hn : 1 < nL) (hk : stOk (a0 :: z :: r) 1 = true) (kk : V (pc + 1) (a0 :: some (.int x) :: r) st t k n) : V pc (a0 :: z :: r) (.int x :: st) t k n := by
  obtain ⟨p, e, Rm, s, m, args, below, meth, c, A, Q, hx, hb, hml, hown, hts, hC, hA, hini, hfr, hlo, hrc, hrs, rfl⟩ := R
  exact fun H locs ls hW hS hl => lv_istore_n hx hb d rfl hl hn rfl (fun ls2 hl2 => kk H locs ls2 hW hS (as_set (i := 1) hk hl2))
theorem n_istore_3 (R : Rn l D cs own cc nL fr lo rc rs u V) {a0 a1 a2 z : Option Value} {r : List (Option Value)} {x : Int32} (d : decode cc pc = .ok (.istore_n 3, 1)) (hn : 3 < nL) (hk : stOk (a0 :: a1 :: a2 :: z :: r) 3 = true) (kk : V (pc + 1) (a0 :: a1 :: a2 :: some (.int x) :: r) st t k n) : V pc (a0 :: a1 :: a2 :: z :: r) (.int x :: st) t k n := by
  obtain ⟨p, e, Rm, s, m, args, below, meth, c, A, Q, hx, hb, hml, hown, hts, hC, hA, hini, hfr, hlo, hrc, hrs, rfl⟩ := R
  exact fun H locs ls hW hS hl => lv_istore_n hx hb d rfl hl hn rfl (fun ls2 hl2 => kk H locs ls2 hW hS (as_set (i := 3) hk hl2))
theorem n_astore_1 (R : Rn l D cs own cc nL fr lo rc rs u V) {a0 z : Option Value} {r : List (Option Value)} {x : Nat} (d : decode cc pc = .ok (.astore_n 1, 1)) (hn : 1 < nL) (hk : stOk (a0 :: z :: r) 1 = true) (kk : V (pc + 1) (a0 :: some (.ref x) :: r) st t k n) : V pc (a0 :: z :: r) (.ref x :: st) t k n := by
  obtain ⟨p, e, Rm, s, m, args, below, meth, c, A, Q, hx, hb, hml, hown, hts, hC, hA, hini, hfr, hlo, hrc, hrs, rfl⟩ := R
  exact fun H locs ls hW hS hl => lv_astore_n hx hb d rfl hl hn rfl (fun ls2 hl2 => kk H locs ls2 hW hS (as_set (i := 1) hk hl2))
theorem n_astore_2 (R : Rn l D cs own cc nL fr lo rc rs u V) {a0 a1 z : Option Value} {r : List (Option Value)} {x : Nat} (d : decode cc pc = .ok (.astore_n 2, 1)) (hn : 2 < nL) (hk : stOk (a0 :: a1 :: z :: r) 2 = true) (kk : V (pc + 1) (a0 :: a1 :: some (.ref x) :: r) st t k n) : V pc (a0 :: a1 :: z :: r) (.ref x :: st) t k n := by
  obtain ⟨p, e, Rm, s, m, args, below, meth, c, A, Q, hx, hb, hml, hown, hts, hC, hA, hini, hfr, hlo, hrc, hrs, rfl⟩ := R
  exact fun H locs ls hW hS hl => lv_astore_n hx hb d rfl hl hn rfl (fun ls2 hl2 => kk H locs ls2 hW hS (as_set (i := 2) hk hl2))
theorem n_iinc_1 (R : Rn l D cs own cc nL fr lo rc rs u V) {a0 : Option Value} {r : List (Option Value)} {x : Int32} {a : Int} (v : Int32) (d : decode cc pc = .ok (.iinc 1 a, 3)) (hn : 1 < nL) (hk : stOk (a0 :: some (.int x) :: r) 1 = true) (hv : x + Int32.ofInt a = v) (kk : V (pc + 3) (a0 :: some (.int v) :: r) st t k n) : V pc (a0 :: some (.int x) :: r) st t k n := by
  obtain ⟨p, e, Rm, s, m, args, below, meth, c, A, Q, hx, hb, hml, hown, hts, hC, hA, hini, hfr, hlo, hrc, hrs, rfl⟩ := R
  subst hv
  intro H locs ls hW hS hl
  obtain ⟨k2, hk2⟩ := List.getElem?_of_mem (asl_in (n := 0) (lc := a0 :: some (.int x) :: r) (i := 1) (v := .int x) rfl)
  exact lv_iinc hx hb d hl (k := k2) (by rw [hk2]) rfl hn rfl (fun ls2 hl2 => kk H locs ls2 hW hS (as_set (i := 1) hk hl2))
theorem n_goto (R : Rn l D cs own cc nL fr lo rc rs u V) {off : Int} {tgt : Nat} (d : decode cc pc = .ok (.goto off, 3)) (ht : (pc : Int) + off = (tgt : Int)) (kk : V tgt lc st t k n) : V pc lc st t k n := by
  obtain ⟨p, e, Rm, s, m, args, below, meth, c, A, Q, hx, hb, hml, hown, hts, hC, hA, hini, hfr, hlo, hrc, hrs, rfl⟩ := R
  exact fun H locs ls hW hS hl => lv_goto hx hb d ht (kk H locs ls hW hS hl)
theorem n_ge_t (R : Rn l D cs own cc nL fr lo rc rs u V) {x y : Int32} {off : Int} {tgt : Nat} (d : decode cc pc = .ok (.if_icmp .ge off, 3)) (ht : (pc : Int) + off = (tgt : Int)) (hc : y ≤ x) (kk : V tgt lc st t k n) : V pc lc (.int y :: .int x :: st) t k n := by
  obtain ⟨p, e, Rm, s, m, args, below, meth, c, A, Q, hx, hb, hml, hown, hts, hC, hA, hini, hfr, hlo, hrc, hrs, rfl⟩ := R
  exact fun H locs ls hW hS hl => lv_icmp_ge hx hb d ht (fun _ => kk H locs ls hW hS hl) (fun q => absurd hc q)
theorem n_ge_f (R : Rn l D cs own cc nL fr lo rc rs u V) {x y : Int32} {off : Int} {tgt : Nat} (d : decode cc pc = .ok (.if_icmp .ge off, 3)) (ht : (pc : Int) + off = (tgt : Int)) (hc : ¬ y ≤ x) (kk : V (pc + 3) lc st t k n) : V pc lc (.int y :: .int x :: st) t k n := by
  obtain ⟨p, e, Rm, s, m, args, below, meth, c, A, Q, hx, hb, hml, hown, hts, hC, hA, hini, hfr, hlo, hrc, hrs, rfl⟩ := R
  exact fun H locs ls hW hS hl => lv_icmp_ge hx hb d ht (fun q => absurd q hc) (fun _ => kk H locs ls hW hS hl)
theorem n_obj (R : Rn l D cs own cc nL fr lo rc rs u V) {idx a : Nat} (d : decode cc pc = .ok (.invokespecial idx, 3)) (w1 : Cond.methodLink own idx Lib.objectInit ∈ lw_g) (w2 : Cond.instanceMethod Lib.objectInit ∈ lw_g) (w3 : Cond.code Lib.objectInit ⟨#[0xb1]⟩ 1 none ∈ lw_g) (hf : 1 ≤ fr) (hlo2 : (st.map fun v => v.category).sum + 12 ≤ lo) (kk : V (pc + 3) lc st t k n) : V pc lc (.ref a :: st) t k n := by
  obtain ⟨p, e, Rm, s, m, args, below, meth, c, A, Q, hx, hb, hml, hown, hts, hC, hA, hini, hfr, hlo, hrc, hrs, rfl⟩ := R
  subst hfr; subst hlo
  exact fun H locs ls hW hS hl => W.objInit hx hb hown (hts _ w1) (hts _ w2) (hts _ w3) rfl (by rw [hml]; exact hl.1) rfl d hf (by show 2 * 0 + _ + 12 ≤ _; omega) (kk H locs ls hW hS hl)
theorem n_new (R : Rn l D cs own cc nL fr lo rc rs u V) {idx ci j N : Nat} {C : String} {T : u_T} {fs : List Value} (t2 : List va_E) (d : decode cc pc = .ok (.new idx, 3)) (hin : ∀ w ∈ u_ws C T N, w ∈ lw_g) (ty : Nat → FieldType) (hty : ∀ k, k < N → parseFieldDescriptor (T k).2.2.1 = some (ty k)) (w1 : Cond.classLink own idx C ∈ lw_g) (w2 : Cond.instantiable C N ∈ lw_g) (w3 : Cond.initialized C ∈ lw_g) (hc : vwCl[ci]? = some (C, T, N)) (hfs : ∀ j, j < N → defaultValue (ty j) = vp_V fs j) (hj : t.length = j) (h2 : t ++ [.inr (ci, fs)] = t2) (hk : k + 1 ≤ rc) (hn : n + N ≤ rs) (kk : V (pc + 3) lc (.ref (u + j) :: st) t2 (k + 1) (n + N)) : V pc lc st t k n := by
  obtain ⟨p, e, Rm, s, m, args, below, meth, c, A, Q, hx, hb, hml, hown, hts, hC, hA, hini, hfr, hlo, hrc, hrs, rfl⟩ := R
  subst hrc; subst hrs; subst hj; subst h2
  intro H locs ls hW hS hl
  have hKn := hC.1.1 ci _ hc
  refine W.newcK hx hb hown (hts _ w1) (hts _ w2) (hts _ w3) rfl d hk hn hKn.2.1 rfl fun H1 kC hkC e1 z1 o1 => ?_
  have hu : H.size = u + t.length := hW.1
  have := kk H1 locs ls (hW.push z1 o1 ⟨_, hc, (u_born ty hts hin hKn hkC e1 hty).to hfs⟩) ⟨Nat.le_trans hS.1 (by omega), fun x h1 h2 => (o1 x (Nat.lt_of_lt_of_le h1 hS.1)).trans (hS.2.1 x h1 h2), hS.2.2⟩ hl
  rw [← hu] at this
  exact this
theorem n_newi (R : Rn l D cs own cc nL fr lo rc rs u V) {j N : Nat} {a : Int32} (t2 : List va_E) (d : decode cc pc = .ok (.newarray .int, 2)) (w1 : Cond.arrayClass .int ∈ lw_g) (ha : ¬ a < 0) (hN : a.toNatClampNeg = N) (hby : N * 8 ≤ 536870912) (hj : t.length = j) (h2 : t ++ [.inl (cs 0, N, .inl (fun _ => 0))] = t2) (hk : k + 1 ≤ rc) (hn : n + N ≤ rs) (kk : V (pc + 2) lc (.ref (u + j) :: st) t2 (k + 1) (n + N)) : V pc lc (.int a :: st) t k n := by
  obtain ⟨p, e, Rm, s, m, args, below, meth, c, A, Q, hx, hb, hml, hown, hts, hC, hA, hini, hfr, hlo, hrc, hrs, rfl⟩ := R
  subst hrc; subst hrs; subst hj; subst h2
  intro H locs ls hW hS hl
  have hu : H.size = u + t.length := hW.1
  refine va_newaK (atype := .int) hx hb (hts _ w1) rfl d rfl ha hN (Nat.le_trans (Nat.mul_le_mul_left N (by decide)) hby) hk hn rfl fun H1 cA e1 z1 o1 hAr hNm => ?_
  have hcA : cA = cs 0 := Option.some.inj (hNm.symm.trans (hC.1.2 0 (cs 0, .int) rfl).2)
  subst hcA
  have := kk H1 locs ls (hW.push z1 o1 (by show H1[H.size]? = some (vp_cell _ _); exact e1)) ⟨Nat.le_trans hS.1 (by omega), fun x h1 h2 => (o1 x (Nat.lt_of_lt_of_le h1 hS.1)).trans (hS.2.1 x h1 h2), hS.2.2⟩ hl
  rw [← hu] at this
  exact this
theorem n_newl (R : Rn l D cs own cc nL fr lo rc rs u V) {j N : Nat} {a : Int32} (t2 : List va_E) (d : decode cc pc = .ok (.newarray .long, 2)) (w1 : Cond.arrayClass .long ∈ lw_g) (ha : ¬ a < 0) (hN : a.toNatClampNeg = N) (hby : N * 8 ≤ 536870912) (hj : t.length = j) (h2 : t ++ [.inl (cs 1, N, .inr (.inl (fun _ => 0)))] = t2) (hk : k + 1 ≤ rc) (hn : n + N ≤ rs) (kk : V (pc + 2) lc (.ref (u + j) :: st) t2 (k + 1) (n + N)) : V pc lc (.int a :: st) t k n := by
  obtain ⟨p, e, Rm, s, m, args, below, meth, c, A, Q, hx, hb, hml, hown, hts, hC, hA, hini, hfr, hlo, hrc, hrs, rfl⟩ := R
  subst hrc; subst hrs; subst hj; subst h2
  intro H locs ls hW hS hl
  have hu : H.size = u + t.length := hW.1
  refine va_newaK (atype := .long) hx hb (hts _ w1) rfl d rfl ha hN (Nat.le_trans (Nat.mul_le_mul_left N (by decide)) hby) hk hn rfl fun H1 cA e1 z1 o1 hAr hNm => ?_
  have hcA : cA = cs 1 := Option.some.inj (hNm.symm.trans (hC.1.2 1 (cs 1, .long) rfl).2)
  subst hcA
  have := kk H1 locs ls (hW.push z1 o1 (by show H1[H.size]? = some (vp_cell _ _); exact e1)) ⟨Nat.le_trans hS.1 (by omega), fun x h1 h2 => (o1 x (Nat.lt_of_lt_of_le h1 hS.1)).trans (hS.2.1 x h1 h2), hS.2.2⟩ hl
  rw [← hu] at this
  exact this
theorem n_newq_State (R : Rn l D cs own cc nL fr lo rc rs u V) {idx j N : Nat} {a : Int32} (t2 : List va_E) (d : decode cc pc = .ok (.anewarray idx, 3)) (w1 : Cond.classLink own idx "FarEnds$State" ∈ lw_g) (ha : ¬ a < 0) (hN : a.toNatClampNeg = N) (hby : N * 4 ≤ 536870912) (hj : t.length = j) (h2 : t ++ [.inl (cs 2, N, .inr (.inr (.inr (.inr (fun _ => none)))))] = t2) (hk : k + 1 ≤ rc) (hn : n + N ≤ rs) (kk : V (pc + 3) lc (.ref (u + j) :: st) t2 (k + 1) (n + N)) : V pc lc (.int a :: st) t k n := by
  obtain ⟨p, e, Rm, s, m, args, below, meth, c, A, Q, hx, hb, hml, hown, hts, hC, hA, hini, hfr, hlo, hrc, hrs, rfl⟩ := R
  subst hrc; subst hrs; subst hj; subst h2; subst hN
  intro H locs ls hW hS hl
  have hu : H.size = u + t.length := hW.1
  refine W.anew hx hb hown (hts _ w1) (va_AO.use hC.2.2.1) rfl d rfl ha hby hk hn fun cA kA comp f1 f2 f3 f4 => ?_
  have hcA : cA = cs 2 := by
    obtain ⟨kA2, comp2, g1, g2, g3, g4⟩ := (hC.1.2 2 (cs 2, .object "FarEnds$State") rfl).2
    exact Option.some.inj (f1.symm.trans g4)
  subst hcA
  have e1 : (H.push ({ cls := cs 2, slots := Array.replicate a.toNatClampNeg .null, vm := .none } : Cell))[H.size]? = some (arrV (cs 2) a.toNatClampNeg (fun _ => .null)) := by rw [Array.getElem?_push_size, ← arrV_new]
  have o1 : ∀ q : Nat, q < H.size → (H.push ({ cls := cs 2, slots := Array.replicate a.toNatClampNeg .null, vm := .none } : Cell))[q]? = H[q]? := fun q hq => by rw [Array.getElem?_push, if_neg (Nat.ne_of_lt hq)]
  have z1 : (H.push ({ cls := cs 2, slots := Array.replicate a.toNatClampNeg .null, vm := .none } : Cell)).size = H.size + 1 := Array.size_push ..
  have := kk _ locs ls (hW.push z1 o1 (by show _ = some (vp_cell _ _); exact e1)) ⟨Nat.le_trans hS.1 (by omega), fun x h1 h2 => (o1 x (Nat.lt_of_lt_of_le h1 hS.1)).trans (hS.2.1 x h1 h2), hS.2.2⟩ hl
  rw [← hu] at this
  exact this
theorem n_aast_State (R : Rn l D cs own cc nL fr lo rc rs u V) {j i : Nat} {a : Int32} {N ci : Nat} {f : Nat → Option Nat} {vs : List Value} {T : u_T} {N2 : Nat} (t2 : List va_E) (d : decode cc pc = .ok (.aastore, 1)) (ha : t[j]? = some (.inl (cs 2, N, .inr (.inr (.inr (.inr f)))))) (hv : t[i]? = some (.inr (ci, vs))) (hc : vwCl[ci]? = some ("FarEnds$State", T, N2)) (hin : vp_in a N) (h2 : t.set j (.inl (cs 2, N, .inr (.inr (.inr (.inr (va_up f a.toNatClampNeg (some (u + i)))))))) = t2) (kk : V (pc + 1) lc st t2 k n) : V pc lc (.ref (u + i) :: .int a :: .ref (u + j) :: st) t k n := by
  obtain ⟨p, e, Rm, s, m, args, below, meth, c, A, Q, hx, hb, hml, hown, hts, hC, hA, hini, hfr, hlo, hrc, hrs, rfl⟩ := R
  subst h2
  intro H locs ls hW hS hl
  have hlt : a.toNatClampNeg < N := Nat.not_le.mp fun q => hin (Or.inr q)
  have h0 : ¬ a < 0 := fun q => hin (Or.inl q)
  obtain ⟨r', hr', cellV, g1, g2, g3, -⟩ := hW.2 i _ hv
  have hcls := (hC.1.1 ci _ hc).2
  obtain ⟨kA, comp, k1, k2, k3, -⟩ := (hC.1.2 2 (cs 2, .object "FarEnds$State") rfl).2
  have hcomp : comp = D.1 ci := Option.some.inj (k3.symm.trans hcls.1)
  subst hcomp
  obtain ⟨kC, hkC, -⟩ := hcls.2
  refine W.aast hx hb (hW.2 j _ ha) (fun q h => by cases h) (fun h => by cases h) k1 k2 rfl hkC ⟨h0, by show _ < (arrV _ _ _).slots.size; rw [arrV_size]; exact hlt⟩ g1 (fun q h => by rw [g3] at h; cases h) (by rw [g2]; exact hkC) (by rw [g2]; exact va_assign hcls) rfl rfl d fun H1 e1 z oq => ?_
  refine kk H1 _ ls (hW.set z oq ?_) (hS.put z oq (hA _ (Nat.le_add_right _ _))) hl
  show H1[u + j]? = some (vp_cell _ _)
  rw [e1]
  rw [vp_cell_q, vp_cell_q, arrV_store]
  congr 2
  funext q
  by_cases hq : q = a.toNatClampNeg
  · subst hq
    simp [updV, va_up, va_rf]
  · simp [updV, va_up, hq]
theorem n_newq_Image (R : Rn l D cs own cc nL fr lo rc rs u V) {idx j N : Nat} {a : Int32} (t2 : List va_E) (d : decode cc pc = .ok (.anewarray idx, 3)) (w1 : Cond.classLink own idx "FarEnds$Image" ∈ lw_g) (ha : ¬ a < 0) (hN : a.toNatClampNeg = N) (hby : N * 4 ≤ 536870912) (hj : t.length = j) (h2 : t ++ [.inl (cs 3, N, .inr (.inr (.inr (.inr (fun _ => none)))))] = t2) (hk : k + 1 ≤ rc) (hn : n + N ≤ rs) (kk : V (pc + 3) lc (.ref (u + j) :: st) t2 (k + 1) (n + N)) : V pc lc (.int a :: st) t k n := by
  obtain ⟨p, e, Rm, s, m, args, below, meth, c, A, Q, hx, hb, hml, hown, hts, hC, hA, hini, hfr, hlo, hrc, hrs, rfl⟩ := R
  subst hrc; subst hrs; subst hj; subst h2; subst hN
  intro H locs ls hW hS hl
  have hu : H.size = u + t.length := hW.1
  refine W.anew hx hb hown (hts _ w1) (va_AO.use hC.2.2.2.1) rfl d rfl ha hby hk hn fun cA kA comp f1 f2 f3 f4 => ?_
  have hcA : cA = cs 3 := by
    obtain ⟨kA2, comp2, g1, g2, g3, g4⟩ := (hC.1.2 3 (cs 3, .object "FarEnds$Image") rfl).2
    exact Option.some.inj (f1.symm.trans g4)
  subst hcA
  have e1 : (H.push ({ cls := cs 3, slots := Array.replicate a.toNatClampNeg .null, vm := .none } : Cell))[H.size]? = some (arrV (cs 3) a.toNatClampNeg (fun _ => .null)) := by rw [Array.getElem?_push_size, ← arrV_new]
  have o1 : ∀ q : Nat, q < H.size → (H.push ({ cls := cs 3, slots := Array.replicate a.toNatClampNeg .null, vm := .none } : Cell))[q]? = H[q]? := fun q hq => by rw [Array.getElem?_push, if_neg (Nat.ne_of_lt hq)]
  have z1 : (H.push ({ cls := cs 3, slots := Array.replicate a.toNatClampNeg .null, vm := .none } : Cell)).size = H.size + 1 := Array.size_push ..
  have := kk _ locs ls (hW.push z1 o1 (by show _ = some (vp_cell _ _); exact e1)) ⟨Nat.le_trans hS.1 (by omega), fun x h1 h2 => (o1 x (Nat.lt_of_lt_of_le h1 hS.1)).trans (hS.2.1 x h1 h2), hS.2.2⟩ hl
  rw [← hu] at this
  exact this
theorem n_aast_Image (R : Rn l D cs own cc nL fr lo rc rs u V) {j i : Nat} {a : Int32} {N ci : Nat} {f : Nat → Option Nat} {vs : List Value} {T : u_T} {N2 : Nat} (t2 : List va_E) (d : decode cc pc = .ok (.aastore, 1)) (ha : t[j]? = some (.inl (cs 3, N, .inr (.inr (.inr (.inr f)))))) (hv : t[i]? = some (.inr (ci, vs))) (hc : vwCl[ci]? = some ("FarEnds$Image", T, N2)) (hin : vp_in a N) (h2 : t.set j (.inl (cs 3, N, .inr (.inr (.inr (.inr (va_up f a.toNatClampNeg (some (u + i)))))))) = t2) (kk : V (pc + 1) lc st t2 k n) : V pc lc (.ref (u + i) :: .int a :: .ref (u + j) :: st) t k n := by
  obtain ⟨p, e, Rm, s, m, args, below, meth, c, A, Q, hx, hb, hml, hown, hts, hC, hA, hini, hfr, hlo, hrc, hrs, rfl⟩ := R
  subst h2
  intro H locs ls hW hS hl
  have hlt : a.toNatClampNeg < N := Nat.not_le.mp fun q => hin (Or.inr q)
  have h0 : ¬ a < 0 := fun q => hin (Or.inl q)
  obtain ⟨r', hr', cellV, g1, g2, g3, -⟩ := hW.2 i _ hv
  have hcls := (hC.1.1 ci _ hc).2
  obtain ⟨kA, comp, k1, k2, k3, -⟩ := (hC.1.2 3 (cs 3, .object "FarEnds$Image") rfl).2
  have hcomp : comp = D.1 ci := Option.some.inj (k3.symm.trans hcls.1)
  subst hcomp
  obtain ⟨kC, hkC, -⟩ := hcls.2
  refine W.aast hx hb (hW.2 j _ ha) (fun q h => by cases h) (fun h => by cases h) k1 k2 rfl hkC ⟨h0, by show _ < (arrV _ _ _).slots.size; rw [arrV_size]; exact hlt⟩ g1 (fun q h => by rw [g3] at h; cases h) (by rw [g2]; exact hkC) (by rw [g2]; exact va_assign hcls) rfl rfl d fun H1 e1 z oq => ?_
  refine kk H1 _ ls (hW.set z oq ?_) (hS.put z oq (hA _ (Nat.le_add_right _ _))) hl
  show H1[u + j]? = some (vp_cell _ _)
  rw [e1]
  rw [vp_cell_q, vp_cell_q, arrV_store]
  congr 2
  funext q
  by_cases hq : q = a.toNatClampNeg
  · subst hq
    simp [updV, va_up, va_rf]
  · simp [updV, va_up, hq]
theorem n_newq_Seen (R : Rn l D cs own cc nL fr lo rc rs u V) {idx j N : Nat} {a : Int32} (t2 : List va_E) (d : decode cc pc = .ok (.anewarray idx, 3)) (w1 : Cond.classLink own idx "FarEnds$Seen" ∈ lw_g) (ha : ¬ a < 0) (hN : a.toNatClampNeg = N) (hby : N * 4 ≤ 536870912) (hj : t.length = j) (h2 : t ++ [.inl (cs 4, N, .inr (.inr (.inr (.inr (fun _ => none)))))] = t2) (hk : k + 1 ≤ rc) (hn : n + N ≤ rs) (kk : V (pc + 3) lc (.ref (u + j) :: st) t2 (k + 1) (n + N)) : V pc lc (.int a :: st) t k n := by
  obtain ⟨p, e, Rm, s, m, args, below, meth, c, A, Q, hx, hb, hml, hown, hts, hC, hA, hini, hfr, hlo, hrc, hrs, rfl⟩ := R
  subst hrc; subst hrs; subst hj; subst h2; subst hN
  intro H locs ls hW hS hl
  have hu : H.size = u + t.length := hW.1
  refine W.anew hx hb hown (hts _ w1) (va_AO.use hC.2.2.2.2) rfl d rfl ha hby hk hn fun cA kA comp f1 f2 f3 f4 => ?_
  have hcA : cA = cs 4 := by
    obtain ⟨kA2, comp2, g1, g2, g3, g4⟩ := (hC.1.2 4 (cs 4, .object "FarEnds$Seen") rfl).2
    exact Option.some.inj (f1.symm.trans g4)
  subst hcA
  have e1 : (H.push ({ cls := cs 4, slots := Array.replicate a.toNatClampNeg .null, vm := .none } : Cell))[H.size]? = some (arrV (cs 4) a.toNatClampNeg (fun _ => .null)) := by rw [Array.getElem?_push_size, ← arrV_new]
  have o1 : ∀ q : Nat, q < H.size → (H.push ({ cls := cs 4, slots := Array.replicate a.toNatClampNeg .null, vm := .none } : Cell))[q]? = H[q]? := fun q hq => by rw [Array.getElem?_push, if_neg (Nat.ne_of_lt hq)]
  have z1 : (H.push ({ cls := cs 4, slots := Array.replicate a.toNatClampNeg .null, vm := .none } : Cell)).size = H.size + 1 := Array.size_push ..
  have := kk _ locs ls (hW.push z1 o1 (by show _ = some (vp_cell _ _); exact e1)) ⟨Nat.le_trans hS.1 (by omega), fun x h1 h2 => (o1 x (Nat.lt_of_lt_of_le h1 hS.1)).trans (hS.2.1 x h1 h2), hS.2.2⟩ hl
  rw [← hu] at this
  exact this
theorem n_aast_Seen (R : Rn l D cs own cc nL fr lo rc rs u V) {j i : Nat} {a : Int32} {N ci : Nat} {f : Nat → Option Nat} {vs : List Value} {T : u_T} {N2 : Nat} (t2 : List va_E) (d : decode cc pc = .ok (.aastore, 1)) (ha : t[j]? = some (.inl (cs 4, N, .inr (.inr (.inr (.inr f)))))) (hv : t[i]? = some (.inr (ci, vs))) (hc : vwCl[ci]? = some ("FarEnds$Seen", T, N2)) (hin : vp_in a N) (h2 : t.set j (.inl (cs 4, N, .inr (.inr (.inr (.inr (va_up f a.toNatClampNeg (some (u + i)))))))) = t2) (kk : V (pc + 1) lc st t2 k n) : V pc lc (.ref (u + i) :: .int a :: .ref (u + j) :: st) t k n := by
  obtain ⟨p, e, Rm, s, m, args, below, meth, c, A, Q, hx, hb, hml, hown, hts, hC, hA, hini, hfr, hlo, hrc, hrs, rfl⟩ := R
  subst h2
  intro H locs ls hW hS hl
  have hlt : a.toNatClampNeg < N := Nat.not_le.mp fun q => hin (Or.inr q)
  have h0 : ¬ a < 0 := fun q => hin (Or.inl q)
  obtain ⟨r', hr', cellV, g1, g2, g3, -⟩ := hW.2 i _ hv
  have hcls := (hC.1.1 ci _ hc).2
  obtain ⟨kA, comp, k1, k2, k3, -⟩ := (hC.1.2 4 (cs 4, .object "FarEnds$Seen") rfl).2
  have hcomp : comp = D.1 ci := Option.some.inj (k3.symm.trans hcls.1)
  subst hcomp
  obtain ⟨kC, hkC, -⟩ := hcls.2
  refine W.aast hx hb (hW.2 j _ ha) (fun q h => by cases h) (fun h => by cases h) k1 k2 rfl hkC ⟨h0, by show _ < (arrV _ _ _).slots.size; rw [arrV_size]; exact hlt⟩ g1 (fun q h => by rw [g3] at h; cases h) (by rw [g2]; exact hkC) (by rw [g2]; exact va_assign hcls) rfl rfl d fun H1 e1 z oq => ?_
  refine kk H1 _ ls (hW.set z oq ?_) (hS.put z oq (hA _ (Nat.le_add_right _ _))) hl
  show H1[u + j]? = some (vp_cell _ _)
  rw [e1]
  rw [vp_cell_q, vp_cell_q, arrV_store]
  congr 2
  funext q
  by_cases hq : q = a.toNatClampNeg
  · subst hq
    simp [updV, va_up, va_rf]
  · simp [updV, va_up, hq]
theorem n_put (R : Rn l D cs own cc nL fr lo rc rs u V) {ci N idx : Nat} {C : String} {T : u_T} {fs fs2 : List Value} {t3 : List va_E} {v : Value} {ty : FieldType} (f : Nat) (d : decode cc pc = .ok (.putfield idx, 3)) (hc : vwCl[ci]? = some (C, T, N)) (hin : ∀ w ∈ u_ws C T N, w ∈ lw_g) (ty0 : Nat → FieldType) (hty : ∀ k, k < N → parseFieldDescriptor (T k).2.2.1 = some (ty0 k)) (hnm : ∀ a, a < N → ∀ b, b < N → a ≠ b → (T a).2.1 ≠ (T b).2.1) (hf : f < N) (fl : Cond.fieldLink own idx (T f).1 (T f).2.1 (T f).2.2.1 ∈ lw_g) (hfin : (T f).2.2.2 = false) (hd : parseFieldDescriptor (T f).2.2.1 = some ty) (hn : narrow ty v = v) (hfit : fits ty v = true) (hlen : f < fs.length) (h2 : fs.set f v = fs2) (kk : V (pc + 3) lc st (.inr (ci, fs2) :: t3) k n) : V pc lc (v :: .ref u :: st) (.inr (ci, fs) :: t3) k n := by
  obtain ⟨p, e, Rm, s, m, args, below, meth, c, A, Q, hx, hb, hml, hown, hts, hC, hA, hini, hfr, hlo, hrc, hrs, rfl⟩ := R
  subst h2
  intro H locs ls hW hS hl
  have hap := va_apart (own := own) hts hin ty0 hty hnm hC.1 hc
  obtain ⟨r, h1, cell, q1, q2, q3, q4⟩ := hW.2 0 _ rfl
  have hr : r = (C, T, N) := Option.some.inj (h1.symm.trans hc)
  subst hr
  obtain ⟨hSl, hfc, kC, hkC, hkind⟩ := hC.1.1 ci _ hc
  obtain ⟨cf, kf, fi, fd, hi, hsl⟩ := hSl f hf
  have hlay := hts _ (hin _ (u_in_lay hf))
  unfold u_lay at hlay
  rw [if_neg (by rw [hfin]; decide)] at hlay
  have hst := (u_facts hfc hkC (u_lays hts hin hf) hi).1
  have h6 := u_store hfc hkC hkind hlay hi hd hn hfit
  refine W.putK hx hb (f := fd) ⟨hown, hts _ fl, ⟨_, _, _, hi⟩, hst⟩ (by rw [q2]; exact h6) q1 q3 (by rw [hsl]; exact k2_hasslot (q4 f hf)) rfl rfl d fun H1 e1 e2 e3 => ?_
  rw [hsl] at e1 ⊢
  refine kk H1 _ ls ?_ (hS.put e2 e3 (hA u (Nat.le_refl u))) hl
  have := Reg.set (j := 0) (x := .inr (ci, fs.set f v)) hW e2 e3 ⟨_, hc, t_OB.to (V := updV (vp_V fs) f v) ⟨_, e1, q2, q3, t_set q4 hap hf v⟩ (fun j _ => vp_updV_set hlen v j)⟩
  exact this
theorem n_putF (R : Rn l D cs own cc nL fr lo rc rs u V) {ci N idx : Nat} {C : String} {T : u_T} {fs fs2 : List Value} {t3 : List va_E} {v : Value} {ty : FieldType} (f : Nat) (d : decode cc pc = .ok (.putfield idx, 3)) (hc : vwCl[ci]? = some (C, T, N)) (hin : ∀ w ∈ u_ws C T N, w ∈ lw_g) (ty0 : Nat → FieldType) (hty : ∀ k, k < N → parseFieldDescriptor (T k).2.2.1 = some (ty0 k)) (hnm : ∀ a, a < N → ∀ b, b < N → a ≠ b → (T a).2.1 ≠ (T b).2.1) (hf : f < N) (fl : Cond.fieldLink own idx (T f).1 (T f).2.1 (T f).2.2.1 ∈ lw_g) (hfin : (T f).2.2.2 = true) (how : (T f).1 = own) (hnl : own ≠ RL) (hd : parseFieldDescriptor (T f).2.2.1 = some ty) (hn : narrow ty v = v) (hfit : fits ty v = true) (hlen : f < fs.length) (h2 : fs.set f v = fs2) (kk : V (pc + 3) lc st (.inr (ci, fs2) :: t3) k n) : V pc lc (v :: .ref u :: st) (.inr (ci, fs) :: t3) k n := by
  obtain ⟨p, e, Rm, s, m, args, below, meth, c, A, Q, hx, hb, hml, hown, hts, hC, hA, hini, hfr, hlo, hrc, hrs, rfl⟩ := R
  subst h2
  intro H locs ls hW hS hl
  have hap := va_apart (own := own) hts hin ty0 hty hnm hC.1 hc
  obtain ⟨r, h1, cell, q1, q2, q3, q4⟩ := hW.2 0 _ rfl
  have hr : r = (C, T, N) := Option.some.inj (h1.symm.trans hc)
  subst hr
  obtain ⟨hSl, hfc, kC, hkC, hkind⟩ := hC.1.1 ci _ hc
  obtain ⟨cf, kf, fi, fd, hi, hsl⟩ := hSl f hf
  have hlay := hts _ (hin _ (u_in_lay hf))
  unfold u_lay at hlay
  rw [if_pos hfin] at hlay
  have hst := (u_facts hfc hkC (u_lays hts hin hf) hi).1
  have hcf : m.cls = cf := by
    obtain ⟨_, _, c', _, _, _, -, -, hf', -, -, -, hown2, -⟩ := Cond.laysFinal_spec hlay
    have e1 : c' = cf := by have := hi.symm.trans hf'; simp at this; exact this.1.symm
    rw [how] at hown2
    rw [← e1]; exact Option.some.inj (hown.symm.trans hown2)
  have h6 := u_fits hfc hkC hkind (Or.inr hlay) hi hd hn hfit
  refine W.putFinK hx hb hown (hts _ fl) hi hst hcf (hini.resolve_left hnl) (by rw [q2]; exact h6) q1 q3 (by rw [hsl]; exact k2_hasslot (q4 f hf)) rfl rfl d fun H1 e1 e2 e3 => ?_
  rw [hsl] at e1 ⊢
  refine kk H1 _ ls ?_ (hS.put e2 e3 (hA u (Nat.le_refl u))) hl
  have := Reg.set (j := 0) (x := .inr (ci, fs.set f v)) hW e2 e3 ⟨_, hc, t_OB.to (V := updV (vp_V fs) f v) ⟨_, e1, q2, q3, t_set q4 hap hf v⟩ (fun j _ => vp_updV_set hlen v j)⟩
  exact this
theorem n_get (R : Rn l D cs own cc nL fr lo rc rs u V) {ci N idx : Nat} {C : String} {T : u_T} {fs : List Value} {t3 : List va_E} {v : Value} (f : Nat) (d : decode cc pc = .ok (.getfield idx, 3)) (hc : vwCl[ci]? = some (C, T, N)) (hin : ∀ w ∈ u_ws C T N, w ∈ lw_g) (hf : f < N) (fl : Cond.fieldLink own idx (T f).1 (T f).2.1 (T f).2.2.1 ∈ lw_g) (hv : fs[f]? = some v) (kk : V (pc + 3) lc (v :: st) (.inr (ci, fs) :: t3) k n) : V pc lc (.ref u :: st) (.inr (ci, fs) :: t3) k n := by
  obtain ⟨p, e, Rm, s, m, args, below, meth, c, A, Q, hx, hb, hml, hown, hts, hC, hA, hini, hfr, hlo, hrc, hrs, rfl⟩ := R
  intro H locs ls hW hS hl
  refine va_get (ws := [(u, .inr (ci, fs))]) hx hb hts hin hown hC.1 ?_ 0 rfl hc f hf (hts _ fl) (fun _ q => q) hv d (kk H locs ls hW hS hl)
  intro k q hq
  have hz : k < 1 := (List.getElem?_eq_some_iff.mp hq).1
  rw [show k = 0 by omega] at hq
  cases hq
  exact hW.2 0 _ rfl
theorem n_init (R : Rn l D cs own cc nL fr lo rc rs u V) {M : Mi} {idx j : Nat} {tc tc2 : List va_E} (pre t2 : List va_E) (d : decode cc pc = .ok (.invokespecial idx, 3)) (hM : Kc l D cs M (u + j) tc tc2) (w1 : Cond.methodLink own idx M.1 ∈ lw_g) (w2 : Cond.instanceMethod M.1 ∈ lw_g) (w4 : Cond.initialized M.1.cls ∈ lw_g) (w5 : Cond.code M.1 M.2.1 M.2.2.1 M.2.2.2.1 ∈ lw_g) (hy : M.1.name = "<init>") (hret : M.2.2.2.1 = none) (hd : M.1.cls ≠ "java/lang/invoke/MethodHandle" ∧ M.1.cls ≠ "java/lang/invoke/VarHandle" ∧ (parseMethodDescriptor M.1.desc).map (fun d => d.parameters.length) = some 0) (hR : M.2.2.2.2.frames + 1 ≤ fr ∧ 8 + (M.2.2.1 + 11) + M.2.2.2.2.locals ≤ lo) (hf : k + M.2.2.2.2.cells ≤ rc ∧ n + M.2.2.2.2.slots ≤ rs) (hrm : (st.map fun v => v.category).sum ≤ 8) (hp : t = pre ++ tc) (hj : pre.length = j) (h2 : pre ++ tc2 = t2) (kk : V (pc + 3) lc st t2 (k + M.2.2.2.2.cells) (n + M.2.2.2.2.slots)) : V pc lc (.ref (u + j) :: st) t k n := by
  obtain ⟨p, e, Rm, s, m, args, below, meth, c, A, Q, hx, hb, hml, hown, hts, hC, hA, hini, hfr, hlo, hrc, hrs, rfl⟩ := R
  obtain ⟨y, bytes, maxL, ret, rm⟩ := M
  dsimp only at hret
  subst hret
  subst hfr; subst hlo; subst hrc; subst hrs; subst hp; subst hj; subst h2
  intro H locs ls hW hS hl
  have hWc : Reg D (u + pre.length) tc H := ⟨by rw [hW.1, List.length_append, Nat.add_assoc], fun k2 e2 hk2 => by
    have := hW.2 (pre.length + k2) e2 (by rw [List.getElem?_append_right (Nat.le_add_right _ _), Nat.add_sub_cancel_left]; exact hk2)
    rw [← Nat.add_assoc] at this
    exact this⟩
  have hrun := va_runI (e := e) (below := below) (meth := meth) (As := []) (rest := st) (b := u + pre.length) (H := H) (locs := locs) (cells := k) (slots := n) (g := F0 m pc ls (.ref (u + pre.length) :: st)) ⟨hx, hb, hml, hown, hts⟩ hM (cwI 0 hts (gd_all (y, bytes, maxL, none, rm) w5) rfl rfl rfl (hts _ w4) (hts _ w1) (hts _ w2) hy hd hR) ⟨fun a U g mk ⟨q1, q2, q3⟩ => ⟨q1, q2, Cn_calling q3⟩, fun U hU hWm => ⟨rfl, by rw [hU]; exact hWc, Cn_call hC hWm⟩⟩ rfl rfl hl.1 rfl (lv_room hrm) d hf
  intro T hT X
  obtain ⟨v, st₀, t', T', L, h0, X', hL, e1, e2, ⟨⟨hv, hb'⟩, hz, hk2⟩, stp⟩ := hrun T hT X
  cases hv
  rw [h0] at hz hk2
  have hAf : ∀ q, u + pre.length ≤ q → A q := fun q hq => hA q (Nat.le_trans (Nat.le_add_right _ _) hq)
  obtain ⟨t2, a1, b1⟩ := kk T'.heap (locs ++ L) ls ⟨by rw [e1, hb'.1, List.length_append, Nat.add_assoc], fun k2 x hx2 => by
      by_cases hl2 : k2 < pre.length
      · rw [List.getElem?_append_left hl2] at hx2
        have h3 := hW.2 k2 x (by rw [List.getElem?_append_left hl2]; exact hx2)
        refine h3.kept ?_
        rw [e1]
        exact hk2 _ h3.lt (fun q => by dsimp only at q; omega)
      · rw [List.getElem?_append_right (by omega)] at hx2
        have h3 := hb'.2 _ x hx2
        rw [e1]
        have e5 : u + pre.length + (k2 - pre.length) = u + k2 := by omega
        rw [e5] at h3
        exact h3⟩
    ⟨Nat.le_trans hS.1 (by rw [e1]; exact hz), fun q h1 h2 => by rw [e1, hk2 q (Nat.lt_of_lt_of_le h1 hS.1) (fun z => h2 (hAf q z))]; exact hS.2.1 q h1 h2, fun q hq => by
      rcases List.mem_append.mp hq with h | h
      · exact hS.2.2 q h
      · exact hAf _ (hL q h)⟩ hl T' rfl X'
  exact ⟨t2, stp t2 a1, b1⟩
theorem n_initN (R : Rn l D cs own cc nL fr lo rc rs u V) {M : Mi} {idx j : Nat} {tc tc2 : List va_E} (pre t2 : List va_E) (d : decode cc pc = .ok (.invokespecial idx, 3)) (hM : Kc l D cs M (u + j) tc tc2) {host : String} (w1 : Cond.methodLinkNest own idx M.1 host ∈ lw_n) (w2 : Cond.instanceMethod M.1 ∈ lw_g) (w4 : Cond.initialized M.1.cls ∈ lw_g) (w5 : Cond.code M.1 M.2.1 M.2.2.1 M.2.2.2.1 ∈ lw_g) (hy : M.1.name = "<init>") (hret : M.2.2.2.1 = none) (hd : M.1.cls ≠ "java/lang/invoke/MethodHandle" ∧ M.1.cls ≠ "java/lang/invoke/VarHandle" ∧ (parseMethodDescriptor M.1.desc).map (fun d => d.parameters.length) = some 0) (hR : M.2.2.2.2.frames + 1 ≤ fr ∧ 8 + (M.2.2.1 + 11) + M.2.2.2.2.locals ≤ lo) (hf : k + M.2.2.2.2.cells ≤ rc ∧ n + M.2.2.2.2.slots ≤ rs) (hrm : (st.map fun v => v.category).sum ≤ 8) (hp : t = pre ++ tc) (hj : pre.length = j) (h2 : pre ++ tc2 = t2) (kk : V (pc + 3) lc st t2 (k + M.2.2.2.2.cells) (n + M.2.2.2.2.slots)) : V pc lc (.ref (u + j) :: st) t k n := by
  obtain ⟨p, e, Rm, s, m, args, below, meth, c, A, Q, hx, hb, hml, hown, hts, hC, hA, hini, hfr, hlo, hrc, hrs, rfl⟩ := R
  obtain ⟨y, bytes, maxL, ret, rm⟩ := M
  dsimp only at hret
  subst hret
  subst hfr; subst hlo; subst hrc; subst hrs; subst hp; subst hj; subst h2
  intro H locs ls hW hS hl
  have hWc : Reg D (u + pre.length) tc H := ⟨by rw [hW.1, List.length_append, Nat.add_assoc], fun k2 e2 hk2 => by
    have := hW.2 (pre.length + k2) e2 (by rw [List.getElem?_append_right (Nat.le_add_right _ _), Nat.add_sub_cancel_left]; exact hk2)
    rw [← Nat.add_assoc] at this
    exact this⟩
  have hrun := va_runIN (e := e) (below := below) (meth := meth) (As := []) (rest := st) (b := u + pre.length) (H := H) (locs := locs) (cells := k) (slots := n) (g := F0 m pc ls (.ref (u + pre.length) :: st)) ⟨hx, hb, hml, hown, hts⟩ hM ⟨va_cnB 0 hts (gd_all (y, bytes, maxL, none, rm) w5) rfl rfl rfl (hC.2.1 _ w1) (hts _ w4) hd hR, hy, hts _ w2⟩ ⟨fun a U g mk ⟨q1, q2, q3⟩ => ⟨q1, q2, Cn_calling q3⟩, fun U hU hWm => ⟨rfl, by rw [hU]; exact hWc, Cn_call hC hWm⟩⟩ rfl rfl hl.1 rfl (lv_room hrm) d hf
  intro T hT X
  obtain ⟨v, st₀, t', T', L, h0, X', hL, e1, e2, ⟨⟨hv, hb'⟩, hz, hk2⟩, stp⟩ := hrun T hT X
  cases hv
  rw [h0] at hz hk2
  have hAf : ∀ q, u + pre.length ≤ q → A q := fun q hq => hA q (Nat.le_trans (Nat.le_add_right _ _) hq)
  obtain ⟨t2, a1, b1⟩ := kk T'.heap (locs ++ L) ls ⟨by rw [e1, hb'.1, List.length_append, Nat.add_assoc], fun k2 x hx2 => by
      by_cases hl2 : k2 < pre.length
      · rw [List.getElem?_append_left hl2] at hx2
        have h3 := hW.2 k2 x (by rw [List.getElem?_append_left hl2]; exact hx2)
        refine h3.kept ?_
        rw [e1]
        exact hk2 _ h3.lt (fun q => by dsimp only at q; omega)
      · rw [List.getElem?_append_right (by omega)] at hx2
        have h3 := hb'.2 _ x hx2
        rw [e1]
        have e5 : u + pre.length + (k2 - pre.length) = u + k2 := by omega
        rw [e5] at h3
        exact h3⟩
    ⟨Nat.le_trans hS.1 (by rw [e1]; exact hz), fun q h1 h2 => by rw [e1, hk2 q (Nat.lt_of_lt_of_le h1 hS.1) (fun z => h2 (hAf q z))]; exact hS.2.1 q h1 h2, fun q hq => by
      rcases List.mem_append.mp hq with h | h
      · exact hS.2.2 q h
      · exact hAf _ (hL q h)⟩ hl T' rfl X'
  exact ⟨t2, stp t2 a1, b1⟩
end
