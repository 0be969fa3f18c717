section
variable {l : Launch} {D : va_G} {cs : Nat → ClassId} {φ : Nat → Nat} {own : String} {cc : ByteArray} {nL fr lo : Nat} {V : Nat → List (Option Value) → List Value → Hp → Prop} {pc : Nat} {lc : List (Option Value)} {st : List Value} {h : Hp}
theorem v_iadd (R : Ru l D cs φ own cc nL fr lo V) {x y : Int32} (d : decode cc pc = .ok (.iadd, 1)) (k : V (pc + 1) lc (.int (x + y) :: st) h) : V pc lc (.int y :: .int x :: st) h := by
  obtain ⟨p, e, Rm, s, m, args, below, meth, c, A, cells, slots, Q, hx, hb, hml, hown, hts, hC, hA, hfr, hlo, hce, hsl, rfl⟩ := R
  exact fun H locs ls hW hS hl => lv_iadd hx hb d (k H locs ls hW hS hl)
theorem v_isub (R : Ru l D cs φ own cc nL fr lo V) {x y : Int32} (d : decode cc pc = .ok (.isub, 1)) (k : V (pc + 1) lc (.int (x - y) :: st) h) : V pc lc (.int y :: .int x :: st) h := by
  obtain ⟨p, e, Rm, s, m, args, below, meth, c, A, cells, slots, Q, hx, hb, hml, hown, hts, hC, hA, hfr, hlo, hce, hsl, rfl⟩ := R
  exact fun H locs ls hW hS hl => lv_isub hx hb d (k H locs ls hW hS hl)
theorem v_imul (R : Ru l D cs φ own cc nL fr lo V) {x y : Int32} (d : decode cc pc = .ok (.imul, 1)) (k : V (pc + 1) lc (.int (x * y) :: st) h) : V pc lc (.int y :: .int x :: st) h := by
  obtain ⟨p, e, Rm, s, m, args, below, meth, c, A, cells, slots, Q, hx, hb, hml, hown, hts, hC, hA, hfr, hlo, hce, hsl, rfl⟩ := R
  exact fun H locs ls hW hS hl => lv_imul hx hb d (k H locs ls hW hS hl)
theorem v_iand (R : Ru l D cs φ own cc nL fr lo V) {x y : Int32} (d : decode cc pc = .ok (.iand, 1)) (k : V (pc + 1) lc (.int (x &&& y) :: st) h) : V pc lc (.int y :: .int x :: st) h := by
  obtain ⟨p, e, Rm, s, m, args, below, meth, c, A, cells, slots, Q, hx, hb, hml, hown, hts, hC, hA, hfr, hlo, hce, hsl, rfl⟩ := R
  exact fun H locs ls hW hS hl => lv_iand hx hb d (k H locs ls hW hS hl)
theorem v_ior (R : Ru l D cs φ own cc nL fr lo V) {x y : Int32} (d : decode cc pc = .ok (.ior, 1)) (k : V (pc + 1) lc (.int (x ||| y) :: st) h) : V pc lc (.int y :: .int x :: st) h := by
  obtain ⟨p, e, Rm, s, m, args, below, meth, c, A, cells, slots, Q, hx, hb, hml, hown, hts, hC, hA, hfr, hlo, hce, hsl, rfl⟩ := R
  exact fun H locs ls hW hS hl => lv_ior hx hb d (k H locs ls hW hS hl)
theorem v_ixor (R : Ru l D cs φ own cc nL fr lo V) {x y : Int32} (d : decode cc pc = .ok (.ixor, 1)) (k : V (pc + 1) lc (.int (x ^^^ y) :: st) h) : V pc lc (.int y :: .int x :: st) h := by
  obtain ⟨p, e, Rm, s, m, args, below, meth, c, A, cells, slots, Q, hx, hb, hml, hown, hts, hC, hA, hfr, hlo, hce, hsl, rfl⟩ := R
  exact fun H locs ls hW hS hl => lv_ixor hx hb d (k H locs ls hW hS hl)
theorem v_ishl (R : Ru l D cs φ own cc nL fr lo V) {x y : Int32} (d : decode cc pc = .ok (.ishl, 1)) (k : V (pc + 1) lc (.int (x <<< (y &&& 31)) :: st) h) : V pc lc (.int y :: .int x :: st) h := by
  obtain ⟨p, e, Rm, s, m, args, below, meth, c, A, cells, slots, Q, hx, hb, hml, hown, hts, hC, hA, hfr, hlo, hce, hsl, rfl⟩ := R
  exact fun H locs ls hW hS hl => lv_ishl hx hb d (k H locs ls hW hS hl)
theorem v_ishr (R : Ru l D cs φ own cc nL fr lo V) {x y : Int32} (d : decode cc pc = .ok (.ishr, 1)) (k : V (pc + 1) lc (.int (x >>> (y &&& 31)) :: st) h) : V pc lc (.int y :: .int x :: st) h := by
  obtain ⟨p, e, Rm, s, m, args, below, meth, c, A, cells, slots, Q, hx, hb, hml, hown, hts, hC, hA, hfr, hlo, hce, hsl, rfl⟩ := R
  exact fun H locs ls hW hS hl => lv_ishr hx hb d (k H locs ls hW hS hl)
theorem v_iushr (R : Ru l D cs φ own cc nL fr lo V) {x y : Int32} (d : decode cc pc = .ok (.iushr, 1)) (k : V (pc + 1) lc (.int ((x.toUInt32 >>> (y.toUInt32 &&& Int32.toUInt32 31)).toInt32) :: st) h) : V pc lc (.int y :: .int x :: st) h := by
  obtain ⟨p, e, Rm, s, m, args, below, meth, c, A, cells, slots, Q, hx, hb, hml, hown, hts, hC, hA, hfr, hlo, hce, hsl, rfl⟩ := R
  exact fun H locs ls hW hS hl => lv_iushr hx hb d rfl (k H locs ls hW hS hl)
theorem v_idiv (R : Ru l D cs φ own cc nL fr lo V) {x y : Int32} (d : decode cc pc = .ok (.idiv, 1)) (hne : ¬ y = 0) (k : V (pc + 1) lc (.int (x / y) :: st) h) : V pc lc (.int y :: .int x :: st) h := by
  obtain ⟨p, e, Rm, s, m, args, below, meth, c, A, cells, slots, Q, hx, hb, hml, hown, hts, hC, hA, hfr, hlo, hce, hsl, rfl⟩ := R
  exact fun H locs ls hW hS hl => lv_idiv hx hb d hne (k H locs ls hW hS hl)
theorem v_irem (R : Ru l D cs φ own cc nL fr lo V) {x y : Int32} (d : decode cc pc = .ok (.irem, 1)) (hne : ¬ y = 0) (k : V (pc + 1) lc (.int (x - x / y * y) :: st) h) : V pc lc (.int y :: .int x :: st) h := by
  obtain ⟨p, e, Rm, s, m, args, below, meth, c, A, cells, slots, Q, hx, hb, hml, hown, hts, hC, hA, hfr, hlo, hce, hsl, rfl⟩ := R
  exact fun H locs ls hW hS hl => lv_irem hx hb d hne (k H locs ls hW hS hl)
theorem v_ladd (R : Ru l D cs φ own cc nL fr lo V) {x y : Int64} (d : decode cc pc = .ok (.ladd, 1)) (k : V (pc + 1) lc (.long (x + y) :: st) h) : V pc lc (.long y :: .long x :: st) h := by
  obtain ⟨p, e, Rm, s, m, args, below, meth, c, A, cells, slots, Q, hx, hb, hml, hown, hts, hC, hA, hfr, hlo, hce, hsl, rfl⟩ := R
  exact fun H locs ls hW hS hl => lv_ladd hx hb d (k H locs ls hW hS hl)
theorem v_lmul (R : Ru l D cs φ own cc nL fr lo V) {x y : Int64} (d : decode cc pc = .ok (.lmul, 1)) (k : V (pc + 1) lc (.long (x * y) :: st) h) : V pc lc (.long y :: .long x :: st) h := by
  obtain ⟨p, e, Rm, s, m, args, below, meth, c, A, cells, slots, Q, hx, hb, hml, hown, hts, hC, hA, hfr, hlo, hce, hsl, rfl⟩ := R
  exact fun H locs ls hW hS hl => lv_lmul hx hb d (k H locs ls hW hS hl)
theorem v_land (R : Ru l D cs φ own cc nL fr lo V) {x y : Int64} (d : decode cc pc = .ok (.land, 1)) (k : V (pc + 1) lc (.long (x &&& y) :: st) h) : V pc lc (.long y :: .long x :: st) h := by
  obtain ⟨p, e, Rm, s, m, args, below, meth, c, A, cells, slots, Q, hx, hb, hml, hown, hts, hC, hA, hfr, hlo, hce, hsl, rfl⟩ := R
  exact fun H locs ls hW hS hl => lv_land hx hb d (k H locs ls hW hS hl)
theorem v_ldiv (R : Ru l D cs φ own cc nL fr lo V) {x y : Int64} (d : decode cc pc = .ok (.ldiv, 1)) (hne : ¬ y = 0) (k : V (pc + 1) lc (.long (x / y) :: st) h) : V pc lc (.long y :: .long x :: st) h := by
  obtain ⟨p, e, Rm, s, m, args, below, meth, c, A, cells, slots, Q, hx, hb, hml, hown, hts, hC, hA, hfr, hlo, hce, hsl, rfl⟩ := R
  exact fun H locs ls hW hS hl => lv_ldiv hx hb d hne (k H locs ls hW hS hl)
theorem v_lrem (R : Ru l D cs φ own cc nL fr lo V) {x y : Int64} (d : decode cc pc = .ok (.lrem, 1)) (hne : ¬ y = 0) (k : V (pc + 1) lc (.long (x - x / y * y) :: st) h) : V pc lc (.long y :: .long x :: st) h := by
  obtain ⟨p, e, Rm, s, m, args, below, meth, c, A, cells, slots, Q, hx, hb, hml, hown, hts, hC, hA, hfr, hlo, hce, hsl, rfl⟩ := R
  exact fun H locs ls hW hS hl => lv_lrem hx hb d hne (k H locs ls hW hS hl)
theorem v_i2l (R : Ru l D cs φ own cc nL fr lo V) {x : Int32} (d : decode cc pc = .ok (.i2l, 1)) (k : V (pc + 1) lc (.long x.toInt64 :: st) h) : V pc lc (.int x :: st) h := by
  obtain ⟨p, e, Rm, s, m, args, below, meth, c, A, cells, slots, Q, hx, hb, hml, hown, hts, hC, hA, hfr, hlo, hce, hsl, rfl⟩ := R
  exact fun H locs ls hW hS hl => lv_i2l hx hb d rfl (k H locs ls hW hS hl)
theorem v_l2i (R : Ru l D cs φ own cc nL fr lo V) {x : Int64} (d : decode cc pc = .ok (.l2i, 1)) (k : V (pc + 1) lc (.int x.toInt32 :: st) h) : V pc lc (.long x :: st) h := by
  obtain ⟨p, e, Rm, s, m, args, below, meth, c, A, cells, slots, Q, hx, hb, hml, hown, hts, hC, hA, hfr, hlo, hce, hsl, rfl⟩ := R
  exact fun H locs ls hW hS hl => lv_l2i hx hb d rfl (k H locs ls hW hS hl)
theorem v_iconst (R : Ru l D cs φ own cc nL fr lo V) {n : Int} {v : Int32} (d : decode cc pc = .ok (.iconst n, 1)) (hv : Int32.ofInt n = v) (k : V (pc + 1) lc (.int v :: st) h) : V pc lc (st) h := by
  obtain ⟨p, e, Rm, s, m, args, below, meth, c, A, cells, slots, Q, hx, hb, hml, hown, hts, hC, hA, hfr, hlo, hce, hsl, rfl⟩ := R
  exact fun H locs ls hW hS hl => lv_iconst hx hb d hv (k H locs ls hW hS hl)
theorem v_bipush (R : Ru l D cs φ own cc nL fr lo V) {n : Int} {v : Int32} (d : decode cc pc = .ok (.bipush n, 2)) (hv : (Int8.ofInt n).toInt32 = v) (k : V (pc + 2) lc (.int v :: st) h) : V pc lc (st) h := by
  obtain ⟨p, e, Rm, s, m, args, below, meth, c, A, cells, slots, Q, hx, hb, hml, hown, hts, hC, hA, hfr, hlo, hce, hsl, rfl⟩ := R
  exact fun H locs ls hW hS hl => lv_bipush hx hb d hv (k H locs ls hW hS hl)
theorem v_sipush (R : Ru l D cs φ own cc nL fr lo V) {n : Int} {v : Int32} (d : decode cc pc = .ok (.sipush n, 3)) (hv : (Int16.ofInt n).toInt32 = v) (k : V (pc + 3) lc (.int v :: st) h) : V pc lc (st) h := by
  obtain ⟨p, e, Rm, s, m, args, below, meth, c, A, cells, slots, Q, hx, hb, hml, hown, hts, hC, hA, hfr, hlo, hce, hsl, rfl⟩ := R
  exact fun H locs ls hW hS hl => lv_sipush hx hb d hv (k H locs ls hW hS hl)
theorem v_ldc (R : Ru l D cs φ own cc nL fr lo V) {n : Nat} {v : Int32} (d : decode cc pc = .ok (.ldc n, 2)) (hm : Cond.constant own n v ∈ lw_g) (k : V (pc + 2) lc (.int v :: st) h) : V pc lc (st) h := by
  obtain ⟨p, e, Rm, s, m, args, below, meth, c, A, cells, slots, Q, hx, hb, hml, hown, hts, hC, hA, hfr, hlo, hce, hsl, rfl⟩ := R
  exact fun H locs ls hW hS hl => lv_ldc hx hb hown (hts _ hm) d (k H locs ls hW hS hl)
theorem v_ldcw (R : Ru l D cs φ own cc nL fr lo V) {n : Nat} {v : Int32} (d : decode cc pc = .ok (.ldc_w n, 3)) (hm : Cond.constant own n v ∈ lw_g) (k : V (pc + 3) lc (.int v :: st) h) : V pc lc (st) h := by
  obtain ⟨p, e, Rm, s, m, args, below, meth, c, A, cells, slots, Q, hx, hb, hml, hown, hts, hC, hA, hfr, hlo, hce, hsl, rfl⟩ := R
  exact fun H locs ls hW hS hl => lv_ldcw hx hb hown (hts _ hm) d (k H locs ls hW hS hl)
theorem v_ldc2 (R : Ru l D cs φ own cc nL fr lo V) {n : Nat} {v : Int64} (d : decode cc pc = .ok (.ldc2_w n, 3)) (hm : Cond.constantLong own n v ∈ lw_g) (k : V (pc + 3) lc (.long v :: st) h) : V pc lc (st) h := by
  obtain ⟨p, e, Rm, s, m, args, below, meth, c, A, cells, slots, Q, hx, hb, hml, hown, hts, hC, hA, hfr, hlo, hce, hsl, rfl⟩ := R
  exact fun H locs ls hW hS hl => lv_ldc2 hx hb hown (hts _ hm) d (k H locs ls hW hS hl)
theorem v_dup (R : Ru l D cs φ own cc nL fr lo V) {a : Value} (d : decode cc pc = .ok (.dup, 1)) (ha : a.category = 1) (k : V (pc + 1) lc (a :: a :: st) h) : V pc lc (a :: st) h := by
  obtain ⟨p, e, Rm, s, m, args, below, meth, c, A, cells, slots, Q, hx, hb, hml, hown, hts, hC, hA, hfr, hlo, hce, hsl, rfl⟩ := R
  exact fun H locs ls hW hS hl => lv_dup hx hb d ha (k H locs ls hW hS hl)
theorem v_dup2 (R : Ru l D cs φ own cc nL fr lo V) {a b : Value} (d : decode cc pc = .ok (.dup2, 1)) (ha : a.category = 1) (hb2 : b.category = 1) (k : V (pc + 1) lc (a :: b :: a :: b :: st) h) : V pc lc (a :: b :: st) h := by
  obtain ⟨p, e, Rm, s, m, args, below, meth, c, A, cells, slots, Q, hx, hb, hml, hown, hts, hC, hA, hfr, hlo, hce, hsl, rfl⟩ := R
  exact fun H locs ls hW hS hl => lv_dup2_11 hx hb d ha hb2 (k H locs ls hW hS hl)
theorem v_pop (R : Ru l D cs φ own cc nL fr lo V) {a : Value} (d : decode cc pc = .ok (.pop, 1)) (ha : a.category = 1) (k : V (pc + 1) lc (st) h) : V pc lc (a :: st) h := by
  obtain ⟨p, e, Rm, s, m, args, below, meth, c, A, cells, slots, Q, hx, hb, hml, hown, hts, hC, hA, hfr, hlo, hce, hsl, rfl⟩ := R
  exact fun H locs ls hW hS hl => lv_pop hx hb d ha (k H locs ls hW hS hl)
theorem v_goto (R : Ru l D cs φ own cc nL fr lo V) {off : Int} {tgt : Nat} (d : decode cc pc = .ok (.goto off, 3)) (ht : (pc : Int) + off = (tgt : Int)) (k : V tgt lc st h) : V pc lc st h := by
  obtain ⟨p, e, Rm, s, m, args, below, meth, c, A, cells, slots, Q, hx, hb, hml, hown, hts, hC, hA, hfr, hlo, hce, hsl, rfl⟩ := R
  exact fun H locs ls hW hS hl => lv_goto hx hb d ht (k H locs ls hW hS hl)
theorem v_icmp_eq (R : Ru l D cs φ own cc nL fr lo V) {x y : Int32} {off : Int} {tgt : Nat} (d : decode cc pc = .ok (.if_icmp .eq off, 3)) (ht : (pc : Int) + off = (tgt : Int)) (kt : x = y → V tgt lc st h) (kf : ¬ x = y → V (pc + 3) lc st h) : V pc lc (.int y :: .int x :: st) h := by
  obtain ⟨p, e, Rm, s, m, args, below, meth, c, A, cells, slots, Q, hx, hb, hml, hown, hts, hC, hA, hfr, hlo, hce, hsl, rfl⟩ := R
  exact fun H locs ls hW hS hl => lv_icmp_eq hx hb d ht (fun q => kt q H locs ls hW hS hl) (fun q => kf q H locs ls hW hS hl)
theorem v_if_eq (R : Ru l D cs φ own cc nL fr lo V) {x : Int32} {off : Int} {tgt : Nat} (d : decode cc pc = .ok (.ifCond .eq off, 3)) (ht : (pc : Int) + off = (tgt : Int)) (kt : x = 0 → V tgt lc st h) (kf : ¬ x = 0 → V (pc + 3) lc st h) : V pc lc (.int x :: st) h := by
  obtain ⟨p, e, Rm, s, m, args, below, meth, c, A, cells, slots, Q, hx, hb, hml, hown, hts, hC, hA, hfr, hlo, hce, hsl, rfl⟩ := R
  exact fun H locs ls hW hS hl => lv_if_eq hx hb d ht (fun q => kt q H locs ls hW hS hl) (fun q => kf q H locs ls hW hS hl)
theorem v_icmp_ne (R : Ru l D cs φ own cc nL fr lo V) {x y : Int32} {off : Int} {tgt : Nat} (d : decode cc pc = .ok (.if_icmp .ne off, 3)) (ht : (pc : Int) + off = (tgt : Int)) (kt : ¬ x = y → V tgt lc st h) (kf : x = y → V (pc + 3) lc st h) : V pc lc (.int y :: .int x :: st) h := by
  obtain ⟨p, e, Rm, s, m, args, below, meth, c, A, cells, slots, Q, hx, hb, hml, hown, hts, hC, hA, hfr, hlo, hce, hsl, rfl⟩ := R
  exact fun H locs ls hW hS hl => lv_icmp_ne hx hb d ht (fun q => kt q H locs ls hW hS hl) (fun q => kf q H locs ls hW hS hl)
theorem v_if_ne (R : Ru l D cs φ own cc nL fr lo V) {x : Int32} {off : Int} {tgt : Nat} (d : decode cc pc = .ok (.ifCond .ne off, 3)) (ht : (pc : Int) + off = (tgt : Int)) (kt : ¬ x = 0 → V tgt lc st h) (kf : x = 0 → V (pc + 3) lc st h) : V pc lc (.int x :: st) h := by
  obtain ⟨p, e, Rm, s, m, args, below, meth, c, A, cells, slots, Q, hx, hb, hml, hown, hts, hC, hA, hfr, hlo, hce, hsl, rfl⟩ := R
  exact fun H locs ls hW hS hl => lv_if_ne hx hb d ht (fun q => kt q H locs ls hW hS hl) (fun q => kf q H locs ls hW hS hl)
theorem v_icmp_lt (R : Ru l D cs φ own cc nL fr lo V) {x y : Int32} {off : Int} {tgt : Nat} (d : decode cc pc = .ok (.if_icmp .lt off, 3)) (ht : (pc : Int) + off = (tgt : Int)) (kt : x < y → V tgt lc st h) (kf : ¬ x < y → V (pc + 3) lc st h) : V pc lc (.int y :: .int x :: st) h := by
  obtain ⟨p, e, Rm, s, m, args, below, meth, c, A, cells, slots, Q, hx, hb, hml, hown, hts, hC, hA, hfr, hlo, hce, hsl, rfl⟩ := R
  exact fun H locs ls hW hS hl => lv_icmp_lt hx hb d ht (fun q => kt q H locs ls hW hS hl) (fun q => kf q H locs ls hW hS hl)
theorem v_if_lt (R : Ru l D cs φ own cc nL fr lo V) {x : Int32} {off : Int} {tgt : Nat} (d : decode cc pc = .ok (.ifCond .lt off, 3)) (ht : (pc : Int) + off = (tgt : Int)) (kt : x < 0 → V tgt lc st h) (kf : ¬ x < 0 → V (pc + 3) lc st h) : V pc lc (.int x :: st) h := by
  obtain ⟨p, e, Rm, s, m, args, below, meth, c, A, cells, slots, Q, hx, hb, hml, hown, hts, hC, hA, hfr, hlo, hce, hsl, rfl⟩ := R
  exact fun H locs ls hW hS hl => lv_if_lt hx hb d ht (fun q => kt q H locs ls hW hS hl) (fun q => kf q H locs ls hW hS hl)
theorem v_icmp_ge (R : Ru l D cs φ own cc nL fr lo V) {x y : Int32} {off : Int} {tgt : Nat} (d : decode cc pc = .ok (.if_icmp .ge off, 3)) (ht : (pc : Int) + off = (tgt : Int)) (kt : y ≤ x → V tgt lc st h) (kf : ¬ y ≤ x → V (pc + 3) lc st h) : V pc lc (.int y :: .int x :: st) h := by
  obtain ⟨p, e, Rm, s, m, args, below, meth, c, A, cells, slots, Q, hx, hb, hml, hown, hts, hC, hA, hfr, hlo, hce, hsl, rfl⟩ := R
  exact fun H locs ls hW hS hl => lv_icmp_ge hx hb d ht (fun q => kt q H locs ls hW hS hl) (fun q => kf q H locs ls hW hS hl)
theorem v_if_ge (R : Ru l D cs φ own cc nL fr lo V) {x : Int32} {off : Int} {tgt : Nat} (d : decode cc pc = .ok (.ifCond .ge off, 3)) (ht : (pc : Int) + off = (tgt : Int)) (kt : 0 ≤ x → V tgt lc st h) (kf : ¬ 0 ≤ x → V (pc + 3) lc st h) : V pc lc (.int x :: st) h := by
  obtain ⟨p, e, Rm, s, m, args, below, meth, c, A, cells, slots, Q, hx, hb, hml, hown, hts, hC, hA, hfr, hlo, hce, hsl, rfl⟩ := R
  exact fun H locs ls hW hS hl => lv_if_ge hx hb d ht (fun q => kt q H locs ls hW hS hl) (fun q => kf q H locs ls hW hS hl)
theorem v_icmp_gt (R : Ru l D cs φ own cc nL fr lo V) {x y : Int32} {off : Int} {tgt : Nat} (d : decode cc pc = .ok (.if_icmp .gt off, 3)) (ht : (pc : Int) + off = (tgt : Int)) (kt : y < x → V tgt lc st h) (kf : ¬ y < x → V (pc + 3) lc st h) : V pc lc (.int y :: .int x :: st) h := by
  obtain ⟨p, e, Rm, s, m, args, below, meth, c, A, cells, slots, Q, hx, hb, hml, hown, hts, hC, hA, hfr, hlo, hce, hsl, rfl⟩ := R
  exact fun H locs ls hW hS hl => lv_icmp_gt hx hb d ht (fun q => kt q H locs ls hW hS hl) (fun q => kf q H locs ls hW hS hl)
theorem v_if_gt (R : Ru l D cs φ own cc nL fr lo V) {x : Int32} {off : Int} {tgt : Nat} (d : decode cc pc = .ok (.ifCond .gt off, 3)) (ht : (pc : Int) + off = (tgt : Int)) (kt : 0 < x → V tgt lc st h) (kf : ¬ 0 < x → V (pc + 3) lc st h) : V pc lc (.int x :: st) h := by
  obtain ⟨p, e, Rm, s, m, args, below, meth, c, A, cells, slots, Q, hx, hb, hml, hown, hts, hC, hA, hfr, hlo, hce, hsl, rfl⟩ := R
  exact fun H locs ls hW hS hl => lv_if_gt hx hb d ht (fun q => kt q H locs ls hW hS hl) (fun q => kf q H locs ls hW hS hl)
theorem v_icmp_le (R : Ru l D cs φ own cc nL fr lo V) {x y : Int32} {off : Int} {tgt : Nat} (d : decode cc pc = .ok (.if_icmp .le off, 3)) (ht : (pc : Int) + off = (tgt : Int)) (kt : x ≤ y → V tgt lc st h) (kf : ¬ x ≤ y → V (pc + 3) lc st h) : V pc lc (.int y :: .int x :: st) h := by
  obtain ⟨p, e, Rm, s, m, args, below, meth, c, A, cells, slots, Q, hx, hb, hml, hown, hts, hC, hA, hfr, hlo, hce, hsl, rfl⟩ := R
  exact fun H locs ls hW hS hl => lv_icmp_le hx hb d ht (fun q => kt q H locs ls hW hS hl) (fun q => kf q H locs ls hW hS hl)
theorem v_if_le (R : Ru l D cs φ own cc nL fr lo V) {x : Int32} {off : Int} {tgt : Nat} (d : decode cc pc = .ok (.ifCond .le off, 3)) (ht : (pc : Int) + off = (tgt : Int)) (kt : x ≤ 0 → V tgt lc st h) (kf : ¬ x ≤ 0 → V (pc + 3) lc st h) : V pc lc (.int x :: st) h := by
  obtain ⟨p, e, Rm, s, m, args, below, meth, c, A, cells, slots, Q, hx, hb, hml, hown, hts, hC, hA, hfr, hlo, hce, hsl, rfl⟩ := R
  exact fun H locs ls hW hS hl => lv_if_le hx hb d ht (fun q => kt q H locs ls hW hS hl) (fun q => kf q H locs ls hW hS hl)
theorem bI_0 {b : Bool} : bI b = 0 ↔ ¬ b = true := by cases b <;> decide
theorem bI_n (b : Bool) : narrow .boolean (.int (bI b)) = .int (bI b) := by cases b <;> rfl
theorem v_ifb_eq (R : Ru l D cs φ own cc nL fr lo V) {b : Bool} {off : Int} {tgt : Nat} (d : decode cc pc = .ok (.ifCond .eq off, 3)) (ht : (pc : Int) + off = (tgt : Int)) (kt : ¬ b = true → V tgt lc st h) (kf : b = true → V (pc + 3) lc st h) : V pc lc (.int (bI b) :: st) h :=
  v_if_eq R d ht (fun q => kt (bI_0.mp q)) (fun q => kf (Decidable.byContradiction fun z => q (bI_0.mpr z)))
theorem v_ifb_ne (R : Ru l D cs φ own cc nL fr lo V) {b : Bool} {off : Int} {tgt : Nat} (d : decode cc pc = .ok (.ifCond .ne off, 3)) (ht : (pc : Int) + off = (tgt : Int)) (kt : b = true → V tgt lc st h) (kf : ¬ b = true → V (pc + 3) lc st h) : V pc lc (.int (bI b) :: st) h :=
  v_if_ne R d ht (fun q => kt (Decidable.byContradiction fun z => q (bI_0.mpr z))) (fun q => kf (bI_0.mp q))
theorem v_tabEq (R : Ru l D cs φ own cc nL fr lo V) {dflt lw hi : Int} {offs : Array Int} {len : Nat} {x : Int32} {off : Int} {tgt : Nat} (d : decode cc pc = .ok (.tableswitch dflt lw hi offs, len)) (j : Int32) (hj : x = j) (h1 : ¬ j.toInt < lw) (h2 : ¬ hi < j.toInt) (ho : offs[(j.toInt - lw).toNat]? = some off) (ht : (pc : Int) + off = (tgt : Int)) (k : V tgt lc st h) : V pc lc (.int x :: st) h := by
  subst hj
  obtain ⟨p, e, Rm, s, m, args, below, meth, c, A, cells, slots, Q, hx, hb, hml, hown, hts, hC, hA, hfr, hlo, hce, hsl, rfl⟩ := R
  exact fun H locs ls hW hS hl => lv_tableIn hx hb d h1 h2 ho ht (k H locs ls hW hS hl)
theorem v_tabDf (R : Ru l D cs φ own cc nL fr lo V) {dflt lw hi : Int} {offs : Array Int} {len : Nat} {x : Int32} {tgt : Nat} (d : decode cc pc = .ok (.tableswitch dflt lw hi offs, len)) (ho : x.toInt < lw ∨ hi < x.toInt) (ht : (pc : Int) + dflt = (tgt : Int)) (k : V tgt lc st h) : V pc lc (.int x :: st) h := by
  obtain ⟨p, e, Rm, s, m, args, below, meth, c, A, cells, slots, Q, hx, hb, hml, hown, hts, hC, hA, hfr, hlo, hce, hsl, rfl⟩ := R
  exact fun H locs ls hW hS hl => lv_tableOut hx hb d ho ht (k H locs ls hW hS hl)
theorem v_iload_0 (R : Ru l D cs φ own cc nL fr lo V) {r : List (Option Value)} {x : Int32} (d : decode cc pc = .ok (.iload_n 0, 1)) (k : V (pc + 1) (some (.int x) :: r) (.int x :: st) h) : V pc (some (.int x) :: r) st h := by
  obtain ⟨p, e, Rm, s, m, args, below, meth, c, A, cells, slots, Q, hx, hb, hml, hown, hts, hC, hA, hfr, hlo, hce, hsl, rfl⟩ := R
  exact fun H locs ls hW hS hl => lv_iload_n hx hb d rfl (as_at hl (i := 0) rfl) (k H locs ls hW hS hl)
theorem v_aload_0 (R : Ru l D cs φ own cc nL fr lo V) {r : List (Option Value)} {x : Nat} (d : decode cc pc = .ok (.aload_n 0, 1)) (k : V (pc + 1) (some (.ref x) :: r) (.ref x :: st) h) : V pc (some (.ref x) :: r) st h := by
  obtain ⟨p, e, Rm, s, m, args, below, meth, c, A, cells, slots, Q, hx, hb, hml, hown, hts, hC, hA, hfr, hlo, hce, hsl, rfl⟩ := R
  exact fun H locs ls hW hS hl => lv_aload_n hx hb d rfl (as_at hl (i := 0) rfl) (k H locs ls hW hS hl)
theorem v_istore_0 (R : Ru l D cs φ own cc nL fr lo V) {z : Option Value} {r : List (Option Value)} {x : Int32} (d : decode cc pc = .ok (.istore_n 0, 1)) (hn : 0 < nL) (hk : stOk (z :: r) 0 = true) (k : V (pc + 1) (some (.int x) :: r) st h) : V pc (z :: r) (.int x :: st) h := by
  obtain ⟨p, e, Rm, s, m, args, below, meth, c, A, cells, slots, Q, hx, hb, hml, hown, hts, hC, hA, hfr, hlo, hce, hsl, rfl⟩ := R
  exact fun H locs ls hW hS hl => lv_istore_n hx hb d rfl hl hn rfl (fun ls2 hl2 => k H locs ls2 hW hS (as_set (i := 0) hk hl2))
theorem v_astore_0 (R : Ru l D cs φ own cc nL fr lo V) {z : Option Value} {r : List (Option Value)} {x : Nat} (d : decode cc pc = .ok (.astore_n 0, 1)) (hn : 0 < nL) (hk : stOk (z :: r) 0 = true) (k : V (pc + 1) (some (.ref x) :: r) st h) : V pc (z :: r) (.ref x :: st) h := by
  obtain ⟨p, e, Rm, s, m, args, below, meth, c, A, cells, slots, Q, hx, hb, hml, hown, hts, hC, hA, hfr, hlo, hce, hsl, rfl⟩ := R
  exact fun H locs ls hW hS hl => lv_astore_n hx hb d rfl hl hn rfl (fun ls2 hl2 => k H locs ls2 hW hS (as_set (i := 0) hk hl2))
theorem v_iinc_0 (R : Ru l D cs φ own cc nL fr lo V) {r : List (Option Value)} {x : Int32} {n : Int} (v : Int32) (d : decode cc pc = .ok (.iinc 0 n, 3)) (hn : 0 < nL) (hk : stOk (some (.int x) :: r) 0 = true) (hv : Int32.ofInt n = v) (k : V (pc + 3) (some (.int (x + v)) :: r) st h) : V pc (some (.int x) :: r) st h := by
  obtain ⟨p, e, Rm, s, m, args, below, meth, c, A, cells, slots, Q, hx, hb, hml, hown, hts, hC, hA, hfr, hlo, hce, hsl, rfl⟩ := R
  subst hv
  intro H locs ls hW hS hl
  obtain ⟨k2, hk2⟩ := List.getElem?_of_mem (asl_in (n := 0) (lc := some (.int x) :: r) (i := 0) (v := .int x) rfl)
  exact lv_iinc hx hb d hl (k := k2) (by rw [hk2]) rfl hn rfl (fun ls2 hl2 => k H locs ls2 hW hS (as_set (i := 0) hk hl2))
theorem v_iload_1 (R : Ru l D cs φ own cc nL fr lo V) {a0 : Option Value} {r : List (Option Value)} {x : Int32} (d : decode cc pc = .ok (.iload_n 1, 1)) (k : V (pc + 1) (a0 :: some (.int x) :: r) (.int x :: st) h) : V pc (a0 :: some (.int x) :: r) st h := by
  obtain ⟨p, e, Rm, s, m, args, below, meth, c, A, cells, slots, Q, hx, hb, hml, hown, hts, hC, hA, hfr, hlo, hce, hsl, rfl⟩ := R
  exact fun H locs ls hW hS hl => lv_iload_n hx hb d rfl (as_at hl (i := 1) rfl) (k H locs ls hW hS hl)
theorem v_aload_1 (R : Ru l D cs φ own cc nL fr lo V) {a0 : Option Value} {r : List (Option Value)} {x : Nat} (d : decode cc pc = .ok (.aload_n 1, 1)) (k : V (pc + 1) (a0 :: some (.ref x) :: r) (.ref x :: st) h) : V pc (a0 :: some (.ref x) :: r) st h := by
  obtain ⟨p, e, Rm, s, m, args, below, meth, c, A, cells, slots, Q, hx, hb, hml, hown, hts, hC, hA, hfr, hlo, hce, hsl, rfl⟩ := R
  exact fun H locs ls hW hS hl => lv_aload_n hx hb d rfl (as_at hl (i := 1) rfl) (k H locs ls hW hS hl)
theorem v_istore_1 (R : Ru l D cs φ own cc nL fr lo V) {a0 : Option Value} {z : Option Value} {r : List (Option Value)} {x : Int32} (d : decode cc pc = .ok (.istore_n 1, 1)) (hn : 1 < nL) (hk : stOk (a0 :: z :: r) 1 = true) (k : V (pc + 1) (a0 :: some (.int x) :: r) st h) : V pc (a0 :: z :: r) (.int x :: st) h := by
  obtain ⟨p, e, Rm, s, m, args, below, meth, c, A, cells, slots, Q, hx, hb, hml, hown, hts, hC, hA, hfr, hlo, hce, hsl, rfl⟩ := R
  exact fun H locs ls hW hS hl => lv_istore_n hx hb d rfl hl hn rfl (fun ls2 hl2 => k H locs ls2 hW hS (as_set (i := 1) hk hl2))
theorem v_astore_1 (R : Ru l D cs φ own cc nL fr lo V) {a0 : Option Value} {z : Option Value} {r : List (Option Value)} {x : Nat} (d : decode cc pc = .ok (.astore_n 1, 1)) (hn : 1 < nL) (hk : stOk (a0 :: z :: r) 1 = true) (k : V (pc + 1) (a0 :: some (.ref x) :: r) st h) : V pc (a0 :: z :: r) (.ref x :: st) h := by
  obtain ⟨p, e, Rm, s, m, args, below, meth, c, A, cells, slots, Q, hx, hb, hml, hown, hts, hC, hA, hfr, hlo, hce, hsl, rfl⟩ := R
  exact fun H locs ls hW hS hl => lv_astore_n hx hb d rfl hl hn rfl (fun ls2 hl2 => k H locs ls2 hW hS (as_set (i := 1) hk hl2))
theorem v_iinc_1 (R : Ru l D cs φ own cc nL fr lo V) {a0 : Option Value} {r : List (Option Value)} {x : Int32} {n : Int} (v : Int32) (d : decode cc pc = .ok (.iinc 1 n, 3)) (hn : 1 < nL) (hk : stOk (a0 :: some (.int x) :: r) 1 = true) (hv : Int32.ofInt n = v) (k : V (pc + 3) (a0 :: some (.int (x + v)) :: r) st h) : V pc (a0 :: some (.int x) :: r) st h := by
  obtain ⟨p, e, Rm, s, m, args, below, meth, c, A, cells, slots, Q, hx, hb, hml, hown, hts, hC, hA, hfr, hlo, hce, hsl, rfl⟩ := R
  subst hv
  intro H locs ls hW hS hl
  obtain ⟨k2, hk2⟩ := List.getElem?_of_mem (asl_in (n := 0) (lc := a0 :: some (.int x) :: r) (i := 1) (v := .int x) rfl)
  exact lv_iinc hx hb d hl (k := k2) (by rw [hk2]) rfl hn rfl (fun ls2 hl2 => k H locs ls2 hW hS (as_set (i := 1) hk hl2))
theorem v_iload_2 (R : Ru l D cs φ own cc nL fr lo V) {a0 a1 : Option Value} {r : List (Option Value)} {x : Int32} (d : decode cc pc = .ok (.iload_n 2, 1)) (k : V (pc + 1) (a0 :: a1 :: some (.int x) :: r) (.int x :: st) h) : V pc (a0 :: a1 :: some (.int x) :: r) st h := by
  obtain ⟨p, e, Rm, s, m, args, below, meth, c, A, cells, slots, Q, hx, hb, hml, hown, hts, hC, hA, hfr, hlo, hce, hsl, rfl⟩ := R
  exact fun H locs ls hW hS hl => lv_iload_n hx hb d rfl (as_at hl (i := 2) rfl) (k H locs ls hW hS hl)
theorem v_aload_2 (R : Ru l D cs φ own cc nL fr lo V) {a0 a1 : Option Value} {r : List (Option Value)} {x : Nat} (d : decode cc pc = .ok (.aload_n 2, 1)) (k : V (pc + 1) (a0 :: a1 :: some (.ref x) :: r) (.ref x :: st) h) : V pc (a0 :: a1 :: some (.ref x) :: r) st h := by
  obtain ⟨p, e, Rm, s, m, args, below, meth, c, A, cells, slots, Q, hx, hb, hml, hown, hts, hC, hA, hfr, hlo, hce, hsl, rfl⟩ := R
  exact fun H locs ls hW hS hl => lv_aload_n hx hb d rfl (as_at hl (i := 2) rfl) (k H locs ls hW hS hl)
theorem v_istore_2 (R : Ru l D cs φ own cc nL fr lo V) {a0 a1 : Option Value} {z : Option Value} {r : List (Option Value)} {x : Int32} (d : decode cc pc = .ok (.istore_n 2, 1)) (hn : 2 < nL) (hk : stOk (a0 :: a1 :: z :: r) 2 = true) (k : V (pc + 1) (a0 :: a1 :: some (.int x) :: r) st h) : V pc (a0 :: a1 :: z :: r) (.int x :: st) h := by
  obtain ⟨p, e, Rm, s, m, args, below, meth, c, A, cells, slots, Q, hx, hb, hml, hown, hts, hC, hA, hfr, hlo, hce, hsl, rfl⟩ := R
  exact fun H locs ls hW hS hl => lv_istore_n hx hb d rfl hl hn rfl (fun ls2 hl2 => k H locs ls2 hW hS (as_set (i := 2) hk hl2))
theorem v_astore_2 (R : Ru l D cs φ own cc nL fr lo V) {a0 a1 : Option Value} {z : Option Value} {r : List (Option Value)} {x : Nat} (d : decode cc pc = .ok (.astore_n 2, 1)) (hn : 2 < nL) (hk : stOk (a0 :: a1 :: z :: r) 2 = true) (k : V (pc + 1) (a0 :: a1 :: some (.ref x) :: r) st h) : V pc (a0 :: a1 :: z :: r) (.ref x :: st) h := by
  obtain ⟨p, e, Rm, s, m, args, below, meth, c, A, cells, slots, Q, hx, hb, hml, hown, hts, hC, hA, hfr, hlo, hce, hsl, rfl⟩ := R
  exact fun H locs ls hW hS hl => lv_astore_n hx hb d rfl hl hn rfl (fun ls2 hl2 => k H locs ls2 hW hS (as_set (i := 2) hk hl2))
theorem v_iinc_2 (R : Ru l D cs φ own cc nL fr lo V) {a0 a1 : Option Value} {r : List (Option Value)} {x : Int32} {n : Int} (v : Int32) (d : decode cc pc = .ok (.iinc 2 n, 3)) (hn : 2 < nL) (hk : stOk (a0 :: a1 :: some (.int x) :: r) 2 = true) (hv : Int32.ofInt n = v) (k : V (pc + 3) (a0 :: a1 :: some (.int (x + v)) :: r) st h) : V pc (a0 :: a1 :: some (.int x) :: r) st h := by
  obtain ⟨p, e, Rm, s, m, args, below, meth, c, A, cells, slots, Q, hx, hb, hml, hown, hts, hC, hA, hfr, hlo, hce, hsl, rfl⟩ := R
  subst hv
  intro H locs ls hW hS hl
  obtain ⟨k2, hk2⟩ := List.getElem?_of_mem (asl_in (n := 0) (lc := a0 :: a1 :: some (.int x) :: r) (i := 2) (v := .int x) rfl)
  exact lv_iinc hx hb d hl (k := k2) (by rw [hk2]) rfl hn rfl (fun ls2 hl2 => k H locs ls2 hW hS (as_set (i := 2) hk hl2))
theorem v_iload_3 (R : Ru l D cs φ own cc nL fr lo V) {a0 a1 a2 : Option Value} {r : List (Option Value)} {x : Int32} (d : decode cc pc = .ok (.iload_n 3, 1)) (k : V (pc + 1) (a0 :: a1 :: a2 :: some (.int x) :: r) (.int x :: st) h) : V pc (a0 :: a1 :: a2 :: some (.int x) :: r) st h := by
  obtain ⟨p, e, Rm, s, m, args, below, meth, c, A, cells, slots, Q, hx, hb, hml, hown, hts, hC, hA, hfr, hlo, hce, hsl, rfl⟩ := R
  exact fun H locs ls hW hS hl => lv_iload_n hx hb d rfl (as_at hl (i := 3) rfl) (k H locs ls hW hS hl)
theorem v_aload_3 (R : Ru l D cs φ own cc nL fr lo V) {a0 a1 a2 : Option Value} {r : List (Option Value)} {x : Nat} (d : decode cc pc = .ok (.aload_n 3, 1)) (k : V (pc + 1) (a0 :: a1 :: a2 :: some (.ref x) :: r) (.ref x :: st) h) : V pc (a0 :: a1 :: a2 :: some (.ref x) :: r) st h := by
  obtain ⟨p, e, Rm, s, m, args, below, meth, c, A, cells, slots, Q, hx, hb, hml, hown, hts, hC, hA, hfr, hlo, hce, hsl, rfl⟩ := R
  exact fun H locs ls hW hS hl => lv_aload_n hx hb d rfl (as_at hl (i := 3) rfl) (k H locs ls hW hS hl)
theorem v_istore_3 (R : Ru l D cs φ own cc nL fr lo V) {a0 a1 a2 : Option Value} {z : Option Value} {r : List (Option Value)} {x : Int32} (d : decode cc pc = .ok (.istore_n 3, 1)) (hn : 3 < nL) (hk : stOk (a0 :: a1 :: a2 :: z :: r) 3 = true) (k : V (pc + 1) (a0 :: a1 :: a2 :: some (.int x) :: r) st h) : V pc (a0 :: a1 :: a2 :: z :: r) (.int x :: st) h := by
  obtain ⟨p, e, Rm, s, m, args, below, meth, c, A, cells, slots, Q, hx, hb, hml, hown, hts, hC, hA, hfr, hlo, hce, hsl, rfl⟩ := R
  exact fun H locs ls hW hS hl => lv_istore_n hx hb d rfl hl hn rfl (fun ls2 hl2 => k H locs ls2 hW hS (as_set (i := 3) hk hl2))
theorem v_astore_3 (R : Ru l D cs φ own cc nL fr lo V) {a0 a1 a2 : Option Value} {z : Option Value} {r : List (Option Value)} {x : Nat} (d : decode cc pc = .ok (.astore_n 3, 1)) (hn : 3 < nL) (hk : stOk (a0 :: a1 :: a2 :: z :: r) 3 = true) (k : V (pc + 1) (a0 :: a1 :: a2 :: some (.ref x) :: r) st h) : V pc (a0 :: a1 :: a2 :: z :: r) (.ref x :: st) h := by
  obtain ⟨p, e, Rm, s, m, args, below, meth, c, A, cells, slots, Q, hx, hb, hml, hown, hts, hC, hA, hfr, hlo, hce, hsl, rfl⟩ := R
  exact fun H locs ls hW hS hl => lv_astore_n hx hb d rfl hl hn rfl (fun ls2 hl2 => k H locs ls2 hW hS (as_set (i := 3) hk hl2))
theorem v_iinc_3 (R : Ru l D cs φ own cc nL fr lo V) {a0 a1 a2 : Option Value} {r : List (Option Value)} {x : Int32} {n : Int} (v : Int32) (d : decode cc pc = .ok (.iinc 3 n, 3)) (hn : 3 < nL) (hk : stOk (a0 :: a1 :: a2 :: some (.int x) :: r) 3 = true) (hv : Int32.ofInt n = v) (k : V (pc + 3) (a0 :: a1 :: a2 :: some (.int (x + v)) :: r) st h) : V pc (a0 :: a1 :: a2 :: some (.int x) :: r) st h := by
  obtain ⟨p, e, Rm, s, m, args, below, meth, c, A, cells, slots, Q, hx, hb, hml, hown, hts, hC, hA, hfr, hlo, hce, hsl, rfl⟩ := R
  subst hv
  intro H locs ls hW hS hl
  obtain ⟨k2, hk2⟩ := List.getElem?_of_mem (asl_in (n := 0) (lc := a0 :: a1 :: a2 :: some (.int x) :: r) (i := 3) (v := .int x) rfl)
  exact lv_iinc hx hb d hl (k := k2) (by rw [hk2]) rfl hn rfl (fun ls2 hl2 => k H locs ls2 hW hS (as_set (i := 3) hk hl2))
theorem v_iload_4 (R : Ru l D cs φ own cc nL fr lo V) {a0 a1 a2 a3 : Option Value} {r : List (Option Value)} {x : Int32} (d : decode cc pc = .ok (.iload 4, 2)) (k : V (pc + 2) (a0 :: a1 :: a2 :: a3 :: some (.int x) :: r) (.int x :: st) h) : V pc (a0 :: a1 :: a2 :: a3 :: some (.int x) :: r) st h := by
  obtain ⟨p, e, Rm, s, m, args, below, meth, c, A, cells, slots, Q, hx, hb, hml, hown, hts, hC, hA, hfr, hlo, hce, hsl, rfl⟩ := R
  exact fun H locs ls hW hS hl => lv_iload hx hb d (as_at hl (i := 4) rfl) (k H locs ls hW hS hl)
theorem v_aload_4 (R : Ru l D cs φ own cc nL fr lo V) {a0 a1 a2 a3 : Option Value} {r : List (Option Value)} {x : Nat} (d : decode cc pc = .ok (.aload 4, 2)) (k : V (pc + 2) (a0 :: a1 :: a2 :: a3 :: some (.ref x) :: r) (.ref x :: st) h) : V pc (a0 :: a1 :: a2 :: a3 :: some (.ref x) :: r) st h := by
  obtain ⟨p, e, Rm, s, m, args, below, meth, c, A, cells, slots, Q, hx, hb, hml, hown, hts, hC, hA, hfr, hlo, hce, hsl, rfl⟩ := R
  exact fun H locs ls hW hS hl => lv_aload hx hb d (as_at hl (i := 4) rfl) (k H locs ls hW hS hl)
theorem v_istore_4 (R : Ru l D cs φ own cc nL fr lo V) {a0 a1 a2 a3 : Option Value} {z : Option Value} {r : List (Option Value)} {x : Int32} (d : decode cc pc = .ok (.istore 4, 2)) (hn : 4 < nL) (hk : stOk (a0 :: a1 :: a2 :: a3 :: z :: r) 4 = true) (k : V (pc + 2) (a0 :: a1 :: a2 :: a3 :: some (.int x) :: r) st h) : V pc (a0 :: a1 :: a2 :: a3 :: z :: r) (.int x :: st) h := by
  obtain ⟨p, e, Rm, s, m, args, below, meth, c, A, cells, slots, Q, hx, hb, hml, hown, hts, hC, hA, hfr, hlo, hce, hsl, rfl⟩ := R
  exact fun H locs ls hW hS hl => lv_istore hx hb d hl hn rfl (fun ls2 hl2 => k H locs ls2 hW hS (as_set (i := 4) hk hl2))
theorem v_astore_4 (R : Ru l D cs φ own cc nL fr lo V) {a0 a1 a2 a3 : Option Value} {z : Option Value} {r : List (Option Value)} {x : Nat} (d : decode cc pc = .ok (.astore 4, 2)) (hn : 4 < nL) (hk : stOk (a0 :: a1 :: a2 :: a3 :: z :: r) 4 = true) (k : V (pc + 2) (a0 :: a1 :: a2 :: a3 :: some (.ref x) :: r) st h) : V pc (a0 :: a1 :: a2 :: a3 :: z :: r) (.ref x :: st) h := by
  obtain ⟨p, e, Rm, s, m, args, below, meth, c, A, cells, slots, Q, hx, hb, hml, hown, hts, hC, hA, hfr, hlo, hce, hsl, rfl⟩ := R
  exact fun H locs ls hW hS hl => lv_astore hx hb d hl hn rfl (fun ls2 hl2 => k H locs ls2 hW hS (as_set (i := 4) hk hl2))
theorem v_iinc_4 (R : Ru l D cs φ own cc nL fr lo V) {a0 a1 a2 a3 : Option Value} {r : List (Option Value)} {x : Int32} {n : Int} (v : Int32) (d : decode cc pc = .ok (.iinc 4 n, 3)) (hn : 4 < nL) (hk : stOk (a0 :: a1 :: a2 :: a3 :: some (.int x) :: r) 4 = true) (hv : Int32.ofInt n = v) (k : V (pc + 3) (a0 :: a1 :: a2 :: a3 :: some (.int (x + v)) :: r) st h) : V pc (a0 :: a1 :: a2 :: a3 :: some (.int x) :: r) st h := by
  obtain ⟨p, e, Rm, s, m, args, below, meth, c, A, cells, slots, Q, hx, hb, hml, hown, hts, hC, hA, hfr, hlo, hce, hsl, rfl⟩ := R
  subst hv
  intro H locs ls hW hS hl
  obtain ⟨k2, hk2⟩ := List.getElem?_of_mem (asl_in (n := 0) (lc := a0 :: a1 :: a2 :: a3 :: some (.int x) :: r) (i := 4) (v := .int x) rfl)
  exact lv_iinc hx hb d hl (k := k2) (by rw [hk2]) rfl hn rfl (fun ls2 hl2 => k H locs ls2 hW hS (as_set (i := 4) hk hl2))
theorem v_iload_5 (R : Ru l D cs φ own cc nL fr lo V) {a0 a1 a2 a3 a4 : Option Value} {r : List (Option Value)} {x : Int32} (d : decode cc pc = .ok (.iload 5, 2)) (k : V (pc + 2) (a0 :: a1 :: a2 :: a3 :: a4 :: some (.int x) :: r) (.int x :: st) h) : V pc (a0 :: a1 :: a2 :: a3 :: a4 :: some (.int x) :: r) st h := by
  obtain ⟨p, e, Rm, s, m, args, below, meth, c, A, cells, slots, Q, hx, hb, hml, hown, hts, hC, hA, hfr, hlo, hce, hsl, rfl⟩ := R
  exact fun H locs ls hW hS hl => lv_iload hx hb d (as_at hl (i := 5) rfl) (k H locs ls hW hS hl)
theorem v_aload_5 (R : Ru l D cs φ own cc nL fr lo V) {a0 a1 a2 a3 a4 : Option Value} {r : List (Option Value)} {x : Nat} (d : decode cc pc = .ok (.aload 5, 2)) (k : V (pc + 2) (a0 :: a1 :: a2 :: a3 :: a4 :: some (.ref x) :: r) (.ref x :: st) h) : V pc (a0 :: a1 :: a2 :: a3 :: a4 :: some (.ref x) :: r) st h := by
  obtain ⟨p, e, Rm, s, m, args, below, meth, c, A, cells, slots, Q, hx, hb, hml, hown, hts, hC, hA, hfr, hlo, hce, hsl, rfl⟩ := R
  exact fun H locs ls hW hS hl => lv_aload hx hb d (as_at hl (i := 5) rfl) (k H locs ls hW hS hl)
theorem v_istore_5 (R : Ru l D cs φ own cc nL fr lo V) {a0 a1 a2 a3 a4 : Option Value} {z : Option Value} {r : List (Option Value)} {x : Int32} (d : decode cc pc = .ok (.istore 5, 2)) (hn : 5 < nL) (hk : stOk (a0 :: a1 :: a2 :: a3 :: a4 :: z :: r) 5 = true) (k : V (pc + 2) (a0 :: a1 :: a2 :: a3 :: a4 :: some (.int x) :: r) st h) : V pc (a0 :: a1 :: a2 :: a3 :: a4 :: z :: r) (.int x :: st) h := by
  obtain ⟨p, e, Rm, s, m, args, below, meth, c, A, cells, slots, Q, hx, hb, hml, hown, hts, hC, hA, hfr, hlo, hce, hsl, rfl⟩ := R
  exact fun H locs ls hW hS hl => lv_istore hx hb d hl hn rfl (fun ls2 hl2 => k H locs ls2 hW hS (as_set (i := 5) hk hl2))
theorem v_astore_5 (R : Ru l D cs φ own cc nL fr lo V) {a0 a1 a2 a3 a4 : Option Value} {z : Option Value} {r : List (Option Value)} {x : Nat} (d : decode cc pc = .ok (.astore 5, 2)) (hn : 5 < nL) (hk : stOk (a0 :: a1 :: a2 :: a3 :: a4 :: z :: r) 5 = true) (k : V (pc + 2) (a0 :: a1 :: a2 :: a3 :: a4 :: some (.ref x) :: r) st h) : V pc (a0 :: a1 :: a2 :: a3 :: a4 :: z :: r) (.ref x :: st) h := by
  obtain ⟨p, e, Rm, s, m, args, below, meth, c, A, cells, slots, Q, hx, hb, hml, hown, hts, hC, hA, hfr, hlo, hce, hsl, rfl⟩ := R
  exact fun H locs ls hW hS hl => lv_astore hx hb d hl hn rfl (fun ls2 hl2 => k H locs ls2 hW hS (as_set (i := 5) hk hl2))
theorem v_iinc_5 (R : Ru l D cs φ own cc nL fr lo V) {a0 a1 a2 a3 a4 : Option Value} {r : List (Option Value)} {x : Int32} {n : Int} (v : Int32) (d : decode cc pc = .ok (.iinc 5 n, 3)) (hn : 5 < nL) (hk : stOk (a0 :: a1 :: a2 :: a3 :: a4 :: some (.int x) :: r) 5 = true) (hv : Int32.ofInt n = v) (k : V (pc + 3) (a0 :: a1 :: a2 :: a3 :: a4 :: some (.int (x + v)) :: r) st h) : V pc (a0 :: a1 :: a2 :: a3 :: a4 :: some (.int x) :: r) st h := by
  obtain ⟨p, e, Rm, s, m, args, below, meth, c, A, cells, slots, Q, hx, hb, hml, hown, hts, hC, hA, hfr, hlo, hce, hsl, rfl⟩ := R
  subst hv
  intro H locs ls hW hS hl
  obtain ⟨k2, hk2⟩ := List.getElem?_of_mem (asl_in (n := 0) (lc := a0 :: a1 :: a2 :: a3 :: a4 :: some (.int x) :: r) (i := 5) (v := .int x) rfl)
  exact lv_iinc hx hb d hl (k := k2) (by rw [hk2]) rfl hn rfl (fun ls2 hl2 => k H locs ls2 hW hS (as_set (i := 5) hk hl2))
theorem v_iload_6 (R : Ru l D cs φ own cc nL fr lo V) {a0 a1 a2 a3 a4 a5 : Option Value} {r : List (Option Value)} {x : Int32} (d : decode cc pc = .ok (.iload 6, 2)) (k : V (pc + 2) (a0 :: a1 :: a2 :: a3 :: a4 :: a5 :: some (.int x) :: r) (.int x :: st) h) : V pc (a0 :: a1 :: a2 :: a3 :: a4 :: a5 :: some (.int x) :: r) st h := by
  obtain ⟨p, e, Rm, s, m, args, below, meth, c, A, cells, slots, Q, hx, hb, hml, hown, hts, hC, hA, hfr, hlo, hce, hsl, rfl⟩ := R
  exact fun H locs ls hW hS hl => lv_iload hx hb d (as_at hl (i := 6) rfl) (k H locs ls hW hS hl)
theorem v_aload_6 (R : Ru l D cs φ own cc nL fr lo V) {a0 a1 a2 a3 a4 a5 : Option Value} {r : List (Option Value)} {x : Nat} (d : decode cc pc = .ok (.aload 6, 2)) (k : V (pc + 2) (a0 :: a1 :: a2 :: a3 :: a4 :: a5 :: some (.ref x) :: r) (.ref x :: st) h) : V pc (a0 :: a1 :: a2 :: a3 :: a4 :: a5 :: some (.ref x) :: r) st h := by
  obtain ⟨p, e, Rm, s, m, args, below, meth, c, A, cells, slots, Q, hx, hb, hml, hown, hts, hC, hA, hfr, hlo, hce, hsl, rfl⟩ := R
  exact fun H locs ls hW hS hl => lv_aload hx hb d (as_at hl (i := 6) rfl) (k H locs ls hW hS hl)
theorem v_istore_6 (R : Ru l D cs φ own cc nL fr lo V) {a0 a1 a2 a3 a4 a5 : Option Value} {z : Option Value} {r : List (Option Value)} {x : Int32} (d : decode cc pc = .ok (.istore 6, 2)) (hn : 6 < nL) (hk : stOk (a0 :: a1 :: a2 :: a3 :: a4 :: a5 :: z :: r) 6 = true) (k : V (pc + 2) (a0 :: a1 :: a2 :: a3 :: a4 :: a5 :: some (.int x) :: r) st h) : V pc (a0 :: a1 :: a2 :: a3 :: a4 :: a5 :: z :: r) (.int x :: st) h := by
  obtain ⟨p, e, Rm, s, m, args, below, meth, c, A, cells, slots, Q, hx, hb, hml, hown, hts, hC, hA, hfr, hlo, hce, hsl, rfl⟩ := R
  exact fun H locs ls hW hS hl => lv_istore hx hb d hl hn rfl (fun ls2 hl2 => k H locs ls2 hW hS (as_set (i := 6) hk hl2))
theorem v_astore_6 (R : Ru l D cs φ own cc nL fr lo V) {a0 a1 a2 a3 a4 a5 : Option Value} {z : Option Value} {r : List (Option Value)} {x : Nat} (d : decode cc pc = .ok (.astore 6, 2)) (hn : 6 < nL) (hk : stOk (a0 :: a1 :: a2 :: a3 :: a4 :: a5 :: z :: r) 6 = true) (k : V (pc + 2) (a0 :: a1 :: a2 :: a3 :: a4 :: a5 :: some (.ref x) :: r) st h) : V pc (a0 :: a1 :: a2 :: a3 :: a4 :: a5 :: z :: r) (.ref x :: st) h := by
  obtain ⟨p, e, Rm, s, m, args, below, meth, c, A, cells, slots, Q, hx, hb, hml, hown, hts, hC, hA, hfr, hlo, hce, hsl, rfl⟩ := R
  exact fun H locs ls hW hS hl => lv_astore hx hb d hl hn rfl (fun ls2 hl2 => k H locs ls2 hW hS (as_set (i := 6) hk hl2))
theorem v_iinc_6 (R : Ru l D cs φ own cc nL fr lo V) {a0 a1 a2 a3 a4 a5 : Option Value} {r : List (Option Value)} {x : Int32} {n : Int} (v : Int32) (d : decode cc pc = .ok (.iinc 6 n, 3)) (hn : 6 < nL) (hk : stOk (a0 :: a1 :: a2 :: a3 :: a4 :: a5 :: some (.int x) :: r) 6 = true) (hv : Int32.ofInt n = v) (k : V (pc + 3) (a0 :: a1 :: a2 :: a3 :: a4 :: a5 :: some (.int (x + v)) :: r) st h) : V pc (a0 :: a1 :: a2 :: a3 :: a4 :: a5 :: some (.int x) :: r) st h := by
  obtain ⟨p, e, Rm, s, m, args, below, meth, c, A, cells, slots, Q, hx, hb, hml, hown, hts, hC, hA, hfr, hlo, hce, hsl, rfl⟩ := R
  subst hv
  intro H locs ls hW hS hl
  obtain ⟨k2, hk2⟩ := List.getElem?_of_mem (asl_in (n := 0) (lc := a0 :: a1 :: a2 :: a3 :: a4 :: a5 :: some (.int x) :: r) (i := 6) (v := .int x) rfl)
  exact lv_iinc hx hb d hl (k := k2) (by rw [hk2]) rfl hn rfl (fun ls2 hl2 => k H locs ls2 hW hS (as_set (i := 6) hk hl2))
theorem v_iload_7 (R : Ru l D cs φ own cc nL fr lo V) {a0 a1 a2 a3 a4 a5 a6 : Option Value} {r : List (Option Value)} {x : Int32} (d : decode cc pc = .ok (.iload 7, 2)) (k : V (pc + 2) (a0 :: a1 :: a2 :: a3 :: a4 :: a5 :: a6 :: some (.int x) :: r) (.int x :: st) h) : V pc (a0 :: a1 :: a2 :: a3 :: a4 :: a5 :: a6 :: some (.int x) :: r) st h := by
  obtain ⟨p, e, Rm, s, m, args, below, meth, c, A, cells, slots, Q, hx, hb, hml, hown, hts, hC, hA, hfr, hlo, hce, hsl, rfl⟩ := R
  exact fun H locs ls hW hS hl => lv_iload hx hb d (as_at hl (i := 7) rfl) (k H locs ls hW hS hl)
theorem v_aload_7 (R : Ru l D cs φ own cc nL fr lo V) {a0 a1 a2 a3 a4 a5 a6 : Option Value} {r : List (Option Value)} {x : Nat} (d : decode cc pc = .ok (.aload 7, 2)) (k : V (pc + 2) (a0 :: a1 :: a2 :: a3 :: a4 :: a5 :: a6 :: some (.ref x) :: r) (.ref x :: st) h) : V pc (a0 :: a1 :: a2 :: a3 :: a4 :: a5 :: a6 :: some (.ref x) :: r) st h := by
  obtain ⟨p, e, Rm, s, m, args, below, meth, c, A, cells, slots, Q, hx, hb, hml, hown, hts, hC, hA, hfr, hlo, hce, hsl, rfl⟩ := R
  exact fun H locs ls hW hS hl => lv_aload hx hb d (as_at hl (i := 7) rfl) (k H locs ls hW hS hl)
theorem v_istore_7 (R : Ru l D cs φ own cc nL fr lo V) {a0 a1 a2 a3 a4 a5 a6 : Option Value} {z : Option Value} {r : List (Option Value)} {x : Int32} (d : decode cc pc = .ok (.istore 7, 2)) (hn : 7 < nL) (hk : stOk (a0 :: a1 :: a2 :: a3 :: a4 :: a5 :: a6 :: z :: r) 7 = true) (k : V (pc + 2) (a0 :: a1 :: a2 :: a3 :: a4 :: a5 :: a6 :: some (.int x) :: r) st h) : V pc (a0 :: a1 :: a2 :: a3 :: a4 :: a5 :: a6 :: z :: r) (.int x :: st) h := by
  obtain ⟨p, e, Rm, s, m, args, below, meth, c, A, cells, slots, Q, hx, hb, hml, hown, hts, hC, hA, hfr, hlo, hce, hsl, rfl⟩ := R
  exact fun H locs ls hW hS hl => lv_istore hx hb d hl hn rfl (fun ls2 hl2 => k H locs ls2 hW hS (as_set (i := 7) hk hl2))
theorem v_astore_7 (R : Ru l D cs φ own cc nL fr lo V) {a0 a1 a2 a3 a4 a5 a6 : Option Value} {z : Option Value} {r : List (Option Value)} {x : Nat} (d : decode cc pc = .ok (.astore 7, 2)) (hn : 7 < nL) (hk : stOk (a0 :: a1 :: a2 :: a3 :: a4 :: a5 :: a6 :: z :: r) 7 = true) (k : V (pc + 2) (a0 :: a1 :: a2 :: a3 :: a4 :: a5 :: a6 :: some (.ref x) :: r) st h) : V pc (a0 :: a1 :: a2 :: a3 :: a4 :: a5 :: a6 :: z :: r) (.ref x :: st) h := by
  obtain ⟨p, e, Rm, s, m, args, below, meth, c, A, cells, slots, Q, hx, hb, hml, hown, hts, hC, hA, hfr, hlo, hce, hsl, rfl⟩ := R
  exact fun H locs ls hW hS hl => lv_astore hx hb d hl hn rfl (fun ls2 hl2 => k H locs ls2 hW hS (as_set (i := 7) hk hl2))
theorem v_iinc_7 (R : Ru l D cs φ own cc nL fr lo V) {a0 a1 a2 a3 a4 a5 a6 : Option Value} {r : List (Option Value)} {x : Int32} {n : Int} (v : Int32) (d : decode cc pc = .ok (.iinc 7 n, 3)) (hn : 7 < nL) (hk : stOk (a0 :: a1 :: a2 :: a3 :: a4 :: a5 :: a6 :: some (.int x) :: r) 7 = true) (hv : Int32.ofInt n = v) (k : V (pc + 3) (a0 :: a1 :: a2 :: a3 :: a4 :: a5 :: a6 :: some (.int (x + v)) :: r) st h) : V pc (a0 :: a1 :: a2 :: a3 :: a4 :: a5 :: a6 :: some (.int x) :: r) st h := by
  obtain ⟨p, e, Rm, s, m, args, below, meth, c, A, cells, slots, Q, hx, hb, hml, hown, hts, hC, hA, hfr, hlo, hce, hsl, rfl⟩ := R
  subst hv
  intro H locs ls hW hS hl
  obtain ⟨k2, hk2⟩ := List.getElem?_of_mem (asl_in (n := 0) (lc := a0 :: a1 :: a2 :: a3 :: a4 :: a5 :: a6 :: some (.int x) :: r) (i := 7) (v := .int x) rfl)
  exact lv_iinc hx hb d hl (k := k2) (by rw [hk2]) rfl hn rfl (fun ls2 hl2 => k H locs ls2 hW hS (as_set (i := 7) hk hl2))
theorem v_iload_8 (R : Ru l D cs φ own cc nL fr lo V) {a0 a1 a2 a3 a4 a5 a6 a7 : Option Value} {r : List (Option Value)} {x : Int32} (d : decode cc pc = .ok (.iload 8, 2)) (k : V (pc + 2) (a0 :: a1 :: a2 :: a3 :: a4 :: a5 :: a6 :: a7 :: some (.int x) :: r) (.int x :: st) h) : V pc (a0 :: a1 :: a2 :: a3 :: a4 :: a5 :: a6 :: a7 :: some (.int x) :: r) st h := by
  obtain ⟨p, e, Rm, s, m, args, below, meth, c, A, cells, slots, Q, hx, hb, hml, hown, hts, hC, hA, hfr, hlo, hce, hsl, rfl⟩ := R
  exact fun H locs ls hW hS hl => lv_iload hx hb d (as_at hl (i := 8) rfl) (k H locs ls hW hS hl)
theorem v_aload_8 (R : Ru l D cs φ own cc nL fr lo V) {a0 a1 a2 a3 a4 a5 a6 a7 : Option Value} {r : List (Option Value)} {x : Nat} (d : decode cc pc = .ok (.aload 8, 2)) (k : V (pc + 2) (a0 :: a1 :: a2 :: a3 :: a4 :: a5 :: a6 :: a7 :: some (.ref x) :: r) (.ref x :: st) h) : V pc (a0 :: a1 :: a2 :: a3 :: a4 :: a5 :: a6 :: a7 :: some (.ref x) :: r) st h := by
  obtain ⟨p, e, Rm, s, m, args, below, meth, c, A, cells, slots, Q, hx, hb, hml, hown, hts, hC, hA, hfr, hlo, hce, hsl, rfl⟩ := R
  exact fun H locs ls hW hS hl => lv_aload hx hb d (as_at hl (i := 8) rfl) (k H locs ls hW hS hl)
theorem v_istore_8 (R : Ru l D cs φ own cc nL fr lo V) {a0 a1 a2 a3 a4 a5 a6 a7 : Option Value} {z : Option Value} {r : List (Option Value)} {x : Int32} (d : decode cc pc = .ok (.istore 8, 2)) (hn : 8 < nL) (hk : stOk (a0 :: a1 :: a2 :: a3 :: a4 :: a5 :: a6 :: a7 :: z :: r) 8 = true) (k : V (pc + 2) (a0 :: a1 :: a2 :: a3 :: a4 :: a5 :: a6 :: a7 :: some (.int x) :: r) st h) : V pc (a0 :: a1 :: a2 :: a3 :: a4 :: a5 :: a6 :: a7 :: z :: r) (.int x :: st) h := by
  obtain ⟨p, e, Rm, s, m, args, below, meth, c, A, cells, slots, Q, hx, hb, hml, hown, hts, hC, hA, hfr, hlo, hce, hsl, rfl⟩ := R
  exact fun H locs ls hW hS hl => lv_istore hx hb d hl hn rfl (fun ls2 hl2 => k H locs ls2 hW hS (as_set (i := 8) hk hl2))
theorem v_astore_8 (R : Ru l D cs φ own cc nL fr lo V) {a0 a1 a2 a3 a4 a5 a6 a7 : Option Value} {z : Option Value} {r : List (Option Value)} {x : Nat} (d : decode cc pc = .ok (.astore 8, 2)) (hn : 8 < nL) (hk : stOk (a0 :: a1 :: a2 :: a3 :: a4 :: a5 :: a6 :: a7 :: z :: r) 8 = true) (k : V (pc + 2) (a0 :: a1 :: a2 :: a3 :: a4 :: a5 :: a6 :: a7 :: some (.ref x) :: r) st h) : V pc (a0 :: a1 :: a2 :: a3 :: a4 :: a5 :: a6 :: a7 :: z :: r) (.ref x :: st) h := by
  obtain ⟨p, e, Rm, s, m, args, below, meth, c, A, cells, slots, Q, hx, hb, hml, hown, hts, hC, hA, hfr, hlo, hce, hsl, rfl⟩ := R
  exact fun H locs ls hW hS hl => lv_astore hx hb d hl hn rfl (fun ls2 hl2 => k H locs ls2 hW hS (as_set (i := 8) hk hl2))
theorem v_iinc_8 (R : Ru l D cs φ own cc nL fr lo V) {a0 a1 a2 a3 a4 a5 a6 a7 : Option Value} {r : List (Option Value)} {x : Int32} {n : Int} (v : Int32) (d : decode cc pc = .ok (.iinc 8 n, 3)) (hn : 8 < nL) (hk : stOk (a0 :: a1 :: a2 :: a3 :: a4 :: a5 :: a6 :: a7 :: some (.int x) :: r) 8 = true) (hv : Int32.ofInt n = v) (k : V (pc + 3) (a0 :: a1 :: a2 :: a3 :: a4 :: a5 :: a6 :: a7 :: some (.int (x + v)) :: r) st h) : V pc (a0 :: a1 :: a2 :: a3 :: a4 :: a5 :: a6 :: a7 :: some (.int x) :: r) st h := by
  obtain ⟨p, e, Rm, s, m, args, below, meth, c, A, cells, slots, Q, hx, hb, hml, hown, hts, hC, hA, hfr, hlo, hce, hsl, rfl⟩ := R
  subst hv
  intro H locs ls hW hS hl
  obtain ⟨k2, hk2⟩ := List.getElem?_of_mem (asl_in (n := 0) (lc := a0 :: a1 :: a2 :: a3 :: a4 :: a5 :: a6 :: a7 :: some (.int x) :: r) (i := 8) (v := .int x) rfl)
  exact lv_iinc hx hb d hl (k := k2) (by rw [hk2]) rfl hn rfl (fun ls2 hl2 => k H locs ls2 hW hS (as_set (i := 8) hk hl2))
theorem v_iload_9 (R : Ru l D cs φ own cc nL fr lo V) {a0 a1 a2 a3 a4 a5 a6 a7 a8 : Option Value} {r : List (Option Value)} {x : Int32} (d : decode cc pc = .ok (.iload 9, 2)) (k : V (pc + 2) (a0 :: a1 :: a2 :: a3 :: a4 :: a5 :: a6 :: a7 :: a8 :: some (.int x) :: r) (.int x :: st) h) : V pc (a0 :: a1 :: a2 :: a3 :: a4 :: a5 :: a6 :: a7 :: a8 :: some (.int x) :: r) st h := by
  obtain ⟨p, e, Rm, s, m, args, below, meth, c, A, cells, slots, Q, hx, hb, hml, hown, hts, hC, hA, hfr, hlo, hce, hsl, rfl⟩ := R
  exact fun H locs ls hW hS hl => lv_iload hx hb d (as_at hl (i := 9) rfl) (k H locs ls hW hS hl)
theorem v_aload_9 (R : Ru l D cs φ own cc nL fr lo V) {a0 a1 a2 a3 a4 a5 a6 a7 a8 : Option Value} {r : List (Option Value)} {x : Nat} (d : decode cc pc = .ok (.aload 9, 2)) (k : V (pc + 2) (a0 :: a1 :: a2 :: a3 :: a4 :: a5 :: a6 :: a7 :: a8 :: some (.ref x) :: r) (.ref x :: st) h) : V pc (a0 :: a1 :: a2 :: a3 :: a4 :: a5 :: a6 :: a7 :: a8 :: some (.ref x) :: r) st h := by
  obtain ⟨p, e, Rm, s, m, args, below, meth, c, A, cells, slots, Q, hx, hb, hml, hown, hts, hC, hA, hfr, hlo, hce, hsl, rfl⟩ := R
  exact fun H locs ls hW hS hl => lv_aload hx hb d (as_at hl (i := 9) rfl) (k H locs ls hW hS hl)
theorem v_istore_9 (R : Ru l D cs φ own cc nL fr lo V) {a0 a1 a2 a3 a4 a5 a6 a7 a8 : Option Value} {z : Option Value} {r : List (Option Value)} {x : Int32} (d : decode cc pc = .ok (.istore 9, 2)) (hn : 9 < nL) (hk : stOk (a0 :: a1 :: a2 :: a3 :: a4 :: a5 :: a6 :: a7 :: a8 :: z :: r) 9 = true) (k : V (pc + 2) (a0 :: a1 :: a2 :: a3 :: a4 :: a5 :: a6 :: a7 :: a8 :: some (.int x) :: r) st h) : V pc (a0 :: a1 :: a2 :: a3 :: a4 :: a5 :: a6 :: a7 :: a8 :: z :: r) (.int x :: st) h := by
  obtain ⟨p, e, Rm, s, m, args, below, meth, c, A, cells, slots, Q, hx, hb, hml, hown, hts, hC, hA, hfr, hlo, hce, hsl, rfl⟩ := R
  exact fun H locs ls hW hS hl => lv_istore hx hb d hl hn rfl (fun ls2 hl2 => k H locs ls2 hW hS (as_set (i := 9) hk hl2))
theorem v_astore_9 (R : Ru l D cs φ own cc nL fr lo V) {a0 a1 a2 a3 a4 a5 a6 a7 a8 : Option Value} {z : Option Value} {r : List (Option Value)} {x : Nat} (d : decode cc pc = .ok (.astore 9, 2)) (hn : 9 < nL) (hk : stOk (a0 :: a1 :: a2 :: a3 :: a4 :: a5 :: a6 :: a7 :: a8 :: z :: r) 9 = true) (k : V (pc + 2) (a0 :: a1 :: a2 :: a3 :: a4 :: a5 :: a6 :: a7 :: a8 :: some (.ref x) :: r) st h) : V pc (a0 :: a1 :: a2 :: a3 :: a4 :: a5 :: a6 :: a7 :: a8 :: z :: r) (.ref x :: st) h := by
  obtain ⟨p, e, Rm, s, m, args, below, meth, c, A, cells, slots, Q, hx, hb, hml, hown, hts, hC, hA, hfr, hlo, hce, hsl, rfl⟩ := R
  exact fun H locs ls hW hS hl => lv_astore hx hb d hl hn rfl (fun ls2 hl2 => k H locs ls2 hW hS (as_set (i := 9) hk hl2))
theorem v_iinc_9 (R : Ru l D cs φ own cc nL fr lo V) {a0 a1 a2 a3 a4 a5 a6 a7 a8 : Option Value} {r : List (Option Value)} {x : Int32} {n : Int} (v : Int32) (d : decode cc pc = .ok (.iinc 9 n, 3)) (hn : 9 < nL) (hk : stOk (a0 :: a1 :: a2 :: a3 :: a4 :: a5 :: a6 :: a7 :: a8 :: some (.int x) :: r) 9 = true) (hv : Int32.ofInt n = v) (k : V (pc + 3) (a0 :: a1 :: a2 :: a3 :: a4 :: a5 :: a6 :: a7 :: a8 :: some (.int (x + v)) :: r) st h) : V pc (a0 :: a1 :: a2 :: a3 :: a4 :: a5 :: a6 :: a7 :: a8 :: some (.int x) :: r) st h := by
  obtain ⟨p, e, Rm, s, m, args, below, meth, c, A, cells, slots, Q, hx, hb, hml, hown, hts, hC, hA, hfr, hlo, hce, hsl, rfl⟩ := R
  subst hv
  intro H locs ls hW hS hl
  obtain ⟨k2, hk2⟩ := List.getElem?_of_mem (asl_in (n := 0) (lc := a0 :: a1 :: a2 :: a3 :: a4 :: a5 :: a6 :: a7 :: a8 :: some (.int x) :: r) (i := 9) (v := .int x) rfl)
  exact lv_iinc hx hb d hl (k := k2) (by rw [hk2]) rfl hn rfl (fun ls2 hl2 => k H locs ls2 hW hS (as_set (i := 9) hk hl2))
theorem v_iload_10 (R : Ru l D cs φ own cc nL fr lo V) {a0 a1 a2 a3 a4 a5 a6 a7 a8 a9 : Option Value} {r : List (Option Value)} {x : Int32} (d : decode cc pc = .ok (.iload 10, 2)) (k : V (pc + 2) (a0 :: a1 :: a2 :: a3 :: a4 :: a5 :: a6 :: a7 :: a8 :: a9 :: some (.int x) :: r) (.int x :: st) h) : V pc (a0 :: a1 :: a2 :: a3 :: a4 :: a5 :: a6 :: a7 :: a8 :: a9 :: some (.int x) :: r) st h := by
  obtain ⟨p, e, Rm, s, m, args, below, meth, c, A, cells, slots, Q, hx, hb, hml, hown, hts, hC, hA, hfr, hlo, hce, hsl, rfl⟩ := R
  exact fun H locs ls hW hS hl => lv_iload hx hb d (as_at hl (i := 10) rfl) (k H locs ls hW hS hl)
theorem v_aload_10 (R : Ru l D cs φ own cc nL fr lo V) {a0 a1 a2 a3 a4 a5 a6 a7 a8 a9 : Option Value} {r : List (Option Value)} {x : Nat} (d : decode cc pc = .ok (.aload 10, 2)) (k : V (pc + 2) (a0 :: a1 :: a2 :: a3 :: a4 :: a5 :: a6 :: a7 :: a8 :: a9 :: some (.ref x) :: r) (.ref x :: st) h) : V pc (a0 :: a1 :: a2 :: a3 :: a4 :: a5 :: a6 :: a7 :: a8 :: a9 :: some (.ref x) :: r) st h := by
  obtain ⟨p, e, Rm, s, m, args, below, meth, c, A, cells, slots, Q, hx, hb, hml, hown, hts, hC, hA, hfr, hlo, hce, hsl, rfl⟩ := R
  exact fun H locs ls hW hS hl => lv_aload hx hb d (as_at hl (i := 10) rfl) (k H locs ls hW hS hl)
theorem v_istore_10 (R : Ru l D cs φ own cc nL fr lo V) {a0 a1 a2 a3 a4 a5 a6 a7 a8 a9 : Option Value} {z : Option Value} {r : List (Option Value)} {x : Int32} (d : decode cc pc = .ok (.istore 10, 2)) (hn : 10 < nL) (hk : stOk (a0 :: a1 :: a2 :: a3 :: a4 :: a5 :: a6 :: a7 :: a8 :: a9 :: z :: r) 10 = true) (k : V (pc + 2) (a0 :: a1 :: a2 :: a3 :: a4 :: a5 :: a6 :: a7 :: a8 :: a9 :: some (.int x) :: r) st h) : V pc (a0 :: a1 :: a2 :: a3 :: a4 :: a5 :: a6 :: a7 :: a8 :: a9 :: z :: r) (.int x :: st) h := by
  obtain ⟨p, e, Rm, s, m, args, below, meth, c, A, cells, slots, Q, hx, hb, hml, hown, hts, hC, hA, hfr, hlo, hce, hsl, rfl⟩ := R
  exact fun H locs ls hW hS hl => lv_istore hx hb d hl hn rfl (fun ls2 hl2 => k H locs ls2 hW hS (as_set (i := 10) hk hl2))
theorem v_astore_10 (R : Ru l D cs φ own cc nL fr lo V) {a0 a1 a2 a3 a4 a5 a6 a7 a8 a9 : Option Value} {z : Option Value} {r : List (Option Value)} {x : Nat} (d : decode cc pc = .ok (.astore 10, 2)) (hn : 10 < nL) (hk : stOk (a0 :: a1 :: a2 :: a3 :: a4 :: a5 :: a6 :: a7 :: a8 :: a9 :: z :: r) 10 = true) (k : V (pc + 2) (a0 :: a1 :: a2 :: a3 :: a4 :: a5 :: a6 :: a7 :: a8 :: a9 :: some (.ref x) :: r) st h) : V pc (a0 :: a1 :: a2 :: a3 :: a4 :: a5 :: a6 :: a7 :: a8 :: a9 :: z :: r) (.ref x :: st) h := by
  obtain ⟨p, e, Rm, s, m, args, below, meth, c, A, cells, slots, Q, hx, hb, hml, hown, hts, hC, hA, hfr, hlo, hce, hsl, rfl⟩ := R
  exact fun H locs ls hW hS hl => lv_astore hx hb d hl hn rfl (fun ls2 hl2 => k H locs ls2 hW hS (as_set (i := 10) hk hl2))
theorem v_iinc_10 (R : Ru l D cs φ own cc nL fr lo V) {a0 a1 a2 a3 a4 a5 a6 a7 a8 a9 : Option Value} {r : List (Option Value)} {x : Int32} {n : Int} (v : Int32) (d : decode cc pc = .ok (.iinc 10 n, 3)) (hn : 10 < nL) (hk : stOk (a0 :: a1 :: a2 :: a3 :: a4 :: a5 :: a6 :: a7 :: a8 :: a9 :: some (.int x) :: r) 10 = true) (hv : Int32.ofInt n = v) (k : V (pc + 3) (a0 :: a1 :: a2 :: a3 :: a4 :: a5 :: a6 :: a7 :: a8 :: a9 :: some (.int (x + v)) :: r) st h) : V pc (a0 :: a1 :: a2 :: a3 :: a4 :: a5 :: a6 :: a7 :: a8 :: a9 :: some (.int x) :: r) st h := by
  obtain ⟨p, e, Rm, s, m, args, below, meth, c, A, cells, slots, Q, hx, hb, hml, hown, hts, hC, hA, hfr, hlo, hce, hsl, rfl⟩ := R
  subst hv
  intro H locs ls hW hS hl
  obtain ⟨k2, hk2⟩ := List.getElem?_of_mem (asl_in (n := 0) (lc := a0 :: a1 :: a2 :: a3 :: a4 :: a5 :: a6 :: a7 :: a8 :: a9 :: some (.int x) :: r) (i := 10) (v := .int x) rfl)
  exact lv_iinc hx hb d hl (k := k2) (by rw [hk2]) rfl hn rfl (fun ls2 hl2 => k H locs ls2 hW hS (as_set (i := 10) hk hl2))
theorem v_iload_11 (R : Ru l D cs φ own cc nL fr lo V) {a0 a1 a2 a3 a4 a5 a6 a7 a8 a9 a10 : Option Value} {r : List (Option Value)} {x : Int32} (d : decode cc pc = .ok (.iload 11, 2)) (k : V (pc + 2) (a0 :: a1 :: a2 :: a3 :: a4 :: a5 :: a6 :: a7 :: a8 :: a9 :: a10 :: some (.int x) :: r) (.int x :: st) h) : V pc (a0 :: a1 :: a2 :: a3 :: a4 :: a5 :: a6 :: a7 :: a8 :: a9 :: a10 :: some (.int x) :: r) st h := by
  obtain ⟨p, e, Rm, s, m, args, below, meth, c, A, cells, slots, Q, hx, hb, hml, hown, hts, hC, hA, hfr, hlo, hce, hsl, rfl⟩ := R
  exact fun H locs ls hW hS hl => lv_iload hx hb d (as_at hl (i := 11) rfl) (k H locs ls hW hS hl)
theorem v_aload_11 (R : Ru l D cs φ own cc nL fr lo V) {a0 a1 a2 a3 a4 a5 a6 a7 a8 a9 a10 : Option Value} {r : List (Option Value)} {x : Nat} (d : decode cc pc = .ok (.aload 11, 2)) (k : V (pc + 2) (a0 :: a1 :: a2 :: a3 :: a4 :: a5 :: a6 :: a7 :: a8 :: a9 :: a10 :: some (.ref x) :: r) (.ref x :: st) h) : V pc (a0 :: a1 :: a2 :: a3 :: a4 :: a5 :: a6 :: a7 :: a8 :: a9 :: a10 :: some (.ref x) :: r) st h := by
  obtain ⟨p, e, Rm, s, m, args, below, meth, c, A, cells, slots, Q, hx, hb, hml, hown, hts, hC, hA, hfr, hlo, hce, hsl, rfl⟩ := R
  exact fun H locs ls hW hS hl => lv_aload hx hb d (as_at hl (i := 11) rfl) (k H locs ls hW hS hl)
theorem v_istore_11 (R : Ru l D cs φ own cc nL fr lo V) {a0 a1 a2 a3 a4 a5 a6 a7 a8 a9 a10 : Option Value} {z : Option Value} {r : List (Option Value)} {x : Int32} (d : decode cc pc = .ok (.istore 11, 2)) (hn : 11 < nL) (hk : stOk (a0 :: a1 :: a2 :: a3 :: a4 :: a5 :: a6 :: a7 :: a8 :: a9 :: a10 :: z :: r) 11 = true) (k : V (pc + 2) (a0 :: a1 :: a2 :: a3 :: a4 :: a5 :: a6 :: a7 :: a8 :: a9 :: a10 :: some (.int x) :: r) st h) : V pc (a0 :: a1 :: a2 :: a3 :: a4 :: a5 :: a6 :: a7 :: a8 :: a9 :: a10 :: z :: r) (.int x :: st) h := by
  obtain ⟨p, e, Rm, s, m, args, below, meth, c, A, cells, slots, Q, hx, hb, hml, hown, hts, hC, hA, hfr, hlo, hce, hsl, rfl⟩ := R
  exact fun H locs ls hW hS hl => lv_istore hx hb d hl hn rfl (fun ls2 hl2 => k H locs ls2 hW hS (as_set (i := 11) hk hl2))
theorem v_astore_11 (R : Ru l D cs φ own cc nL fr lo V) {a0 a1 a2 a3 a4 a5 a6 a7 a8 a9 a10 : Option Value} {z : Option Value} {r : List (Option Value)} {x : Nat} (d : decode cc pc = .ok (.astore 11, 2)) (hn : 11 < nL) (hk : stOk (a0 :: a1 :: a2 :: a3 :: a4 :: a5 :: a6 :: a7 :: a8 :: a9 :: a10 :: z :: r) 11 = true) (k : V (pc + 2) (a0 :: a1 :: a2 :: a3 :: a4 :: a5 :: a6 :: a7 :: a8 :: a9 :: a10 :: some (.ref x) :: r) st h) : V pc (a0 :: a1 :: a2 :: a3 :: a4 :: a5 :: a6 :: a7 :: a8 :: a9 :: a10 :: z :: r) (.ref x :: st) h := by
  obtain ⟨p, e, Rm, s, m, args, below, meth, c, A, cells, slots, Q, hx, hb, hml, hown, hts, hC, hA, hfr, hlo, hce, hsl, rfl⟩ := R
  exact fun H locs ls hW hS hl => lv_astore hx hb d hl hn rfl (fun ls2 hl2 => k H locs ls2 hW hS (as_set (i := 11) hk hl2))
theorem v_iinc_11 (R : Ru l D cs φ own cc nL fr lo V) {a0 a1 a2 a3 a4 a5 a6 a7 a8 a9 a10 : Option Value} {r : List (Option Value)} {x : Int32} {n : Int} (v : Int32) (d : decode cc pc = .ok (.iinc 11 n, 3)) (hn : 11 < nL) (hk : stOk (a0 :: a1 :: a2 :: a3 :: a4 :: a5 :: a6 :: a7 :: a8 :: a9 :: a10 :: some (.int x) :: r) 11 = true) (hv : Int32.ofInt n = v) (k : V (pc + 3) (a0 :: a1 :: a2 :: a3 :: a4 :: a5 :: a6 :: a7 :: a8 :: a9 :: a10 :: some (.int (x + v)) :: r) st h) : V pc (a0 :: a1 :: a2 :: a3 :: a4 :: a5 :: a6 :: a7 :: a8 :: a9 :: a10 :: some (.int x) :: r) st h := by
  obtain ⟨p, e, Rm, s, m, args, below, meth, c, A, cells, slots, Q, hx, hb, hml, hown, hts, hC, hA, hfr, hlo, hce, hsl, rfl⟩ := R
  subst hv
  intro H locs ls hW hS hl
  obtain ⟨k2, hk2⟩ := List.getElem?_of_mem (asl_in (n := 0) (lc := a0 :: a1 :: a2 :: a3 :: a4 :: a5 :: a6 :: a7 :: a8 :: a9 :: a10 :: some (.int x) :: r) (i := 11) (v := .int x) rfl)
  exact lv_iinc hx hb d hl (k := k2) (by rw [hk2]) rfl hn rfl (fun ls2 hl2 => k H locs ls2 hW hS (as_set (i := 11) hk hl2))
theorem v_iload_12 (R : Ru l D cs φ own cc nL fr lo V) {a0 a1 a2 a3 a4 a5 a6 a7 a8 a9 a10 a11 : Option Value} {r : List (Option Value)} {x : Int32} (d : decode cc pc = .ok (.iload 12, 2)) (k : V (pc + 2) (a0 :: a1 :: a2 :: a3 :: a4 :: a5 :: a6 :: a7 :: a8 :: a9 :: a10 :: a11 :: some (.int x) :: r) (.int x :: st) h) : V pc (a0 :: a1 :: a2 :: a3 :: a4 :: a5 :: a6 :: a7 :: a8 :: a9 :: a10 :: a11 :: some (.int x) :: r) st h := by
  obtain ⟨p, e, Rm, s, m, args, below, meth, c, A, cells, slots, Q, hx, hb, hml, hown, hts, hC, hA, hfr, hlo, hce, hsl, rfl⟩ := R
  exact fun H locs ls hW hS hl => lv_iload hx hb d (as_at hl (i := 12) rfl) (k H locs ls hW hS hl)
theorem v_aload_12 (R : Ru l D cs φ own cc nL fr lo V) {a0 a1 a2 a3 a4 a5 a6 a7 a8 a9 a10 a11 : Option Value} {r : List (Option Value)} {x : Nat} (d : decode cc pc = .ok (.aload 12, 2)) (k : V (pc + 2) (a0 :: a1 :: a2 :: a3 :: a4 :: a5 :: a6 :: a7 :: a8 :: a9 :: a10 :: a11 :: some (.ref x) :: r) (.ref x :: st) h) : V pc (a0 :: a1 :: a2 :: a3 :: a4 :: a5 :: a6 :: a7 :: a8 :: a9 :: a10 :: a11 :: some (.ref x) :: r) st h := by
  obtain ⟨p, e, Rm, s, m, args, below, meth, c, A, cells, slots, Q, hx, hb, hml, hown, hts, hC, hA, hfr, hlo, hce, hsl, rfl⟩ := R
  exact fun H locs ls hW hS hl => lv_aload hx hb d (as_at hl (i := 12) rfl) (k H locs ls hW hS hl)
theorem v_istore_12 (R : Ru l D cs φ own cc nL fr lo V) {a0 a1 a2 a3 a4 a5 a6 a7 a8 a9 a10 a11 : Option Value} {z : Option Value} {r : List (Option Value)} {x : Int32} (d : decode cc pc = .ok (.istore 12, 2)) (hn : 12 < nL) (hk : stOk (a0 :: a1 :: a2 :: a3 :: a4 :: a5 :: a6 :: a7 :: a8 :: a9 :: a10 :: a11 :: z :: r) 12 = true) (k : V (pc + 2) (a0 :: a1 :: a2 :: a3 :: a4 :: a5 :: a6 :: a7 :: a8 :: a9 :: a10 :: a11 :: some (.int x) :: r) st h) : V pc (a0 :: a1 :: a2 :: a3 :: a4 :: a5 :: a6 :: a7 :: a8 :: a9 :: a10 :: a11 :: z :: r) (.int x :: st) h := by
  obtain ⟨p, e, Rm, s, m, args, below, meth, c, A, cells, slots, Q, hx, hb, hml, hown, hts, hC, hA, hfr, hlo, hce, hsl, rfl⟩ := R
  exact fun H locs ls hW hS hl => lv_istore hx hb d hl hn rfl (fun ls2 hl2 => k H locs ls2 hW hS (as_set (i := 12) hk hl2))
theorem v_astore_12 (R : Ru l D cs φ own cc nL fr lo V) {a0 a1 a2 a3 a4 a5 a6 a7 a8 a9 a10 a11 : Option Value} {z : Option Value} {r : List (Option Value)} {x : Nat} (d : decode cc pc = .ok (.astore 12, 2)) (hn : 12 < nL) (hk : stOk (a0 :: a1 :: a2 :: a3 :: a4 :: a5 :: a6 :: a7 :: a8 :: a9 :: a10 :: a11 :: z :: r) 12 = true) (k : V (pc + 2) (a0 :: a1 :: a2 :: a3 :: a4 :: a5 :: a6 :: a7 :: a8 :: a9 :: a10 :: a11 :: some (.ref x) :: r) st h) : V pc (a0 :: a1 :: a2 :: a3 :: a4 :: a5 :: a6 :: a7 :: a8 :: a9 :: a10 :: a11 :: z :: r) (.ref x :: st) h := by
  obtain ⟨p, e, Rm, s, m, args, below, meth, c, A, cells, slots, Q, hx, hb, hml, hown, hts, hC, hA, hfr, hlo, hce, hsl, rfl⟩ := R
  exact fun H locs ls hW hS hl => lv_astore hx hb d hl hn rfl (fun ls2 hl2 => k H locs ls2 hW hS (as_set (i := 12) hk hl2))
theorem v_iinc_12 (R : Ru l D cs φ own cc nL fr lo V) {a0 a1 a2 a3 a4 a5 a6 a7 a8 a9 a10 a11 : Option Value} {r : List (Option Value)} {x : Int32} {n : Int} (v : Int32) (d : decode cc pc = .ok (.iinc 12 n, 3)) (hn : 12 < nL) (hk : stOk (a0 :: a1 :: a2 :: a3 :: a4 :: a5 :: a6 :: a7 :: a8 :: a9 :: a10 :: a11 :: some (.int x) :: r) 12 = true) (hv : Int32.ofInt n = v) (k : V (pc + 3) (a0 :: a1 :: a2 :: a3 :: a4 :: a5 :: a6 :: a7 :: a8 :: a9 :: a10 :: a11 :: some (.int (x + v)) :: r) st h) : V pc (a0 :: a1 :: a2 :: a3 :: a4 :: a5 :: a6 :: a7 :: a8 :: a9 :: a10 :: a11 :: some (.int x) :: r) st h := by
  obtain ⟨p, e, Rm, s, m, args, below, meth, c, A, cells, slots, Q, hx, hb, hml, hown, hts, hC, hA, hfr, hlo, hce, hsl, rfl⟩ := R
  subst hv
  intro H locs ls hW hS hl
  obtain ⟨k2, hk2⟩ := List.getElem?_of_mem (asl_in (n := 0) (lc := a0 :: a1 :: a2 :: a3 :: a4 :: a5 :: a6 :: a7 :: a8 :: a9 :: a10 :: a11 :: some (.int x) :: r) (i := 12) (v := .int x) rfl)
  exact lv_iinc hx hb d hl (k := k2) (by rw [hk2]) rfl hn rfl (fun ls2 hl2 => k H locs ls2 hW hS (as_set (i := 12) hk hl2))
theorem v_iload_13 (R : Ru l D cs φ own cc nL fr lo V) {a0 a1 a2 a3 a4 a5 a6 a7 a8 a9 a10 a11 a12 : Option Value} {r : List (Option Value)} {x : Int32} (d : decode cc pc = .ok (.iload 13, 2)) (k : V (pc + 2) (a0 :: a1 :: a2 :: a3 :: a4 :: a5 :: a6 :: a7 :: a8 :: a9 :: a10 :: a11 :: a12 :: some (.int x) :: r) (.int x :: st) h) : V pc (a0 :: a1 :: a2 :: a3 :: a4 :: a5 :: a6 :: a7 :: a8 :: a9 :: a10 :: a11 :: a12 :: some (.int x) :: r) st h := by
  obtain ⟨p, e, Rm, s, m, args, below, meth, c, A, cells, slots, Q, hx, hb, hml, hown, hts, hC, hA, hfr, hlo, hce, hsl, rfl⟩ := R
  exact fun H locs ls hW hS hl => lv_iload hx hb d (as_at hl (i := 13) rfl) (k H locs ls hW hS hl)
theorem v_aload_13 (R : Ru l D cs φ own cc nL fr lo V) {a0 a1 a2 a3 a4 a5 a6 a7 a8 a9 a10 a11 a12 : Option Value} {r : List (Option Value)} {x : Nat} (d : decode cc pc = .ok (.aload 13, 2)) (k : V (pc + 2) (a0 :: a1 :: a2 :: a3 :: a4 :: a5 :: a6 :: a7 :: a8 :: a9 :: a10 :: a11 :: a12 :: some (.ref x) :: r) (.ref x :: st) h) : V pc (a0 :: a1 :: a2 :: a3 :: a4 :: a5 :: a6 :: a7 :: a8 :: a9 :: a10 :: a11 :: a12 :: some (.ref x) :: r) st h := by
  obtain ⟨p, e, Rm, s, m, args, below, meth, c, A, cells, slots, Q, hx, hb, hml, hown, hts, hC, hA, hfr, hlo, hce, hsl, rfl⟩ := R
  exact fun H locs ls hW hS hl => lv_aload hx hb d (as_at hl (i := 13) rfl) (k H locs ls hW hS hl)
theorem v_istore_13 (R : Ru l D cs φ own cc nL fr lo V) {a0 a1 a2 a3 a4 a5 a6 a7 a8 a9 a10 a11 a12 : Option Value} {z : Option Value} {r : List (Option Value)} {x : Int32} (d : decode cc pc = .ok (.istore 13, 2)) (hn : 13 < nL) (hk : stOk (a0 :: a1 :: a2 :: a3 :: a4 :: a5 :: a6 :: a7 :: a8 :: a9 :: a10 :: a11 :: a12 :: z :: r) 13 = true) (k : V (pc + 2) (a0 :: a1 :: a2 :: a3 :: a4 :: a5 :: a6 :: a7 :: a8 :: a9 :: a10 :: a11 :: a12 :: some (.int x) :: r) st h) : V pc (a0 :: a1 :: a2 :: a3 :: a4 :: a5 :: a6 :: a7 :: a8 :: a9 :: a10 :: a11 :: a12 :: z :: r) (.int x :: st) h := by
  obtain ⟨p, e, Rm, s, m, args, below, meth, c, A, cells, slots, Q, hx, hb, hml, hown, hts, hC, hA, hfr, hlo, hce, hsl, rfl⟩ := R
  exact fun H locs ls hW hS hl => lv_istore hx hb d hl hn rfl (fun ls2 hl2 => k H locs ls2 hW hS (as_set (i := 13) hk hl2))
theorem v_astore_13 (R : Ru l D cs φ own cc nL fr lo V) {a0 a1 a2 a3 a4 a5 a6 a7 a8 a9 a10 a11 a12 : Option Value} {z : Option Value} {r : List (Option Value)} {x : Nat} (d : decode cc pc = .ok (.astore 13, 2)) (hn : 13 < nL) (hk : stOk (a0 :: a1 :: a2 :: a3 :: a4 :: a5 :: a6 :: a7 :: a8 :: a9 :: a10 :: a11 :: a12 :: z :: r) 13 = true) (k : V (pc + 2) (a0 :: a1 :: a2 :: a3 :: a4 :: a5 :: a6 :: a7 :: a8 :: a9 :: a10 :: a11 :: a12 :: some (.ref x) :: r) st h) : V pc (a0 :: a1 :: a2 :: a3 :: a4 :: a5 :: a6 :: a7 :: a8 :: a9 :: a10 :: a11 :: a12 :: z :: r) (.ref x :: st) h := by
  obtain ⟨p, e, Rm, s, m, args, below, meth, c, A, cells, slots, Q, hx, hb, hml, hown, hts, hC, hA, hfr, hlo, hce, hsl, rfl⟩ := R
  exact fun H locs ls hW hS hl => lv_astore hx hb d hl hn rfl (fun ls2 hl2 => k H locs ls2 hW hS (as_set (i := 13) hk hl2))
theorem v_iinc_13 (R : Ru l D cs φ own cc nL fr lo V) {a0 a1 a2 a3 a4 a5 a6 a7 a8 a9 a10 a11 a12 : Option Value} {r : List (Option Value)} {x : Int32} {n : Int} (v : Int32) (d : decode cc pc = .ok (.iinc 13 n, 3)) (hn : 13 < nL) (hk : stOk (a0 :: a1 :: a2 :: a3 :: a4 :: a5 :: a6 :: a7 :: a8 :: a9 :: a10 :: a11 :: a12 :: some (.int x) :: r) 13 = true) (hv : Int32.ofInt n = v) (k : V (pc + 3) (a0 :: a1 :: a2 :: a3 :: a4 :: a5 :: a6 :: a7 :: a8 :: a9 :: a10 :: a11 :: a12 :: some (.int (x + v)) :: r) st h) : V pc (a0 :: a1 :: a2 :: a3 :: a4 :: a5 :: a6 :: a7 :: a8 :: a9 :: a10 :: a11 :: a12 :: some (.int x) :: r) st h := by
  obtain ⟨p, e, Rm, s, m, args, below, meth, c, A, cells, slots, Q, hx, hb, hml, hown, hts, hC, hA, hfr, hlo, hce, hsl, rfl⟩ := R
  subst hv
  intro H locs ls hW hS hl
  obtain ⟨k2, hk2⟩ := List.getElem?_of_mem (asl_in (n := 0) (lc := a0 :: a1 :: a2 :: a3 :: a4 :: a5 :: a6 :: a7 :: a8 :: a9 :: a10 :: a11 :: a12 :: some (.int x) :: r) (i := 13) (v := .int x) rfl)
  exact lv_iinc hx hb d hl (k := k2) (by rw [hk2]) rfl hn rfl (fun ls2 hl2 => k H locs ls2 hW hS (as_set (i := 13) hk hl2))
theorem v_lload_3 (R : Ru l D cs φ own cc nL fr lo V) {a0 a1 a2 : Option Value} {r : List (Option Value)} {x : Int64} (d : decode cc pc = .ok (.lload_n 3, 1)) (k : V (pc + 1) (a0 :: a1 :: a2 :: some (.long x) :: r) (.long x :: st) h) : V pc (a0 :: a1 :: a2 :: some (.long x) :: r) st h := by
  obtain ⟨p, e, Rm, s, m, args, below, meth, c, A, cells, slots, Q, hx, hb, hml, hown, hts, hC, hA, hfr, hlo, hce, hsl, rfl⟩ := R
  exact fun H locs ls hW hS hl => lv_lload_n hx hb d rfl (as_at hl (i := 3) rfl) (k H locs ls hW hS hl)
theorem v_lstore_3 (R : Ru l D cs φ own cc nL fr lo V) {a0 a1 a2 z z2 : Option Value} {r : List (Option Value)} {x : Int64} (d : decode cc pc = .ok (.lstore_n 3, 1)) (hn : 4 < nL) (hk : stOk (a0 :: a1 :: a2 :: z :: z2 :: r) 3 = true) (k : V (pc + 1) (a0 :: a1 :: a2 :: some (.long x) :: none :: r) st h) : V pc (a0 :: a1 :: a2 :: z :: z2 :: r) (.long x :: st) h := by
  obtain ⟨p, e, Rm, s, m, args, below, meth, c, A, cells, slots, Q, hx, hb, hml, hown, hts, hC, hA, hfr, hlo, hce, hsl, rfl⟩ := R
  exact fun H locs ls hW hS hl => lv_lstore_n hx hb d rfl hl hn rfl (fun ls2 hl2 => k H locs ls2 hW hS (as_set2 (i := 3) hk hl2))
theorem kd_lt {r K : Nat} (h : kd r = K) (hK : K ≠ 17) : r < 99 := by
  refine Decidable.byContradiction fun q => hK ?_
  rw [← h, kd]
  repeat (first | rw [if_neg (by omega)] | rfl)
theorem v_getG (R : Ru l D cs φ own cc nL fr lo V) {r ci : Nat} {fs : List Value} (hr : r < 99) (he : en cs φ h r = .inr (ci, fs)) {C : String} {T : u_T} {N : Nat} (hc : vwCl[ci]? = some (C, T, N)) (hin : ∀ w ∈ u_ws C T N, w ∈ lw_g) (k : Nat) (hk : k < N) {idx : Nat} (fl : Cond.fieldLink own idx (T k).1 (T k).2.1 (T k).2.2.1 ∈ lw_g) {v : Value} (hv : fs[k]? = some v) (d : decode cc pc = .ok (.getfield idx, 3)) (kk : V (pc + 3) lc (v :: st) h) : V pc lc (.ref (φ r) :: st) h := by
  obtain ⟨p, e, Rm, s, m, args, below, meth, c, A, cells, slots, Q, hx, hb, hml, hown, hts, hC, hA, hfr, hlo, hce, hsl, rfl⟩ := R
  exact fun H locs ls hW hS hl => va_get hx hb hts hin hown hC.1 hW r (by rw [wl_get hr, he]) hc k hk (hts _ fl) (fun _ q => q) hv d (kk H locs ls hW hS hl)
theorem v_putG (R : Ru l D cs φ own cc nL fr lo V) {r ci : Nat} {fs : List Value} (hr : r < 99) (he : en cs φ h r = .inr (ci, fs)) {C : String} {T : u_T} {N : Nat} (hc : vwCl[ci]? = some (C, T, N)) (hin : ∀ w ∈ u_ws C T N, w ∈ lw_g) (ty0 : Nat → FieldType) (hty : ∀ k, k < N → parseFieldDescriptor (T k).2.2.1 = some (ty0 k)) (hnm : ∀ a, a < N → ∀ b, b < N → a ≠ b → (T a).2.1 ≠ (T b).2.1) (k : Nat) (hk : k < N) {idx : Nat} (fl : Cond.fieldLink own idx (T k).1 (T k).2.1 (T k).2.2.1 ∈ lw_g) (hfin : (T k).2.2.2 = false) {ty : FieldType} {v : Value} (hd : parseFieldDescriptor (T k).2.2.1 = some ty) (hn : narrow ty v = v) (hfit : fits ty v = true) (hlen : k < fs.length) {h2 : Hp} (he2 : en cs φ h2 r = .inr (ci, fs.set k v)) (ho : ∀ i, i ≠ r → en cs φ h2 i = en cs φ h i) (d : decode cc pc = .ok (.putfield idx, 3)) (kk : V (pc + 3) lc st h2) : V pc lc (v :: .ref (φ r) :: st) h := by
  obtain ⟨p, e, Rm, s, m, args, below, meth, c, A, cells, slots, Q, hx, hb, hml, hown, hts, hC, hA, hfr, hlo, hce, hsl, rfl⟩ := R
  intro H locs ls hW hS hl
  refine va_put hx hb hts hin ty0 hty hnm hown hC.1 hW (wl_D hC.2.1 hA) hS r (by rw [wl_get hr, he]) hc k hk (hts _ fl) (fun _ q => q) hfin hd hn hfit hlen d (fun H1 locs1 hP hD hS1 => ?_)
  rw [wl_set he2 ho] at hP
  exact kk H1 locs1 ls hP hS1 hl
theorem en_12 {cs : Nat → ClassId} {φ : Nat → Nat} {h : Hp} {r : Nat} (hr : kd r = 12) : en cs φ h r = .inl (cs 0, al r, .inl (h.1 r)) := by unfold en; rw [hr]; rfl
theorem en_16 {cs : Nat → ClassId} {φ : Nat → Nat} {h : Hp} : en cs φ h 89 = .inl (cs 1, 2, .inr (.inl (h.2 89))) := rfl
theorem v_iald (R : Ru l D cs φ own cc nL fr lo V) {r : Nat} {i : Int32} (d : decode cc pc = .ok (.iaload, 1)) (hr : kd r = 12) (hi : vp_in i (al r)) (k : V (pc + 1) lc (.int (h.1 r i.toNatClampNeg) :: st) h) : V pc lc (.int i :: .ref (φ r) :: st) h := by
  obtain ⟨p, e, Rm, s, m, args, below, meth, c, A, cells, slots, Q, hx, hb, hml, hown, hts, hC, hA, hfr, hlo, hce, hsl, rfl⟩ := R
  exact fun H locs ls hW hS hl => va_iald hx hb hC.1 hW r 0 (by rw [wl_get (kd_lt hr (by decide)), en_12 hr]) rfl hi d (k H locs ls hW hS hl)
theorem v_lald (R : Ru l D cs φ own cc nL fr lo V) {i : Int32} (d : decode cc pc = .ok (.laload, 1)) (hi : vp_in i 2) (k : V (pc + 1) lc (.long (h.2 89 i.toNatClampNeg) :: st) h) : V pc lc (.int i :: .ref (φ 89) :: st) h := by
  obtain ⟨p, e, Rm, s, m, args, below, meth, c, A, cells, slots, Q, hx, hb, hml, hown, hts, hC, hA, hfr, hlo, hce, hsl, rfl⟩ := R
  exact fun H locs ls hW hS hl => va_lald hx hb hC.1 hW 89 1 (by rw [wl_get (by decide), en_16]) rfl hi d (k H locs ls hW hS hl)
theorem v_iast (R : Ru l D cs φ own cc nL fr lo V) {r : Nat} {i x : Int32} (d : decode cc pc = .ok (.iastore, 1)) (hr : kd r = 12) (hi : vp_in i (al r)) (k : V (pc + 1) lc st (wi h r i.toNatClampNeg x)) : V pc lc (.int x :: .int i :: .ref (φ r) :: st) h := by
  obtain ⟨p, e, Rm, s, m, args, below, meth, c, A, cells, slots, Q, hx, hb, hml, hown, hts, hC, hA, hfr, hlo, hce, hsl, rfl⟩ := R
  intro H locs ls hW hS hl
  refine va_iast hx hb hC.1 hW (wl_D hC.2.1 hA) hS r 0 (by rw [wl_get (kd_lt hr (by decide)), en_12 hr]) rfl hi d (fun H1 locs1 hP hD hS1 => ?_)
  rw [wl_set (h := h) (h' := wi h r i.toNatClampNeg x) (by rw [en_12 hr, wi_eq]) (fun j hj => en_c (wi_ne hj) rfl)] at hP
  exact k H1 locs1 ls hP hS1 hl
theorem v_last (R : Ru l D cs φ own cc nL fr lo V) {i : Int32} {x : Int64} (d : decode cc pc = .ok (.lastore, 1)) (hi : vp_in i 2) (k : V (pc + 1) lc st (wl h 89 i.toNatClampNeg x)) : V pc lc (.long x :: .int i :: .ref (φ 89) :: st) h := by
  obtain ⟨p, e, Rm, s, m, args, below, meth, c, A, cells, slots, Q, hx, hb, hml, hown, hts, hC, hA, hfr, hlo, hce, hsl, rfl⟩ := R
  intro H locs ls hW hS hl
  refine va_last hx hb hC.1 hW (wl_D hC.2.1 hA) hS 89 1 (by rw [wl_get (by decide), en_16]) rfl hi d (fun H1 locs1 hP hD hS1 => ?_)
  rw [wl_set (h := h) (h' := wl h 89 i.toNatClampNeg x) (by rw [en_16, wl_eq]) (fun j hj => en_c rfl (wl_ne hj))] at hP
  exact k H1 locs1 ls hP hS1 hl
theorem v_alen (R : Ru l D cs φ own cc nL fr lo V) {r : Nat} (d : decode cc pc = .ok (.arraylength, 1)) (hr : kd r = 12) (k : V (pc + 1) lc (.int (Int32.ofNat (al r)) :: st) h) : V pc lc (.ref (φ r) :: st) h := by
  obtain ⟨p, e, Rm, s, m, args, below, meth, c, A, cells, slots, Q, hx, hb, hml, hown, hts, hC, hA, hfr, hlo, hce, hsl, rfl⟩ := R
  exact fun H locs ls hW hS hl => va_alen hx hb hC.1 hW r 0 (by rw [wl_get (kd_lt hr (by decide)), en_12 hr]) rfl rfl d (k H locs ls hW hS hl)
theorem v_aald_64 (R : Ru l D cs φ own cc nL fr lo V) {i : Int32} (d : decode cc pc = .ok (.aaload, 1)) (hi : vp_in i 16) (k : V (pc + 1) lc (.ref (φ (10 + i.toNatClampNeg)) :: st) h) : V pc lc (.int i :: .ref (φ 64) :: st) h := by
  obtain ⟨p, e, Rm, s, m, args, below, meth, c, A, cells, slots, Q, hx, hb, hml, hown, hts, hC, hA, hfr, hlo, hce, hsl, rfl⟩ := R
  exact fun H locs ls hW hS hl => va_aldq hx hb hC.1 hW 64 2 (wl_get (by decide)) rfl hi d (k H locs ls hW hS hl)
theorem v_aald_65 (R : Ru l D cs φ own cc nL fr lo V) {i : Int32} (d : decode cc pc = .ok (.aaload, 1)) (hi : vp_in i 2) (k : V (pc + 1) lc (.ref (φ (8 + i.toNatClampNeg)) :: st) h) : V pc lc (.int i :: .ref (φ 65) :: st) h := by
  obtain ⟨p, e, Rm, s, m, args, below, meth, c, A, cells, slots, Q, hx, hb, hml, hown, hts, hC, hA, hfr, hlo, hce, hsl, rfl⟩ := R
  exact fun H locs ls hW hS hl => va_aldq hx hb hC.1 hW 65 3 (wl_get (by decide)) rfl hi d (k H locs ls hW hS hl)
theorem v_aald_66 (R : Ru l D cs φ own cc nL fr lo V) {i : Int32} (d : decode cc pc = .ok (.aaload, 1)) (hi : vp_in i 8) (k : V (pc + 1) lc (.ref (φ (29 + i.toNatClampNeg)) :: st) h) : V pc lc (.int i :: .ref (φ 66) :: st) h := by
  obtain ⟨p, e, Rm, s, m, args, below, meth, c, A, cells, slots, Q, hx, hb, hml, hown, hts, hC, hA, hfr, hlo, hce, hsl, rfl⟩ := R
  exact fun H locs ls hW hS hl => va_aldq hx hb hC.1 hW 66 4 (wl_get (by decide)) rfl hi d (k H locs ls hW hS hl)
theorem v_facld (R : Ru l D cs φ own cc nL fr lo V) {i : Int32} (d : decode cc pc = .ok (.iaload, 1)) (hi : vp_in i 6) (k : V (pc + 1) lc (.int (fac i.toNatClampNeg) :: st) h) : V pc lc (.int i :: .ref (φ 99) :: st) h := by
  obtain ⟨p, e, Rm, s, m, args, below, meth, c, A, cells, slots, Q, hx, hb, hml, hown, hts, hC, hA, hfr, hlo, hce, hsl, rfl⟩ := R
  intro H locs ls hW hS hl
  obtain ⟨cell, h1, h2, h3, h4, h5, h6, h7⟩ := hC.2.2.2.2.kept (H1 := H) hS.2.1
  have hlt : i.toNatClampNeg < 6 := Nat.not_le.mp fun q => hi (Or.inr q)
  exact W.iald (v := .int (fac i.toNatClampNeg)) hx hb h1 h2 h3 (fun q => hi (q.elim Or.inl (fun z => Or.inr (Nat.le_trans h4 z)))) (h6 _ hlt) rfl rfl d (k H locs ls hW hS hl)
theorem v_faclen (R : Ru l D cs φ own cc nL fr lo V) (d : decode cc pc = .ok (.arraylength, 1)) (k : V (pc + 1) lc (.int (Int32.ofNat 6) :: st) h) : V pc lc (.ref (φ 99) :: st) h := by
  obtain ⟨p, e, Rm, s, m, args, below, meth, c, A, cells, slots, Q, hx, hb, hml, hown, hts, hC, hA, hfr, hlo, hce, hsl, rfl⟩ := R
  intro H locs ls hW hS hl
  obtain ⟨cell, h1, h2, h3, h4, h5, h6, h7⟩ := hC.2.2.2.2.kept (H1 := H) hS.2.1
  exact W.alen (n := Int32.ofNat 6) hx hb h1 h2 h5 rfl rfl d (k H locs ls hW hS hl)
theorem v_facget (R : Ru l D cs φ own cc nL fr lo V) {idx : Nat} (d : decode cc pc = .ok (.getstatic idx, 3)) (fl : Cond.fieldLink own idx "FarEnds" "FACTORIAL" "[I" ∈ lw_g) (k : V (pc + 3) lc (.ref (φ 99) :: st) h) : V pc lc st h := by
  obtain ⟨p, e, Rm, s, m, args, below, meth, c, A, cells, slots, Q, hx, hb, hml, hown, hts, hC, hA, hfr, hlo, hce, hsl, rfl⟩ := R
  exact fun H locs ls hW hS hl => va_gets hx hb hC.2.2.2.1 hS hown (hts _ fl) (fun _ q => q) d (k H locs ls hW hS hl)
theorem v_copy (R : Ru l D cs φ own cc nL fr lo V) {c1 c2 idx : Nat} {n : Int32} (d : decode cc pc = .ok (.invokestatic idx, 3)) (hm : Cond.methodLink own idx arraycopyName ∈ lw_g) (hnt : Cond.native arraycopyName ∈ lw_g) (hst : Cond.static arraycopyName ∈ lw_g) (hi : Cond.initialized "java/lang/System" ∈ lw_g) (h1 : kd c1 = 12) (h2 : kd c2 = 12) (hn : ¬ n < 0) (hn1 : n.toNatClampNeg ≤ al c1) (hn2 : n.toNatClampNeg ≤ al c2) (hf : 1 ≤ fr) (hl2 : nativeFrameWords "java/lang/System" "arraycopy" 5 + 11 ≤ lo) (k : V (pc + 3) lc [] (wc h c1 c2 n.toNatClampNeg)) : V pc lc [.int n, .int 0, .ref (φ c2), .int 0, .ref (φ c1)] h := by
  obtain ⟨p, e, Rm, s, m, args, below, meth, c, A, cells, slots, Q, hx, hb, hml, hown, hts, hC, hA, hfr, hlo, hce, hsl, rfl⟩ := R
  intro H locs ls hW hS hl
  subst hfr; subst hlo
  refine va_copyi hx hb (hml.trans hl.1.symm) hown (hts _ hm) (hts _ hnt) (hts _ hst) (hts _ hi) hC.1 hW (wl_D hC.2.1 hA) hS c1 c2 0 0 (by rw [wl_get (kd_lt h1 (by decide)), en_12 h1]) (by rw [wl_get (kd_lt h2 (by decide)), en_12 h2]) rfl rfl rfl (by decide) (by decide) hn (by rw [show (0 : Int32).toNatClampNeg = 0 from rfl, Nat.zero_add]; exact hn1) (by rw [show (0 : Int32).toNatClampNeg = 0 from rfl, Nat.zero_add]; exact hn2) (fun _ _ => rfl) hf (by simpa using hl2) d (fun H1 locs1 hP hD hS1 => ?_)
  rw [wl_set (h := h) (h' := wc h c1 c2 n.toNatClampNeg) (by rw [en_12 h2, wc_eq]; rfl) (fun j hj => en_c (wc_ne hj) rfl)] at hP
  exact k H1 locs1 ls hP hS1 hl
theorem v_mmin (R : Ru l D cs φ own cc nL fr lo V) {idx : Nat} {x y : Int32} (d : decode cc pc = .ok (.invokestatic idx, 3)) (hm : Cond.methodLink own idx Lib.Math.min.name ∈ lw_g) (hst : Cond.static Lib.Math.min.name ∈ lw_g) (hi : Cond.initialized "java/lang/Math" ∈ lw_g) (hco : Cond.code Lib.Math.min.name Lib.Math.min.code 2 (some .int) ∈ lw_g) (hf : 1 ≤ fr) (hl2 : (st.map fun v => v.category).sum + 13 ≤ lo) (k : V (pc + 3) lc (.int (if y < x then y else x) :: st) h) : V pc lc (.int y :: .int x :: st) h := by
  obtain ⟨p, e, Rm, s, m, args, below, meth, c, A, cells, slots, Q, hx, hb, hml, hown, hts, hC, hA, hfr, hlo, hce, hsl, rfl⟩ := R
  subst hfr; subst hlo
  exact fun H locs ls hW hS hl => va_mmin hx hb (hml.trans hl.1.symm) hown (hts _ hm) (hts _ hst) (hts _ hi) (hts _ hco) hf hl2 hce hsl d (k H locs ls hW hS hl)
theorem v_mmax (R : Ru l D cs φ own cc nL fr lo V) {idx : Nat} {x y : Int32} (d : decode cc pc = .ok (.invokestatic idx, 3)) (hm : Cond.methodLink own idx Lib.Math.max.name ∈ lw_g) (hst : Cond.static Lib.Math.max.name ∈ lw_g) (hi : Cond.initialized "java/lang/Math" ∈ lw_g) (hco : Cond.code Lib.Math.max.name Lib.Math.max.code 2 (some .int) ∈ lw_g) (hf : 1 ≤ fr) (hl2 : (st.map fun v => v.category).sum + 13 ≤ lo) (k : V (pc + 3) lc (.int (if x < y then y else x) :: st) h) : V pc lc (.int y :: .int x :: st) h := by
  obtain ⟨p, e, Rm, s, m, args, below, meth, c, A, cells, slots, Q, hx, hb, hml, hown, hts, hC, hA, hfr, hlo, hce, hsl, rfl⟩ := R
  subst hfr; subst hlo
  exact fun H locs ls hW hS hl => va_mmax hx hb (hml.trans hl.1.symm) hown (hts _ hm) (hts _ hst) (hts _ hi) (hts _ hco) hf hl2 hce hsl d (k H locs ls hW hS hl)
theorem gd_all (M : Mi) (w5 : Cond.code M.1 M.2.1 M.2.2.1 M.2.2.2.1 ∈ lw_g) : GoodIn lw_g (wsM M) := fun w hw => by
  rcases List.mem_cons.mp hw with e | e
  · subst e; exact ⟨w5, lw_g_good w5⟩
  · exact ⟨e, lw_g_good e⟩
/-- what the tables say of a method of ours: of an object's, and of a static one -/
def MV (M : Mi) (n : Nat) : Prop := Cond.instanceMethod M.1 ∈ lw_g ∧ Cond.selects M.1.cls M.1 M.1 ∈ lw_g ∧ Cond.initialized M.1.cls ∈ lw_g ∧ Cond.code M.1 M.2.1 M.2.2.1 M.2.2.2.1 ∈ lw_g ∧ (M.1.cls ≠ "java/lang/invoke/MethodHandle" ∧ M.1.cls ≠ "java/lang/invoke/VarHandle" ∧ (parseMethodDescriptor M.1.desc).map (fun d => d.parameters.length) = some n) ∧ M.2.2.2.2.cells = 0 ∧ M.2.2.2.2.slots = 0
def MS (M : Mi) (n : Nat) : Prop := Cond.static M.1 ∈ lw_g ∧ Cond.initialized M.1.cls ∈ lw_g ∧ Cond.code M.1 M.2.1 M.2.2.1 M.2.2.2.1 ∈ lw_g ∧ (M.1.cls ≠ "java/lang/invoke/MethodHandle" ∧ M.1.cls ≠ "java/lang/invoke/VarHandle" ∧ (parseMethodDescriptor M.1.desc).map (fun d => d.parameters.length) = some n) ∧ M.2.2.2.2.cells = 0 ∧ M.2.2.2.2.slots = 0
theorem v_callV (R : Ru l D cs φ own cc nL fr lo V) {M : Mi} {r ci idx n : Nat} {As : List Value} {post : Option Value → Hp → Prop} (d : decode cc pc = .ok (.invokevirtual idx, 3)) (hM : Ct l D cs φ M (.ref (φ r) :: As) h post) (hr : r < 99) {fs : List Value} (he : en cs φ h r = .inr (ci, fs)) {q : vw_C} (hq : vwCl[ci]? = some q) (hcl : q.1 = M.1.cls) (w1 : Cond.methodLink own idx M.1 ∈ lw_g) (mv : MV M n) (hR : M.2.2.2.2.frames + 1 ≤ fr ∧ 8 + (M.2.2.1 + 11) + M.2.2.2.2.locals ≤ lo) (hn : As.length = n) (hrm : (st.map fun v => v.category).sum ≤ 8) (kk : ∀ rv h', post rv h' → V (pc + 3) lc (rv.toList ++ st) h') : V pc lc (As.reverse ++ .ref (φ r) :: st) h := by
  obtain ⟨p, e, Rm, s, m, args, below, meth, c, A, cells, slots, Q, hx, hb, hml, hown, hts, hC, hA, hfr, hlo, hce, hsl, rfl⟩ := R
  subst hfr; subst hlo
  intro H locs ls hW hS hl
  obtain ⟨w2, w3, w4, w5, hd, z1, z2⟩ := mv
  have hG : GoodIn lw_g (wsV own idx M.1.cls M.1 (wsM M)) := fun w hw => by
    rcases List.mem_append.mp hw with e | e
    · simp only [List.mem_cons, List.not_mem_nil, or_false] at e
      rcases e with e | e | e | e <;> subst e
      · exact ⟨w1, lw_g_good w1⟩
      · exact ⟨w2, lw_g_good w2⟩
      · exact ⟨w3, lw_g_good w3⟩
      · exact ⟨w4, lw_g_good w4⟩
    · exact gd_all M w5 w e
  have hrun := va_runV (e := e) (below := below) (meth := meth) (As := As) (rest := st) (b := φ r) (H := H) (locs := locs) (cells := cells) (slots := slots) (g := F0 m pc ls (As.reverse ++ .ref (φ r) :: st)) ⟨hx, hb, hml, hown, hts⟩ hM (cwV n hts hG rfl z1 z2 ⟨rfl, hd⟩ hR) ⟨fun a U g mk ⟨q1, q2⟩ => ⟨q1, Wd_calling q2⟩, by
    have hrec := va_recv hC.1 hW hq (q0 := r) (by rw [wl_get hr, he])
    rw [hcl] at hrec
    exact hrec, fun U hU hWm => ⟨rfl, by rw [hU]; exact hW, Cx_call hC hA hS hU hWm⟩⟩ rfl hn hl.1 rfl (lv_room hrm) d ⟨hce, hsl⟩
  intro T hT X
  obtain ⟨v, st₀, t, T', L, h0, X', hL, e1, e2, ⟨⟨rv, h', hv, hp, hb'⟩, hz, hk⟩, stp⟩ := hrun T hT X
  cases hv
  rw [h0] at hz hk
  have hAf : ∀ q, Af φ q → A q := fun q ⟨i, hi, e⟩ => by rw [e]; exact hA i hi
  obtain ⟨t2, a1, b1⟩ := kk v h' hp T'.heap (locs ++ L) ls (by rw [e1]; exact hb')
    ⟨Nat.le_trans hS.1 (by rw [e1]; exact hz), fun q h1 h2 => by rw [e1, hk q (Nat.lt_of_lt_of_le h1 hS.1) (fun z => h2 (hAf q z))]; exact hS.2.1 q h1 h2, fun q hq => by
      rcases List.mem_append.mp hq with h | h
      · exact hS.2.2 q h
      · exact hAf _ (hL q h)⟩ hl T' rfl X'
  exact ⟨t2, stp t2 a1, b1⟩
theorem v_callS (R : Ru l D cs φ own cc nL fr lo V) {M : Mi} {idx n : Nat} {As : List Value} {post : Option Value → Hp → Prop} (d : decode cc pc = .ok (.invokestatic idx, 3)) (hM : Ct l D cs φ M As h post) (w1 : Cond.methodLink own idx M.1 ∈ lw_g) (mv : MS M n) (hR : M.2.2.2.2.frames + 1 ≤ fr ∧ 8 + (M.2.2.1 + 11) + M.2.2.2.2.locals ≤ lo) (hn : As.length = n) (hrm : (st.map fun v => v.category).sum ≤ 8) (kk : ∀ rv h', post rv h' → V (pc + 3) lc (rv.toList ++ st) h') : V pc lc (As.reverse ++ st) h := by
  obtain ⟨p, e, Rm, s, m, args, below, meth, c, A, cells, slots, Q, hx, hb, hml, hown, hts, hC, hA, hfr, hlo, hce, hsl, rfl⟩ := R
  subst hfr; subst hlo
  intro H locs ls hW hS hl
  obtain ⟨w2, w4, w5, hd, z1, z2⟩ := mv
  have hG : GoodIn lw_g (va_wsS own idx M.1 (wsM M)) := fun w hw => by
    rcases List.mem_append.mp hw with e | e
    · simp only [List.mem_cons, List.not_mem_nil, or_false] at e
      rcases e with e | e | e <;> subst e
      · exact ⟨w1, lw_g_good w1⟩
      · exact ⟨w2, lw_g_good w2⟩
      · exact ⟨w4, lw_g_good w4⟩
    · exact gd_all M w5 w e
  have hrun := va_runS (e := e) (below := below) (meth := meth) (As := As) (rest := st) (H := H) (locs := locs) (cells := cells) (slots := slots) (g := F0 m pc ls (As.reverse ++ st)) ⟨hx, hb, hml, hown, hts⟩ hM (va_cwS n hts hG rfl z1 z2 hd hR) ⟨fun a U g mk ⟨q1, q2⟩ => ⟨q1, Wd_calling q2⟩, fun U hU hWm => ⟨rfl, by rw [hU]; exact hW, Cx_call hC hA hS hU hWm⟩⟩ rfl hn hl.1 rfl (lv_room hrm) d ⟨hce, hsl⟩
  intro T hT X
  obtain ⟨v, st₀, t, T', L, h0, X', hL, e1, e2, ⟨⟨rv, h', hv, hp, hb'⟩, hz, hk⟩, stp⟩ := hrun T hT X
  cases hv
  rw [h0] at hz hk
  have hAf : ∀ q, Af φ q → A q := fun q ⟨i, hi, e⟩ => by rw [e]; exact hA i hi
  obtain ⟨t2, a1, b1⟩ := kk v h' hp T'.heap (locs ++ L) ls (by rw [e1]; exact hb')
    ⟨Nat.le_trans hS.1 (by rw [e1]; exact hz), fun q h1 h2 => by rw [e1, hk q (Nat.lt_of_lt_of_le h1 hS.1) (fun z => h2 (hAf q z))]; exact hS.2.1 q h1 h2, fun q hq => by
      rcases List.mem_append.mp hq with h | h
      · exact hS.2.2 q h
      · exact hAf _ (hL q h)⟩ hl T' rfl X'
  exact ⟨t2, stp t2 a1, b1⟩
theorem v_callSN (R : Ru l D cs φ own cc nL fr lo V) {M : Mi} {idx n : Nat} {As : List Value} {post : Option Value → Hp → Prop} (d : decode cc pc = .ok (.invokestatic idx, 3)) (hM : Ct l D cs φ M As h post) {host : String} (w1 : Cond.methodLinkNest own idx M.1 host ∈ lw_n) (mv : MS M n) (hR : M.2.2.2.2.frames + 1 ≤ fr ∧ 8 + (M.2.2.1 + 11) + M.2.2.2.2.locals ≤ lo) (hn : As.length = n) (hrm : (st.map fun v => v.category).sum ≤ 8) (kk : ∀ rv h', post rv h' → V (pc + 3) lc (rv.toList ++ st) h') : V pc lc (As.reverse ++ st) h := by
  obtain ⟨p, e, Rm, s, m, args, below, meth, c, A, cells, slots, Q, hx, hb, hml, hown, hts, hC, hA, hfr, hlo, hce, hsl, rfl⟩ := R
  subst hfr; subst hlo
  intro H locs ls hW hS hl
  obtain ⟨w2, w4, w5, hd, z1, z2⟩ := mv

  have hrun := va_runSN (e := e) (below := below) (meth := meth) (As := As) (rest := st) (H := H) (locs := locs) (cells := cells) (slots := slots) (g := F0 m pc ls (As.reverse ++ st)) ⟨hx, hb, hml, hown, hts⟩ hM ⟨va_cnB n hts (gd_all M w5) rfl z1 z2 (hC.2.2.1 _ w1) (hts _ w4) hd hR, hts _ w2, trivial⟩ ⟨fun a U g mk ⟨q1, q2⟩ => ⟨q1, Wd_calling q2⟩, fun U hU hWm => ⟨rfl, by rw [hU]; exact hW, Cx_call hC hA hS hU hWm⟩⟩ rfl hn hl.1 rfl (lv_room hrm) d ⟨hce, hsl⟩
  intro T hT X
  obtain ⟨v, st₀, t, T', L, h0, X', hL, e1, e2, ⟨⟨rv, h', hv, hp, hb'⟩, hz, hk⟩, stp⟩ := hrun T hT X
  cases hv
  rw [h0] at hz hk
  have hAf : ∀ q, Af φ q → A q := fun q ⟨i, hi, e⟩ => by rw [e]; exact hA i hi
  obtain ⟨t2, a1, b1⟩ := kk v h' hp T'.heap (locs ++ L) ls (by rw [e1]; exact hb')
    ⟨Nat.le_trans hS.1 (by rw [e1]; exact hz), fun q h1 h2 => by rw [e1, hk q (Nat.lt_of_lt_of_le h1 hS.1) (fun z => h2 (hAf q z))]; exact hS.2.1 q h1 h2, fun q hq => by
      rcases List.mem_append.mp hq with h | h
      · exact hS.2.2 q h
      · exact hAf _ (hL q h)⟩ hl T' rfl X'
  exact ⟨t2, stp t2 a1, b1⟩
end
