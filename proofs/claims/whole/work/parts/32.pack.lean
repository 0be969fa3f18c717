section
theorem and_nat (x y : Int32) : (x &&& y).toBitVec.toNat = x.toBitVec.toNat &&& y.toBitVec.toNat := by simp [Int32.toBitVec_and, BitVec.toNat_and]
theorem or_nat (x y : Int32) : (x ||| y).toBitVec.toNat = x.toBitVec.toNat ||| y.toBitVec.toNat := by simp [Int32.toBitVec_or, BitVec.toNat_or]
theorem xor_nat (x y : Int32) : (x ^^^ y).toBitVec.toNat = x.toBitVec.toNat ^^^ y.toBitVec.toNat := by simp [Int32.toBitVec_xor, BitVec.toNat_xor]
theorem eq_nI {x : Int32} {n : Nat} (h : x.toBitVec.toNat = n) : x = nI n := by
  have hn : n < 2 ^ 32 := by rw [← h]; exact x.toBitVec.isLt
  apply Int32.toBitVec_inj.mp
  apply BitVec.eq_of_toNat_eq
  rw [h, pk_tn hn]
theorem and_nI {a b : Nat} (ha : a < 2 ^ 32) (hb : b < 2 ^ 32) : nI a &&& nI b = nI (a &&& b) := eq_nI (by rw [and_nat, pk_tn ha, pk_tn hb])
theorem or_nI {a b : Nat} (ha : a < 2 ^ 32) (hb : b < 2 ^ 32) : nI a ||| nI b = nI (a ||| b) := eq_nI (by rw [or_nat, pk_tn ha, pk_tn hb])
theorem xor_nI {a b : Nat} (ha : a < 2 ^ 32) (hb : b < 2 ^ 32) : nI a ^^^ nI b = nI (a ^^^ b) := eq_nI (by rw [xor_nat, pk_tn ha, pk_tn hb])
theorem pack_lt {g : Nat → Nat} (hg : ∀ w, w < 5 → g w < 8) : pk g < 32768 := by
  have h0 := hg 0 (by omega); have h1 := hg 1 (by omega); have h2 := hg 2 (by omega); have h3 := hg 3 (by omega); have h4 := hg 4 (by omega)
  unfold pk; omega
theorem part_pack {g : Nat → Nat} (hg : ∀ w, w < 5 → g w < 8) {i : Nat} (hi : i < 5) : ((nI (pk g)) >>> (((3 : Int32) * nI i) &&& 31)) &&& (7 : Int32) = nI (g i) := by
  have h0 := hg 0 (by omega); have h1 := hg 1 (by omega); have h2 := hg 2 (by omega); have h3 := hg 3 (by omega); have h4 := hg 4 (by omega)
  have hp := pack_lt hg
  have key : ∀ (s : Int32) (k : Nat), (s.toBitVec.smod 32).toNat = k → (nI (pk g) >>> s) &&& (7 : Int32) = nI (pk g / 2 ^ k % 2 ^ 3) := fun s k hs => by
    rw [pk_shrN (by omega) s k hs, pk_andN (Nat.lt_of_le_of_lt (Nat.div_le_self _ _) (by omega)) 3 (by decide)]
  rcases (show i = 0 ∨ i = 1 ∨ i = 2 ∨ i = 3 ∨ i = 4 by omega) with rfl | rfl | rfl | rfl | rfl
  · rw [key _ 0 (by decide)]; congr 1; unfold pk; omega
  · rw [key _ 3 (by decide)]; congr 1; unfold pk; omega
  · rw [key _ 6 (by decide)]; congr 1; unfold pk; omega
  · rw [key _ 9 (by decide)]; congr 1; unfold pk; omega
  · rw [key _ 12 (by decide)]; congr 1; unfold pk; omega
theorem and0 : ∀ {a : Nat}, a < 32768 → a &&& 4294967288 = a / 8 * 8 := fun h => co_dec (P := fun a => a &&& 4294967288 = a / 8 * 8) (by decide +kernel) h
theorem and1 : ∀ {a : Nat}, a < 32768 → a &&& 4294967239 = a / 64 * 64 + a % 8 := fun h => co_dec (P := fun a => a &&& 4294967239 = a / 64 * 64 + a % 8) (by decide +kernel) h
theorem and2 : ∀ {a : Nat}, a < 32768 → a &&& 4294966847 = a / 512 * 512 + a % 64 := fun h => co_dec (P := fun a => a &&& 4294966847 = a / 512 * 512 + a % 64) (by decide +kernel) h
theorem and3 : ∀ {a : Nat}, a < 32768 → a &&& 4294963711 = a / 4096 * 4096 + a % 512 := fun h => co_dec (P := fun a => a &&& 4294963711 = a / 4096 * 4096 + a % 512) (by decide +kernel) h
theorem and4 : ∀ {a : Nat}, a < 32768 → a &&& 4294938623 = a % 4096 := fun h => co_dec (P := fun a => a &&& 4294938623 = a % 4096) (by decide +kernel) h
theorem or3 {hi v lo i : Nat} (hv : v < 8) (hl : lo < 2 ^ i) : (hi * 2 ^ (i + 3) + lo) ||| (v * 2 ^ i) = hi * 2 ^ (i + 3) + v * 2 ^ i + lo := by
  have e1 : v * 2 ^ i + lo = v <<< i ||| lo := by rw [← Nat.shiftLeft_add_eq_or_of_lt hl, Nat.shiftLeft_eq]
  have hb : lo < 2 ^ (i + 3) := Nat.lt_of_lt_of_le hl (Nat.pow_le_pow_right (by omega) (by omega))
  have e2 : hi * 2 ^ (i + 3) + lo = hi <<< (i + 3) ||| lo := by rw [← Nat.shiftLeft_add_eq_or_of_lt hb, Nat.shiftLeft_eq]
  have hc : v * 2 ^ i + lo < 2 ^ (i + 3) := by
    have : (v + 1) * 2 ^ i ≤ 8 * 2 ^ i := Nat.mul_le_mul_right _ (by omega)
    rw [Nat.add_mul] at this
    rw [Nat.pow_add]
    omega
  have e3 : hi * 2 ^ (i + 3) + (v * 2 ^ i + lo) = hi <<< (i + 3) ||| (v * 2 ^ i + lo) := by rw [← Nat.shiftLeft_add_eq_or_of_lt hc, Nat.shiftLeft_eq]
  rw [Nat.add_assoc, e3, e2, e1, Nat.shiftLeft_eq (a := v), Nat.or_assoc, Nat.or_comm lo]
def setd (g : Nat → Nat) (i v : Nat) : Nat → Nat := fun w => if w = i then v else g w
theorem with_pack {g : Nat → Nat} (hg : ∀ w, w < 5 → g w < 8) {i v : Nat} (hi : i < 5) (hv : v < 8) : (nI (pk g) &&& (((7 : Int32) <<< (((3 : Int32) * nI i) &&& 31)) ^^^ (-1 : Int32))) ||| (nI v <<< (((3 : Int32) * nI i) &&& 31)) = nI (pk (setd g i v)) := by
  have h0 := hg 0 (by omega); have h1 := hg 1 (by omega); have h2 := hg 2 (by omega); have h3 := hg 3 (by omega); have h4 := hg 4 (by omega)
  have hp := pack_lt hg
  have key : ∀ (c s : Int32) (C k hi lo : Nat), c.toBitVec.toNat = C → (s.toBitVec.smod 32).toNat = k → pk g &&& C = hi * 2 ^ (k + 3) + lo → lo < 2 ^ k → v * 2 ^ k < 2 ^ 32 → (nI (pk g) &&& c) ||| (nI v <<< s) = nI (hi * 2 ^ (k + 3) + v * 2 ^ k + lo) := fun c s C k hi lo hc hs e hl hb => by
    rw [pk_shlN s k hs hb]
    apply eq_nI
    rw [or_nat, and_nat, pk_tn (by omega), hc, e, pk_tn hb, or3 hv hl]
  rcases (show i = 0 ∨ i = 1 ∨ i = 2 ∨ i = 3 ∨ i = 4 by omega) with rfl | rfl | rfl | rfl | rfl
  · rw [key _ _ 4294967288 0 (pk g / 8) 0 (by decide) (by decide) (by rw [and0 hp]; omega) (by decide) (by omega)]
    refine congrArg nI ?_; simp only [pk, setd]; simp; omega
  · rw [key _ _ 4294967239 3 (pk g / 64) (pk g % 8) (by decide) (by decide) (by rw [and1 hp]) (by omega) (by omega)]
    refine congrArg nI ?_; simp only [pk, setd]; simp; omega
  · rw [key _ _ 4294966847 6 (pk g / 512) (pk g % 64) (by decide) (by decide) (by rw [and2 hp]) (by omega) (by omega)]
    refine congrArg nI ?_; simp only [pk, setd]; simp; omega
  · rw [key _ _ 4294963711 9 (pk g / 4096) (pk g % 512) (by decide) (by decide) (by rw [and3 hp]) (by omega) (by omega)]
    refine congrArg nI ?_; simp only [pk, setd]; simp; omega
  · rw [key _ _ 4294938623 12 0 (pk g % 4096) (by decide) (by decide) (by rw [and4 hp]; omega) (by omega) (by omega)]
    refine congrArg nI ?_; simp only [pk, setd]; simp; omega
theorem pack_cg {g g' : Nat → Nat} (h : ∀ w, w < 5 → g w = g' w) : pk g = pk g' := by
  unfold pk; rw [h 0 (by omega), h 1 (by omega), h 2 (by omega), h 3 (by omega), h 4 (by omega)]
end
