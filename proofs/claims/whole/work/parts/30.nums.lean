-- part 30: numbers: every value is nI of a small natural number
theorem lit (n : Nat) : (OfNat.ofNat n : Int32) = nI n := rfl
theorem nI_and (a b : Nat) : nI a &&& nI b = nI (a &&& b) := by
  apply Int32.toBitVec_inj.mp
  show BitVec.ofNat 32 a &&& BitVec.ofNat 32 b = BitVec.ofNat 32 (a &&& b)
  exact (BitVec.ofNat_and).symm
theorem nI_or (a b : Nat) : nI a ||| nI b = nI (a ||| b) := by
  apply Int32.toBitVec_inj.mp
  show BitVec.ofNat 32 a ||| BitVec.ofNat 32 b = BitVec.ofNat 32 (a ||| b)
  exact (BitVec.ofNat_or).symm
theorem nI_xor (a b : Nat) : nI a ^^^ nI b = nI (a ^^^ b) := by
  apply Int32.toBitVec_inj.mp
  show BitVec.ofNat 32 a ^^^ BitVec.ofNat 32 b = BitVec.ofNat 32 (a ^^^ b)
  exact (BitVec.ofNat_xor).symm
theorem nI_andn (a b : Nat) : nI a &&& (nI b ^^^ (-1)) = nI (a ^^^ (a &&& b)) := by
  apply Int32.toBitVec_inj.mp
  show BitVec.ofNat 32 a &&& (BitVec.ofNat 32 b ^^^ (BitVec.allOnes 32)) = BitVec.ofNat 32 (a ^^^ (a &&& b))
  rw [BitVec.ofNat_xor, BitVec.ofNat_and]
  apply BitVec.eq_of_getLsbD_eq
  intro i hi
  simp only [BitVec.getLsbD_and, BitVec.getLsbD_xor, BitVec.getLsbD_allOnes, hi, decide_true]
  cases (BitVec.ofNat 32 a).getLsbD i <;> cases (BitVec.ofNat 32 b).getLsbD i <;> rfl
theorem nI_31 {i : Nat} (h : i < 32) : nI i &&& nI 31 = nI i := by
  rw [nI_and]
  congr 1
  have := Nat.and_two_pow_sub_one_eq_mod i 5
  simp at this
  omega
theorem smod_lt {i : Nat} (h : i < 32) : ((nI i).toBitVec.smod 32).toNat = i := by
  have : ∀ i, i < 32 → ((nI i).toBitVec.smod 32).toNat = i := by decide +kernel
  exact this i h
theorem nI_shr {a i : Nat} (ha : a < 2 ^ 31) (hi : i < 32) : nI a >>> (nI i &&& nI 31) = nI (a / 2 ^ i) := by
  rw [nI_31 hi]
  exact pk_shrN ha (nI i) i (smod_lt hi)
theorem nI_shl {a i : Nat} (hi : i < 32) : nI a <<< (nI i &&& nI 31) = nI (a * 2 ^ i) := by
  rw [nI_31 hi]
  apply Int32.toBitVec_inj.mp
  apply BitVec.eq_of_toNat_eq
  rw [pk_shl (nI a) (nI i) i (smod_lt hi)]
  show (BitVec.ofNat 32 a).toNat * 2 ^ i % 2 ^ 32 = (BitVec.ofNat 32 (a * 2 ^ i)).toNat
  rw [BitVec.toNat_ofNat, BitVec.toNat_ofNat, Nat.mod_mul_mod]
theorem ckI {i n : Nat} (h : i < n) (hn : n < 2 ^ 31) : ck (nI i) n = true := ck_nI h hn
theorem eqI {a b : Nat} (ha : a < 2 ^ 31) (hb : b < 2 ^ 31) : (nI a = nI b) = (a = b) := propext (nI_eq ha hb)
theorem leI {a b : Nat} (ha : a < 2 ^ 31) (hb : b < 2 ^ 31) : (nI a ≤ nI b) = (a ≤ b) := propext (nI_leI ha hb)
theorem ltI {a b : Nat} (ha : a < 2 ^ 31) (hb : b < 2 ^ 31) : (nI a < nI b) = (a < b) := propext (nI_ltI ha hb)
theorem subI {a b : Nat} (h : b ≤ a) : nI a - nI b = nI (a - b) := pk_sub h
theorem divI {a d : Nat} (ha : a < 2 ^ 31) (h0 : 0 < d) (hd : d < 2 ^ 31) : nI a / nI d = nI (a / d) := pk_div ha h0 hd
theorem mulI (a b : Nat) : nI a * nI b = nI (a * b) := pk_mul a b
theorem addI (a b : Nat) : nI a + nI b = nI (a + b) := nI_add a b
theorem clI {n : Nat} (h : n < 2 ^ 31) : (nI n).toNatClampNeg = n := nI_clamp h
theorem predI (n : Nat) (h : 0 < n) : nI n + (-1) = nI (n - 1) := by
  obtain ⟨m, rfl⟩ : ∃ m, n = m + 1 := ⟨n - 1, by omega⟩
  exact pk_m1 m
/-- one or nought -/
def b2 (b : Bool) : Int32 := if b then 1 else 0
theorem b2_t : b2 true = 1 := rfl
theorem b2_f : b2 false = 0 := rfl
theorem b2_0 {b : Bool} : (b2 b = 0) = (b = false) := by cases b <;> simp [b2]
theorem b2_1 {b : Bool} : (b2 b = 1) = (b = true) := by cases b <;> simp [b2]
theorem b2_and1 {b : Bool} : b2 b &&& 1 = b2 b := by cases b <;> rfl
theorem lt0I {n : Nat} (h : n < 2 ^ 31) : (nI n < 0) = False := by
  apply eq_false
  exact nI_pos h
theorem neg1_ne {n : Nat} (h : n < 2 ^ 31) : (nI n = -1) = False := by
  apply eq_false
  intro e
  have h1 := congrArg Int32.toInt e
  rw [nI_toInt h] at h1
  have h2 : (-1 : Int32).toInt = -1 := by decide
  omega
-- bits of small sets, digits of small states
theorem bit_of : ∀ s, s < 64 → ∀ i, i < 6 → (nI (s / 2 ^ i) &&& nI 1 = nI 0 ↔ s.testBit i = false) := by decide +kernel
/-- digit i to the base of 4 -/
def dg (h i : Nat) : Nat := h / 4 ^ i % 4
/-- h with digit i made v -/
def sd (h i v : Nat) : Nat := h - dg h i * 4 ^ i + v * 4 ^ i
theorem dg_lt (h i : Nat) : dg h i < 4 := Nat.mod_lt _ (by decide)
