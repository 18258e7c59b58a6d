/-! BITS -/
theorem sh_c : ∀ n, n < 32 → ((Int32.ofNat n).toBitVec.smod 32).toNat = n := by decide +kernel
theorem n_or (a b : Nat) : Int32.ofNat a ||| Int32.ofNat b = Int32.ofNat (a ||| b) := by
  apply Int32.toBitVec_inj.1
  show BitVec.ofNat 32 a ||| BitVec.ofNat 32 b = BitVec.ofNat 32 (a ||| b)
  apply BitVec.eq_of_getLsbD_eq
  intro i hi
  simp [hi]
theorem n_and (a b : Nat) : Int32.ofNat a &&& Int32.ofNat b = Int32.ofNat (a &&& b) := by
  apply Int32.toBitVec_inj.1
  show BitVec.ofNat 32 a &&& BitVec.ofNat 32 b = BitVec.ofNat 32 (a &&& b)
  apply BitVec.eq_of_getLsbD_eq
  intro i hi
  simp [hi]
theorem n_orp (k : Nat) {a : Nat} (b : Nat) (ha : a < 2 ^ k) : Int32.ofNat a ||| Int32.ofNat (b * 2 ^ k) = Int32.ofNat (a + b * 2 ^ k) := by
  rw [n_or]
  congr 1
  have := Nat.two_pow_add_eq_or_of_lt ha b
  rw [Nat.mul_comm b, Nat.or_comm, ← this]
  omega
theorem n_shl {s : Nat} (hs : s < 32) (a : Nat) : Int32.ofNat a <<< Int32.ofNat s = Int32.ofNat (a * 2 ^ s) := by
  apply Int32.toBitVec_inj.1
  rw [Int32.toBitVec_shiftLeft]
  show (BitVec.ofNat 32 a) <<< ((Int32.ofNat s).toBitVec.smod 32).toNat = BitVec.ofNat 32 (a * 2 ^ s)
  rw [sh_c s hs]
  apply BitVec.eq_of_toNat_eq
  rw [BitVec.toNat_shiftLeft, BitVec.toNat_ofNat, BitVec.toNat_ofNat, Nat.shiftLeft_eq, Nat.mod_mul_mod]
theorem n_mask (k : Nat) (a : Nat) : Int32.ofNat a &&& Int32.ofNat (2 ^ k - 1) = Int32.ofNat (a % 2 ^ k) := by
  rw [n_and, Nat.and_two_pow_sub_one_eq_mod]
/-- four bits in the middle -/
theorem n_nib {s : Nat} (hs : s ≤ 28) {a : Nat} (ha : a < 4294967296) : (Int32.ofNat a >>> Int32.ofNat s) &&& 15 = Int32.ofNat (a / 2 ^ s % 16) := by
  apply Int32.toBitVec_inj.1
  rw [Int32.toBitVec_and, Int32.toBitVec_shiftRight]
  show ((BitVec.ofNat 32 a).sshiftRight ((Int32.ofNat s).toBitVec.smod 32).toNat) &&& BitVec.ofNat 32 15 = BitVec.ofNat 32 (a / 2 ^ s % 2 ^ 4)
  rw [sh_c s (by omega)]
  apply BitVec.eq_of_getLsbD_eq
  intro i hi
  rw [BitVec.getLsbD_and, BitVec.getLsbD_sshiftRight]
  have h15 : (BitVec.ofNat 32 15).getLsbD i = decide (i < 4) := (by decide +kernel : ∀ i, i < 32 → (BitVec.ofNat 32 15).getLsbD i = decide (i < 4)) i hi
  rw [h15, BitVec.getLsbD_ofNat, BitVec.getLsbD_ofNat, Nat.testBit_mod_two_pow, Nat.testBit_div_two_pow]
  by_cases h4 : i < 4
  · have h1 : s + i < 32 := by omega
    simp [hi, h4, h1, Nat.add_comm]
  · simp [h4]
/-- a number with its sign -/
def sg (v k : Nat) : Int32 := if k / 2 ≤ v then Int32.ofNat v - Int32.ofNat k else Int32.ofNat v
theorem sg_toInt {v k : Nat} (hv : v < k) (hk : k ≤ 65536) : (sg v k).toInt = if k / 2 ≤ v then (v : Int) - k else v := by
  unfold sg
  split
  · rw [z_sub, n_toInt (by omega), n_toInt (by omega)]
    · rw [n_toInt (by omega), n_toInt (by omega)]; omega
    · rw [n_toInt (by omega), n_toInt (by omega)]; omega
  · exact n_toInt (by omega)
theorem n_big {a : Nat} (h1 : 2147483648 ≤ a) (h2 : a < 4294967296) : (Int32.ofNat a).toInt = (a : Int) - 4294967296 := by
  show (BitVec.ofNat 32 a).toInt = _
  rw [BitVec.toInt_eq_toNat_cond, BitVec.toNat_ofNat, Nat.mod_eq_of_lt (by omega), if_neg (by omega)]
  rfl
theorem z_shr {s : Nat} (hs : s < 32) (x : Int32) : (x >>> Int32.ofNat s).toInt = x.toInt / 2 ^ s := by
  show (x >>> Int32.ofNat s).toBitVec.toInt = _
  rw [Int32.toBitVec_shiftRight]
  show (x.toBitVec.sshiftRight ((Int32.ofNat s).toBitVec.smod 32).toNat).toInt = _
  rw [sh_c s hs, BitVec.toInt_sshiftRight, Int.shiftRight_eq_div_pow]
  rfl
theorem n_sx {s a : Nat} (hs : 16 ≤ s) (hs2 : s ≤ 28) (ha : a < 4294967296) : Int32.ofNat a >>> Int32.ofNat s = sg (a / 2 ^ s) (2 ^ (32 - s)) := by
  apply Int32.toInt_inj.mp
  have hc : s = 16 ∨ s = 17 ∨ s = 18 ∨ s = 19 ∨ s = 20 ∨ s = 21 ∨ s = 22 ∨ s = 23 ∨ s = 24 ∨ s = 25 ∨ s = 26 ∨ s = 27 ∨ s = 28 := by omega
  rw [z_shr (by omega)]
  rcases hc with rfl | rfl | rfl | rfl | rfl | rfl | rfl | rfl | rfl | rfl | rfl | rfl | rfl
  all_goals
    simp only [Nat.reduceSub, Nat.reducePow, Int.reducePow]
    rw [sg_toInt (by omega) (by omega)]
    rcases Nat.lt_or_ge a 2147483648 with h | h
    · rw [n_toInt h, if_neg (by omega)]; omega
    · rw [n_big h ha, if_pos (by omega)]; omega
theorem n_i2s {a : Nat} (ha : a < 65536) : (Int32.toInt16 (Int32.ofNat a)).toInt32 = sg a 65536 := by
  have : ∀ x : Int32, (Int32.toInt16 x).toInt32.toInt = x.toInt.bmod 65536 := by
    intro x
    rw [Int16.toInt_toInt32]
    show (x.toBitVec.signExtend 16).toInt = _
    rw [BitVec.toInt_signExtend]
    rfl
  apply Int32.toInt_inj.mp
  rw [this, n_toInt (by omega), sg_toInt ha (by omega)]
  unfold Int.bmod
  dsimp only
  split <;> split <;> omega
theorem n_div {a b : Nat} (ha : a < 2147483648) (hb : b < 2147483648) : Int32.ofNat a / Int32.ofNat b = Int32.ofNat (a / b) := by
  apply Int32.toInt_inj.mp
  have hq : a / b < 2147483648 := Nat.lt_of_le_of_lt (Nat.div_le_self a b) ha
  rw [Int32.toInt_div, n_toInt ha, n_toInt hb, n_toInt hq]
  rw [show ((a : Int).tdiv b) = ((a / b : Nat) : Int) from rfl]
  have h0 : (0 : Int) ≤ ((a / b : Nat) : Int) := Int.natCast_nonneg _
  generalize a / b = q at *
  exact Int.bmod_eq_of_le (by omega) (by omega)
theorem n_rem {a b : Nat} (ha : a < 2147483648) (hb : b < 2147483648) : Int32.ofNat a - Int32.ofNat a / Int32.ofNat b * Int32.ofNat b = Int32.ofNat (a % b) := by
  rw [n_div ha hb, n_mul, n_sub (Nat.div_mul_le_self a b)]
  congr 1
  have := Nat.div_add_mod a b
  rw [Nat.mul_comm] at this
  omega
theorem n_ushr16 {a : Nat} (ha : a < 4294967296) : (Int32.toUInt32 (Int32.ofNat a) >>> 16).toInt32 = Int32.ofNat (a / 65536) := by
  apply Int32.toBitVec_inj.1
  show (UInt32.ofNat a >>> 16).toBitVec = BitVec.ofNat 32 (a / 65536)
  rw [UInt32.toBitVec_shiftRight]
  apply BitVec.eq_of_toNat_eq
  show (BitVec.ofNat 32 a >>> (BitVec.ofNat 32 16 % 32#32).toNat).toNat = _
  rw [show (BitVec.ofNat 32 16 % 32#32).toNat = 16 from by decide, BitVec.toNat_ushiftRight, BitVec.toNat_ofNat, BitVec.toNat_ofNat, Nat.mod_eq_of_lt ha, Nat.shiftRight_eq_div_pow, Nat.mod_eq_of_lt (by omega)]
