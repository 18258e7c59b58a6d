/-! NUMBERS: ints that are small naturals -/
theorem n_toInt {a : Nat} (h : a < 2147483648) : (Int32.ofNat a).toInt = a := Int32.toInt_ofNat_of_lt h
theorem n_lt {a b : Nat} (ha : a < 2147483648) (hb : b < 2147483648) : (Int32.ofNat a < Int32.ofNat b) = (a < b) := by
  rw [Int32.lt_iff_toInt_lt, n_toInt ha, n_toInt hb, Int.ofNat_lt]
theorem n_le {a b : Nat} (ha : a < 2147483648) (hb : b < 2147483648) : (Int32.ofNat a ≤ Int32.ofNat b) = (a ≤ b) := by
  rw [Int32.le_iff_toInt_le, n_toInt ha, n_toInt hb, Int.ofNat_le]
theorem n_inj {a b : Nat} (ha : a < 2147483648) (hb : b < 2147483648) : (Int32.ofNat a = Int32.ofNat b) = (a = b) := by
  rw [← Int32.toInt_inj, n_toInt ha, n_toInt hb]
  exact propext Int.ofNat_inj
theorem n_add (a b : Nat) : Int32.ofNat a + Int32.ofNat b = Int32.ofNat (a + b) := (Int32.ofNat_add a b).symm
theorem n_mul (a b : Nat) : Int32.ofNat a * Int32.ofNat b = Int32.ofNat (a * b) := (Int32.ofNat_mul a b).symm
theorem n_sub {a b : Nat} (h : b ≤ a) : Int32.ofNat a - Int32.ofNat b = Int32.ofNat (a - b) := by
  have : Int32.ofNat a = Int32.ofNat (a - b) + Int32.ofNat b := by rw [n_add, Nat.sub_add_cancel h]
  rw [this, Int32.add_sub_cancel]
theorem n_cl {a : Nat} (h : a < 2147483648) : (Int32.ofNat a).toNatClampNeg = a := by
  show (Int32.ofNat a).toInt.toNat = a
  rw [n_toInt h]; rfl
theorem n_inb {a s : Nat} (h : a < s) (hs : s ≤ 2147483648) : eg_inb (Int32.ofNat a) s = true := by
  unfold eg_inb
  rw [n_cl (by omega)]
  have h1 : ¬ Int32.ofNat a < 0 := by
    rw [show (0 : Int32) = Int32.ofNat 0 from rfl, n_lt (by omega) (by omega)]; omega
  rw [decide_eq_false h1]
  show (true && Nat.ble (a + 1) s) = true
  rw [Nat.ble_eq_true_of_le h]; rfl
theorem n_of {x : Int32} (h : 0 ≤ x) : ∃ n, n < 2147483648 ∧ x = Int32.ofNat n := by
  refine ⟨x.toInt.toNat, ?_, ?_⟩
  · have := x.toInt_lt
    omega
  · have h0 : (0 : Int32).toInt ≤ x.toInt := Int32.le_iff_toInt_le.mp h
    have h0' : 0 ≤ x.toInt := h0
    apply Int32.toInt_inj.mp
    rw [n_toInt (by have := x.toInt_lt; omega)]
    omega
theorem n_of' {x : Int32} (h : ¬ x < 0) : ∃ n, n < 2147483648 ∧ x = Int32.ofNat n := n_of (Int32.not_lt.mp h)
/-- ints by their value -/
theorem z_lt {x y : Int32} : x < y ↔ x.toInt < y.toInt := Int32.lt_iff_toInt_lt
theorem z_le {x y : Int32} : x ≤ y ↔ x.toInt ≤ y.toInt := Int32.le_iff_toInt_le
theorem z_eq {x y : Int32} : x = y ↔ x.toInt = y.toInt := Int32.toInt_inj.symm
theorem z_add {x y : Int32} (h1 : -2147483648 ≤ x.toInt + y.toInt) (h2 : x.toInt + y.toInt < 2147483648) : (x + y).toInt = x.toInt + y.toInt := by
  rw [Int32.toInt_add]
  exact Int.bmod_eq_of_le (by omega) (by omega)
theorem z_sub {x y : Int32} (h1 : -2147483648 ≤ x.toInt - y.toInt) (h2 : x.toInt - y.toInt < 2147483648) : (x - y).toInt = x.toInt - y.toInt := by
  rw [Int32.toInt_sub]
  exact Int.bmod_eq_of_le (by omega) (by omega)
theorem z_neg {x : Int32} (h1 : -2147483648 < x.toInt) : (-x).toInt = -x.toInt := by
  rw [Int32.toInt_neg]
  exact Int.bmod_eq_of_le (by have := x.toInt_lt; omega) (by omega)
/-! STORES: what an update leaves -/
theorem up_eq (σ : st_S) (k i j : Nat) (x : Int32) : (st_up σ k i j x).1 k i j = x := by rw [st_up_at, if_pos ⟨rfl, rfl, rfl⟩]
theorem up_k {σ : st_S} {k i j k2 i2 j2 : Nat} {x : Int32} (h : k2 ≠ k) : (st_up σ k i j x).1 k2 i2 j2 = σ.1 k2 i2 j2 := by rw [st_up_at, if_neg (fun z => h z.1)]
theorem up_j {σ : st_S} {k i j k2 i2 j2 : Nat} {x : Int32} (h : j2 ≠ j) : (st_up σ k i j x).1 k2 i2 j2 = σ.1 k2 i2 j2 := by rw [st_up_at, if_neg (fun z => h z.2.2)]
theorem up_i {σ : st_S} {k i j k2 i2 j2 : Nat} {x : Int32} (h : i2 ≠ i) : (st_up σ k i j x).1 k2 i2 j2 = σ.1 k2 i2 j2 := by rw [st_up_at, if_neg (fun z => h z.2.1)]
