/-! OCTETS AND NUMBERS of a message that came -/
/-- an octet, a number of four octets, of three -/
def ob (o : Nat → Int32) (k : Nat) : Int32 := o k &&& 255
def w4 (o : Nat → Int32) (k : Nat) : Int32 := ((ob o k <<< 24 ||| ob o (k + 1) <<< 16) ||| ob o (k + 2) <<< 8) ||| ob o (k + 3)
def w3 (o : Nat → Int32) (k : Nat) : Int32 := (ob o k <<< 16 ||| ob o (k + 1) <<< 8) ||| ob o (k + 2)
def w8 (o : Nat → Int32) (k : Nat) : Int64 := (w4 o k).toInt64 <<< 32 ||| (w4 o (k + 4)).toInt64 &&& 4294967295
def bn (o : Nat → Int32) (k : Nat) : Nat := (ob o k).toBitVec.toNat
section JxBits
variable {o o' : Nat → Int32} {k n : Nat}
theorem and255 (x : Int32) : (x &&& 255).toBitVec.toNat = x.toBitVec.toNat % 256 := by
  show (x.toBitVec &&& 255#32).toNat = _
  rw [BitVec.toNat_and]
  exact Nat.and_two_pow_sub_one_eq_mod _ 8
theorem bn_lt : bn o k < 256 := by
  unfold bn ob
  rw [and255]
  exact Nat.mod_lt _ (by omega)
theorem n_or {a b i : Nat} (h : b < 2 ^ i) : a <<< i ||| b = a * 2 ^ i + b := by
  rw [← Nat.shiftLeft_add_eq_or_of_lt h, Nat.shiftLeft_eq]
theorem w3_n : (w3 o k).toBitVec.toNat = bn o k * 65536 + bn o (k + 1) * 256 + bn o (k + 2) := by
  have h0 := bn_lt (o := o) (k := k)
  have h1 := bn_lt (o := o) (k := k + 1)
  have h2 := bn_lt (o := o) (k := k + 2)
  show (((ob o k).toBitVec <<< 16 ||| (ob o (k + 1)).toBitVec <<< 8) ||| (ob o (k + 2)).toBitVec).toNat = _
  rw [BitVec.toNat_or, BitVec.toNat_or, BitVec.toNat_shiftLeft, BitVec.toNat_shiftLeft]
  show ((bn o k <<< 16) % 2 ^ 32 ||| (bn o (k + 1) <<< 8) % 2 ^ 32) ||| bn o (k + 2) = _
  rw [Nat.shiftLeft_eq, Nat.shiftLeft_eq, Nat.mod_eq_of_lt (by omega), Nat.mod_eq_of_lt (by omega), ← Nat.shiftLeft_eq, n_or (by omega)]
  rw [show bn o k * 2 ^ 16 + bn o (k + 1) * 2 ^ 8 = (bn o k * 256 + bn o (k + 1)) * 2 ^ 8 by omega, ← Nat.shiftLeft_eq, n_or (by omega)]
  omega
theorem w4_n : (w4 o k).toBitVec.toNat = bn o k * 16777216 + bn o (k + 1) * 65536 + bn o (k + 2) * 256 + bn o (k + 3) := by
  have h0 := bn_lt (o := o) (k := k)
  have h1 := bn_lt (o := o) (k := k + 1)
  have h2 := bn_lt (o := o) (k := k + 2)
  have h3 := bn_lt (o := o) (k := k + 3)
  show ((((ob o k).toBitVec <<< 24 ||| (ob o (k + 1)).toBitVec <<< 16) ||| (ob o (k + 2)).toBitVec <<< 8) ||| (ob o (k + 3)).toBitVec).toNat = _
  rw [BitVec.toNat_or, BitVec.toNat_or, BitVec.toNat_or, BitVec.toNat_shiftLeft, BitVec.toNat_shiftLeft, BitVec.toNat_shiftLeft]
  show (((bn o k <<< 24) % 2 ^ 32 ||| (bn o (k + 1) <<< 16) % 2 ^ 32) ||| (bn o (k + 2) <<< 8) % 2 ^ 32) ||| bn o (k + 3) = _
  rw [Nat.shiftLeft_eq, Nat.shiftLeft_eq, Nat.shiftLeft_eq, Nat.mod_eq_of_lt (by omega), Nat.mod_eq_of_lt (by omega), Nat.mod_eq_of_lt (by omega), ← Nat.shiftLeft_eq, n_or (by omega)]
  rw [show bn o k * 2 ^ 24 + bn o (k + 1) * 2 ^ 16 = (bn o k * 256 + bn o (k + 1)) * 2 ^ 16 by omega, ← Nat.shiftLeft_eq, n_or (by omega)]
  rw [show (bn o k * 256 + bn o (k + 1)) * 2 ^ 16 + bn o (k + 2) * 2 ^ 8 = (bn o k * 65536 + bn o (k + 1) * 256 + bn o (k + 2)) * 2 ^ 8 by omega, ← Nat.shiftLeft_eq, n_or (by omega)]
  omega
theorem i32_small {x : Int32} (h : x.toBitVec.toNat < 2147483648) : x.toInt = (x.toBitVec.toNat : Int) := by
  show x.toBitVec.toInt = _
  have := BitVec.toInt_eq_toNat_cond x.toBitVec
  rw [this]
  split <;> omega
/-- the size that an attribute tells -/
def sz (o : Nat → Int32) (at' : Nat) : Nat := bn o (at' + 5) * 65536 + bn o (at' + 6) * 256 + bn o (at' + 7)
theorem sz_lt : sz o k < 16777216 := by
  have h0 := bn_lt (o := o) (k := k + 5)
  have h1 := bn_lt (o := o) (k := k + 6)
  have h2 := bn_lt (o := o) (k := k + 7)
  unfold sz
  omega
theorem w3_sz : (w3 o (k + 5)).toInt = (sz o k : Int) := by
  have e : (w3 o (k + 5)).toBitVec.toNat = sz o k := w3_n (o := o) (k := k + 5)
  have := sz_lt (o := o) (k := k)
  rw [i32_small (by rw [e]; omega), e]
theorem w3_szo : w3 o (k + 5) = Int32.ofNat (sz o k) := i32_eq w3_sz (by have := sz_lt (o := o) (k := k); omega)
theorem and24 (x : Int32) : (x &&& 16777215).toBitVec.toNat = x.toBitVec.toNat % 16777216 := by
  show (x.toBitVec &&& 16777215#32).toNat = _
  rw [BitVec.toNat_and]
  exact Nat.and_two_pow_sub_one_eq_mod _ 24
theorem w4_sz : w4 o (k + 4) &&& 16777215 = Int32.ofNat (sz o k) := by
  rw [← w3_szo]
  apply Int32.toBitVec_inj.mp
  apply BitVec.eq_of_toNat_eq
  rw [and24, w4_n, w3_n]
  have h1 := bn_lt (o := o) (k := k + 5)
  have h2 := bn_lt (o := o) (k := k + 6)
  have h3 := bn_lt (o := o) (k := k + 7)
  show (bn o (k + 4) * 16777216 + bn o (k + 5) * 65536 + bn o (k + 6) * 256 + bn o (k + 7)) % 16777216 = bn o (k + 5) * 65536 + bn o (k + 6) * 256 + bn o (k + 7)
  omega
theorem w4_c : w4 o 4 &&& 16777215 = w3 o 5 := by rw [w4_sz (k := 0), ← w3_szo]
theorem ob_cases {P : Int32 → Prop} (h : ∀ x, x < 256 → P (Int32.ofNat x)) : P (ob o k) := by
  have e : ob o k = Int32.ofNat (bn o k) := by
    refine i32_eq ?_ (by have := bn_lt (o := o) (k := k); omega)
    have := bn_lt (o := o) (k := k)
    exact i32_small (by show bn o k < _; omega)
  rw [e]
  exact h _ bn_lt
theorem fl_224 : ob o k &&& (-225) = 0 ↔ ob o k &&& 31 = 0 := by
  refine ob_cases (o := o) (k := k) (P := fun x => x &&& (-225) = 0 ↔ x &&& 31 = 0) ?_
  decide +kernel
theorem fl_240 : ob o k &&& (-241) = 0 ↔ ob o k &&& 15 = 0 := by
  refine ob_cases (o := o) (k := k) (P := fun x => x &&& (-241) = 0 ↔ x &&& 15 = 0) ?_
  decide +kernel
theorem fl_208 : ob o k &&& (-209) = 0 ↔ ob o k &&& 47 = 0 := by
  refine ob_cases (o := o) (k := k) (P := fun x => x &&& (-209) = 0 ↔ x &&& 47 = 0) ?_
  decide +kernel
theorem ob_eq (h : o' k = o k) : ob o' k = ob o k := by unfold ob; rw [h]
theorem w4_eq (h : ∀ j, k ≤ j → j < k + 4 → o' j = o j) : w4 o' k = w4 o k := by
  unfold w4
  rw [ob_eq (h k (by omega) (by omega)), ob_eq (h (k + 1) (by omega) (by omega)), ob_eq (h (k + 2) (by omega) (by omega)), ob_eq (h (k + 3) (by omega) (by omega))]
theorem sz_eq (h : ∀ j, k + 5 ≤ j → j < k + 8 → o' j = o j) : sz o' k = sz o k := by
  unfold sz bn
  rw [ob_eq (h (k + 5) (by omega) (by omega)), ob_eq (h (k + 6) (by omega) (by omega)), ob_eq (h (k + 7) (by omega) (by omega))]
/-- the octets up to the next attribute -/
def pad (n : Nat) : Nat := (n + 3) / 4 * 4
theorem pad_v (h : n < 16777216) : (Int32.ofNat n + 3) &&& (-4) = Int32.ofNat (pad n) := by
  apply Int32.toBitVec_inj.mp
  apply BitVec.eq_of_toNat_eq
  have e1 : (Int32.ofNat n + 3).toBitVec.toNat = n + 3 := by
    show (BitVec.ofNat 32 n + 3#32).toNat = _
    rw [BitVec.toNat_add, BitVec.toNat_ofNat]
    show (n % 2 ^ 32 + 3) % 2 ^ 32 = n + 3
    omega
  have e2 : (Int32.ofNat (pad n)).toBitVec.toNat = pad n := by
    show (BitVec.ofNat 32 (pad n)).toNat = _
    rw [BitVec.toNat_ofNat]
    unfold pad
    omega
  rw [e2]
  show ((Int32.ofNat n + 3).toBitVec &&& 4294967292#32).toNat = _
  rw [BitVec.toNat_and, e1]
  show (n + 3) &&& 4294967292 = pad n
  have e3 : (n + 3) &&& 4294967292 = ((n + 3) / 4) * 4 := by
    have hb : ∀ i, ((n + 3) &&& 4294967292).testBit i = (((n + 3) / 4) * 4).testBit i := by
      intro i
      rw [Nat.testBit_and]
      have e4 : (n + 3) / 4 * 4 = ((n + 3) >>> 2) <<< 2 := by rw [Nat.shiftLeft_eq, Nat.shiftRight_eq_div_pow]
      rw [e4, Nat.testBit_shiftLeft, Nat.testBit_shiftRight]
      by_cases h2 : i < 2
      · have : (4294967292 : Nat).testBit i = false := by
          have hi : i = 0 ∨ i = 1 := by omega
          rcases hi with rfl | rfl <;> decide
        rw [this, Bool.and_false]
        simp [show ¬ 2 ≤ i by omega]
      · by_cases h3 : i < 32
        · have : (4294967292 : Nat).testBit i = true := by
            have key : ∀ i, i < 32 → 2 ≤ i → (4294967292 : Nat).testBit i = true := by decide +kernel
            exact key i h3 (by omega)
          rw [this, Bool.and_true, show 2 + (i - 2) = i by omega]
          simp [show 2 ≤ i by omega]
        · have hz : (n + 3).testBit i = false := Nat.testBit_lt_two_pow (Nat.lt_of_lt_of_le (show n + 3 < 2 ^ 32 by omega) (Nat.pow_le_pow_right (by omega) (by omega)))
          rw [show 2 + (i - 2) = i by omega, hz]
          simp
    exact Nat.eq_of_testBit_eq hb
  rw [e3]
  rfl
end JxBits
