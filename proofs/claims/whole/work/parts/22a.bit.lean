/-! ARITHMETIC OF INTS THAT ARE SMALL -/
theorem iv_wr_id {x : Int} (h0 : -2147483648 ≤ x) (h1 : x < 2147483648) : iv_wr x = x := by
  unfold iv_wr
  rw [Int32.toInt_ofInt, show Int32.size = 4294967296 from rfl]
  exact Int.bmod_eq_of_le (by omega) (by omega)
theorem iv_wr_nat {x : Nat} (h1 : x < 2147483648) : iv_wr (x : Int) = x := iv_wr_id (by omega) (by omega)
theorem iv_wr_succ {x : Nat} (h1 : x < 2147483647) : iv_wr ((x : Int) + 1) = ((x + 1 : Nat) : Int) := by
  rw [iv_wr_id (by omega) (by omega)]; omega
theorem iv_i32 {a : Nat} (h : a < 2147483648) : (Int32.ofInt (a : Int)).toBitVec.toNat = a := by
  show (BitVec.ofInt 32 (a : Int)).toNat = a
  rw [BitVec.ofInt_natCast, BitVec.toNat_ofNat]
  exact Nat.mod_eq_of_lt (by omega)
theorem iv_toI {x : Int32} {a : Nat} (h : x.toBitVec.toNat = a) (ha : a < 2147483648) : x.toInt = a := by
  show x.toBitVec.toInt = a
  rw [BitVec.toInt_eq_toNat_cond, h, if_pos (by omega)]
theorem iv_and_nat {a b : Nat} (ha : a < 2147483648) (hb : b < 2147483648) : iv_and a b = ((a &&& b : Nat) : Int) := by
  refine iv_toI ?_ (Nat.lt_of_le_of_lt Nat.and_le_left ha)
  rw [Int32.toBitVec_and, BitVec.toNat_and, iv_i32 ha, iv_i32 hb]
theorem iv_or_nat {a b : Nat} (ha : a < 2147483648) (hb : b < 2147483648) : iv_or a b = ((a ||| b : Nat) : Int) := by
  refine iv_toI ?_ (Nat.or_lt_two_pow (n := 31) ha hb)
  rw [Int32.toBitVec_or, BitVec.toNat_or, iv_i32 ha, iv_i32 hb]
theorem iv_xor_nat {a b : Nat} (ha : a < 2147483648) (hb : b < 2147483648) : iv_xor a b = ((a ^^^ b : Nat) : Int) := by
  refine iv_toI ?_ (Nat.xor_lt_two_pow (n := 31) ha hb)
  rw [Int32.toBitVec_xor, BitVec.toNat_xor, iv_i32 ha, iv_i32 hb]
theorem iv_sm32 : ∀ k : Nat, k < 32 → (Int32.ofInt (k : Int) &&& 31).toBitVec.smod 32 = BitVec.ofNat 32 k := by decide +kernel
theorem iv_shl_nat {a k : Nat} (ha : a < 2147483648) (hk : k < 32) (h : a <<< k < 2147483648) : iv_shl a k = ((a <<< k : Nat) : Int) := by
  refine iv_toI ?_ h
  show (((Int32.ofInt (a : Int)).toBitVec <<< ((Int32.ofInt (k : Int) &&& 31).toBitVec.smod 32))).toNat = a <<< k
  rw [iv_sm32 k hk, BitVec.shiftLeft_eq', BitVec.toNat_shiftLeft, iv_i32 ha, BitVec.toNat_ofNat, Nat.mod_eq_of_lt (a := k) (by omega), Nat.mod_eq_of_lt (by omega)]
theorem iv_shr_nat {a k : Nat} (ha : a < 2147483648) (hk : k < 32) : iv_shr a k = ((a >>> k : Nat) : Int) := by
  have h : a >>> k < 2147483648 := by
    rw [Nat.shiftRight_eq_div_pow]; exact Nat.lt_of_le_of_lt (Nat.div_le_self _ _) ha
  refine iv_toI ?_ h
  show (BitVec.sshiftRight' (Int32.ofInt (a : Int)).toBitVec ((Int32.ofInt (k : Int) &&& 31).toBitVec.smod 32)).toNat = a >>> k
  rw [iv_sm32 k hk]
  show (BitVec.sshiftRight (Int32.ofInt (a : Int)).toBitVec (BitVec.ofNat 32 k).toNat).toNat = a >>> k
  rw [BitVec.toNat_ofNat, Nat.mod_eq_of_lt (a := k) (by omega)]
  rw [BitVec.sshiftRight_eq_of_msb_false (by
    rw [BitVec.msb_eq_decide, iv_i32 ha]; exact decide_eq_false (by omega))]
  rw [BitVec.toNat_ushiftRight, iv_i32 ha]
/-- all but some bits -/
def iv_nd (a b : Nat) : Nat := a ^^^ (a &&& b)
theorem iv_nd_bit (a b i : Nat) : (iv_nd a b).testBit i = (a.testBit i && !b.testBit i) := by
  unfold iv_nd
  rw [Nat.testBit_xor, Nat.testBit_and]
  cases a.testBit i <;> cases b.testBit i <;> rfl
theorem iv_nd_lt {a b n : Nat} (h : a < 2 ^ n) : iv_nd a b < 2 ^ n := Nat.xor_lt_two_pow h (Nat.lt_of_le_of_lt Nat.and_le_left h)
theorem iv_andn {a b : Nat} (ha : a < 2147483648) (hb : b < 2147483648) : iv_and a (iv_xor b (-1)) = ((iv_nd a b : Nat) : Int) := by
  have hx : Int32.ofInt (iv_xor b (-1)) = Int32.ofInt (b : Int) ^^^ Int32.ofInt (-1) := by
    show Int32.ofInt (Int32.ofInt (b : Int) ^^^ Int32.ofInt (-1)).toInt = _
    rw [Int32.ofInt_toInt]
  refine iv_toI ?_ (iv_nd_lt (n := 31) ha)
  rw [hx, Int32.toBitVec_and, BitVec.toNat_and, iv_i32 ha, Int32.toBitVec_xor, BitVec.toNat_xor, iv_i32 hb]
  show a &&& (b ^^^ 4294967295) = iv_nd a b
  apply Nat.eq_of_testBit_eq
  intro i
  rw [iv_nd_bit, Nat.testBit_and, Nat.testBit_xor]
  rw [show (4294967295 : Nat) = 2 ^ 32 - 1 from rfl, Nat.testBit_two_pow_sub_one]
  by_cases hi : i < 32
  · rw [decide_eq_true hi]; cases a.testBit i <;> cases b.testBit i <;> rfl
  · rw [Nat.testBit_lt_two_pow (x := a) (Nat.lt_of_lt_of_le ha (by
      have := Nat.pow_le_pow_right (n := 2) (by omega) (show 31 ≤ i by omega)
      omega))]
    rfl
/-- a bit, asked as the program asks it -/
theorem iv_bit {a k : Nat} (ha : a < 2147483648) (hk : k < 32) : iv_and (iv_shr a k) 1 = if a.testBit k then 1 else 0 := by
  have h : a >>> k < 2147483648 := by
    rw [Nat.shiftRight_eq_div_pow]; exact Nat.lt_of_le_of_lt (Nat.div_le_self _ _) ha
  rw [iv_shr_nat ha hk]
  have := iv_and_nat (a := a >>> k) (b := 1) h (by omega)
  rw [show ((1 : Nat) : Int) = 1 from rfl] at this
  rw [this, Nat.testBit, Nat.and_comm 1, Nat.and_one_is_mod]
  have := Nat.mod_two_eq_zero_or_one (a >>> k)
  rcases this with h | h <;> rw [h] <;> rfl
theorem iv_div_id {x y : Int} (h0 : 0 ≤ x) (h1 : x < 2147483648) (h2 : 0 < y) (h3 : y < 2147483648) : iv_div x y = x / y := by
  unfold iv_div
  rw [Int32.toInt_div_of_ne_right _ _ (by
    intro e
    have := congrArg Int32.toInt e
    rw [show (Int32.ofInt y).toInt = iv_wr y from rfl, iv_wr_id (by omega) h3] at this
    rw [this] at h2
    revert h2; decide)]
  rw [show (Int32.ofInt x).toInt = iv_wr x from rfl, show (Int32.ofInt y).toInt = iv_wr y from rfl, iv_wr_id (by omega) h1, iv_wr_id (by omega) h3]
  exact Int.tdiv_eq_ediv_of_nonneg h0
theorem iv_rem_id {x y : Int} (h0 : 0 ≤ x) (h1 : x < 2147483648) (h2 : 0 < y) (h3 : y < 2147483648) : iv_rem x y = x % y := by
  unfold iv_rem
  rw [Int32.toInt_sub, Int32.toInt_mul]
  rw [show (Int32.ofInt x / Int32.ofInt y).toInt = iv_div x y from rfl, iv_div_id h0 h1 h2 h3]
  rw [show (Int32.ofInt x).toInt = iv_wr x from rfl, show (Int32.ofInt y).toInt = iv_wr y from rfl, iv_wr_id (by omega) h1, iv_wr_id (by omega) h3]
  have hd : x / y * y ≤ x := Int.ediv_mul_le x (by omega)
  have hd0 : 0 ≤ x / y * y := Int.mul_nonneg (Int.ediv_nonneg h0 (by omega)) (by omega)
  rw [Int.bmod_eq_of_le (n := x / y * y) (by omega) (by omega), Int.bmod_eq_of_le (by omega) (by omega)]
  have := Int.emod_def x y
  rw [this, Int.mul_comm y]
theorem iv_lcmp_lt {x y : Int} : iv_lcmp x y < 0 ↔ x < y := by
  unfold iv_lcmp
  split
  · constructor <;> intro h <;> omega
  · split <;> constructor <;> intro h <;> omega
theorem iv_lcmp_gt {x y : Int} : 0 < iv_lcmp x y ↔ y < x := by
  unfold iv_lcmp
  split
  · constructor <;> intro h <;> omega
  · split <;> constructor <;> intro h <;> omega
