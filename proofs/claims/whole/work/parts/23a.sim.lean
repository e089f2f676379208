/-! THE SMALL METHODS -/
section IBS
variable {μ : ivM}
theorem ib_has {a k : Nat} (ha : a < 2147483648) (hk : k < 32) : f_X9_has a k μ = some (if a.testBit k then 1 else 0, μ) := by
  unfold f_X9_has
  rw [iv_bit ha hk]
  cases a.testBit k <;> rfl
theorem ib_isSet {S : Nat} (hS : S < 256) : f_X9_isSet S μ = some (1, μ) := by
  unfold f_X9_isSet
  simp only [iv_let]
  rw [if_neg (by omega), if_neg (by omega)]
  rfl
theorem ib_hasThing {p : Int} : f_X1_hasThing p μ = some (if 0 ≤ p ∧ p < μ 9 2 ∧ p < 8 then 1 else 0, μ) := by
  simp only [f_X1_hasThing, iv_let, iv_ck]
  grind
theorem ib_hasPerson {p : Int} : f_X1_hasPerson p μ = some (if 0 ≤ p ∧ p < μ 9 3 ∧ p < 6 then 1 else 0, μ) := by
  simp only [f_X1_hasPerson, iv_let, iv_ck]
  grind
theorem ib_areThings {p : Int} {T : Nat} (hT : T ≤ 8) (h : μ 9 2 = T) : f_X1_areThings p μ = some (if 0 ≤ p ∧ p < ((2 ^ T : Nat) : Int) then 1 else 0, μ) := by
  simp only [f_X1_areThings, iv_let, iv_ck, h, ib_shl1 (show T < 31 by omega)]
  grind
theorem ib_arePeople {p : Int} {T : Nat} (hT : T ≤ 8) (h : μ 9 3 = T) : f_X1_arePeople p μ = some (if 0 ≤ p ∧ p < ((2 ^ T : Nat) : Int) then 1 else 0, μ) := by
  simp only [f_X1_arePeople, iv_let, iv_ck, h, ib_shl1 (show T < 31 by omega)]
  grind
theorem ib_in {p a b : Int} : f_X10_in p a b μ = some (if a ≤ p ∧ p ≤ b then 1 else 0, μ) := by
  simp only [f_X10_in, iv_let, iv_ck, iv_lcmp_lt, iv_lcmp_gt]
  grind
theorem ib_isThing {p : Int} {T : Nat} (hT : T ≤ 8) (h : μ 110 13 = T) : f_X10_isThing p μ = some (if 0 ≤ p ∧ p < T then 1 else 0, μ) := by
  simp only [f_X10_isThing, iv_ck, h, ib_in, iv_bnd_some]
  rw [iv_wr_id (by omega) (by omega)]
  grind
theorem ib_isPerson {p : Int} {T : Nat} (hT : T ≤ 8) (h : μ 110 14 = T) : f_X10_isPerson p μ = some (if 0 ≤ p ∧ p < T then 1 else 0, μ) := by
  simp only [f_X10_isPerson, iv_ck, h, ib_in, iv_bnd_some]
  rw [iv_wr_id (by omega) (by omega)]
  grind
theorem ib_isThings {p : Int} {T : Nat} (hT : T ≤ 8) (h : μ 110 13 = T) : f_X10_isThings p μ = some (if 0 ≤ p ∧ p < ((2 ^ T : Nat) : Int) then 1 else 0, μ) := by
  have := Nat.pow_le_pow_right (n := 2) (by omega) hT
  simp only [f_X10_isThings, iv_ck, h, ib_in, iv_bnd_some, ib_shl1 (show T < 31 by omega)]
  generalize (2 : Nat) ^ T = q at *
  rw [iv_wr_id (by omega) (by omega)]
  grind
theorem ib_min {x y : Int} : f_J9_min_7cf53 x y μ = some (if x ≤ y then x else y, μ) := by
  simp only [f_J9_min_7cf53, iv_let]
  grind
theorem ib_max {x y : Int} : f_J9_max_7cf53 x y μ = some (if x ≤ y then y else x, μ) := by
  simp only [f_J9_max_7cf53, iv_let]
  grind
theorem ib_soundAt {s : Nat → Int} {n : Nat} (h : ib_ok5 s n) {i : Int} : f_X3_soundAt (ib_nc s n) i μ = some (if 0 ≤ i ∧ i < n then s i.toNat else -9, μ) := by
  have hl := ib_nc_lt5 h
  simp only [f_X3_soundAt, iv_let]
  by_cases h0 : i < 0
  · rw [if_pos h0, if_neg (by omega)]
  · rw [if_neg h0]
    by_cases h5 : i < 5
    · obtain ⟨j, rfl⟩ : ∃ j : Nat, i = j := ⟨i.toNat, by omega⟩
      rw [if_pos h5, iv_wr_id (by omega) (by omega)]
      have e : (3 * (j : Int)) = ((3 * j : Nat) : Int) := by omega
      rw [e, iv_shr_nat (by omega) (by omega)]
      have hd := ib_nc_dig (i := j) h.2
      have hp : (2 : Nat) ^ (3 * j) = 8 ^ j := by rw [Nat.pow_mul]
      have e2 := iv_and_nat (a := ib_nc s n >>> (3 * j)) (b := 7) (by
        rw [Nat.shiftRight_eq_div_pow]; exact Nat.lt_of_le_of_lt (Nat.div_le_self _ _) (by omega)) (by omega)
      rw [show ((7 : Nat) : Int) = 7 from rfl] at e2
      rw [e2, show (7 : Nat) = 2 ^ 3 - 1 from rfl, Nat.and_two_pow_sub_one_eq_mod, Nat.shiftRight_eq_div_pow, hp, show (2 : Nat) ^ 3 = 8 from rfl, hd]
      by_cases hj : j < n
      · have := h.2 j hj
        rw [if_pos hj, if_neg (by omega), if_pos ⟨by omega, by omega⟩, iv_wr_id (by omega) (by omega), Int.toNat_natCast]
        congr 2
        omega
      · rw [if_neg hj, if_pos (by omega), if_neg (by omega)]
    · rw [if_neg h5, if_neg (by have := h.1; omega)]
end IBS
