/-! the rulers and the memories: references that are not fixed -/
def iv_isRul (a : Nat) : Bool := Nat.beq a 24 || (Nat.ble 35 a && Nat.ble a 91 && Nat.beq ((a - 35) % 8) 0)
def iv_isMem (a : Nat) : Bool := Nat.beq a 11 || Nat.beq a 16 || Nat.beq a 20
theorem iv_rul_cases {a : Nat} (h : iv_isRul a = true) : a = 24 ∨ a = 35 ∨ a = 43 ∨ a = 51 ∨ a = 59 ∨ a = 67 ∨ a = 75 ∨ a = 83 ∨ a = 91 := by
  unfold iv_isRul at h
  rw [Bool.or_eq_true, Bool.and_eq_true, Bool.and_eq_true, Nat.beq_eq, Nat.ble_eq, Nat.ble_eq, Nat.beq_eq] at h
  omega
theorem iv_mem_cases {a : Nat} (h : iv_isMem a = true) : a = 11 ∨ a = 16 ∨ a = 20 := by
  unfold iv_isMem at h
  rw [Bool.or_eq_true, Bool.or_eq_true, Nat.beq_eq, Nat.beq_eq, Nat.beq_eq] at h
  omega
section IVSY
variable {a j : Nat}
theorem iv_rl_lay (L : Nat) (ha : iv_isRul a = true) : iv_lay L a = (0, 3, 3) := by rcases iv_rul_cases ha with rfl | rfl | rfl | rfl | rfl | rfl | rfl | rfl | rfl <;> rfl
theorem iv_rl_n (ha : iv_isRul a = true) : Nat.ble a 135 = true := by rcases iv_rul_cases ha with rfl | rfl | rfl | rfl | rfl | rfl | rfl | rfl | rfl <;> rfl
theorem iv_rl_rho (ha : iv_isRul a = true) : iv_rho a 0 = a + 1 := by rcases iv_rul_cases ha with rfl | rfl | rfl | rfl | rfl | rfl | rfl | rfl | rfl <;> rfl
theorem iv_rl_rows (L : Nat) (ha : iv_isRul a = true) : iv_lay L (a + 1) = (1, 4, 6) := by rcases iv_rul_cases ha with rfl | rfl | rfl | rfl | rfl | rfl | rfl | rfl | rfl <;> rfl
theorem iv_rl_n1 (ha : iv_isRul a = true) : Nat.ble (a + 1) 135 = true := by rcases iv_rul_cases ha with rfl | rfl | rfl | rfl | rfl | rfl | rfl | rfl | rfl <;> rfl
theorem iv_lt6 (h : j < 6) : j = 0 ∨ j = 1 ∨ j = 2 ∨ j = 3 ∨ j = 4 ∨ j = 5 := by omega
theorem iv_rl_row (L : Nat) (ha : iv_isRul a = true) (hj : j < 6) : iv_lay L (a + 2 + j) = (1, 0, 6) := by
  rcases iv_rul_cases ha with rfl | rfl | rfl | rfl | rfl | rfl | rfl | rfl | rfl <;> rcases iv_lt6 hj with rfl | rfl | rfl | rfl | rfl | rfl <;> rfl
theorem iv_rl_nr (ha : iv_isRul a = true) (hj : j < 6) : Nat.ble (a + 2 + j) 135 = true := by
  rw [Nat.ble_eq]; have := iv_rul_cases ha; omega
theorem iv_rl_2r (_ : iv_isRul a = true) (_ : j < 6) : Nat.ble 2 (a + 2 + j) = true := by
  rw [Nat.ble_eq]; omega
theorem iv_rl_rhor (ha : iv_isRul a = true) (hj : j < 6) : iv_rho (a + 1) j = a + 2 + j := by
  rcases iv_rul_cases ha with rfl | rfl | rfl | rfl | rfl | rfl | rfl | rfl | rfl <;> rcases iv_lt6 hj with rfl | rfl | rfl | rfl | rfl | rfl <;> rfl
theorem iv_mm_lay (L : Nat) (ha : iv_isMem a = true) : iv_lay L a = (0, 2, 5) := by rcases iv_mem_cases ha with rfl | rfl | rfl <;> rfl
theorem iv_mm_n (ha : iv_isMem a = true) : Nat.ble a 135 = true := by rcases iv_mem_cases ha with rfl | rfl | rfl <;> rfl
theorem iv_mm_rho0 (ha : iv_isMem a = true) : iv_rho a 0 = a + 1 := by rcases iv_mem_cases ha with rfl | rfl | rfl <;> rfl
theorem iv_mm_rho1 (ha : iv_isMem a = true) : iv_rho a 1 = a + 2 := by rcases iv_mem_cases ha with rfl | rfl | rfl <;> rfl
theorem iv_mm_rho2 (ha : iv_isMem a = true) : iv_rho a 2 = a + 3 := by rcases iv_mem_cases ha with rfl | rfl | rfl <;> rfl
theorem iv_mm_arr0 (L : Nat) (ha : iv_isMem a = true) : iv_lay L (a + 1) = (1, 0, 8) := by rcases iv_mem_cases ha with rfl | rfl | rfl <;> rfl
theorem iv_mm_arr1 (L : Nat) (ha : iv_isMem a = true) : iv_lay L (a + 2) = (1, 0, 8) := by rcases iv_mem_cases ha with rfl | rfl | rfl <;> rfl
theorem iv_mm_arr2 (L : Nat) (ha : iv_isMem a = true) : iv_lay L (a + 3) = (1, 0, 8) := by rcases iv_mem_cases ha with rfl | rfl | rfl <;> rfl
theorem iv_mm_n0 (ha : iv_isMem a = true) : Nat.ble (a + 1) 135 = true := by rcases iv_mem_cases ha with rfl | rfl | rfl <;> rfl
theorem iv_mm_n1 (ha : iv_isMem a = true) : Nat.ble (a + 2) 135 = true := by rcases iv_mem_cases ha with rfl | rfl | rfl <;> rfl
theorem iv_mm_n2 (ha : iv_isMem a = true) : Nat.ble (a + 3) 135 = true := by rcases iv_mem_cases ha with rfl | rfl | rfl <;> rfl
theorem iv_mm_20 (_ : iv_isMem a = true) : Nat.ble 2 (a + 1) = true := by rcases iv_mem_cases ‹_› with rfl | rfl | rfl <;> rfl
theorem iv_mm_21 (_ : iv_isMem a = true) : Nat.ble 2 (a + 2) = true := by rcases iv_mem_cases ‹_› with rfl | rfl | rfl <;> rfl
theorem iv_mm_22 (_ : iv_isMem a = true) : Nat.ble 2 (a + 3) = true := by rcases iv_mem_cases ‹_› with rfl | rfl | rfl <;> rfl
theorem iv_rho_15 {i : Int} (c : 0 ≤ i ∧ i < 2) : iv_rho 15 i.toNat = 16 + 4 * i.toNat := by
  have h : i.toNat = 0 ∨ i.toNat = 1 := by omega
  rcases h with h | h <;> rw [h] <;> rfl
theorem iv_isMem_15 {i : Int} (c : 0 ≤ i ∧ i < 2) : iv_isMem (16 + 4 * i.toNat) = true := by
  have h : i.toNat = 0 ∨ i.toNat = 1 := by omega
  rcases h with h | h <;> rw [h] <;> rfl
theorem iv_lt8 (h : j < 8) : j = 0 ∨ j = 1 ∨ j = 2 ∨ j = 3 ∨ j = 4 ∨ j = 5 ∨ j = 6 ∨ j = 7 := by omega
theorem iv_rho_34 {i : Int} (c : 0 ≤ i ∧ i < 8) : iv_rho 34 i.toNat = 35 + 8 * i.toNat := by
  have h : i.toNat < 8 := by omega
  rcases iv_lt8 h with h | h | h | h | h | h | h | h <;> rw [h] <;> rfl
theorem iv_isRul_34 {i : Int} (c : 0 ≤ i ∧ i < 8) : iv_isRul (35 + 8 * i.toNat) = true := by
  have h : i.toNat < 8 := by omega
  rcases iv_lt8 h with h | h | h | h | h | h | h | h <;> rw [h] <;> rfl
theorem iv_j6 {i : Int} (c : 0 ≤ i ∧ i < 6) : i.toNat < 6 := by omega
theorem iv_ne_of {x y : Int} (h : ¬ x = y) : ¬ y = x := fun e => h e.symm
end IVSY
/-- steps over told places -/
def iv_stl (L mi : Nat) : List Nat → List ivV → List ivV → ivS → Option (Nat × List ivV × List ivV × ivS)
  | [], _, _, _ => none
  | p :: ps, ls, st, w => match ps with
    | [] => some (p, ls, st, w)
    | q :: _ => match iv_ins mi p with
      | none => none
      | some e => match iv_step L p e ls st w with
        | none => none
        | some g => bif Nat.beq g.1 q then iv_stl L mi ps g.2.1 g.2.2.1 g.2.2.2 else none
theorem iv_Ret.stl {L mi : Nat} {r : Option ivV} {v : ivS} : ∀ (ps : List Nat) {pc : Nat} {ls st : List ivV} {w : ivS} {pc' : Nat} {ls' st' : List ivV} {w' : ivS}, iv_stl L mi (pc :: ps) ls st w = some (pc', ls', st', w') → iv_Ret L mi pc' ls' st' w' r v → iv_Ret L mi pc ls st w r v
  | [], _, _, _, _, _, _, _, _, h, k => by cases h; exact k
  | q :: ps, pc, ls, st, w, pc', ls', st', w', h, k => by
    unfold iv_stl at h
    dsimp only at h
    split at h
    · cases h
    · rename_i e he
      split at h
      · cases h
      · rename_i g hg
        cases hb : Nat.beq g.1 q
        · rw [hb, cond_false] at h; cases h
        · rw [hb, cond_true] at h
          refine iv_Ret.one he hg ?_
          rw [Nat.eq_of_beq_eq_true hb]
          exact iv_Ret.stl ps h k
