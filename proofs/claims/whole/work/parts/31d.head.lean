/-! THE HEAP IS MADE AS IT WAS TOLD -/
def ir_all : List (Nat × Nat × Nat) := [(110, 36, 135), (110, 35, 134), (110, 34, 133), (110, 33, 132), (110, 32, 131), (110, 31, 130), (110, 30, 129), (110, 29, 128), (110, 28, 127), (110, 27, 126), (110, 25, 125), (110, 24, 124), (110, 23, 123), (110, 22, 122), (110, 20, 121), (110, 16, 120), (110, 11, 119), (110, 10, 118), (110, 9, 117), (110, 8, 116), (110, 7, 115), (110, 3, 114), (110, 2, 113), (110, 1, 112), (110, 0, 111), (2, 8, 105), (105, 4, 109), (105, 3, 108), (105, 2, 107), (105, 1, 106), (2, 7, 99), (99, 4, 104), (99, 3, 103), (99, 2, 102), (99, 1, 101), (99, 0, 100), (2, 6, 32), (34, 7, 91), (91, 0, 92), (92, 5, 98), (92, 4, 97), (92, 3, 96), (92, 2, 95), (92, 1, 94), (92, 0, 93), (34, 6, 83), (83, 0, 84), (84, 5, 90), (84, 4, 89), (84, 3, 88), (84, 2, 87), (84, 1, 86), (84, 0, 85), (34, 5, 75), (75, 0, 76), (76, 5, 82), (76, 4, 81), (76, 3, 80), (76, 2, 79), (76, 1, 78), (76, 0, 77), (34, 4, 67), (67, 0, 68), (68, 5, 74), (68, 4, 73), (68, 3, 72), (68, 2, 71), (68, 1, 70), (68, 0, 69), (34, 3, 59), (59, 0, 60), (60, 5, 66), (60, 4, 65), (60, 3, 64), (60, 2, 63), (60, 1, 62), (60, 0, 61), (34, 2, 51), (51, 0, 52), (52, 5, 58), (52, 4, 57), (52, 3, 56), (52, 2, 55), (52, 1, 54), (52, 0, 53), (34, 1, 43), (43, 0, 44), (44, 5, 50), (44, 4, 49), (44, 3, 48), (44, 2, 47), (44, 1, 46), (44, 0, 45), (34, 0, 35), (35, 0, 36), (36, 5, 42), (36, 4, 41), (36, 3, 40), (36, 2, 39), (36, 1, 38), (36, 0, 37), (32, 0, 34), (32, 1, 33), (2, 5, 24), (24, 0, 25), (25, 5, 31), (25, 4, 30), (25, 3, 29), (25, 2, 28), (25, 1, 27), (25, 0, 26), (15, 1, 20), (20, 2, 23), (20, 1, 22), (20, 0, 21), (15, 0, 16), (16, 2, 19), (16, 1, 18), (16, 0, 17), (2, 4, 15), (2, 3, 11), (11, 2, 14), (11, 1, 13), (11, 0, 12), (2, 2, 9), (9, 0, 10), (2, 1, 5), (5, 2, 8), (5, 1, 7), (5, 0, 6), (2, 0, 3), (3, 0, 4)]
def ir_get : List (Nat × Nat × Nat) → Nat → Nat → Nat
  | [], _, _ => 0
  | u :: l, a, k => bif Nat.beq a u.1 && Nat.beq k u.2.1 then u.2.2 else ir_get l a k
theorem ir_get_eq {a k : Nat} : ∀ l, ir_app l a k = ir_get l a k
  | [] => rfl
  | u :: l => by
    show iv_updR (ir_app l) u.1 u.2.1 u.2.2 a k = (bif Nat.beq a u.1 && Nat.beq k u.2.1 then u.2.2 else ir_get l a k)
    unfold iv_updR
    by_cases c : a = u.1 ∧ k = u.2.1
    · rw [if_pos c, c.1, c.2, Nat.beq_refl, Nat.beq_refl]; rfl
    · rw [if_neg c, ir_get_eq l]
      cases h1 : Nat.beq a u.1
      · rfl
      · cases h2 : Nat.beq k u.2.1
        · rfl
        · exact absurd ⟨Nat.eq_of_beq_eq_true h1, Nat.eq_of_beq_eq_true h2⟩ c
/-- what is stored is as told -/
def ir_c1 : List (Nat × Nat × Nat) → Bool
  | [] => true
  | u :: l => Nat.beq (iv_rho u.1 u.2.1) u.2.2 && ir_c1 l
theorem ir_c1_of {a k : Nat} : ∀ l, ir_c1 l = true → ir_get l a k = 0 ∨ ir_get l a k = iv_rho a k
  | [], _ => Or.inl rfl
  | u :: l, h => by
    unfold ir_c1 at h
    rw [Bool.and_eq_true] at h
    show (bif Nat.beq a u.1 && Nat.beq k u.2.1 then u.2.2 else ir_get l a k) = 0 ∨ (bif Nat.beq a u.1 && Nat.beq k u.2.1 then u.2.2 else ir_get l a k) = iv_rho a k
    cases h1 : Nat.beq a u.1
    · exact ir_c1_of l h.2
    · cases h2 : Nat.beq k u.2.1
      · exact ir_c1_of l h.2
      · right
        have e := Nat.eq_of_beq_eq_true h.1
        rw [← Nat.eq_of_beq_eq_true h1, ← Nat.eq_of_beq_eq_true h2] at e
        exact e.symm
/-- what is told is stored -/
def ir_c2k (a : Nat) : Nat → List Nat → Bool
  | _, [] => true
  | k, v :: q => (Nat.beq v 0 || Nat.beq (ir_get ir_all a k) v) && ir_c2k a (k + 1) q
def ir_c2a : Nat → List (List Nat) → Bool
  | _, [] => true
  | a, r :: q => ir_c2k a 0 r && ir_c2a (a + 1) q
def ir_c2 : Nat → List (List (List Nat)) → Bool
  | _, [] => true
  | b, q :: Q => ir_c2a (16 * b) q && ir_c2 (b + 1) Q
theorem ir_c2k_of {a : Nat} : ∀ (q : List Nat) (k j : Nat), ir_c2k a k q = true → q.getD j 0 ≠ 0 → ir_get ir_all a (k + j) = q.getD j 0
  | [], _, _, _, h => absurd rfl h
  | v :: q, k, j, h, hv => by
    unfold ir_c2k at h
    rw [Bool.and_eq_true, Bool.or_eq_true] at h
    cases j with
    | zero =>
      have hv : v ≠ 0 := hv
      rcases h.1 with c | c
      · exact absurd (Nat.eq_of_beq_eq_true c) hv
      · exact Nat.eq_of_beq_eq_true c
    | succ j =>
      have := ir_c2k_of q (k + 1) j h.2 hv
      rw [show k + (j + 1) = k + 1 + j by omega]
      exact this
theorem ir_c2a_of : ∀ (q : List (List Nat)) (a j k : Nat), ir_c2a a q = true → (q.getD j []).getD k 0 ≠ 0 → ir_get ir_all (a + j) k = (q.getD j []).getD k 0
  | [], _, _, _, _, h => absurd rfl h
  | r :: q, a, j, k, h, hv => by
    unfold ir_c2a at h
    rw [Bool.and_eq_true] at h
    cases j with
    | zero =>
      have := ir_c2k_of r 0 k h.1 hv
      rw [Nat.zero_add] at this
      exact this
    | succ j =>
      have := ir_c2a_of q (a + 1) j k h.2 hv
      rw [show a + (j + 1) = a + 1 + j by omega]
      exact this
theorem ir_c2_of : ∀ (Q : List (List (List Nat))) (b i j k : Nat), ir_c2 b Q = true → ((Q.getD i []).getD j []).getD k 0 ≠ 0 → ir_get ir_all (16 * (b + i) + j) k = ((Q.getD i []).getD j []).getD k 0
  | [], _, _, _, _, _, h => absurd rfl h
  | q :: Q, b, i, j, k, h, hv => by
    unfold ir_c2 at h
    rw [Bool.and_eq_true] at h
    cases i with
    | zero => exact ir_c2a_of q (16 * b) j k h.1 hv
    | succ i =>
      have := ir_c2_of Q (b + 1) i j k h.2 hv
      rw [show b + (i + 1) = b + 1 + i by omega]
      exact this
theorem ir_k1 : ir_c1 ir_all = true := by decide +kernel
theorem ir_k2 : ir_c2 0 iv_RH = true := by decide +kernel
theorem ir_rho : ir_app ir_all = iv_rho := by
  funext a k
  rw [ir_get_eq]
  by_cases c : iv_rho a k = 0
  · rcases ir_c1_of (a := a) (k := k) ir_all ir_k1 with h | h
    · rw [h, c]
    · exact h
  · have := ir_c2_of iv_RH 0 (a / 16) (a % 16) k ir_k2 c
    rw [show 16 * (0 + a / 16) + a % 16 = a by omega] at this
    exact this
/-- the law's head: both are made -/
theorem ir_head (L : Nat) (xs : Nat → Int32) {r : Option ivV} {v : ivS} (k : iv_Ret L 171 16 [ivR 1, ivR 2, ivR 110, ivU] [] (135, iv_mu0 xs, iv_rho) r v) : iv_Ret L 171 0 [ivR 1, ivU, ivU, ivU] [] (1, iv_mu0 xs, fun _ _ => 0) r v := by
  have k2 : iv_Ret L 171 16 [ivR 1, ivR 2, ivR 110, ivU] [] (135, iv_mu0 xs, ir_app ir_all) r v := by
    rw [ir_rho]; exact k
  have u0 : ir_ub [] 1 = true := rfl
  have u1 : ir_ub [] 2 = true := rfl
  have u2 := ic_X9_init_2_ub u1
  have u3 := ir_ub_s u2
  refine ic_new (l := []) (n := 1) rfl rfl (by decide) u0 ?_
  refine iv_Ret.stl [4] (ls' := [ivR 1, ivU, ivU, ivU]) (st' := [ivR 2, ivR 2]) (w' := (2, iv_mu0 xs, ir_app [])) rfl ?_
  refine ic_call rfl rfl rfl (ic_X9_init_2 L xs u1) ?_
  refine iv_Ret.stl [8] (ls' := [ivR 1, ivR 2, ivU, ivU]) (st' := []) rfl ?_
  refine ic_new (n := 109) rfl rfl (by decide) u2 ?_
  refine iv_Ret.stl [12] (ls' := [ivR 1, ivR 2, ivU, ivU]) (st' := [ivR 110, ivR 110]) rfl ?_
  refine ic_call rfl rfl rfl (ic_X10_init_110 L xs u3) ?_
  refine iv_Ret.stl [16] (ls' := [ivR 1, ivR 2, ivR 110, ivU]) (st' := []) rfl ?_
  exact k2
theorem il_whole {p : Program} {e : Env} {s : State} {m : MethodId} {below : List Frame} {meth : Method} {c : Code} (l : Launch) {b L : Nat} {xs : Nat → Int32} (hL : L ≤ 2048) (C0 : lw_At p s m meth c b L xs) : W p l e room_1 s m #[Value.ref b] below meth c s.heap [] 0 0 (lw_Z below #[Value.ref b] s) (entryFrame m ([Value.ref b] : List Value).toArray 4) := by
  obtain ⟨ν, hν⟩ := il_law hL (il_inv0 xs)
  exact iv_whole l hL C0 (ir_head L xs (T_L_law L hν))
