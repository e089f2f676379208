/-! WHAT THE CONSTRUCTORS MAKE -/
/-- references, the last one stored first -/
def ir_app : List (Nat × Nat × Nat) → ivN
  | [] => fun _ _ => 0
  | u :: l => iv_updR (ir_app l) u.1 u.2.1 u.2.2
def ir_ub : List (Nat × Nat × Nat) → Nat → Bool
  | [], _ => true
  | u :: l, n => Nat.ble u.1 n && ir_ub l n
theorem ir_ub_mono {n m : Nat} (h : n ≤ m) : ∀ {l : List (Nat × Nat × Nat)}, ir_ub l n = true → ir_ub l m = true
  | [], _ => rfl
  | u :: l, g => by
    unfold ir_ub at g ⊢
    rw [Bool.and_eq_true] at g ⊢
    exact ⟨Nat.ble_eq_true_of_le (Nat.le_trans (Nat.le_of_ble_eq_true g.1) h), ir_ub_mono h g.2⟩
theorem ir_ub_s {n : Nat} {l : List (Nat × Nat × Nat)} (h : ir_ub l n = true) : ir_ub l (n + 1) = true := ir_ub_mono (Nat.le_succ n) h
theorem ir_ub_c {n a k v : Nat} {l : List (Nat × Nat × Nat)} (ha : Nat.ble a n = true) (h : ir_ub l n = true) : ir_ub ((a, k, v) :: l) n = true := by
  unfold ir_ub
  rw [Bool.and_eq_true]
  exact ⟨ha, h⟩
theorem ir_ub_a {n m : Nat} {l : List (Nat × Nat × Nat)} : ∀ (ps : List (Nat × Nat × Nat)), ir_ub ps m = true → n ≤ m → ir_ub l n = true → ir_ub (ps ++ l) m = true
  | [], _, h, g => ir_ub_mono h g
  | u :: ps, p, h, g => by
    unfold ir_ub at p
    show (Nat.ble u.1 m && ir_ub (ps ++ l) m) = true
    rw [Bool.and_eq_true] at p ⊢
    exact ⟨p.1, ir_ub_a ps p.2 h g⟩
theorem ir_app_0 {n a k : Nat} (ha : n < a) : ∀ {l : List (Nat × Nat × Nat)}, ir_ub l n = true → ir_app l a k = 0
  | [], _ => rfl
  | u :: l, g => by
    unfold ir_ub at g
    rw [Bool.and_eq_true] at g
    have := Nat.le_of_ble_eq_true g.1
    show iv_updR (ir_app l) u.1 u.2.1 u.2.2 a k = 0
    unfold iv_updR
    rw [if_neg (by omega)]
    exact ir_app_0 ha g.2
theorem ir_zer {xs : Nat → Int32} {n m : Nat} (hn : 1 ≤ n) : iv_zer (iv_mu0 xs) (n + 1) m = iv_mu0 xs := by
  funext a k
  unfold iv_zer
  split
  · unfold iv_mu0
    rw [if_neg (by omega)]
  · rfl
theorem ir_upd {xs : Nat → Int32} {a k : Nat} (ha : a ≠ 1) : iv_upd (iv_mu0 xs) a k 0 = iv_mu0 xs := by
  funext b q
  unfold iv_upd
  split
  · rename_i c
    unfold iv_mu0
    rw [if_neg (by rw [c.1]; exact ha)]
  · rfl
theorem ir_zerR {n m : Nat} {l : List (Nat × Nat × Nat)} (h : ir_ub l n = true) : iv_zerR (ir_app l) (n + 1) m = ir_app l := by
  funext a k
  unfold iv_zerR
  split
  · exact (ir_app_0 (n := n) (by omega) h).symm
  · rfl
/-- the rows of a first row of six -/
theorem ir_row {n : Nat} {l : List (Nat × Nat × Nat)} (h : ir_ub l n = true) : iv_row (iv_zerR (ir_app l) (n + 1) (n + 7)) (n + 1) 6 = ir_app ((n + 1, 5, n + 7) :: (n + 1, 4, n + 6) :: (n + 1, 3, n + 5) :: (n + 1, 2, n + 4) :: (n + 1, 1, n + 3) :: (n + 1, 0, n + 2) :: l) := by
  rw [ir_zerR h]
  funext a k
  show (if a = n + 1 then (if k < 6 then n + 1 + 1 + k else 0) else ir_app l a k) = iv_updR (iv_updR (iv_updR (iv_updR (iv_updR (iv_updR (ir_app l) (n + 1) 0 (n + 2)) (n + 1) 1 (n + 3)) (n + 1) 2 (n + 4)) (n + 1) 3 (n + 5)) (n + 1) 4 (n + 6)) (n + 1) 5 (n + 7) a k
  unfold iv_updR
  by_cases ha : a = n + 1
  · rw [if_pos ha]
    by_cases hk : k < 6
    · rw [if_pos hk]
      have : k = 0 ∨ k = 1 ∨ k = 2 ∨ k = 3 ∨ k = 4 ∨ k = 5 := by omega
      rcases this with rfl | rfl | rfl | rfl | rfl | rfl <;> simp [ha] <;> omega
    · rw [if_neg hk, if_neg (by omega), if_neg (by omega), if_neg (by omega), if_neg (by omega), if_neg (by omega), if_neg (by omega)]
      exact (ir_app_0 (n := n) (by omega) h).symm
  · rw [if_neg ha, if_neg (by omega), if_neg (by omega), if_neg (by omega), if_neg (by omega), if_neg (by omega), if_neg (by omega)]
theorem ir_ub_m {n : Nat} {l : List (Nat × Nat × Nat)} (h : ir_ub l n = true) : ir_ub ((n + 1, 5, n + 7) :: (n + 1, 4, n + 6) :: (n + 1, 3, n + 5) :: (n + 1, 2, n + 4) :: (n + 1, 1, n + 3) :: (n + 1, 0, n + 2) :: l) (n + 7) = true := by
  have h7 : Nat.ble (n + 1) (n + 7) = true := Nat.ble_eq_true_of_le (by omega)
  have hl : ir_ub l (n + 7) = true := ir_ub_mono (by omega) h
  exact ir_ub_c h7 (ir_ub_c h7 (ir_ub_c h7 (ir_ub_c h7 (ir_ub_c h7 (ir_ub_c h7 hl)))))
section IRC
variable {L mi pc : Nat} {ls st : List ivV} {xs : Nat → Int32} {v : ivS} {r : Option ivV} {n : Nat} {l : List (Nat × Nat × Nat)}
theorem ic_al {e : ivE} {pc' : Nat} {ls' st' : List ivV} (hi : iv_ins mi pc = some e) (hs : iv_step L pc e ls st (n, iv_mu0 xs, ir_app l) = some (pc', ls', st', n + 1, iv_zer (iv_mu0 xs) (n + 1) (n + 1), iv_zerR (ir_app l) (n + 1) (n + 1))) (h1 : 1 ≤ n) (hub : ir_ub l n = true)
    (k : iv_Ret L mi pc' ls' st' (n + 1, iv_mu0 xs, ir_app l) r v) : iv_Ret L mi pc ls st (n, iv_mu0 xs, ir_app l) r v := by
  refine iv_Ret.one hi hs ?_
  show iv_Ret L mi pc' ls' st' (n + 1, iv_zer (iv_mu0 xs) (n + 1) (n + 1), iv_zerR (ir_app l) (n + 1) (n + 1)) r v
  rw [ir_zer h1, ir_zerR hub]
  exact k
theorem ic_new {ep el t eb ew nf ty : Nat} {ec : Int} (hi : iv_ins mi pc = some (ep, .new ty, el, t, eb, ec, ew)) (hl : iv_lay L (n + 1) = (0, t, nf)) (h1 : 1 ≤ n) (hub : ir_ub l n = true)
    (k : iv_Ret L mi (pc + 3) ls (ivR (n + 1) :: st) (n + 1, iv_mu0 xs, ir_app l) r v) : iv_Ret L mi pc ls st (n, iv_mu0 xs, ir_app l) r v := by
  refine ic_al hi ?_ h1 hub k
  show (bif Nat.beq (iv_lay L (n + 1)).1 0 && Nat.beq (iv_lay L (n + 1)).2.1 t then _ else none) = _
  rw [hl]
  show (bif Nat.beq 0 0 && Nat.beq t t then _ else none) = _
  rw [Nat.beq_refl t]
  rfl
theorem ic_na {ep el t eb ew x : Nat} {ec y : Int} {ty : ArrayType} (hi : iv_ins mi pc = some (ep, .newarray ty, el, t, eb, ec, ew)) (hy : y = (x : Int)) (hl : iv_lay L (n + 1) = (1, t, x)) (h1 : 1 ≤ n) (hub : ir_ub l n = true)
    (k : iv_Ret L mi (pc + 2) ls (ivR (n + 1) :: st) (n + 1, iv_mu0 xs, ir_app l) r v) : iv_Ret L mi pc ls (ivI y :: st) (n, iv_mu0 xs, ir_app l) r v := by
  refine ic_al hi ?_ h1 hub k
  show (bif Nat.beq (iv_lay L (n + 1)).1 1 && Nat.beq (iv_lay L (n + 1)).2.1 t && decide (y = (iv_lay L (n + 1)).2.2) then _ else none) = _
  rw [hl, hy]
  show (bif Nat.beq 1 1 && Nat.beq t t && decide ((x : Int) = (x : Int)) then _ else none) = _
  rw [Nat.beq_refl t, decide_eq_true rfl]
  rfl
theorem ic_ana {ep el t eb ew x ty : Nat} {ec y : Int} (hi : iv_ins mi pc = some (ep, .anewarray ty, el, t, eb, ec, ew)) (hy : y = (x : Int)) (hl : iv_lay L (n + 1) = (1, t, x)) (h1 : 1 ≤ n) (hub : ir_ub l n = true)
    (k : iv_Ret L mi (pc + 3) ls (ivR (n + 1) :: st) (n + 1, iv_mu0 xs, ir_app l) r v) : iv_Ret L mi pc ls (ivI y :: st) (n, iv_mu0 xs, ir_app l) r v := by
  refine ic_al hi ?_ h1 hub k
  show (bif Nat.beq (iv_lay L (n + 1)).1 1 && Nat.beq (iv_lay L (n + 1)).2.1 t && decide (y = (iv_lay L (n + 1)).2.2) then _ else none) = _
  rw [hl, hy]
  show (bif Nat.beq 1 1 && Nat.beq t t && decide ((x : Int) = (x : Int)) then _ else none) = _
  rw [Nat.beq_refl t, decide_eq_true rfl]
  rfl
theorem ic_six (h : iv_isRul n = true) : iv_six L n = true := by
  have r : ∀ j, j < 6 → iv_lay L (n + (2 + j)) = (1, 0, 6) := fun j hj => by rw [← Nat.add_assoc]; exact iv_rl_row L h hj
  unfold iv_six
  rw [decide_eq_true (iv_rl_rows L h), decide_eq_true (r 0 (by decide)), decide_eq_true (r 1 (by decide)), decide_eq_true (r 2 (by decide)), decide_eq_true (r 3 (by decide)), decide_eq_true (r 4 (by decide)), decide_eq_true (r 5 (by decide))]
  rfl
theorem ic_mul {ep el t eb ew q : Nat} {ty : Nat} {ec : Int} (hi : iv_ins mi pc = some (ep, .multianewarray ty q, el, t, eb, ec, ew)) (h6 : iv_isRul n = true) (h1 : 1 ≤ n) (hub : ir_ub l n = true)
    (k : iv_Ret L mi (pc + 4) ls (ivR (n + 1) :: st) (n + 7, iv_mu0 xs, ir_app ((n + 1, 5, n + 7) :: (n + 1, 4, n + 6) :: (n + 1, 3, n + 5) :: (n + 1, 2, n + 4) :: (n + 1, 1, n + 3) :: (n + 1, 0, n + 2) :: l)) r v) : iv_Ret L mi pc ls (ivI 6 :: ivI 6 :: st) (n, iv_mu0 xs, ir_app l) r v := by
  have hs : iv_step L pc (ep, .multianewarray ty q, el, t, eb, ec, ew) ls (ivI 6 :: ivI 6 :: st) (n, iv_mu0 xs, ir_app l) = some (pc + 4, ls, ivR (n + 1) :: st, n + 7, iv_zer (iv_mu0 xs) (n + 1) (n + 7), iv_row (iv_zerR (ir_app l) (n + 1) (n + 7)) (n + 1) 6) := by
    show (bif decide ((6 : Int) = 6) && decide ((6 : Int) = 6) && iv_six L n then some (pc + 4, ls, ivR (n + 1) :: st, n + 7, iv_zer (iv_mu0 xs) (n + 1) (n + 7), iv_row (iv_zerR (ir_app l) (n + 1) (n + 7)) (n + 1) 6) else none) = _
    rw [ic_six h6, decide_eq_true rfl]
    rfl
  refine iv_Ret.one hi hs ?_
  show iv_Ret L mi (pc + 4) ls (ivR (n + 1) :: st) (n + 7, iv_zer (iv_mu0 xs) (n + 1) (n + 7), iv_row (iv_zerR (ir_app l) (n + 1) (n + 7)) (n + 1) 6) r v
  rw [ir_zer h1, ir_row hub]
  exact k
theorem ic_obj {ep idx el z nb ew x : Nat} {ec : Int} {w : ivS} (hi : iv_ins mi pc = some (ep, .invokespecial idx, el, z, nb, ec, ew)) (hz : Nat.ble 1000 z = true) (hx : Nat.ble 2 x = true) (hw : Nat.ble (iv_wide st) 8 = true) (k : iv_Ret L mi (pc + 3) ls st w r v) : iv_Ret L mi pc ls (ivR x :: st) w r v := by
  obtain ⟨f, hf⟩ := k
  refine ⟨f + 1, ?_⟩
  show (match iv_ins mi pc with | none => none | some e => _) = _
  rw [hi]
  dsimp only [iv_step]
  rw [hz, cond_true, hx, hw, Bool.and_true, cond_true]
  exact hf
theorem ic_call {ep idx el z nb ew : Nat} {ec : Int} {w w1 : ivS} (hi : iv_ins mi pc = some (ep, .invokespecial idx, el, z, nb, ec, ew)) (hz : Nat.ble 1000 z = false) (hc : (Nat.ble nb st.length && Nat.ble (iv_wide (st.drop nb)) 8 && Nat.ble (iv_wide (st.take nb)) (iv_ml z) && iv_obj L w.1 (iv_own z) (st.take nb).reverse) = true)
    (h1 : iv_Ret L z 0 (iv_ent (iv_ml z) (st.take nb).reverse) [] w none w1) (h2 : iv_Ret L mi (pc + 3) ls (st.drop nb) w1 r v) : iv_Ret L mi pc ls st w r v := by
  obtain ⟨f1, h1⟩ := h1
  obtain ⟨f2, h2⟩ := h2
  refine ⟨max f1 f2 + 1, ?_⟩
  show (match iv_ins mi pc with | none => none | some e => _) = _
  rw [hi]
  dsimp only [iv_step]
  rw [hz, cond_false, hc, cond_true]
  rw [iv_run_le (Nat.le_max_left f1 f2) h1]
  exact iv_run_le (Nat.le_max_right f1 f2) h2
end IRC
theorem ic_X8_init_3_ub {l : List (Nat × Nat × Nat)} (h : ir_ub l 3 = true) : ir_ub ((3, 0, 4) :: l) 4 = true := ir_ub_a [(3, 0, 4)] rfl (by decide) h
theorem ic_X8_init_3 (L : Nat) (xs : Nat → Int32) {l : List (Nat × Nat × Nat)} (h : ir_ub l 3 = true) : iv_Ret L 63 0 [ivR 3] [] (3, iv_mu0 xs, ir_app l) none (4, iv_mu0 xs, ir_app ((3, 0, 4) :: l)) := by
  refine iv_Ret.stl [1] (ls' := [ivR 3]) (st' := [ivR 3]) (w' := (3, iv_mu0 xs, ir_app (l))) rfl ?_
  refine ic_obj rfl rfl rfl rfl ?_
  refine iv_Ret.stl [5, 7] (ls' := [ivR 3]) (st' := [ivI 96, ivR 3]) (w' := (3, iv_mu0 xs, ir_app (l))) rfl ?_
  refine ic_na (x := 96) (n := 3) rfl rfl rfl (by decide) h ?_
  have h1 : ir_ub (l) 4 = true := ir_ub_s h
  refine iv_Ret.stl [12] (ls' := [ivR 3]) (st' := []) (w' := (4, iv_mu0 xs, ir_app ((3, 0, 4) :: l))) rfl ?_
  have h2 : ir_ub ((3, 0, 4) :: l) 4 = true := ir_ub_c rfl h1
  exact ⟨1, rfl⟩
theorem ic_X7_init_5_ub {l : List (Nat × Nat × Nat)} (h : ir_ub l 5 = true) : ir_ub ((5, 2, 8) :: (5, 1, 7) :: (5, 0, 6) :: l) 8 = true := ir_ub_a [(5, 2, 8), (5, 1, 7), (5, 0, 6)] rfl (by decide) h
theorem ic_X7_init_5 (L : Nat) (xs : Nat → Int32) {l : List (Nat × Nat × Nat)} (h : ir_ub l 5 = true) : iv_Ret L 50 0 [ivR 5] [] (5, iv_mu0 xs, ir_app l) none (8, iv_mu0 xs, ir_app ((5, 2, 8) :: (5, 1, 7) :: (5, 0, 6) :: l)) := by
  refine iv_Ret.stl [1] (ls' := [ivR 5]) (st' := [ivR 5]) (w' := (5, iv_mu0 xs, ir_app (l))) rfl ?_
  refine ic_obj rfl rfl rfl rfl ?_
  refine iv_Ret.stl [5, 7] (ls' := [ivR 5]) (st' := [ivI 8, ivR 5]) (w' := (5, iv_mu0 xs, ir_app (l))) rfl ?_
  refine ic_na (x := 8) (n := 5) rfl rfl rfl (by decide) h ?_
  have h1 : ir_ub (l) 6 = true := ir_ub_s h
  refine iv_Ret.stl [12] (ls' := [ivR 5]) (st' := []) (w' := (6, iv_mu0 xs, ir_app ((5, 0, 6) :: l))) rfl ?_
  have h2 : ir_ub ((5, 0, 6) :: l) 6 = true := ir_ub_c rfl h1
  refine iv_Ret.stl [13, 15] (ls' := [ivR 5]) (st' := [ivI 8, ivR 5]) (w' := (6, iv_mu0 xs, ir_app ((5, 0, 6) :: l))) rfl ?_
  refine ic_na (x := 8) (n := 6) rfl rfl rfl (by decide) h2 ?_
  have h3 : ir_ub ((5, 0, 6) :: l) 7 = true := ir_ub_s h2
  refine iv_Ret.stl [20] (ls' := [ivR 5]) (st' := []) (w' := (7, iv_mu0 xs, ir_app ((5, 1, 7) :: (5, 0, 6) :: l))) rfl ?_
  have h4 : ir_ub ((5, 1, 7) :: (5, 0, 6) :: l) 7 = true := ir_ub_c rfl h3
  refine iv_Ret.stl [21, 23] (ls' := [ivR 5]) (st' := [ivI 6, ivR 5]) (w' := (7, iv_mu0 xs, ir_app ((5, 1, 7) :: (5, 0, 6) :: l))) rfl ?_
  refine ic_na (x := 6) (n := 7) rfl rfl rfl (by decide) h4 ?_
  have h5 : ir_ub ((5, 1, 7) :: (5, 0, 6) :: l) 8 = true := ir_ub_s h4
  refine iv_Ret.stl [28] (ls' := [ivR 5]) (st' := []) (w' := (8, iv_mu0 xs, ir_app ((5, 2, 8) :: (5, 1, 7) :: (5, 0, 6) :: l))) rfl ?_
  have h6 : ir_ub ((5, 2, 8) :: (5, 1, 7) :: (5, 0, 6) :: l) 8 = true := ir_ub_c rfl h5
  exact ⟨1, rfl⟩
theorem ic_X1_init_9_ub {l : List (Nat × Nat × Nat)} (h : ir_ub l 9 = true) : ir_ub ((9, 0, 10) :: l) 10 = true := ir_ub_a [(9, 0, 10)] rfl (by decide) h
theorem ic_X1_init_9 (L : Nat) (xs : Nat → Int32) {l : List (Nat × Nat × Nat)} (h : ir_ub l 9 = true) : iv_Ret L 11 0 [ivR 9] [] (9, iv_mu0 xs, ir_app l) none (10, iv_mu0 xs, ir_app ((9, 0, 10) :: l)) := by
  refine iv_Ret.stl [1] (ls' := [ivR 9]) (st' := [ivR 9]) (w' := (9, iv_mu0 xs, ir_app (l))) rfl ?_
  refine ic_obj rfl rfl rfl rfl ?_
  refine iv_Ret.stl [5, 7] (ls' := [ivR 9]) (st' := [ivI 6, ivR 9]) (w' := (9, iv_mu0 xs, ir_app (l))) rfl ?_
  refine ic_na (x := 6) (n := 9) rfl rfl rfl (by decide) h ?_
  have h1 : ir_ub (l) 10 = true := ir_ub_s h
  refine iv_Ret.stl [12] (ls' := [ivR 9]) (st' := []) (w' := (10, iv_mu0 xs, ir_app ((9, 0, 10) :: l))) rfl ?_
  have h2 : ir_ub ((9, 0, 10) :: l) 10 = true := ir_ub_c rfl h1
  exact ⟨1, rfl⟩
theorem ic_X2_init_11_ub {l : List (Nat × Nat × Nat)} (h : ir_ub l 11 = true) : ir_ub ((11, 2, 14) :: (11, 1, 13) :: (11, 0, 12) :: l) 14 = true := ir_ub_a [(11, 2, 14), (11, 1, 13), (11, 0, 12)] rfl (by decide) h
theorem ic_X2_init_11 (L : Nat) (xs : Nat → Int32) {l : List (Nat × Nat × Nat)} (h : ir_ub l 11 = true) : iv_Ret L 17 0 [ivR 11] [] (11, iv_mu0 xs, ir_app l) none (14, iv_mu0 xs, ir_app ((11, 2, 14) :: (11, 1, 13) :: (11, 0, 12) :: l)) := by
  refine iv_Ret.stl [1] (ls' := [ivR 11]) (st' := [ivR 11]) (w' := (11, iv_mu0 xs, ir_app (l))) rfl ?_
  refine ic_obj rfl rfl rfl rfl ?_
  refine iv_Ret.stl [5, 7] (ls' := [ivR 11]) (st' := [ivI 8, ivR 11]) (w' := (11, iv_mu0 xs, ir_app (l))) rfl ?_
  refine ic_na (x := 8) (n := 11) rfl rfl rfl (by decide) h ?_
  have h1 : ir_ub (l) 12 = true := ir_ub_s h
  refine iv_Ret.stl [12] (ls' := [ivR 11]) (st' := []) (w' := (12, iv_mu0 xs, ir_app ((11, 0, 12) :: l))) rfl ?_
  have h2 : ir_ub ((11, 0, 12) :: l) 12 = true := ir_ub_c rfl h1
  refine iv_Ret.stl [13, 15] (ls' := [ivR 11]) (st' := [ivI 8, ivR 11]) (w' := (12, iv_mu0 xs, ir_app ((11, 0, 12) :: l))) rfl ?_
  refine ic_na (x := 8) (n := 12) rfl rfl rfl (by decide) h2 ?_
  have h3 : ir_ub ((11, 0, 12) :: l) 13 = true := ir_ub_s h2
  refine iv_Ret.stl [20] (ls' := [ivR 11]) (st' := []) (w' := (13, iv_mu0 xs, ir_app ((11, 1, 13) :: (11, 0, 12) :: l))) rfl ?_
  have h4 : ir_ub ((11, 1, 13) :: (11, 0, 12) :: l) 13 = true := ir_ub_c rfl h3
  refine iv_Ret.stl [21, 23] (ls' := [ivR 11]) (st' := [ivI 8, ivR 11]) (w' := (13, iv_mu0 xs, ir_app ((11, 1, 13) :: (11, 0, 12) :: l))) rfl ?_
  refine ic_na (x := 8) (n := 13) rfl rfl rfl (by decide) h4 ?_
  have h5 : ir_ub ((11, 1, 13) :: (11, 0, 12) :: l) 14 = true := ir_ub_s h4
  refine iv_Ret.stl [28] (ls' := [ivR 11]) (st' := []) (w' := (14, iv_mu0 xs, ir_app ((11, 2, 14) :: (11, 1, 13) :: (11, 0, 12) :: l))) rfl ?_
  have h6 : ir_ub ((11, 2, 14) :: (11, 1, 13) :: (11, 0, 12) :: l) 14 = true := ir_ub_c rfl h5
  exact ⟨1, rfl⟩
theorem ic_X2_init_16_ub {l : List (Nat × Nat × Nat)} (h : ir_ub l 16 = true) : ir_ub ((16, 2, 19) :: (16, 1, 18) :: (16, 0, 17) :: l) 19 = true := ir_ub_a [(16, 2, 19), (16, 1, 18), (16, 0, 17)] rfl (by decide) h
theorem ic_X2_init_16 (L : Nat) (xs : Nat → Int32) {l : List (Nat × Nat × Nat)} (h : ir_ub l 16 = true) : iv_Ret L 17 0 [ivR 16] [] (16, iv_mu0 xs, ir_app l) none (19, iv_mu0 xs, ir_app ((16, 2, 19) :: (16, 1, 18) :: (16, 0, 17) :: l)) := by
  refine iv_Ret.stl [1] (ls' := [ivR 16]) (st' := [ivR 16]) (w' := (16, iv_mu0 xs, ir_app (l))) rfl ?_
  refine ic_obj rfl rfl rfl rfl ?_
  refine iv_Ret.stl [5, 7] (ls' := [ivR 16]) (st' := [ivI 8, ivR 16]) (w' := (16, iv_mu0 xs, ir_app (l))) rfl ?_
  refine ic_na (x := 8) (n := 16) rfl rfl rfl (by decide) h ?_
  have h1 : ir_ub (l) 17 = true := ir_ub_s h
  refine iv_Ret.stl [12] (ls' := [ivR 16]) (st' := []) (w' := (17, iv_mu0 xs, ir_app ((16, 0, 17) :: l))) rfl ?_
  have h2 : ir_ub ((16, 0, 17) :: l) 17 = true := ir_ub_c rfl h1
  refine iv_Ret.stl [13, 15] (ls' := [ivR 16]) (st' := [ivI 8, ivR 16]) (w' := (17, iv_mu0 xs, ir_app ((16, 0, 17) :: l))) rfl ?_
  refine ic_na (x := 8) (n := 17) rfl rfl rfl (by decide) h2 ?_
  have h3 : ir_ub ((16, 0, 17) :: l) 18 = true := ir_ub_s h2
  refine iv_Ret.stl [20] (ls' := [ivR 16]) (st' := []) (w' := (18, iv_mu0 xs, ir_app ((16, 1, 18) :: (16, 0, 17) :: l))) rfl ?_
  have h4 : ir_ub ((16, 1, 18) :: (16, 0, 17) :: l) 18 = true := ir_ub_c rfl h3
  refine iv_Ret.stl [21, 23] (ls' := [ivR 16]) (st' := [ivI 8, ivR 16]) (w' := (18, iv_mu0 xs, ir_app ((16, 1, 18) :: (16, 0, 17) :: l))) rfl ?_
  refine ic_na (x := 8) (n := 18) rfl rfl rfl (by decide) h4 ?_
  have h5 : ir_ub ((16, 1, 18) :: (16, 0, 17) :: l) 19 = true := ir_ub_s h4
  refine iv_Ret.stl [28] (ls' := [ivR 16]) (st' := []) (w' := (19, iv_mu0 xs, ir_app ((16, 2, 19) :: (16, 1, 18) :: (16, 0, 17) :: l))) rfl ?_
  have h6 : ir_ub ((16, 2, 19) :: (16, 1, 18) :: (16, 0, 17) :: l) 19 = true := ir_ub_c rfl h5
  exact ⟨1, rfl⟩
theorem ic_X2_init_20_ub {l : List (Nat × Nat × Nat)} (h : ir_ub l 20 = true) : ir_ub ((20, 2, 23) :: (20, 1, 22) :: (20, 0, 21) :: l) 23 = true := ir_ub_a [(20, 2, 23), (20, 1, 22), (20, 0, 21)] rfl (by decide) h
theorem ic_X2_init_20 (L : Nat) (xs : Nat → Int32) {l : List (Nat × Nat × Nat)} (h : ir_ub l 20 = true) : iv_Ret L 17 0 [ivR 20] [] (20, iv_mu0 xs, ir_app l) none (23, iv_mu0 xs, ir_app ((20, 2, 23) :: (20, 1, 22) :: (20, 0, 21) :: l)) := by
  refine iv_Ret.stl [1] (ls' := [ivR 20]) (st' := [ivR 20]) (w' := (20, iv_mu0 xs, ir_app (l))) rfl ?_
  refine ic_obj rfl rfl rfl rfl ?_
  refine iv_Ret.stl [5, 7] (ls' := [ivR 20]) (st' := [ivI 8, ivR 20]) (w' := (20, iv_mu0 xs, ir_app (l))) rfl ?_
  refine ic_na (x := 8) (n := 20) rfl rfl rfl (by decide) h ?_
  have h1 : ir_ub (l) 21 = true := ir_ub_s h
  refine iv_Ret.stl [12] (ls' := [ivR 20]) (st' := []) (w' := (21, iv_mu0 xs, ir_app ((20, 0, 21) :: l))) rfl ?_
  have h2 : ir_ub ((20, 0, 21) :: l) 21 = true := ir_ub_c rfl h1
  refine iv_Ret.stl [13, 15] (ls' := [ivR 20]) (st' := [ivI 8, ivR 20]) (w' := (21, iv_mu0 xs, ir_app ((20, 0, 21) :: l))) rfl ?_
  refine ic_na (x := 8) (n := 21) rfl rfl rfl (by decide) h2 ?_
  have h3 : ir_ub ((20, 0, 21) :: l) 22 = true := ir_ub_s h2
  refine iv_Ret.stl [20] (ls' := [ivR 20]) (st' := []) (w' := (22, iv_mu0 xs, ir_app ((20, 1, 22) :: (20, 0, 21) :: l))) rfl ?_
  have h4 : ir_ub ((20, 1, 22) :: (20, 0, 21) :: l) 22 = true := ir_ub_c rfl h3
  refine iv_Ret.stl [21, 23] (ls' := [ivR 20]) (st' := [ivI 8, ivR 20]) (w' := (22, iv_mu0 xs, ir_app ((20, 1, 22) :: (20, 0, 21) :: l))) rfl ?_
  refine ic_na (x := 8) (n := 22) rfl rfl rfl (by decide) h4 ?_
  have h5 : ir_ub ((20, 1, 22) :: (20, 0, 21) :: l) 23 = true := ir_ub_s h4
  refine iv_Ret.stl [28] (ls' := [ivR 20]) (st' := []) (w' := (23, iv_mu0 xs, ir_app ((20, 2, 23) :: (20, 1, 22) :: (20, 0, 21) :: l))) rfl ?_
  have h6 : ir_ub ((20, 2, 23) :: (20, 1, 22) :: (20, 0, 21) :: l) 23 = true := ir_ub_c rfl h5
  exact ⟨1, rfl⟩
theorem ic_X4_init_24_ub {l : List (Nat × Nat × Nat)} (h : ir_ub l 24 = true) : ir_ub ((24, 0, 25) :: (25, 5, 31) :: (25, 4, 30) :: (25, 3, 29) :: (25, 2, 28) :: (25, 1, 27) :: (25, 0, 26) :: l) 31 = true := ir_ub_a [(24, 0, 25), (25, 5, 31), (25, 4, 30), (25, 3, 29), (25, 2, 28), (25, 1, 27), (25, 0, 26)] rfl (by decide) h
theorem ic_X4_init_24 (L : Nat) (xs : Nat → Int32) {l : List (Nat × Nat × Nat)} (h : ir_ub l 24 = true) : iv_Ret L 28 0 [ivR 24] [] (24, iv_mu0 xs, ir_app l) none (31, iv_mu0 xs, ir_app ((24, 0, 25) :: (25, 5, 31) :: (25, 4, 30) :: (25, 3, 29) :: (25, 2, 28) :: (25, 1, 27) :: (25, 0, 26) :: l)) := by
  refine iv_Ret.stl [1] (ls' := [ivR 24]) (st' := [ivR 24]) (w' := (24, iv_mu0 xs, ir_app (l))) rfl ?_
  refine ic_obj rfl rfl rfl rfl ?_
  refine iv_Ret.stl [5, 7, 9] (ls' := [ivR 24]) (st' := [ivI 6, ivI 6, ivR 24]) (w' := (24, iv_mu0 xs, ir_app (l))) rfl ?_
  refine ic_mul (n := 24) rfl rfl (by decide) h ?_
  have h1 : ir_ub ((25, 5, 31) :: (25, 4, 30) :: (25, 3, 29) :: (25, 2, 28) :: (25, 1, 27) :: (25, 0, 26) :: l) 31 = true := ir_ub_m h
  refine iv_Ret.stl [16] (ls' := [ivR 24]) (st' := []) (w' := (31, iv_mu0 xs, ir_app ((24, 0, 25) :: (25, 5, 31) :: (25, 4, 30) :: (25, 3, 29) :: (25, 2, 28) :: (25, 1, 27) :: (25, 0, 26) :: l))) rfl ?_
  have h2 : ir_ub ((24, 0, 25) :: (25, 5, 31) :: (25, 4, 30) :: (25, 3, 29) :: (25, 2, 28) :: (25, 1, 27) :: (25, 0, 26) :: l) 31 = true := ir_ub_c rfl h1
  exact ⟨1, rfl⟩
theorem ic_X4_init_35_ub {l : List (Nat × Nat × Nat)} (h : ir_ub l 35 = true) : ir_ub ((35, 0, 36) :: (36, 5, 42) :: (36, 4, 41) :: (36, 3, 40) :: (36, 2, 39) :: (36, 1, 38) :: (36, 0, 37) :: l) 42 = true := ir_ub_a [(35, 0, 36), (36, 5, 42), (36, 4, 41), (36, 3, 40), (36, 2, 39), (36, 1, 38), (36, 0, 37)] rfl (by decide) h
theorem ic_X4_init_35 (L : Nat) (xs : Nat → Int32) {l : List (Nat × Nat × Nat)} (h : ir_ub l 35 = true) : iv_Ret L 28 0 [ivR 35] [] (35, iv_mu0 xs, ir_app l) none (42, iv_mu0 xs, ir_app ((35, 0, 36) :: (36, 5, 42) :: (36, 4, 41) :: (36, 3, 40) :: (36, 2, 39) :: (36, 1, 38) :: (36, 0, 37) :: l)) := by
  refine iv_Ret.stl [1] (ls' := [ivR 35]) (st' := [ivR 35]) (w' := (35, iv_mu0 xs, ir_app (l))) rfl ?_
  refine ic_obj rfl rfl rfl rfl ?_
  refine iv_Ret.stl [5, 7, 9] (ls' := [ivR 35]) (st' := [ivI 6, ivI 6, ivR 35]) (w' := (35, iv_mu0 xs, ir_app (l))) rfl ?_
  refine ic_mul (n := 35) rfl rfl (by decide) h ?_
  have h1 : ir_ub ((36, 5, 42) :: (36, 4, 41) :: (36, 3, 40) :: (36, 2, 39) :: (36, 1, 38) :: (36, 0, 37) :: l) 42 = true := ir_ub_m h
  refine iv_Ret.stl [16] (ls' := [ivR 35]) (st' := []) (w' := (42, iv_mu0 xs, ir_app ((35, 0, 36) :: (36, 5, 42) :: (36, 4, 41) :: (36, 3, 40) :: (36, 2, 39) :: (36, 1, 38) :: (36, 0, 37) :: l))) rfl ?_
  have h2 : ir_ub ((35, 0, 36) :: (36, 5, 42) :: (36, 4, 41) :: (36, 3, 40) :: (36, 2, 39) :: (36, 1, 38) :: (36, 0, 37) :: l) 42 = true := ir_ub_c rfl h1
  exact ⟨1, rfl⟩
theorem ic_X4_init_43_ub {l : List (Nat × Nat × Nat)} (h : ir_ub l 43 = true) : ir_ub ((43, 0, 44) :: (44, 5, 50) :: (44, 4, 49) :: (44, 3, 48) :: (44, 2, 47) :: (44, 1, 46) :: (44, 0, 45) :: l) 50 = true := ir_ub_a [(43, 0, 44), (44, 5, 50), (44, 4, 49), (44, 3, 48), (44, 2, 47), (44, 1, 46), (44, 0, 45)] rfl (by decide) h
theorem ic_X4_init_43 (L : Nat) (xs : Nat → Int32) {l : List (Nat × Nat × Nat)} (h : ir_ub l 43 = true) : iv_Ret L 28 0 [ivR 43] [] (43, iv_mu0 xs, ir_app l) none (50, iv_mu0 xs, ir_app ((43, 0, 44) :: (44, 5, 50) :: (44, 4, 49) :: (44, 3, 48) :: (44, 2, 47) :: (44, 1, 46) :: (44, 0, 45) :: l)) := by
  refine iv_Ret.stl [1] (ls' := [ivR 43]) (st' := [ivR 43]) (w' := (43, iv_mu0 xs, ir_app (l))) rfl ?_
  refine ic_obj rfl rfl rfl rfl ?_
  refine iv_Ret.stl [5, 7, 9] (ls' := [ivR 43]) (st' := [ivI 6, ivI 6, ivR 43]) (w' := (43, iv_mu0 xs, ir_app (l))) rfl ?_
  refine ic_mul (n := 43) rfl rfl (by decide) h ?_
  have h1 : ir_ub ((44, 5, 50) :: (44, 4, 49) :: (44, 3, 48) :: (44, 2, 47) :: (44, 1, 46) :: (44, 0, 45) :: l) 50 = true := ir_ub_m h
  refine iv_Ret.stl [16] (ls' := [ivR 43]) (st' := []) (w' := (50, iv_mu0 xs, ir_app ((43, 0, 44) :: (44, 5, 50) :: (44, 4, 49) :: (44, 3, 48) :: (44, 2, 47) :: (44, 1, 46) :: (44, 0, 45) :: l))) rfl ?_
  have h2 : ir_ub ((43, 0, 44) :: (44, 5, 50) :: (44, 4, 49) :: (44, 3, 48) :: (44, 2, 47) :: (44, 1, 46) :: (44, 0, 45) :: l) 50 = true := ir_ub_c rfl h1
  exact ⟨1, rfl⟩
theorem ic_X4_init_51_ub {l : List (Nat × Nat × Nat)} (h : ir_ub l 51 = true) : ir_ub ((51, 0, 52) :: (52, 5, 58) :: (52, 4, 57) :: (52, 3, 56) :: (52, 2, 55) :: (52, 1, 54) :: (52, 0, 53) :: l) 58 = true := ir_ub_a [(51, 0, 52), (52, 5, 58), (52, 4, 57), (52, 3, 56), (52, 2, 55), (52, 1, 54), (52, 0, 53)] rfl (by decide) h
theorem ic_X4_init_51 (L : Nat) (xs : Nat → Int32) {l : List (Nat × Nat × Nat)} (h : ir_ub l 51 = true) : iv_Ret L 28 0 [ivR 51] [] (51, iv_mu0 xs, ir_app l) none (58, iv_mu0 xs, ir_app ((51, 0, 52) :: (52, 5, 58) :: (52, 4, 57) :: (52, 3, 56) :: (52, 2, 55) :: (52, 1, 54) :: (52, 0, 53) :: l)) := by
  refine iv_Ret.stl [1] (ls' := [ivR 51]) (st' := [ivR 51]) (w' := (51, iv_mu0 xs, ir_app (l))) rfl ?_
  refine ic_obj rfl rfl rfl rfl ?_
  refine iv_Ret.stl [5, 7, 9] (ls' := [ivR 51]) (st' := [ivI 6, ivI 6, ivR 51]) (w' := (51, iv_mu0 xs, ir_app (l))) rfl ?_
  refine ic_mul (n := 51) rfl rfl (by decide) h ?_
  have h1 : ir_ub ((52, 5, 58) :: (52, 4, 57) :: (52, 3, 56) :: (52, 2, 55) :: (52, 1, 54) :: (52, 0, 53) :: l) 58 = true := ir_ub_m h
  refine iv_Ret.stl [16] (ls' := [ivR 51]) (st' := []) (w' := (58, iv_mu0 xs, ir_app ((51, 0, 52) :: (52, 5, 58) :: (52, 4, 57) :: (52, 3, 56) :: (52, 2, 55) :: (52, 1, 54) :: (52, 0, 53) :: l))) rfl ?_
  have h2 : ir_ub ((51, 0, 52) :: (52, 5, 58) :: (52, 4, 57) :: (52, 3, 56) :: (52, 2, 55) :: (52, 1, 54) :: (52, 0, 53) :: l) 58 = true := ir_ub_c rfl h1
  exact ⟨1, rfl⟩
theorem ic_X4_init_59_ub {l : List (Nat × Nat × Nat)} (h : ir_ub l 59 = true) : ir_ub ((59, 0, 60) :: (60, 5, 66) :: (60, 4, 65) :: (60, 3, 64) :: (60, 2, 63) :: (60, 1, 62) :: (60, 0, 61) :: l) 66 = true := ir_ub_a [(59, 0, 60), (60, 5, 66), (60, 4, 65), (60, 3, 64), (60, 2, 63), (60, 1, 62), (60, 0, 61)] rfl (by decide) h
theorem ic_X4_init_59 (L : Nat) (xs : Nat → Int32) {l : List (Nat × Nat × Nat)} (h : ir_ub l 59 = true) : iv_Ret L 28 0 [ivR 59] [] (59, iv_mu0 xs, ir_app l) none (66, iv_mu0 xs, ir_app ((59, 0, 60) :: (60, 5, 66) :: (60, 4, 65) :: (60, 3, 64) :: (60, 2, 63) :: (60, 1, 62) :: (60, 0, 61) :: l)) := by
  refine iv_Ret.stl [1] (ls' := [ivR 59]) (st' := [ivR 59]) (w' := (59, iv_mu0 xs, ir_app (l))) rfl ?_
  refine ic_obj rfl rfl rfl rfl ?_
  refine iv_Ret.stl [5, 7, 9] (ls' := [ivR 59]) (st' := [ivI 6, ivI 6, ivR 59]) (w' := (59, iv_mu0 xs, ir_app (l))) rfl ?_
  refine ic_mul (n := 59) rfl rfl (by decide) h ?_
  have h1 : ir_ub ((60, 5, 66) :: (60, 4, 65) :: (60, 3, 64) :: (60, 2, 63) :: (60, 1, 62) :: (60, 0, 61) :: l) 66 = true := ir_ub_m h
  refine iv_Ret.stl [16] (ls' := [ivR 59]) (st' := []) (w' := (66, iv_mu0 xs, ir_app ((59, 0, 60) :: (60, 5, 66) :: (60, 4, 65) :: (60, 3, 64) :: (60, 2, 63) :: (60, 1, 62) :: (60, 0, 61) :: l))) rfl ?_
  have h2 : ir_ub ((59, 0, 60) :: (60, 5, 66) :: (60, 4, 65) :: (60, 3, 64) :: (60, 2, 63) :: (60, 1, 62) :: (60, 0, 61) :: l) 66 = true := ir_ub_c rfl h1
  exact ⟨1, rfl⟩
theorem ic_X4_init_67_ub {l : List (Nat × Nat × Nat)} (h : ir_ub l 67 = true) : ir_ub ((67, 0, 68) :: (68, 5, 74) :: (68, 4, 73) :: (68, 3, 72) :: (68, 2, 71) :: (68, 1, 70) :: (68, 0, 69) :: l) 74 = true := ir_ub_a [(67, 0, 68), (68, 5, 74), (68, 4, 73), (68, 3, 72), (68, 2, 71), (68, 1, 70), (68, 0, 69)] rfl (by decide) h
theorem ic_X4_init_67 (L : Nat) (xs : Nat → Int32) {l : List (Nat × Nat × Nat)} (h : ir_ub l 67 = true) : iv_Ret L 28 0 [ivR 67] [] (67, iv_mu0 xs, ir_app l) none (74, iv_mu0 xs, ir_app ((67, 0, 68) :: (68, 5, 74) :: (68, 4, 73) :: (68, 3, 72) :: (68, 2, 71) :: (68, 1, 70) :: (68, 0, 69) :: l)) := by
  refine iv_Ret.stl [1] (ls' := [ivR 67]) (st' := [ivR 67]) (w' := (67, iv_mu0 xs, ir_app (l))) rfl ?_
  refine ic_obj rfl rfl rfl rfl ?_
  refine iv_Ret.stl [5, 7, 9] (ls' := [ivR 67]) (st' := [ivI 6, ivI 6, ivR 67]) (w' := (67, iv_mu0 xs, ir_app (l))) rfl ?_
  refine ic_mul (n := 67) rfl rfl (by decide) h ?_
  have h1 : ir_ub ((68, 5, 74) :: (68, 4, 73) :: (68, 3, 72) :: (68, 2, 71) :: (68, 1, 70) :: (68, 0, 69) :: l) 74 = true := ir_ub_m h
  refine iv_Ret.stl [16] (ls' := [ivR 67]) (st' := []) (w' := (74, iv_mu0 xs, ir_app ((67, 0, 68) :: (68, 5, 74) :: (68, 4, 73) :: (68, 3, 72) :: (68, 2, 71) :: (68, 1, 70) :: (68, 0, 69) :: l))) rfl ?_
  have h2 : ir_ub ((67, 0, 68) :: (68, 5, 74) :: (68, 4, 73) :: (68, 3, 72) :: (68, 2, 71) :: (68, 1, 70) :: (68, 0, 69) :: l) 74 = true := ir_ub_c rfl h1
  exact ⟨1, rfl⟩
theorem ic_X4_init_75_ub {l : List (Nat × Nat × Nat)} (h : ir_ub l 75 = true) : ir_ub ((75, 0, 76) :: (76, 5, 82) :: (76, 4, 81) :: (76, 3, 80) :: (76, 2, 79) :: (76, 1, 78) :: (76, 0, 77) :: l) 82 = true := ir_ub_a [(75, 0, 76), (76, 5, 82), (76, 4, 81), (76, 3, 80), (76, 2, 79), (76, 1, 78), (76, 0, 77)] rfl (by decide) h
theorem ic_X4_init_75 (L : Nat) (xs : Nat → Int32) {l : List (Nat × Nat × Nat)} (h : ir_ub l 75 = true) : iv_Ret L 28 0 [ivR 75] [] (75, iv_mu0 xs, ir_app l) none (82, iv_mu0 xs, ir_app ((75, 0, 76) :: (76, 5, 82) :: (76, 4, 81) :: (76, 3, 80) :: (76, 2, 79) :: (76, 1, 78) :: (76, 0, 77) :: l)) := by
  refine iv_Ret.stl [1] (ls' := [ivR 75]) (st' := [ivR 75]) (w' := (75, iv_mu0 xs, ir_app (l))) rfl ?_
  refine ic_obj rfl rfl rfl rfl ?_
  refine iv_Ret.stl [5, 7, 9] (ls' := [ivR 75]) (st' := [ivI 6, ivI 6, ivR 75]) (w' := (75, iv_mu0 xs, ir_app (l))) rfl ?_
  refine ic_mul (n := 75) rfl rfl (by decide) h ?_
  have h1 : ir_ub ((76, 5, 82) :: (76, 4, 81) :: (76, 3, 80) :: (76, 2, 79) :: (76, 1, 78) :: (76, 0, 77) :: l) 82 = true := ir_ub_m h
  refine iv_Ret.stl [16] (ls' := [ivR 75]) (st' := []) (w' := (82, iv_mu0 xs, ir_app ((75, 0, 76) :: (76, 5, 82) :: (76, 4, 81) :: (76, 3, 80) :: (76, 2, 79) :: (76, 1, 78) :: (76, 0, 77) :: l))) rfl ?_
  have h2 : ir_ub ((75, 0, 76) :: (76, 5, 82) :: (76, 4, 81) :: (76, 3, 80) :: (76, 2, 79) :: (76, 1, 78) :: (76, 0, 77) :: l) 82 = true := ir_ub_c rfl h1
  exact ⟨1, rfl⟩
theorem ic_X4_init_83_ub {l : List (Nat × Nat × Nat)} (h : ir_ub l 83 = true) : ir_ub ((83, 0, 84) :: (84, 5, 90) :: (84, 4, 89) :: (84, 3, 88) :: (84, 2, 87) :: (84, 1, 86) :: (84, 0, 85) :: l) 90 = true := ir_ub_a [(83, 0, 84), (84, 5, 90), (84, 4, 89), (84, 3, 88), (84, 2, 87), (84, 1, 86), (84, 0, 85)] rfl (by decide) h
theorem ic_X4_init_83 (L : Nat) (xs : Nat → Int32) {l : List (Nat × Nat × Nat)} (h : ir_ub l 83 = true) : iv_Ret L 28 0 [ivR 83] [] (83, iv_mu0 xs, ir_app l) none (90, iv_mu0 xs, ir_app ((83, 0, 84) :: (84, 5, 90) :: (84, 4, 89) :: (84, 3, 88) :: (84, 2, 87) :: (84, 1, 86) :: (84, 0, 85) :: l)) := by
  refine iv_Ret.stl [1] (ls' := [ivR 83]) (st' := [ivR 83]) (w' := (83, iv_mu0 xs, ir_app (l))) rfl ?_
  refine ic_obj rfl rfl rfl rfl ?_
  refine iv_Ret.stl [5, 7, 9] (ls' := [ivR 83]) (st' := [ivI 6, ivI 6, ivR 83]) (w' := (83, iv_mu0 xs, ir_app (l))) rfl ?_
  refine ic_mul (n := 83) rfl rfl (by decide) h ?_
  have h1 : ir_ub ((84, 5, 90) :: (84, 4, 89) :: (84, 3, 88) :: (84, 2, 87) :: (84, 1, 86) :: (84, 0, 85) :: l) 90 = true := ir_ub_m h
  refine iv_Ret.stl [16] (ls' := [ivR 83]) (st' := []) (w' := (90, iv_mu0 xs, ir_app ((83, 0, 84) :: (84, 5, 90) :: (84, 4, 89) :: (84, 3, 88) :: (84, 2, 87) :: (84, 1, 86) :: (84, 0, 85) :: l))) rfl ?_
  have h2 : ir_ub ((83, 0, 84) :: (84, 5, 90) :: (84, 4, 89) :: (84, 3, 88) :: (84, 2, 87) :: (84, 1, 86) :: (84, 0, 85) :: l) 90 = true := ir_ub_c rfl h1
  exact ⟨1, rfl⟩
theorem ic_X4_init_91_ub {l : List (Nat × Nat × Nat)} (h : ir_ub l 91 = true) : ir_ub ((91, 0, 92) :: (92, 5, 98) :: (92, 4, 97) :: (92, 3, 96) :: (92, 2, 95) :: (92, 1, 94) :: (92, 0, 93) :: l) 98 = true := ir_ub_a [(91, 0, 92), (92, 5, 98), (92, 4, 97), (92, 3, 96), (92, 2, 95), (92, 1, 94), (92, 0, 93)] rfl (by decide) h
theorem ic_X4_init_91 (L : Nat) (xs : Nat → Int32) {l : List (Nat × Nat × Nat)} (h : ir_ub l 91 = true) : iv_Ret L 28 0 [ivR 91] [] (91, iv_mu0 xs, ir_app l) none (98, iv_mu0 xs, ir_app ((91, 0, 92) :: (92, 5, 98) :: (92, 4, 97) :: (92, 3, 96) :: (92, 2, 95) :: (92, 1, 94) :: (92, 0, 93) :: l)) := by
  refine iv_Ret.stl [1] (ls' := [ivR 91]) (st' := [ivR 91]) (w' := (91, iv_mu0 xs, ir_app (l))) rfl ?_
  refine ic_obj rfl rfl rfl rfl ?_
  refine iv_Ret.stl [5, 7, 9] (ls' := [ivR 91]) (st' := [ivI 6, ivI 6, ivR 91]) (w' := (91, iv_mu0 xs, ir_app (l))) rfl ?_
  refine ic_mul (n := 91) rfl rfl (by decide) h ?_
  have h1 : ir_ub ((92, 5, 98) :: (92, 4, 97) :: (92, 3, 96) :: (92, 2, 95) :: (92, 1, 94) :: (92, 0, 93) :: l) 98 = true := ir_ub_m h
  refine iv_Ret.stl [16] (ls' := [ivR 91]) (st' := []) (w' := (98, iv_mu0 xs, ir_app ((91, 0, 92) :: (92, 5, 98) :: (92, 4, 97) :: (92, 3, 96) :: (92, 2, 95) :: (92, 1, 94) :: (92, 0, 93) :: l))) rfl ?_
  have h2 : ir_ub ((91, 0, 92) :: (92, 5, 98) :: (92, 4, 97) :: (92, 3, 96) :: (92, 2, 95) :: (92, 1, 94) :: (92, 0, 93) :: l) 98 = true := ir_ub_c rfl h1
  exact ⟨1, rfl⟩
theorem ic_X5_init_32_ub {l : List (Nat × Nat × Nat)} (h : ir_ub l 32 = true) : ir_ub ((34, 7, 91) :: (91, 0, 92) :: (92, 5, 98) :: (92, 4, 97) :: (92, 3, 96) :: (92, 2, 95) :: (92, 1, 94) :: (92, 0, 93) :: (34, 6, 83) :: (83, 0, 84) :: (84, 5, 90) :: (84, 4, 89) :: (84, 3, 88) :: (84, 2, 87) :: (84, 1, 86) :: (84, 0, 85) :: (34, 5, 75) :: (75, 0, 76) :: (76, 5, 82) :: (76, 4, 81) :: (76, 3, 80) :: (76, 2, 79) :: (76, 1, 78) :: (76, 0, 77) :: (34, 4, 67) :: (67, 0, 68) :: (68, 5, 74) :: (68, 4, 73) :: (68, 3, 72) :: (68, 2, 71) :: (68, 1, 70) :: (68, 0, 69) :: (34, 3, 59) :: (59, 0, 60) :: (60, 5, 66) :: (60, 4, 65) :: (60, 3, 64) :: (60, 2, 63) :: (60, 1, 62) :: (60, 0, 61) :: (34, 2, 51) :: (51, 0, 52) :: (52, 5, 58) :: (52, 4, 57) :: (52, 3, 56) :: (52, 2, 55) :: (52, 1, 54) :: (52, 0, 53) :: (34, 1, 43) :: (43, 0, 44) :: (44, 5, 50) :: (44, 4, 49) :: (44, 3, 48) :: (44, 2, 47) :: (44, 1, 46) :: (44, 0, 45) :: (34, 0, 35) :: (35, 0, 36) :: (36, 5, 42) :: (36, 4, 41) :: (36, 3, 40) :: (36, 2, 39) :: (36, 1, 38) :: (36, 0, 37) :: (32, 0, 34) :: (32, 1, 33) :: l) 98 = true := ir_ub_a [(34, 7, 91), (91, 0, 92), (92, 5, 98), (92, 4, 97), (92, 3, 96), (92, 2, 95), (92, 1, 94), (92, 0, 93), (34, 6, 83), (83, 0, 84), (84, 5, 90), (84, 4, 89), (84, 3, 88), (84, 2, 87), (84, 1, 86), (84, 0, 85), (34, 5, 75), (75, 0, 76), (76, 5, 82), (76, 4, 81), (76, 3, 80), (76, 2, 79), (76, 1, 78), (76, 0, 77), (34, 4, 67), (67, 0, 68), (68, 5, 74), (68, 4, 73), (68, 3, 72), (68, 2, 71), (68, 1, 70), (68, 0, 69), (34, 3, 59), (59, 0, 60), (60, 5, 66), (60, 4, 65), (60, 3, 64), (60, 2, 63), (60, 1, 62), (60, 0, 61), (34, 2, 51), (51, 0, 52), (52, 5, 58), (52, 4, 57), (52, 3, 56), (52, 2, 55), (52, 1, 54), (52, 0, 53), (34, 1, 43), (43, 0, 44), (44, 5, 50), (44, 4, 49), (44, 3, 48), (44, 2, 47), (44, 1, 46), (44, 0, 45), (34, 0, 35), (35, 0, 36), (36, 5, 42), (36, 4, 41), (36, 3, 40), (36, 2, 39), (36, 1, 38), (36, 0, 37), (32, 0, 34), (32, 1, 33)] rfl (by decide) h
theorem ic_X5_init_32 (L : Nat) (xs : Nat → Int32) {l : List (Nat × Nat × Nat)} (h : ir_ub l 32 = true) : iv_Ret L 33 0 [ivR 32, ivU] [] (32, iv_mu0 xs, ir_app l) none (98, iv_mu0 xs, ir_app ((34, 7, 91) :: (91, 0, 92) :: (92, 5, 98) :: (92, 4, 97) :: (92, 3, 96) :: (92, 2, 95) :: (92, 1, 94) :: (92, 0, 93) :: (34, 6, 83) :: (83, 0, 84) :: (84, 5, 90) :: (84, 4, 89) :: (84, 3, 88) :: (84, 2, 87) :: (84, 1, 86) :: (84, 0, 85) :: (34, 5, 75) :: (75, 0, 76) :: (76, 5, 82) :: (76, 4, 81) :: (76, 3, 80) :: (76, 2, 79) :: (76, 1, 78) :: (76, 0, 77) :: (34, 4, 67) :: (67, 0, 68) :: (68, 5, 74) :: (68, 4, 73) :: (68, 3, 72) :: (68, 2, 71) :: (68, 1, 70) :: (68, 0, 69) :: (34, 3, 59) :: (59, 0, 60) :: (60, 5, 66) :: (60, 4, 65) :: (60, 3, 64) :: (60, 2, 63) :: (60, 1, 62) :: (60, 0, 61) :: (34, 2, 51) :: (51, 0, 52) :: (52, 5, 58) :: (52, 4, 57) :: (52, 3, 56) :: (52, 2, 55) :: (52, 1, 54) :: (52, 0, 53) :: (34, 1, 43) :: (43, 0, 44) :: (44, 5, 50) :: (44, 4, 49) :: (44, 3, 48) :: (44, 2, 47) :: (44, 1, 46) :: (44, 0, 45) :: (34, 0, 35) :: (35, 0, 36) :: (36, 5, 42) :: (36, 4, 41) :: (36, 3, 40) :: (36, 2, 39) :: (36, 1, 38) :: (36, 0, 37) :: (32, 0, 34) :: (32, 1, 33) :: l)) := by
  refine iv_Ret.stl [1] (ls' := [ivR 32, ivU]) (st' := [ivR 32]) (w' := (32, iv_mu0 xs, ir_app (l))) rfl ?_
  refine ic_obj rfl rfl rfl rfl ?_
  refine iv_Ret.stl [5, 6] (ls' := [ivR 32, ivU]) (st' := [ivI 5, ivR 32]) (w' := (32, iv_mu0 xs, ir_app (l))) rfl ?_
  refine ic_na (x := 5) (n := 32) rfl rfl rfl (by decide) h ?_
  have h1 : ir_ub (l) 33 = true := ir_ub_s h
  refine iv_Ret.stl [11] (ls' := [ivR 32, ivU]) (st' := []) (w' := (33, iv_mu0 xs, ir_app ((32, 1, 33) :: l))) rfl ?_
  have h2 : ir_ub ((32, 1, 33) :: l) 33 = true := ir_ub_c rfl h1
  refine iv_Ret.stl [12, 14] (ls' := [ivR 32, ivU]) (st' := [ivI 8, ivR 32]) (w' := (33, iv_mu0 xs, ir_app ((32, 1, 33) :: l))) rfl ?_
  refine ic_ana (x := 8) (n := 33) rfl rfl rfl (by decide) h2 ?_
  have h3 : ir_ub ((32, 1, 33) :: l) 34 = true := ir_ub_s h2
  refine iv_Ret.stl [20] (ls' := [ivR 32, ivU]) (st' := []) (w' := (34, iv_mu0 xs, ir_app ((32, 0, 34) :: (32, 1, 33) :: l))) rfl ?_
  have h4 : ir_ub ((32, 0, 34) :: (32, 1, 33) :: l) 34 = true := ir_ub_c rfl h3
  refine iv_Ret.stl [21, 22, 23, 25, 28, 29, 32, 33] (ls' := [ivR 32, ivI 0]) (st' := [ivI 0, ivR 34]) (w' := (34, iv_mu0 xs, ir_app ((32, 0, 34) :: (32, 1, 33) :: l))) rfl ?_
  refine ic_new (n := 34) rfl rfl (by decide) h4 ?_
  have h5 : ir_ub ((32, 0, 34) :: (32, 1, 33) :: l) 35 = true := ir_ub_s h4
  refine iv_Ret.stl [37] (ls' := [ivR 32, ivI 0]) (st' := [ivR 35, ivR 35, ivI 0, ivR 34]) (w' := (35, iv_mu0 xs, ir_app ((32, 0, 34) :: (32, 1, 33) :: l))) rfl ?_
  refine ic_call rfl rfl rfl (ic_X4_init_35 L xs h5) ?_
  have hz5 := ic_X4_init_35_ub h5
  have h6 : ir_ub ((35, 0, 36) :: (36, 5, 42) :: (36, 4, 41) :: (36, 3, 40) :: (36, 2, 39) :: (36, 1, 38) :: (36, 0, 37) :: (32, 0, 34) :: (32, 1, 33) :: l) 42 = true := hz5
  refine iv_Ret.stl [41] (ls' := [ivR 32, ivI 0]) (st' := []) (w' := (42, iv_mu0 xs, ir_app ((34, 0, 35) :: (35, 0, 36) :: (36, 5, 42) :: (36, 4, 41) :: (36, 3, 40) :: (36, 2, 39) :: (36, 1, 38) :: (36, 0, 37) :: (32, 0, 34) :: (32, 1, 33) :: l))) rfl ?_
  have h7 : ir_ub ((34, 0, 35) :: (35, 0, 36) :: (36, 5, 42) :: (36, 4, 41) :: (36, 3, 40) :: (36, 2, 39) :: (36, 1, 38) :: (36, 0, 37) :: (32, 0, 34) :: (32, 1, 33) :: l) 42 = true := ir_ub_c rfl h6
  refine iv_Ret.stl [44, 22, 23, 25, 28, 29, 32, 33] (ls' := [ivR 32, ivI 1]) (st' := [ivI 1, ivR 34]) (w' := (42, iv_mu0 xs, ir_app ((34, 0, 35) :: (35, 0, 36) :: (36, 5, 42) :: (36, 4, 41) :: (36, 3, 40) :: (36, 2, 39) :: (36, 1, 38) :: (36, 0, 37) :: (32, 0, 34) :: (32, 1, 33) :: l))) rfl ?_
  refine ic_new (n := 42) rfl rfl (by decide) h7 ?_
  have h8 : ir_ub ((34, 0, 35) :: (35, 0, 36) :: (36, 5, 42) :: (36, 4, 41) :: (36, 3, 40) :: (36, 2, 39) :: (36, 1, 38) :: (36, 0, 37) :: (32, 0, 34) :: (32, 1, 33) :: l) 43 = true := ir_ub_s h7
  refine iv_Ret.stl [37] (ls' := [ivR 32, ivI 1]) (st' := [ivR 43, ivR 43, ivI 1, ivR 34]) (w' := (43, iv_mu0 xs, ir_app ((34, 0, 35) :: (35, 0, 36) :: (36, 5, 42) :: (36, 4, 41) :: (36, 3, 40) :: (36, 2, 39) :: (36, 1, 38) :: (36, 0, 37) :: (32, 0, 34) :: (32, 1, 33) :: l))) rfl ?_
  refine ic_call rfl rfl rfl (ic_X4_init_43 L xs h8) ?_
  have hz8 := ic_X4_init_43_ub h8
  have h9 : ir_ub ((43, 0, 44) :: (44, 5, 50) :: (44, 4, 49) :: (44, 3, 48) :: (44, 2, 47) :: (44, 1, 46) :: (44, 0, 45) :: (34, 0, 35) :: (35, 0, 36) :: (36, 5, 42) :: (36, 4, 41) :: (36, 3, 40) :: (36, 2, 39) :: (36, 1, 38) :: (36, 0, 37) :: (32, 0, 34) :: (32, 1, 33) :: l) 50 = true := hz8
  refine iv_Ret.stl [41] (ls' := [ivR 32, ivI 1]) (st' := []) (w' := (50, iv_mu0 xs, ir_app ((34, 1, 43) :: (43, 0, 44) :: (44, 5, 50) :: (44, 4, 49) :: (44, 3, 48) :: (44, 2, 47) :: (44, 1, 46) :: (44, 0, 45) :: (34, 0, 35) :: (35, 0, 36) :: (36, 5, 42) :: (36, 4, 41) :: (36, 3, 40) :: (36, 2, 39) :: (36, 1, 38) :: (36, 0, 37) :: (32, 0, 34) :: (32, 1, 33) :: l))) rfl ?_
  have h10 : ir_ub ((34, 1, 43) :: (43, 0, 44) :: (44, 5, 50) :: (44, 4, 49) :: (44, 3, 48) :: (44, 2, 47) :: (44, 1, 46) :: (44, 0, 45) :: (34, 0, 35) :: (35, 0, 36) :: (36, 5, 42) :: (36, 4, 41) :: (36, 3, 40) :: (36, 2, 39) :: (36, 1, 38) :: (36, 0, 37) :: (32, 0, 34) :: (32, 1, 33) :: l) 50 = true := ir_ub_c rfl h9
  refine iv_Ret.stl [44, 22, 23, 25, 28, 29, 32, 33] (ls' := [ivR 32, ivI 2]) (st' := [ivI 2, ivR 34]) (w' := (50, iv_mu0 xs, ir_app ((34, 1, 43) :: (43, 0, 44) :: (44, 5, 50) :: (44, 4, 49) :: (44, 3, 48) :: (44, 2, 47) :: (44, 1, 46) :: (44, 0, 45) :: (34, 0, 35) :: (35, 0, 36) :: (36, 5, 42) :: (36, 4, 41) :: (36, 3, 40) :: (36, 2, 39) :: (36, 1, 38) :: (36, 0, 37) :: (32, 0, 34) :: (32, 1, 33) :: l))) rfl ?_
  refine ic_new (n := 50) rfl rfl (by decide) h10 ?_
  have h11 : ir_ub ((34, 1, 43) :: (43, 0, 44) :: (44, 5, 50) :: (44, 4, 49) :: (44, 3, 48) :: (44, 2, 47) :: (44, 1, 46) :: (44, 0, 45) :: (34, 0, 35) :: (35, 0, 36) :: (36, 5, 42) :: (36, 4, 41) :: (36, 3, 40) :: (36, 2, 39) :: (36, 1, 38) :: (36, 0, 37) :: (32, 0, 34) :: (32, 1, 33) :: l) 51 = true := ir_ub_s h10
  refine iv_Ret.stl [37] (ls' := [ivR 32, ivI 2]) (st' := [ivR 51, ivR 51, ivI 2, ivR 34]) (w' := (51, iv_mu0 xs, ir_app ((34, 1, 43) :: (43, 0, 44) :: (44, 5, 50) :: (44, 4, 49) :: (44, 3, 48) :: (44, 2, 47) :: (44, 1, 46) :: (44, 0, 45) :: (34, 0, 35) :: (35, 0, 36) :: (36, 5, 42) :: (36, 4, 41) :: (36, 3, 40) :: (36, 2, 39) :: (36, 1, 38) :: (36, 0, 37) :: (32, 0, 34) :: (32, 1, 33) :: l))) rfl ?_
  refine ic_call rfl rfl rfl (ic_X4_init_51 L xs h11) ?_
  have hz11 := ic_X4_init_51_ub h11
  have h12 : ir_ub ((51, 0, 52) :: (52, 5, 58) :: (52, 4, 57) :: (52, 3, 56) :: (52, 2, 55) :: (52, 1, 54) :: (52, 0, 53) :: (34, 1, 43) :: (43, 0, 44) :: (44, 5, 50) :: (44, 4, 49) :: (44, 3, 48) :: (44, 2, 47) :: (44, 1, 46) :: (44, 0, 45) :: (34, 0, 35) :: (35, 0, 36) :: (36, 5, 42) :: (36, 4, 41) :: (36, 3, 40) :: (36, 2, 39) :: (36, 1, 38) :: (36, 0, 37) :: (32, 0, 34) :: (32, 1, 33) :: l) 58 = true := hz11
  refine iv_Ret.stl [41] (ls' := [ivR 32, ivI 2]) (st' := []) (w' := (58, iv_mu0 xs, ir_app ((34, 2, 51) :: (51, 0, 52) :: (52, 5, 58) :: (52, 4, 57) :: (52, 3, 56) :: (52, 2, 55) :: (52, 1, 54) :: (52, 0, 53) :: (34, 1, 43) :: (43, 0, 44) :: (44, 5, 50) :: (44, 4, 49) :: (44, 3, 48) :: (44, 2, 47) :: (44, 1, 46) :: (44, 0, 45) :: (34, 0, 35) :: (35, 0, 36) :: (36, 5, 42) :: (36, 4, 41) :: (36, 3, 40) :: (36, 2, 39) :: (36, 1, 38) :: (36, 0, 37) :: (32, 0, 34) :: (32, 1, 33) :: l))) rfl ?_
  have h13 : ir_ub ((34, 2, 51) :: (51, 0, 52) :: (52, 5, 58) :: (52, 4, 57) :: (52, 3, 56) :: (52, 2, 55) :: (52, 1, 54) :: (52, 0, 53) :: (34, 1, 43) :: (43, 0, 44) :: (44, 5, 50) :: (44, 4, 49) :: (44, 3, 48) :: (44, 2, 47) :: (44, 1, 46) :: (44, 0, 45) :: (34, 0, 35) :: (35, 0, 36) :: (36, 5, 42) :: (36, 4, 41) :: (36, 3, 40) :: (36, 2, 39) :: (36, 1, 38) :: (36, 0, 37) :: (32, 0, 34) :: (32, 1, 33) :: l) 58 = true := ir_ub_c rfl h12
  refine iv_Ret.stl [44, 22, 23, 25, 28, 29, 32, 33] (ls' := [ivR 32, ivI 3]) (st' := [ivI 3, ivR 34]) (w' := (58, iv_mu0 xs, ir_app ((34, 2, 51) :: (51, 0, 52) :: (52, 5, 58) :: (52, 4, 57) :: (52, 3, 56) :: (52, 2, 55) :: (52, 1, 54) :: (52, 0, 53) :: (34, 1, 43) :: (43, 0, 44) :: (44, 5, 50) :: (44, 4, 49) :: (44, 3, 48) :: (44, 2, 47) :: (44, 1, 46) :: (44, 0, 45) :: (34, 0, 35) :: (35, 0, 36) :: (36, 5, 42) :: (36, 4, 41) :: (36, 3, 40) :: (36, 2, 39) :: (36, 1, 38) :: (36, 0, 37) :: (32, 0, 34) :: (32, 1, 33) :: l))) rfl ?_
  refine ic_new (n := 58) rfl rfl (by decide) h13 ?_
  have h14 : ir_ub ((34, 2, 51) :: (51, 0, 52) :: (52, 5, 58) :: (52, 4, 57) :: (52, 3, 56) :: (52, 2, 55) :: (52, 1, 54) :: (52, 0, 53) :: (34, 1, 43) :: (43, 0, 44) :: (44, 5, 50) :: (44, 4, 49) :: (44, 3, 48) :: (44, 2, 47) :: (44, 1, 46) :: (44, 0, 45) :: (34, 0, 35) :: (35, 0, 36) :: (36, 5, 42) :: (36, 4, 41) :: (36, 3, 40) :: (36, 2, 39) :: (36, 1, 38) :: (36, 0, 37) :: (32, 0, 34) :: (32, 1, 33) :: l) 59 = true := ir_ub_s h13
  refine iv_Ret.stl [37] (ls' := [ivR 32, ivI 3]) (st' := [ivR 59, ivR 59, ivI 3, ivR 34]) (w' := (59, iv_mu0 xs, ir_app ((34, 2, 51) :: (51, 0, 52) :: (52, 5, 58) :: (52, 4, 57) :: (52, 3, 56) :: (52, 2, 55) :: (52, 1, 54) :: (52, 0, 53) :: (34, 1, 43) :: (43, 0, 44) :: (44, 5, 50) :: (44, 4, 49) :: (44, 3, 48) :: (44, 2, 47) :: (44, 1, 46) :: (44, 0, 45) :: (34, 0, 35) :: (35, 0, 36) :: (36, 5, 42) :: (36, 4, 41) :: (36, 3, 40) :: (36, 2, 39) :: (36, 1, 38) :: (36, 0, 37) :: (32, 0, 34) :: (32, 1, 33) :: l))) rfl ?_
  refine ic_call rfl rfl rfl (ic_X4_init_59 L xs h14) ?_
  have hz14 := ic_X4_init_59_ub h14
  have h15 : ir_ub ((59, 0, 60) :: (60, 5, 66) :: (60, 4, 65) :: (60, 3, 64) :: (60, 2, 63) :: (60, 1, 62) :: (60, 0, 61) :: (34, 2, 51) :: (51, 0, 52) :: (52, 5, 58) :: (52, 4, 57) :: (52, 3, 56) :: (52, 2, 55) :: (52, 1, 54) :: (52, 0, 53) :: (34, 1, 43) :: (43, 0, 44) :: (44, 5, 50) :: (44, 4, 49) :: (44, 3, 48) :: (44, 2, 47) :: (44, 1, 46) :: (44, 0, 45) :: (34, 0, 35) :: (35, 0, 36) :: (36, 5, 42) :: (36, 4, 41) :: (36, 3, 40) :: (36, 2, 39) :: (36, 1, 38) :: (36, 0, 37) :: (32, 0, 34) :: (32, 1, 33) :: l) 66 = true := hz14
  refine iv_Ret.stl [41] (ls' := [ivR 32, ivI 3]) (st' := []) (w' := (66, iv_mu0 xs, ir_app ((34, 3, 59) :: (59, 0, 60) :: (60, 5, 66) :: (60, 4, 65) :: (60, 3, 64) :: (60, 2, 63) :: (60, 1, 62) :: (60, 0, 61) :: (34, 2, 51) :: (51, 0, 52) :: (52, 5, 58) :: (52, 4, 57) :: (52, 3, 56) :: (52, 2, 55) :: (52, 1, 54) :: (52, 0, 53) :: (34, 1, 43) :: (43, 0, 44) :: (44, 5, 50) :: (44, 4, 49) :: (44, 3, 48) :: (44, 2, 47) :: (44, 1, 46) :: (44, 0, 45) :: (34, 0, 35) :: (35, 0, 36) :: (36, 5, 42) :: (36, 4, 41) :: (36, 3, 40) :: (36, 2, 39) :: (36, 1, 38) :: (36, 0, 37) :: (32, 0, 34) :: (32, 1, 33) :: l))) rfl ?_
  have h16 : ir_ub ((34, 3, 59) :: (59, 0, 60) :: (60, 5, 66) :: (60, 4, 65) :: (60, 3, 64) :: (60, 2, 63) :: (60, 1, 62) :: (60, 0, 61) :: (34, 2, 51) :: (51, 0, 52) :: (52, 5, 58) :: (52, 4, 57) :: (52, 3, 56) :: (52, 2, 55) :: (52, 1, 54) :: (52, 0, 53) :: (34, 1, 43) :: (43, 0, 44) :: (44, 5, 50) :: (44, 4, 49) :: (44, 3, 48) :: (44, 2, 47) :: (44, 1, 46) :: (44, 0, 45) :: (34, 0, 35) :: (35, 0, 36) :: (36, 5, 42) :: (36, 4, 41) :: (36, 3, 40) :: (36, 2, 39) :: (36, 1, 38) :: (36, 0, 37) :: (32, 0, 34) :: (32, 1, 33) :: l) 66 = true := ir_ub_c rfl h15
  refine iv_Ret.stl [44, 22, 23, 25, 28, 29, 32, 33] (ls' := [ivR 32, ivI 4]) (st' := [ivI 4, ivR 34]) (w' := (66, iv_mu0 xs, ir_app ((34, 3, 59) :: (59, 0, 60) :: (60, 5, 66) :: (60, 4, 65) :: (60, 3, 64) :: (60, 2, 63) :: (60, 1, 62) :: (60, 0, 61) :: (34, 2, 51) :: (51, 0, 52) :: (52, 5, 58) :: (52, 4, 57) :: (52, 3, 56) :: (52, 2, 55) :: (52, 1, 54) :: (52, 0, 53) :: (34, 1, 43) :: (43, 0, 44) :: (44, 5, 50) :: (44, 4, 49) :: (44, 3, 48) :: (44, 2, 47) :: (44, 1, 46) :: (44, 0, 45) :: (34, 0, 35) :: (35, 0, 36) :: (36, 5, 42) :: (36, 4, 41) :: (36, 3, 40) :: (36, 2, 39) :: (36, 1, 38) :: (36, 0, 37) :: (32, 0, 34) :: (32, 1, 33) :: l))) rfl ?_
  refine ic_new (n := 66) rfl rfl (by decide) h16 ?_
  have h17 : ir_ub ((34, 3, 59) :: (59, 0, 60) :: (60, 5, 66) :: (60, 4, 65) :: (60, 3, 64) :: (60, 2, 63) :: (60, 1, 62) :: (60, 0, 61) :: (34, 2, 51) :: (51, 0, 52) :: (52, 5, 58) :: (52, 4, 57) :: (52, 3, 56) :: (52, 2, 55) :: (52, 1, 54) :: (52, 0, 53) :: (34, 1, 43) :: (43, 0, 44) :: (44, 5, 50) :: (44, 4, 49) :: (44, 3, 48) :: (44, 2, 47) :: (44, 1, 46) :: (44, 0, 45) :: (34, 0, 35) :: (35, 0, 36) :: (36, 5, 42) :: (36, 4, 41) :: (36, 3, 40) :: (36, 2, 39) :: (36, 1, 38) :: (36, 0, 37) :: (32, 0, 34) :: (32, 1, 33) :: l) 67 = true := ir_ub_s h16
  refine iv_Ret.stl [37] (ls' := [ivR 32, ivI 4]) (st' := [ivR 67, ivR 67, ivI 4, ivR 34]) (w' := (67, iv_mu0 xs, ir_app ((34, 3, 59) :: (59, 0, 60) :: (60, 5, 66) :: (60, 4, 65) :: (60, 3, 64) :: (60, 2, 63) :: (60, 1, 62) :: (60, 0, 61) :: (34, 2, 51) :: (51, 0, 52) :: (52, 5, 58) :: (52, 4, 57) :: (52, 3, 56) :: (52, 2, 55) :: (52, 1, 54) :: (52, 0, 53) :: (34, 1, 43) :: (43, 0, 44) :: (44, 5, 50) :: (44, 4, 49) :: (44, 3, 48) :: (44, 2, 47) :: (44, 1, 46) :: (44, 0, 45) :: (34, 0, 35) :: (35, 0, 36) :: (36, 5, 42) :: (36, 4, 41) :: (36, 3, 40) :: (36, 2, 39) :: (36, 1, 38) :: (36, 0, 37) :: (32, 0, 34) :: (32, 1, 33) :: l))) rfl ?_
  refine ic_call rfl rfl rfl (ic_X4_init_67 L xs h17) ?_
  have hz17 := ic_X4_init_67_ub h17
  have h18 : ir_ub ((67, 0, 68) :: (68, 5, 74) :: (68, 4, 73) :: (68, 3, 72) :: (68, 2, 71) :: (68, 1, 70) :: (68, 0, 69) :: (34, 3, 59) :: (59, 0, 60) :: (60, 5, 66) :: (60, 4, 65) :: (60, 3, 64) :: (60, 2, 63) :: (60, 1, 62) :: (60, 0, 61) :: (34, 2, 51) :: (51, 0, 52) :: (52, 5, 58) :: (52, 4, 57) :: (52, 3, 56) :: (52, 2, 55) :: (52, 1, 54) :: (52, 0, 53) :: (34, 1, 43) :: (43, 0, 44) :: (44, 5, 50) :: (44, 4, 49) :: (44, 3, 48) :: (44, 2, 47) :: (44, 1, 46) :: (44, 0, 45) :: (34, 0, 35) :: (35, 0, 36) :: (36, 5, 42) :: (36, 4, 41) :: (36, 3, 40) :: (36, 2, 39) :: (36, 1, 38) :: (36, 0, 37) :: (32, 0, 34) :: (32, 1, 33) :: l) 74 = true := hz17
  refine iv_Ret.stl [41] (ls' := [ivR 32, ivI 4]) (st' := []) (w' := (74, iv_mu0 xs, ir_app ((34, 4, 67) :: (67, 0, 68) :: (68, 5, 74) :: (68, 4, 73) :: (68, 3, 72) :: (68, 2, 71) :: (68, 1, 70) :: (68, 0, 69) :: (34, 3, 59) :: (59, 0, 60) :: (60, 5, 66) :: (60, 4, 65) :: (60, 3, 64) :: (60, 2, 63) :: (60, 1, 62) :: (60, 0, 61) :: (34, 2, 51) :: (51, 0, 52) :: (52, 5, 58) :: (52, 4, 57) :: (52, 3, 56) :: (52, 2, 55) :: (52, 1, 54) :: (52, 0, 53) :: (34, 1, 43) :: (43, 0, 44) :: (44, 5, 50) :: (44, 4, 49) :: (44, 3, 48) :: (44, 2, 47) :: (44, 1, 46) :: (44, 0, 45) :: (34, 0, 35) :: (35, 0, 36) :: (36, 5, 42) :: (36, 4, 41) :: (36, 3, 40) :: (36, 2, 39) :: (36, 1, 38) :: (36, 0, 37) :: (32, 0, 34) :: (32, 1, 33) :: l))) rfl ?_
  have h19 : ir_ub ((34, 4, 67) :: (67, 0, 68) :: (68, 5, 74) :: (68, 4, 73) :: (68, 3, 72) :: (68, 2, 71) :: (68, 1, 70) :: (68, 0, 69) :: (34, 3, 59) :: (59, 0, 60) :: (60, 5, 66) :: (60, 4, 65) :: (60, 3, 64) :: (60, 2, 63) :: (60, 1, 62) :: (60, 0, 61) :: (34, 2, 51) :: (51, 0, 52) :: (52, 5, 58) :: (52, 4, 57) :: (52, 3, 56) :: (52, 2, 55) :: (52, 1, 54) :: (52, 0, 53) :: (34, 1, 43) :: (43, 0, 44) :: (44, 5, 50) :: (44, 4, 49) :: (44, 3, 48) :: (44, 2, 47) :: (44, 1, 46) :: (44, 0, 45) :: (34, 0, 35) :: (35, 0, 36) :: (36, 5, 42) :: (36, 4, 41) :: (36, 3, 40) :: (36, 2, 39) :: (36, 1, 38) :: (36, 0, 37) :: (32, 0, 34) :: (32, 1, 33) :: l) 74 = true := ir_ub_c rfl h18
  refine iv_Ret.stl [44, 22, 23, 25, 28, 29, 32, 33] (ls' := [ivR 32, ivI 5]) (st' := [ivI 5, ivR 34]) (w' := (74, iv_mu0 xs, ir_app ((34, 4, 67) :: (67, 0, 68) :: (68, 5, 74) :: (68, 4, 73) :: (68, 3, 72) :: (68, 2, 71) :: (68, 1, 70) :: (68, 0, 69) :: (34, 3, 59) :: (59, 0, 60) :: (60, 5, 66) :: (60, 4, 65) :: (60, 3, 64) :: (60, 2, 63) :: (60, 1, 62) :: (60, 0, 61) :: (34, 2, 51) :: (51, 0, 52) :: (52, 5, 58) :: (52, 4, 57) :: (52, 3, 56) :: (52, 2, 55) :: (52, 1, 54) :: (52, 0, 53) :: (34, 1, 43) :: (43, 0, 44) :: (44, 5, 50) :: (44, 4, 49) :: (44, 3, 48) :: (44, 2, 47) :: (44, 1, 46) :: (44, 0, 45) :: (34, 0, 35) :: (35, 0, 36) :: (36, 5, 42) :: (36, 4, 41) :: (36, 3, 40) :: (36, 2, 39) :: (36, 1, 38) :: (36, 0, 37) :: (32, 0, 34) :: (32, 1, 33) :: l))) rfl ?_
  refine ic_new (n := 74) rfl rfl (by decide) h19 ?_
  have h20 : ir_ub ((34, 4, 67) :: (67, 0, 68) :: (68, 5, 74) :: (68, 4, 73) :: (68, 3, 72) :: (68, 2, 71) :: (68, 1, 70) :: (68, 0, 69) :: (34, 3, 59) :: (59, 0, 60) :: (60, 5, 66) :: (60, 4, 65) :: (60, 3, 64) :: (60, 2, 63) :: (60, 1, 62) :: (60, 0, 61) :: (34, 2, 51) :: (51, 0, 52) :: (52, 5, 58) :: (52, 4, 57) :: (52, 3, 56) :: (52, 2, 55) :: (52, 1, 54) :: (52, 0, 53) :: (34, 1, 43) :: (43, 0, 44) :: (44, 5, 50) :: (44, 4, 49) :: (44, 3, 48) :: (44, 2, 47) :: (44, 1, 46) :: (44, 0, 45) :: (34, 0, 35) :: (35, 0, 36) :: (36, 5, 42) :: (36, 4, 41) :: (36, 3, 40) :: (36, 2, 39) :: (36, 1, 38) :: (36, 0, 37) :: (32, 0, 34) :: (32, 1, 33) :: l) 75 = true := ir_ub_s h19
  refine iv_Ret.stl [37] (ls' := [ivR 32, ivI 5]) (st' := [ivR 75, ivR 75, ivI 5, ivR 34]) (w' := (75, iv_mu0 xs, ir_app ((34, 4, 67) :: (67, 0, 68) :: (68, 5, 74) :: (68, 4, 73) :: (68, 3, 72) :: (68, 2, 71) :: (68, 1, 70) :: (68, 0, 69) :: (34, 3, 59) :: (59, 0, 60) :: (60, 5, 66) :: (60, 4, 65) :: (60, 3, 64) :: (60, 2, 63) :: (60, 1, 62) :: (60, 0, 61) :: (34, 2, 51) :: (51, 0, 52) :: (52, 5, 58) :: (52, 4, 57) :: (52, 3, 56) :: (52, 2, 55) :: (52, 1, 54) :: (52, 0, 53) :: (34, 1, 43) :: (43, 0, 44) :: (44, 5, 50) :: (44, 4, 49) :: (44, 3, 48) :: (44, 2, 47) :: (44, 1, 46) :: (44, 0, 45) :: (34, 0, 35) :: (35, 0, 36) :: (36, 5, 42) :: (36, 4, 41) :: (36, 3, 40) :: (36, 2, 39) :: (36, 1, 38) :: (36, 0, 37) :: (32, 0, 34) :: (32, 1, 33) :: l))) rfl ?_
  refine ic_call rfl rfl rfl (ic_X4_init_75 L xs h20) ?_
  have hz20 := ic_X4_init_75_ub h20
  have h21 : ir_ub ((75, 0, 76) :: (76, 5, 82) :: (76, 4, 81) :: (76, 3, 80) :: (76, 2, 79) :: (76, 1, 78) :: (76, 0, 77) :: (34, 4, 67) :: (67, 0, 68) :: (68, 5, 74) :: (68, 4, 73) :: (68, 3, 72) :: (68, 2, 71) :: (68, 1, 70) :: (68, 0, 69) :: (34, 3, 59) :: (59, 0, 60) :: (60, 5, 66) :: (60, 4, 65) :: (60, 3, 64) :: (60, 2, 63) :: (60, 1, 62) :: (60, 0, 61) :: (34, 2, 51) :: (51, 0, 52) :: (52, 5, 58) :: (52, 4, 57) :: (52, 3, 56) :: (52, 2, 55) :: (52, 1, 54) :: (52, 0, 53) :: (34, 1, 43) :: (43, 0, 44) :: (44, 5, 50) :: (44, 4, 49) :: (44, 3, 48) :: (44, 2, 47) :: (44, 1, 46) :: (44, 0, 45) :: (34, 0, 35) :: (35, 0, 36) :: (36, 5, 42) :: (36, 4, 41) :: (36, 3, 40) :: (36, 2, 39) :: (36, 1, 38) :: (36, 0, 37) :: (32, 0, 34) :: (32, 1, 33) :: l) 82 = true := hz20
  refine iv_Ret.stl [41] (ls' := [ivR 32, ivI 5]) (st' := []) (w' := (82, iv_mu0 xs, ir_app ((34, 5, 75) :: (75, 0, 76) :: (76, 5, 82) :: (76, 4, 81) :: (76, 3, 80) :: (76, 2, 79) :: (76, 1, 78) :: (76, 0, 77) :: (34, 4, 67) :: (67, 0, 68) :: (68, 5, 74) :: (68, 4, 73) :: (68, 3, 72) :: (68, 2, 71) :: (68, 1, 70) :: (68, 0, 69) :: (34, 3, 59) :: (59, 0, 60) :: (60, 5, 66) :: (60, 4, 65) :: (60, 3, 64) :: (60, 2, 63) :: (60, 1, 62) :: (60, 0, 61) :: (34, 2, 51) :: (51, 0, 52) :: (52, 5, 58) :: (52, 4, 57) :: (52, 3, 56) :: (52, 2, 55) :: (52, 1, 54) :: (52, 0, 53) :: (34, 1, 43) :: (43, 0, 44) :: (44, 5, 50) :: (44, 4, 49) :: (44, 3, 48) :: (44, 2, 47) :: (44, 1, 46) :: (44, 0, 45) :: (34, 0, 35) :: (35, 0, 36) :: (36, 5, 42) :: (36, 4, 41) :: (36, 3, 40) :: (36, 2, 39) :: (36, 1, 38) :: (36, 0, 37) :: (32, 0, 34) :: (32, 1, 33) :: l))) rfl ?_
  have h22 : ir_ub ((34, 5, 75) :: (75, 0, 76) :: (76, 5, 82) :: (76, 4, 81) :: (76, 3, 80) :: (76, 2, 79) :: (76, 1, 78) :: (76, 0, 77) :: (34, 4, 67) :: (67, 0, 68) :: (68, 5, 74) :: (68, 4, 73) :: (68, 3, 72) :: (68, 2, 71) :: (68, 1, 70) :: (68, 0, 69) :: (34, 3, 59) :: (59, 0, 60) :: (60, 5, 66) :: (60, 4, 65) :: (60, 3, 64) :: (60, 2, 63) :: (60, 1, 62) :: (60, 0, 61) :: (34, 2, 51) :: (51, 0, 52) :: (52, 5, 58) :: (52, 4, 57) :: (52, 3, 56) :: (52, 2, 55) :: (52, 1, 54) :: (52, 0, 53) :: (34, 1, 43) :: (43, 0, 44) :: (44, 5, 50) :: (44, 4, 49) :: (44, 3, 48) :: (44, 2, 47) :: (44, 1, 46) :: (44, 0, 45) :: (34, 0, 35) :: (35, 0, 36) :: (36, 5, 42) :: (36, 4, 41) :: (36, 3, 40) :: (36, 2, 39) :: (36, 1, 38) :: (36, 0, 37) :: (32, 0, 34) :: (32, 1, 33) :: l) 82 = true := ir_ub_c rfl h21
  refine iv_Ret.stl [44, 22, 23, 25, 28, 29, 32, 33] (ls' := [ivR 32, ivI 6]) (st' := [ivI 6, ivR 34]) (w' := (82, iv_mu0 xs, ir_app ((34, 5, 75) :: (75, 0, 76) :: (76, 5, 82) :: (76, 4, 81) :: (76, 3, 80) :: (76, 2, 79) :: (76, 1, 78) :: (76, 0, 77) :: (34, 4, 67) :: (67, 0, 68) :: (68, 5, 74) :: (68, 4, 73) :: (68, 3, 72) :: (68, 2, 71) :: (68, 1, 70) :: (68, 0, 69) :: (34, 3, 59) :: (59, 0, 60) :: (60, 5, 66) :: (60, 4, 65) :: (60, 3, 64) :: (60, 2, 63) :: (60, 1, 62) :: (60, 0, 61) :: (34, 2, 51) :: (51, 0, 52) :: (52, 5, 58) :: (52, 4, 57) :: (52, 3, 56) :: (52, 2, 55) :: (52, 1, 54) :: (52, 0, 53) :: (34, 1, 43) :: (43, 0, 44) :: (44, 5, 50) :: (44, 4, 49) :: (44, 3, 48) :: (44, 2, 47) :: (44, 1, 46) :: (44, 0, 45) :: (34, 0, 35) :: (35, 0, 36) :: (36, 5, 42) :: (36, 4, 41) :: (36, 3, 40) :: (36, 2, 39) :: (36, 1, 38) :: (36, 0, 37) :: (32, 0, 34) :: (32, 1, 33) :: l))) rfl ?_
  refine ic_new (n := 82) rfl rfl (by decide) h22 ?_
  have h23 : ir_ub ((34, 5, 75) :: (75, 0, 76) :: (76, 5, 82) :: (76, 4, 81) :: (76, 3, 80) :: (76, 2, 79) :: (76, 1, 78) :: (76, 0, 77) :: (34, 4, 67) :: (67, 0, 68) :: (68, 5, 74) :: (68, 4, 73) :: (68, 3, 72) :: (68, 2, 71) :: (68, 1, 70) :: (68, 0, 69) :: (34, 3, 59) :: (59, 0, 60) :: (60, 5, 66) :: (60, 4, 65) :: (60, 3, 64) :: (60, 2, 63) :: (60, 1, 62) :: (60, 0, 61) :: (34, 2, 51) :: (51, 0, 52) :: (52, 5, 58) :: (52, 4, 57) :: (52, 3, 56) :: (52, 2, 55) :: (52, 1, 54) :: (52, 0, 53) :: (34, 1, 43) :: (43, 0, 44) :: (44, 5, 50) :: (44, 4, 49) :: (44, 3, 48) :: (44, 2, 47) :: (44, 1, 46) :: (44, 0, 45) :: (34, 0, 35) :: (35, 0, 36) :: (36, 5, 42) :: (36, 4, 41) :: (36, 3, 40) :: (36, 2, 39) :: (36, 1, 38) :: (36, 0, 37) :: (32, 0, 34) :: (32, 1, 33) :: l) 83 = true := ir_ub_s h22
  refine iv_Ret.stl [37] (ls' := [ivR 32, ivI 6]) (st' := [ivR 83, ivR 83, ivI 6, ivR 34]) (w' := (83, iv_mu0 xs, ir_app ((34, 5, 75) :: (75, 0, 76) :: (76, 5, 82) :: (76, 4, 81) :: (76, 3, 80) :: (76, 2, 79) :: (76, 1, 78) :: (76, 0, 77) :: (34, 4, 67) :: (67, 0, 68) :: (68, 5, 74) :: (68, 4, 73) :: (68, 3, 72) :: (68, 2, 71) :: (68, 1, 70) :: (68, 0, 69) :: (34, 3, 59) :: (59, 0, 60) :: (60, 5, 66) :: (60, 4, 65) :: (60, 3, 64) :: (60, 2, 63) :: (60, 1, 62) :: (60, 0, 61) :: (34, 2, 51) :: (51, 0, 52) :: (52, 5, 58) :: (52, 4, 57) :: (52, 3, 56) :: (52, 2, 55) :: (52, 1, 54) :: (52, 0, 53) :: (34, 1, 43) :: (43, 0, 44) :: (44, 5, 50) :: (44, 4, 49) :: (44, 3, 48) :: (44, 2, 47) :: (44, 1, 46) :: (44, 0, 45) :: (34, 0, 35) :: (35, 0, 36) :: (36, 5, 42) :: (36, 4, 41) :: (36, 3, 40) :: (36, 2, 39) :: (36, 1, 38) :: (36, 0, 37) :: (32, 0, 34) :: (32, 1, 33) :: l))) rfl ?_
  refine ic_call rfl rfl rfl (ic_X4_init_83 L xs h23) ?_
  have hz23 := ic_X4_init_83_ub h23
  have h24 : ir_ub ((83, 0, 84) :: (84, 5, 90) :: (84, 4, 89) :: (84, 3, 88) :: (84, 2, 87) :: (84, 1, 86) :: (84, 0, 85) :: (34, 5, 75) :: (75, 0, 76) :: (76, 5, 82) :: (76, 4, 81) :: (76, 3, 80) :: (76, 2, 79) :: (76, 1, 78) :: (76, 0, 77) :: (34, 4, 67) :: (67, 0, 68) :: (68, 5, 74) :: (68, 4, 73) :: (68, 3, 72) :: (68, 2, 71) :: (68, 1, 70) :: (68, 0, 69) :: (34, 3, 59) :: (59, 0, 60) :: (60, 5, 66) :: (60, 4, 65) :: (60, 3, 64) :: (60, 2, 63) :: (60, 1, 62) :: (60, 0, 61) :: (34, 2, 51) :: (51, 0, 52) :: (52, 5, 58) :: (52, 4, 57) :: (52, 3, 56) :: (52, 2, 55) :: (52, 1, 54) :: (52, 0, 53) :: (34, 1, 43) :: (43, 0, 44) :: (44, 5, 50) :: (44, 4, 49) :: (44, 3, 48) :: (44, 2, 47) :: (44, 1, 46) :: (44, 0, 45) :: (34, 0, 35) :: (35, 0, 36) :: (36, 5, 42) :: (36, 4, 41) :: (36, 3, 40) :: (36, 2, 39) :: (36, 1, 38) :: (36, 0, 37) :: (32, 0, 34) :: (32, 1, 33) :: l) 90 = true := hz23
  refine iv_Ret.stl [41] (ls' := [ivR 32, ivI 6]) (st' := []) (w' := (90, iv_mu0 xs, ir_app ((34, 6, 83) :: (83, 0, 84) :: (84, 5, 90) :: (84, 4, 89) :: (84, 3, 88) :: (84, 2, 87) :: (84, 1, 86) :: (84, 0, 85) :: (34, 5, 75) :: (75, 0, 76) :: (76, 5, 82) :: (76, 4, 81) :: (76, 3, 80) :: (76, 2, 79) :: (76, 1, 78) :: (76, 0, 77) :: (34, 4, 67) :: (67, 0, 68) :: (68, 5, 74) :: (68, 4, 73) :: (68, 3, 72) :: (68, 2, 71) :: (68, 1, 70) :: (68, 0, 69) :: (34, 3, 59) :: (59, 0, 60) :: (60, 5, 66) :: (60, 4, 65) :: (60, 3, 64) :: (60, 2, 63) :: (60, 1, 62) :: (60, 0, 61) :: (34, 2, 51) :: (51, 0, 52) :: (52, 5, 58) :: (52, 4, 57) :: (52, 3, 56) :: (52, 2, 55) :: (52, 1, 54) :: (52, 0, 53) :: (34, 1, 43) :: (43, 0, 44) :: (44, 5, 50) :: (44, 4, 49) :: (44, 3, 48) :: (44, 2, 47) :: (44, 1, 46) :: (44, 0, 45) :: (34, 0, 35) :: (35, 0, 36) :: (36, 5, 42) :: (36, 4, 41) :: (36, 3, 40) :: (36, 2, 39) :: (36, 1, 38) :: (36, 0, 37) :: (32, 0, 34) :: (32, 1, 33) :: l))) rfl ?_
  have h25 : ir_ub ((34, 6, 83) :: (83, 0, 84) :: (84, 5, 90) :: (84, 4, 89) :: (84, 3, 88) :: (84, 2, 87) :: (84, 1, 86) :: (84, 0, 85) :: (34, 5, 75) :: (75, 0, 76) :: (76, 5, 82) :: (76, 4, 81) :: (76, 3, 80) :: (76, 2, 79) :: (76, 1, 78) :: (76, 0, 77) :: (34, 4, 67) :: (67, 0, 68) :: (68, 5, 74) :: (68, 4, 73) :: (68, 3, 72) :: (68, 2, 71) :: (68, 1, 70) :: (68, 0, 69) :: (34, 3, 59) :: (59, 0, 60) :: (60, 5, 66) :: (60, 4, 65) :: (60, 3, 64) :: (60, 2, 63) :: (60, 1, 62) :: (60, 0, 61) :: (34, 2, 51) :: (51, 0, 52) :: (52, 5, 58) :: (52, 4, 57) :: (52, 3, 56) :: (52, 2, 55) :: (52, 1, 54) :: (52, 0, 53) :: (34, 1, 43) :: (43, 0, 44) :: (44, 5, 50) :: (44, 4, 49) :: (44, 3, 48) :: (44, 2, 47) :: (44, 1, 46) :: (44, 0, 45) :: (34, 0, 35) :: (35, 0, 36) :: (36, 5, 42) :: (36, 4, 41) :: (36, 3, 40) :: (36, 2, 39) :: (36, 1, 38) :: (36, 0, 37) :: (32, 0, 34) :: (32, 1, 33) :: l) 90 = true := ir_ub_c rfl h24
  refine iv_Ret.stl [44, 22, 23, 25, 28, 29, 32, 33] (ls' := [ivR 32, ivI 7]) (st' := [ivI 7, ivR 34]) (w' := (90, iv_mu0 xs, ir_app ((34, 6, 83) :: (83, 0, 84) :: (84, 5, 90) :: (84, 4, 89) :: (84, 3, 88) :: (84, 2, 87) :: (84, 1, 86) :: (84, 0, 85) :: (34, 5, 75) :: (75, 0, 76) :: (76, 5, 82) :: (76, 4, 81) :: (76, 3, 80) :: (76, 2, 79) :: (76, 1, 78) :: (76, 0, 77) :: (34, 4, 67) :: (67, 0, 68) :: (68, 5, 74) :: (68, 4, 73) :: (68, 3, 72) :: (68, 2, 71) :: (68, 1, 70) :: (68, 0, 69) :: (34, 3, 59) :: (59, 0, 60) :: (60, 5, 66) :: (60, 4, 65) :: (60, 3, 64) :: (60, 2, 63) :: (60, 1, 62) :: (60, 0, 61) :: (34, 2, 51) :: (51, 0, 52) :: (52, 5, 58) :: (52, 4, 57) :: (52, 3, 56) :: (52, 2, 55) :: (52, 1, 54) :: (52, 0, 53) :: (34, 1, 43) :: (43, 0, 44) :: (44, 5, 50) :: (44, 4, 49) :: (44, 3, 48) :: (44, 2, 47) :: (44, 1, 46) :: (44, 0, 45) :: (34, 0, 35) :: (35, 0, 36) :: (36, 5, 42) :: (36, 4, 41) :: (36, 3, 40) :: (36, 2, 39) :: (36, 1, 38) :: (36, 0, 37) :: (32, 0, 34) :: (32, 1, 33) :: l))) rfl ?_
  refine ic_new (n := 90) rfl rfl (by decide) h25 ?_
  have h26 : ir_ub ((34, 6, 83) :: (83, 0, 84) :: (84, 5, 90) :: (84, 4, 89) :: (84, 3, 88) :: (84, 2, 87) :: (84, 1, 86) :: (84, 0, 85) :: (34, 5, 75) :: (75, 0, 76) :: (76, 5, 82) :: (76, 4, 81) :: (76, 3, 80) :: (76, 2, 79) :: (76, 1, 78) :: (76, 0, 77) :: (34, 4, 67) :: (67, 0, 68) :: (68, 5, 74) :: (68, 4, 73) :: (68, 3, 72) :: (68, 2, 71) :: (68, 1, 70) :: (68, 0, 69) :: (34, 3, 59) :: (59, 0, 60) :: (60, 5, 66) :: (60, 4, 65) :: (60, 3, 64) :: (60, 2, 63) :: (60, 1, 62) :: (60, 0, 61) :: (34, 2, 51) :: (51, 0, 52) :: (52, 5, 58) :: (52, 4, 57) :: (52, 3, 56) :: (52, 2, 55) :: (52, 1, 54) :: (52, 0, 53) :: (34, 1, 43) :: (43, 0, 44) :: (44, 5, 50) :: (44, 4, 49) :: (44, 3, 48) :: (44, 2, 47) :: (44, 1, 46) :: (44, 0, 45) :: (34, 0, 35) :: (35, 0, 36) :: (36, 5, 42) :: (36, 4, 41) :: (36, 3, 40) :: (36, 2, 39) :: (36, 1, 38) :: (36, 0, 37) :: (32, 0, 34) :: (32, 1, 33) :: l) 91 = true := ir_ub_s h25
  refine iv_Ret.stl [37] (ls' := [ivR 32, ivI 7]) (st' := [ivR 91, ivR 91, ivI 7, ivR 34]) (w' := (91, iv_mu0 xs, ir_app ((34, 6, 83) :: (83, 0, 84) :: (84, 5, 90) :: (84, 4, 89) :: (84, 3, 88) :: (84, 2, 87) :: (84, 1, 86) :: (84, 0, 85) :: (34, 5, 75) :: (75, 0, 76) :: (76, 5, 82) :: (76, 4, 81) :: (76, 3, 80) :: (76, 2, 79) :: (76, 1, 78) :: (76, 0, 77) :: (34, 4, 67) :: (67, 0, 68) :: (68, 5, 74) :: (68, 4, 73) :: (68, 3, 72) :: (68, 2, 71) :: (68, 1, 70) :: (68, 0, 69) :: (34, 3, 59) :: (59, 0, 60) :: (60, 5, 66) :: (60, 4, 65) :: (60, 3, 64) :: (60, 2, 63) :: (60, 1, 62) :: (60, 0, 61) :: (34, 2, 51) :: (51, 0, 52) :: (52, 5, 58) :: (52, 4, 57) :: (52, 3, 56) :: (52, 2, 55) :: (52, 1, 54) :: (52, 0, 53) :: (34, 1, 43) :: (43, 0, 44) :: (44, 5, 50) :: (44, 4, 49) :: (44, 3, 48) :: (44, 2, 47) :: (44, 1, 46) :: (44, 0, 45) :: (34, 0, 35) :: (35, 0, 36) :: (36, 5, 42) :: (36, 4, 41) :: (36, 3, 40) :: (36, 2, 39) :: (36, 1, 38) :: (36, 0, 37) :: (32, 0, 34) :: (32, 1, 33) :: l))) rfl ?_
  refine ic_call rfl rfl rfl (ic_X4_init_91 L xs h26) ?_
  have hz26 := ic_X4_init_91_ub h26
  have h27 : ir_ub ((91, 0, 92) :: (92, 5, 98) :: (92, 4, 97) :: (92, 3, 96) :: (92, 2, 95) :: (92, 1, 94) :: (92, 0, 93) :: (34, 6, 83) :: (83, 0, 84) :: (84, 5, 90) :: (84, 4, 89) :: (84, 3, 88) :: (84, 2, 87) :: (84, 1, 86) :: (84, 0, 85) :: (34, 5, 75) :: (75, 0, 76) :: (76, 5, 82) :: (76, 4, 81) :: (76, 3, 80) :: (76, 2, 79) :: (76, 1, 78) :: (76, 0, 77) :: (34, 4, 67) :: (67, 0, 68) :: (68, 5, 74) :: (68, 4, 73) :: (68, 3, 72) :: (68, 2, 71) :: (68, 1, 70) :: (68, 0, 69) :: (34, 3, 59) :: (59, 0, 60) :: (60, 5, 66) :: (60, 4, 65) :: (60, 3, 64) :: (60, 2, 63) :: (60, 1, 62) :: (60, 0, 61) :: (34, 2, 51) :: (51, 0, 52) :: (52, 5, 58) :: (52, 4, 57) :: (52, 3, 56) :: (52, 2, 55) :: (52, 1, 54) :: (52, 0, 53) :: (34, 1, 43) :: (43, 0, 44) :: (44, 5, 50) :: (44, 4, 49) :: (44, 3, 48) :: (44, 2, 47) :: (44, 1, 46) :: (44, 0, 45) :: (34, 0, 35) :: (35, 0, 36) :: (36, 5, 42) :: (36, 4, 41) :: (36, 3, 40) :: (36, 2, 39) :: (36, 1, 38) :: (36, 0, 37) :: (32, 0, 34) :: (32, 1, 33) :: l) 98 = true := hz26
  refine iv_Ret.stl [41] (ls' := [ivR 32, ivI 7]) (st' := []) (w' := (98, iv_mu0 xs, ir_app ((34, 7, 91) :: (91, 0, 92) :: (92, 5, 98) :: (92, 4, 97) :: (92, 3, 96) :: (92, 2, 95) :: (92, 1, 94) :: (92, 0, 93) :: (34, 6, 83) :: (83, 0, 84) :: (84, 5, 90) :: (84, 4, 89) :: (84, 3, 88) :: (84, 2, 87) :: (84, 1, 86) :: (84, 0, 85) :: (34, 5, 75) :: (75, 0, 76) :: (76, 5, 82) :: (76, 4, 81) :: (76, 3, 80) :: (76, 2, 79) :: (76, 1, 78) :: (76, 0, 77) :: (34, 4, 67) :: (67, 0, 68) :: (68, 5, 74) :: (68, 4, 73) :: (68, 3, 72) :: (68, 2, 71) :: (68, 1, 70) :: (68, 0, 69) :: (34, 3, 59) :: (59, 0, 60) :: (60, 5, 66) :: (60, 4, 65) :: (60, 3, 64) :: (60, 2, 63) :: (60, 1, 62) :: (60, 0, 61) :: (34, 2, 51) :: (51, 0, 52) :: (52, 5, 58) :: (52, 4, 57) :: (52, 3, 56) :: (52, 2, 55) :: (52, 1, 54) :: (52, 0, 53) :: (34, 1, 43) :: (43, 0, 44) :: (44, 5, 50) :: (44, 4, 49) :: (44, 3, 48) :: (44, 2, 47) :: (44, 1, 46) :: (44, 0, 45) :: (34, 0, 35) :: (35, 0, 36) :: (36, 5, 42) :: (36, 4, 41) :: (36, 3, 40) :: (36, 2, 39) :: (36, 1, 38) :: (36, 0, 37) :: (32, 0, 34) :: (32, 1, 33) :: l))) rfl ?_
  have h28 : ir_ub ((34, 7, 91) :: (91, 0, 92) :: (92, 5, 98) :: (92, 4, 97) :: (92, 3, 96) :: (92, 2, 95) :: (92, 1, 94) :: (92, 0, 93) :: (34, 6, 83) :: (83, 0, 84) :: (84, 5, 90) :: (84, 4, 89) :: (84, 3, 88) :: (84, 2, 87) :: (84, 1, 86) :: (84, 0, 85) :: (34, 5, 75) :: (75, 0, 76) :: (76, 5, 82) :: (76, 4, 81) :: (76, 3, 80) :: (76, 2, 79) :: (76, 1, 78) :: (76, 0, 77) :: (34, 4, 67) :: (67, 0, 68) :: (68, 5, 74) :: (68, 4, 73) :: (68, 3, 72) :: (68, 2, 71) :: (68, 1, 70) :: (68, 0, 69) :: (34, 3, 59) :: (59, 0, 60) :: (60, 5, 66) :: (60, 4, 65) :: (60, 3, 64) :: (60, 2, 63) :: (60, 1, 62) :: (60, 0, 61) :: (34, 2, 51) :: (51, 0, 52) :: (52, 5, 58) :: (52, 4, 57) :: (52, 3, 56) :: (52, 2, 55) :: (52, 1, 54) :: (52, 0, 53) :: (34, 1, 43) :: (43, 0, 44) :: (44, 5, 50) :: (44, 4, 49) :: (44, 3, 48) :: (44, 2, 47) :: (44, 1, 46) :: (44, 0, 45) :: (34, 0, 35) :: (35, 0, 36) :: (36, 5, 42) :: (36, 4, 41) :: (36, 3, 40) :: (36, 2, 39) :: (36, 1, 38) :: (36, 0, 37) :: (32, 0, 34) :: (32, 1, 33) :: l) 98 = true := ir_ub_c rfl h27
  refine iv_Ret.stl [44, 22, 23, 25, 47] (ls' := [ivR 32, ivI 8]) (st' := []) (w' := (98, iv_mu0 xs, ir_app ((34, 7, 91) :: (91, 0, 92) :: (92, 5, 98) :: (92, 4, 97) :: (92, 3, 96) :: (92, 2, 95) :: (92, 1, 94) :: (92, 0, 93) :: (34, 6, 83) :: (83, 0, 84) :: (84, 5, 90) :: (84, 4, 89) :: (84, 3, 88) :: (84, 2, 87) :: (84, 1, 86) :: (84, 0, 85) :: (34, 5, 75) :: (75, 0, 76) :: (76, 5, 82) :: (76, 4, 81) :: (76, 3, 80) :: (76, 2, 79) :: (76, 1, 78) :: (76, 0, 77) :: (34, 4, 67) :: (67, 0, 68) :: (68, 5, 74) :: (68, 4, 73) :: (68, 3, 72) :: (68, 2, 71) :: (68, 1, 70) :: (68, 0, 69) :: (34, 3, 59) :: (59, 0, 60) :: (60, 5, 66) :: (60, 4, 65) :: (60, 3, 64) :: (60, 2, 63) :: (60, 1, 62) :: (60, 0, 61) :: (34, 2, 51) :: (51, 0, 52) :: (52, 5, 58) :: (52, 4, 57) :: (52, 3, 56) :: (52, 2, 55) :: (52, 1, 54) :: (52, 0, 53) :: (34, 1, 43) :: (43, 0, 44) :: (44, 5, 50) :: (44, 4, 49) :: (44, 3, 48) :: (44, 2, 47) :: (44, 1, 46) :: (44, 0, 45) :: (34, 0, 35) :: (35, 0, 36) :: (36, 5, 42) :: (36, 4, 41) :: (36, 3, 40) :: (36, 2, 39) :: (36, 1, 38) :: (36, 0, 37) :: (32, 0, 34) :: (32, 1, 33) :: l))) rfl ?_
  exact ⟨1, rfl⟩
theorem ic_X0_init_99_ub {l : List (Nat × Nat × Nat)} (h : ir_ub l 99 = true) : ir_ub ((99, 4, 104) :: (99, 3, 103) :: (99, 2, 102) :: (99, 1, 101) :: (99, 0, 100) :: l) 104 = true := ir_ub_a [(99, 4, 104), (99, 3, 103), (99, 2, 102), (99, 1, 101), (99, 0, 100)] rfl (by decide) h
theorem ic_X0_init_99 (L : Nat) (xs : Nat → Int32) {l : List (Nat × Nat × Nat)} (h : ir_ub l 99 = true) : iv_Ret L 0 0 [ivR 99] [] (99, iv_mu0 xs, ir_app l) none (104, iv_mu0 xs, ir_app ((99, 4, 104) :: (99, 3, 103) :: (99, 2, 102) :: (99, 1, 101) :: (99, 0, 100) :: l)) := by
  refine iv_Ret.stl [1] (ls' := [ivR 99]) (st' := [ivR 99]) (w' := (99, iv_mu0 xs, ir_app (l))) rfl ?_
  refine ic_obj rfl rfl rfl rfl ?_
  refine iv_Ret.stl [5, 7] (ls' := [ivR 99]) (st' := [ivI 6, ivR 99]) (w' := (99, iv_mu0 xs, ir_app (l))) rfl ?_
  refine ic_na (x := 6) (n := 99) rfl rfl rfl (by decide) h ?_
  have h1 : ir_ub (l) 100 = true := ir_ub_s h
  refine iv_Ret.stl [12] (ls' := [ivR 99]) (st' := []) (w' := (100, iv_mu0 xs, ir_app ((99, 0, 100) :: l))) rfl ?_
  have h2 : ir_ub ((99, 0, 100) :: l) 100 = true := ir_ub_c rfl h1
  refine iv_Ret.stl [13, 15] (ls' := [ivR 99]) (st' := [ivI 6, ivR 99]) (w' := (100, iv_mu0 xs, ir_app ((99, 0, 100) :: l))) rfl ?_
  refine ic_na (x := 6) (n := 100) rfl rfl rfl (by decide) h2 ?_
  have h3 : ir_ub ((99, 0, 100) :: l) 101 = true := ir_ub_s h2
  refine iv_Ret.stl [20] (ls' := [ivR 99]) (st' := []) (w' := (101, iv_mu0 xs, ir_app ((99, 1, 101) :: (99, 0, 100) :: l))) rfl ?_
  have h4 : ir_ub ((99, 1, 101) :: (99, 0, 100) :: l) 101 = true := ir_ub_c rfl h3
  refine iv_Ret.stl [21, 23] (ls' := [ivR 99]) (st' := [ivI 8, ivR 99]) (w' := (101, iv_mu0 xs, ir_app ((99, 1, 101) :: (99, 0, 100) :: l))) rfl ?_
  refine ic_na (x := 8) (n := 101) rfl rfl rfl (by decide) h4 ?_
  have h5 : ir_ub ((99, 1, 101) :: (99, 0, 100) :: l) 102 = true := ir_ub_s h4
  refine iv_Ret.stl [28] (ls' := [ivR 99]) (st' := []) (w' := (102, iv_mu0 xs, ir_app ((99, 2, 102) :: (99, 1, 101) :: (99, 0, 100) :: l))) rfl ?_
  have h6 : ir_ub ((99, 2, 102) :: (99, 1, 101) :: (99, 0, 100) :: l) 102 = true := ir_ub_c rfl h5
  refine iv_Ret.stl [29, 32] (ls' := [ivR 99]) (st' := [ivI 256, ivR 99]) (w' := (102, iv_mu0 xs, ir_app ((99, 2, 102) :: (99, 1, 101) :: (99, 0, 100) :: l))) rfl ?_
  refine ic_na (x := 256) (n := 102) rfl rfl rfl (by decide) h6 ?_
  have h7 : ir_ub ((99, 2, 102) :: (99, 1, 101) :: (99, 0, 100) :: l) 103 = true := ir_ub_s h6
  refine iv_Ret.stl [37] (ls' := [ivR 99]) (st' := []) (w' := (103, iv_mu0 xs, ir_app ((99, 3, 103) :: (99, 2, 102) :: (99, 1, 101) :: (99, 0, 100) :: l))) rfl ?_
  have h8 : ir_ub ((99, 3, 103) :: (99, 2, 102) :: (99, 1, 101) :: (99, 0, 100) :: l) 103 = true := ir_ub_c rfl h7
  refine iv_Ret.stl [38, 41] (ls' := [ivR 99]) (st' := [ivI 256, ivR 99]) (w' := (103, iv_mu0 xs, ir_app ((99, 3, 103) :: (99, 2, 102) :: (99, 1, 101) :: (99, 0, 100) :: l))) rfl ?_
  refine ic_na (x := 256) (n := 103) rfl rfl rfl (by decide) h8 ?_
  have h9 : ir_ub ((99, 3, 103) :: (99, 2, 102) :: (99, 1, 101) :: (99, 0, 100) :: l) 104 = true := ir_ub_s h8
  refine iv_Ret.stl [46] (ls' := [ivR 99]) (st' := []) (w' := (104, iv_mu0 xs, ir_app ((99, 4, 104) :: (99, 3, 103) :: (99, 2, 102) :: (99, 1, 101) :: (99, 0, 100) :: l))) rfl ?_
  have h10 : ir_ub ((99, 4, 104) :: (99, 3, 103) :: (99, 2, 102) :: (99, 1, 101) :: (99, 0, 100) :: l) 104 = true := ir_ub_c rfl h9
  exact ⟨1, rfl⟩
theorem ic_X6_init_105_ub {l : List (Nat × Nat × Nat)} (h : ir_ub l 105 = true) : ir_ub ((105, 4, 109) :: (105, 3, 108) :: (105, 2, 107) :: (105, 1, 106) :: l) 109 = true := ir_ub_a [(105, 4, 109), (105, 3, 108), (105, 2, 107), (105, 1, 106)] rfl (by decide) h
theorem ic_X6_init_105 (L : Nat) (xs : Nat → Int32) {l : List (Nat × Nat × Nat)} (h : ir_ub l 105 = true) : iv_Ret L 42 0 [ivR 105] [] (105, iv_mu0 xs, ir_app l) none (109, iv_mu0 xs, ir_app ((105, 4, 109) :: (105, 3, 108) :: (105, 2, 107) :: (105, 1, 106) :: l)) := by
  refine iv_Ret.stl [1] (ls' := [ivR 105]) (st' := [ivR 105]) (w' := (105, iv_mu0 xs, ir_app (l))) rfl ?_
  refine ic_obj rfl rfl rfl rfl ?_
  refine iv_Ret.stl [5, 7] (ls' := [ivR 105]) (st' := [ivI 16, ivR 105]) (w' := (105, iv_mu0 xs, ir_app (l))) rfl ?_
  refine ic_na (x := 16) (n := 105) rfl rfl rfl (by decide) h ?_
  have h1 : ir_ub (l) 106 = true := ir_ub_s h
  refine iv_Ret.stl [12] (ls' := [ivR 105]) (st' := []) (w' := (106, iv_mu0 xs, ir_app ((105, 1, 106) :: l))) rfl ?_
  have h2 : ir_ub ((105, 1, 106) :: l) 106 = true := ir_ub_c rfl h1
  refine iv_Ret.stl [13, 15] (ls' := [ivR 105]) (st' := [ivI 16, ivR 105]) (w' := (106, iv_mu0 xs, ir_app ((105, 1, 106) :: l))) rfl ?_
  refine ic_na (x := 16) (n := 106) rfl rfl rfl (by decide) h2 ?_
  have h3 : ir_ub ((105, 1, 106) :: l) 107 = true := ir_ub_s h2
  refine iv_Ret.stl [20] (ls' := [ivR 105]) (st' := []) (w' := (107, iv_mu0 xs, ir_app ((105, 2, 107) :: (105, 1, 106) :: l))) rfl ?_
  have h4 : ir_ub ((105, 2, 107) :: (105, 1, 106) :: l) 107 = true := ir_ub_c rfl h3
  refine iv_Ret.stl [21, 23] (ls' := [ivR 105]) (st' := [ivI 8, ivR 105]) (w' := (107, iv_mu0 xs, ir_app ((105, 2, 107) :: (105, 1, 106) :: l))) rfl ?_
  refine ic_na (x := 8) (n := 107) rfl rfl rfl (by decide) h4 ?_
  have h5 : ir_ub ((105, 2, 107) :: (105, 1, 106) :: l) 108 = true := ir_ub_s h4
  refine iv_Ret.stl [28] (ls' := [ivR 105]) (st' := []) (w' := (108, iv_mu0 xs, ir_app ((105, 3, 108) :: (105, 2, 107) :: (105, 1, 106) :: l))) rfl ?_
  have h6 : ir_ub ((105, 3, 108) :: (105, 2, 107) :: (105, 1, 106) :: l) 108 = true := ir_ub_c rfl h5
  refine iv_Ret.stl [29, 32] (ls' := [ivR 105]) (st' := [ivI 256, ivR 105]) (w' := (108, iv_mu0 xs, ir_app ((105, 3, 108) :: (105, 2, 107) :: (105, 1, 106) :: l))) rfl ?_
  refine ic_na (x := 256) (n := 108) rfl rfl rfl (by decide) h6 ?_
  have h7 : ir_ub ((105, 3, 108) :: (105, 2, 107) :: (105, 1, 106) :: l) 109 = true := ir_ub_s h6
  refine iv_Ret.stl [37] (ls' := [ivR 105]) (st' := []) (w' := (109, iv_mu0 xs, ir_app ((105, 4, 109) :: (105, 3, 108) :: (105, 2, 107) :: (105, 1, 106) :: l))) rfl ?_
  have h8 : ir_ub ((105, 4, 109) :: (105, 3, 108) :: (105, 2, 107) :: (105, 1, 106) :: l) 109 = true := ir_ub_c rfl h7
  exact ⟨1, rfl⟩
