theorem T_X3_withSound (L : Nat) (p0 : Int) (p1 : Int) (p2 : Int)  {μ μ' : ivM} {r : Int} (h : f_X3_withSound p0 p1 p2 μ = some (r, μ')) : iv_Ret L 25 0 [ivI p0, ivI p1, ivI p2] [] (ivST μ) (some (ivI r)) (ivST μ') := by
  unfold f_X3_withSound at h
  refine iv_Ret.stl [1, 2, 3, 4, 5, 6, 7, 8, 9] (ls' := [ivI p0, ivI p1, ivI p2]) (st' := [ivI (iv_or p0 (iv_shl (iv_wr (p2 + 1)) (iv_wr (3 * p1))))]) (w' := (135, μ, iv_rho)) rfl ?_
  obtain ⟨rfl, rfl⟩ := iv_retE h
  exact ⟨1, rfl⟩
theorem T_lp_X3_lengthOf_2 (L : Nat) (l0 : Int)  {k21 : Int → ivM → Option (Int × ivM)} (hk21 : ∀ (l1 : Int) (μ : ivM) (r : Int) (μ' : ivM) (d0 : ivV), k21 l1 μ = some (r, μ') → iv_Ret L 26 21 [d0, ivI l1] [] (ivST μ) (some (ivI r)) (ivST μ')) : ∀ (n : Nat) (l1 : Int) (μ : ivM) (r : Int) (μ' : ivM), lp_X3_lengthOf_2 l0 k21 n l1 μ = some (r, μ') → iv_Ret L 26 2 [ivI l0, ivI l1] [] (ivST μ) (some (ivI r)) (ivST μ') := by
  intro n
  induction n with
  | zero => intro l1 μ r μ' h; unfold lp_X3_lengthOf_2 at h; cases h
  | succ n ih =>
    intro l1 μ r μ' h
    unfold lp_X3_lengthOf_2 at h
    refine iv_Ret.stl [3, 4] (ls' := [ivI l0, ivI l1]) (st' := [ivI 5, ivI l1]) (w' := (135, μ, iv_rho)) rfl ?_
    rcases iv_iteE h with ⟨c1, h⟩ | ⟨c1, h⟩
    · refine iv_Ret.icT (t := 21) rfl (decide_eq_true c1) rfl ?_
      exact hk21 l1 μ _ _ (ivI l0) h
    · refine iv_Ret.icF (t := 7) rfl (decide_eq_false c1) rfl ?_
      refine iv_Ret.stl [8, 9, 10, 11, 12] (ls' := [ivI l0, ivI l1]) (st' := [ivI (iv_shr l0 (iv_wr (3 * l1)))]) (w' := (135, μ, iv_rho)) rfl ?_
      rcases iv_iteE h with ⟨c2, h⟩ | ⟨c2, h⟩
      · refine iv_Ret.ifT (t := 21) rfl (decide_eq_true c2) rfl ?_
        exact hk21 l1 μ _ _ (ivI l0) h
      · refine iv_Ret.ifF (t := 15) rfl (decide_eq_false c2) rfl ?_
        refine iv_Ret.stl [18, 2] (ls' := [ivI l0, ivI (iv_wr (l1 + 1))]) (st' := []) (w' := (135, μ, iv_rho)) rfl ?_
        exact ih (iv_wr (l1 + 1)) μ _ _ h
theorem T_X3_lengthOf (L : Nat) (p0 : Int)  {μ μ' : ivM} {r : Int} (h : f_X3_lengthOf p0 μ = some (r, μ')) : iv_Ret L 26 0 [ivI p0, ivU] [] (ivST μ) (some (ivI r)) (ivST μ') := by
  unfold f_X3_lengthOf at h
  refine iv_Ret.stl [1, 2] (ls' := [ivI p0, ivI 0]) (st' := []) (w' := (135, μ, iv_rho)) rfl ?_
  refine T_lp_X3_lengthOf_2 L p0 (fun w4 μ5 r6 μ7 z3 h => ?_) iv_fuel 0 μ _ _ h
  refine iv_Ret.stl [22] (ls' := [z3, ivI w4]) (st' := [ivI w4]) (w' := (135, μ5, iv_rho)) rfl ?_
  obtain ⟨rfl, rfl⟩ := iv_retE h
  exact ⟨1, rfl⟩
theorem T_lp_X3_inTongue_10 (L : Nat) (l0 : Int) (l1 : Int) (l2 : Int)    : ∀ (n : Nat) (l3 : Int) (l4 : Int) (μ : ivM) (r : Int) (μ' : ivM), lp_X3_inTongue_10 l0 l1 l2 n l3 l4 μ = some (r, μ') → iv_Ret L 27 10 [ivI l0, ivI l1, ivI l2, ivI l3, ivI l4] [] (ivST μ) (some (ivI r)) (ivST μ') := by
  intro n
  induction n with
  | zero => intro l3 l4 μ r μ' h; unfold lp_X3_inTongue_10 at h; cases h
  | succ n ih =>
    intro l3 l4 μ r μ' h
    unfold lp_X3_inTongue_10 at h
    refine iv_Ret.stl [12, 13] (ls' := [ivI l0, ivI l1, ivI l2, ivI l3, ivI l4]) (st' := [ivI l2, ivI l4]) (w' := (135, μ, iv_rho)) rfl ?_
    rcases iv_iteE h with ⟨c4, h⟩ | ⟨c4, h⟩
    · refine iv_Ret.icT (t := 40) rfl (decide_eq_true c4) rfl ?_
      refine iv_Ret.stl [41] (ls' := [ivI l0, ivI l1, ivI l2, ivI l3, ivI l4]) (st' := [ivI l3]) (w' := (135, μ, iv_rho)) rfl ?_
      obtain ⟨rfl, rfl⟩ := iv_retE h
      exact ⟨1, rfl⟩
    · refine iv_Ret.icF (t := 16) rfl (decide_eq_false c4) rfl ?_
      refine iv_Ret.stl [17, 19, 20, 22] (ls' := [ivI l0, ivI l1, ivI l2, ivI l3, ivI l4]) (st' := [ivI l4, ivI l0, ivI l4, ivI l3]) (w' := (135, μ, iv_rho)) rfl ?_
      obtain ⟨r5, μ6, e7, h⟩ := iv_bndE h
      refine iv_Ret.calls rfl rfl (T_X3_soundAt L l0 l4 e7) ?_
      show iv_Ret L 27 25 [ivI l0, ivI l1, ivI l2, ivI l3, ivI l4] [ivI r5, ivI l4, ivI l3] (ivST μ6) (some (ivI r)) (ivST μ')
      refine iv_Ret.stl [26, 27, 29, 30] (ls' := [ivI l0, ivI l1, ivI l2, ivI l3, ivI l4]) (st' := [ivI (iv_rem (iv_wr (r5 + l1)) 6), ivI l4, ivI l3]) (w' := (135, μ6, iv_rho)) rfl ?_
      obtain ⟨r8, μ9, e10, h⟩ := iv_bndE h
      refine iv_Ret.calls rfl rfl (T_X3_withSound L l3 l4 (iv_rem (iv_wr (r5 + l1)) 6) e10) ?_
      show iv_Ret L 27 33 [ivI l0, ivI l1, ivI l2, ivI l3, ivI l4] [ivI r8] (ivST μ9) (some (ivI r)) (ivST μ')
      refine iv_Ret.stl [34, 37, 10] (ls' := [ivI l0, ivI l1, ivI l2, ivI r8, ivI (iv_wr (l4 + 1))]) (st' := []) (w' := (135, μ9, iv_rho)) rfl ?_
      exact ih r8 (iv_wr (l4 + 1)) μ9 _ _ h
theorem T_X3_inTongue (L : Nat) (p0 : Int) (p1 : Int)  {μ μ' : ivM} {r : Int} (h : f_X3_inTongue p0 p1 μ = some (r, μ')) : iv_Ret L 27 0 [ivI p0, ivI p1, ivU, ivU, ivU] [] (ivST μ) (some (ivI r)) (ivST μ') := by
  unfold f_X3_inTongue at h
  refine iv_Ret.stl [1] (ls' := [ivI p0, ivI p1, ivU, ivU, ivU]) (st' := [ivI p0]) (w' := (135, μ, iv_rho)) rfl ?_
  obtain ⟨r1, μ2, e3, h⟩ := iv_bndE h
  refine iv_Ret.calls rfl rfl (T_X3_lengthOf L p0 e3) ?_
  show iv_Ret L 27 4 [ivI p0, ivI p1, ivU, ivU, ivU] [ivI r1] (ivST μ2) (some (ivI r)) (ivST μ')
  refine iv_Ret.stl [5, 6, 7, 8, 10] (ls' := [ivI p0, ivI p1, ivI r1, ivI 0, ivI 0]) (st' := []) (w' := (135, μ2, iv_rho)) rfl ?_
  exact T_lp_X3_inTongue_10 L p0 p1 r1 iv_fuel 0 0 μ2 _ _ h
theorem T_lp_X4_lay_15 (L : Nat) (a : Nat) (ha : iv_isRul a = true)   : ∀ (n : Nat) (l2 : Int) (μ : ivM) (r : Int) (μ' : ivM) (d1 : ivV), lp_X4_lay_15 a n l2 μ = some (r, μ') → iv_Ret L 30 15 [ivR a, d1, ivI l2] [] (ivST μ) none (ivST μ') := by
  intro n
  induction n with
  | zero => intro l2 μ r μ' d1 h; unfold lp_X4_lay_15 at h; cases h
  | succ n ih =>
    intro l2 μ r μ' d1 h
    unfold lp_X4_lay_15 at h
    refine iv_Ret.stl [16, 17] (ls' := [ivR a, d1, ivI l2]) (st' := [ivI 5, ivI l2]) (w' := (135, μ, iv_rho)) rfl ?_
    rcases iv_iteE h with ⟨c4, h⟩ | ⟨c4, h⟩
    · refine iv_Ret.icT (t := 35) rfl (decide_eq_true c4) rfl ?_
      obtain ⟨rfl, rfl⟩ := iv_retE h
      exact ⟨1, rfl⟩
    · refine iv_Ret.icF (t := 20) rfl (decide_eq_false c4) rfl ?_
      refine iv_Ret.stl [21] (ls' := [ivR a, d1, ivI l2]) (st' := [ivR a]) (w' := (135, μ, iv_rho)) rfl ?_
      refine iv_Ret.getr (y := a + 1) rfl (iv_rl_lay L ha) (iv_rl_n ha) rfl (iv_rl_rho ha) ?_
      show iv_Ret L 30 24 [ivR a, d1, ivI l2] [ivR (a + 1)] (ivST μ) none (ivST μ')
      refine iv_Ret.stl [25] (ls' := [ivR a, d1, ivI l2]) (st' := [ivI 0, ivR (a + 1)]) (w' := (135, μ, iv_rho)) rfl ?_
      refine iv_Ret.aald (len := 6) (y := (a + 2 + 0)) rfl (iv_rl_rows L ha) rfl (iv_rl_n1 ha) (by decide) (by decide) (iv_rl_rhor ha (show 0 < 6 by decide)) ?_
      show iv_Ret L 30 26 [ivR a, d1, ivI l2] [ivR (a + 2 + 0)] (ivST μ) none (ivST μ')
      refine iv_Ret.stl [27, 28] (ls' := [ivR a, d1, ivI l2]) (st' := [ivI l2, ivI l2, ivR (a + 2 + 0)]) (w' := (135, μ, iv_rho)) rfl ?_
      obtain ⟨c5, h⟩ := iv_ckE h
      refine iv_Ret.iast (len := 6) rfl (iv_rl_2r ha (show 0 < 6 by decide)) (iv_rl_row L ha (show 0 < 6 by decide)) (iv_rl_nr ha (show 0 < 6 by decide)) c5.1 c5.2 ?_
      show iv_Ret L 30 29 [ivR a, d1, ivI l2] [] (ivST (iv_upd μ (a + 2 + 0) l2.toNat l2)) none (ivST μ')
      refine iv_Ret.stl [32, 15] (ls' := [ivR a, (iv_un d1), ivI (iv_wr (l2 + 1))]) (st' := []) (w' := (135, (iv_upd μ (a + 2 + 0) l2.toNat l2), iv_rho)) rfl ?_
      exact ih (iv_wr (l2 + 1)) (iv_upd μ (a + 2 + 0) l2.toNat l2) _ _ (iv_un d1) h
theorem T_X4_lay (L : Nat) (a : Nat) (p1 : Int) (ha : iv_isRul a = true) {μ μ' : ivM} {r : Int} (h : f_X4_lay a p1 μ = some (r, μ')) : iv_Ret L 30 0 [ivR a, ivI p1, ivU] [] (ivST μ) none (ivST μ') := by
  unfold f_X4_lay at h
  refine iv_Ret.stl [1, 2] (ls' := [ivR a, ivI p1, ivU]) (st' := [ivI p1, ivR a]) (w' := (135, μ, iv_rho)) rfl ?_
  refine iv_Ret.puti rfl (iv_rl_lay L ha) (iv_rl_n ha) rfl ?_
  show iv_Ret L 30 5 [ivR a, ivI p1, ivU] [] (ivST (iv_upd μ a 1 p1)) none (ivST μ')
  refine iv_Ret.stl [6, 7] (ls' := [ivR a, ivI p1, ivU]) (st' := [ivI p1, ivR a]) (w' := (135, (iv_upd μ a 1 p1), iv_rho)) rfl ?_
  obtain ⟨r1, μ2, e3, h⟩ := iv_bndE h
  refine iv_Ret.calls rfl rfl (T_X3_lengthOf L p1 e3) ?_
  show iv_Ret L 30 10 [ivR a, ivI p1, ivU] [ivI r1, ivR a] (ivST μ2) none (ivST μ')
  refine iv_Ret.puti rfl (iv_rl_lay L ha) (iv_rl_n ha) rfl ?_
  show iv_Ret L 30 13 [ivR a, ivI p1, ivU] [] (ivST (iv_upd μ2 a 2 r1)) none (ivST μ')
  refine iv_Ret.stl [14, 15] (ls' := [ivR a, ivI p1, ivI 0]) (st' := []) (w' := (135, (iv_upd μ2 a 2 r1), iv_rho)) rfl ?_
  exact T_lp_X4_lay_15 L a ha iv_fuel 0 (iv_upd μ2 a 2 r1) _ _ (ivI p1) h
theorem T_J9_min_7cf53 (L : Nat) (p0 : Int) (p1 : Int)  {μ μ' : ivM} {r : Int} (h : f_J9_min_7cf53 p0 p1 μ = some (r, μ')) : iv_Ret L 170 0 [ivI p0, ivI p1] [] (ivST μ) (some (ivI r)) (ivST μ') := by
  unfold f_J9_min_7cf53 at h
  refine iv_Ret.stl [1, 2] (ls' := [ivI p0, ivI p1]) (st' := [ivI p1, ivI p0]) (w' := (135, μ, iv_rho)) rfl ?_
  refine iv_letE (fun j1 => ∀ (v4 : Int) (μ5 : ivM) (r6 : Int) (μ7 : ivM) (z2 : ivV) (z3 : ivV), j1 v4 μ5 = some (r6, μ7) → iv_Ret L 170 10 [z2, z3] [ivI v4] (ivST μ5) (some (ivI r6)) (ivST μ7)) h (fun v4 μ5 r6 μ7 z2 z3 h => ?_) (fun j1 hj1 h => ?_)
  · obtain ⟨rfl, rfl⟩ := iv_retE h
    exact ⟨1, rfl⟩
  · rcases iv_iteE h with ⟨c8, h⟩ | ⟨c8, h⟩
    · refine iv_Ret.icT (t := 9) rfl (decide_eq_true c8) rfl ?_
      refine iv_Ret.stl [10] (ls' := [ivI p0, ivI p1]) (st' := [ivI p1]) (w' := (135, μ, iv_rho)) rfl ?_
      exact hj1 p1 μ _ _ (ivI p0) (ivI p1) h
    · refine iv_Ret.icF (t := 5) rfl (decide_eq_false c8) rfl ?_
      refine iv_Ret.stl [6, 10] (ls' := [ivI p0, ivI p1]) (st' := [ivI p0]) (w' := (135, μ, iv_rho)) rfl ?_
      exact hj1 p0 μ _ _ (ivI p0) (ivI p1) h
theorem T_lp_X4_step_39 (L : Nat) (a : Nat) (l2 : Int) (q3 : Nat) (q4 : Nat) (ha : iv_isRul a = true) (hq3 : q3 < 6) (hq4 : q4 < 6) {k115 : ivM → Option (Int × ivM)} (hk115 : ∀  (μ : ivM) (r : Int) (μ' : ivM) (d0 : ivV) (d1 : ivV) (d2 : ivV) (d3 : ivV) (d4 : ivV) (d5 : ivV) (d6 : ivV), k115 μ = some (r, μ') → iv_Ret L 31 115 [d0, d1, d2, d3, d4, d5, d6] [] (ivST μ) none (ivST μ')) : ∀ (n : Nat) (l5 : Int) (μ : ivM) (r : Int) (μ' : ivM) (d1 : ivV) (d6 : ivV), lp_X4_step_39 a l2 q3 q4 k115 n l5 μ = some (r, μ') → iv_Ret L 31 39 [ivR a, d1, ivI l2, ivR (a + 2 + q3), ivR (a + 2 + q4), ivI l5, d6] [] (ivST μ) none (ivST μ') := by
  intro n
  induction n with
  | zero => intro l5 μ r μ' d1 d6 h; unfold lp_X4_step_39 at h; cases h
  | succ n ih =>
    intro l5 μ r μ' d1 d6 h
    unfold lp_X4_step_39 at h
    refine iv_Ret.stl [41, 42] (ls' := [ivR a, d1, ivI l2, ivR (a + 2 + q3), ivR (a + 2 + q4), ivI l5, d6]) (st' := [ivR a, ivI l5]) (w' := (135, μ, iv_rho)) rfl ?_
    refine iv_Ret.geti rfl (iv_rl_lay L ha) (iv_rl_n ha) rfl ?_
    show iv_Ret L 31 45 [ivR a, d1, ivI l2, ivR (a + 2 + q3), ivR (a + 2 + q4), ivI l5, d6] [ivI (μ a 2), ivI l5] (ivST μ) none (ivST μ')
    rcases iv_iteE h with ⟨c16, h⟩ | ⟨c16, h⟩
    · refine iv_Ret.icT (t := 115) rfl (decide_eq_true c16) rfl ?_
      exact hk115 μ _ _ (ivR a) d1 (ivI l2) (ivR (a + 2 + q3)) (ivR (a + 2 + q4)) (ivI l5) d6 h
    · refine iv_Ret.icF (t := 48) rfl (decide_eq_false c16) rfl ?_
      refine iv_Ret.stl [50, 51] (ls' := [ivR a, d1, ivI l2, ivR (a + 2 + q3), ivR (a + 2 + q4), ivI l5, d6]) (st' := [ivI 5, ivI l5]) (w' := (135, μ, iv_rho)) rfl ?_
      rcases iv_iteE h with ⟨c17, h⟩ | ⟨c17, h⟩
      · refine iv_Ret.icT (t := 115) rfl (decide_eq_true c17) rfl ?_
        exact hk115 μ _ _ (ivR a) d1 (ivI l2) (ivR (a + 2 + q3)) (ivR (a + 2 + q4)) (ivI l5) d6 h
      · refine iv_Ret.icF (t := 54) rfl (decide_eq_false c17) rfl ?_
        refine iv_Ret.stl [55, 57, 58, 59] (ls' := [ivR a, d1, ivI l2, ivR (a + 2 + q3), ivR (a + 2 + q4), ivI l5, d6]) (st' := [ivI (iv_wr (l5 - 1)), ivR (a + 2 + q3)]) (w' := (135, μ, iv_rho)) rfl ?_
        obtain ⟨c18, h⟩ := iv_ckE h
        refine iv_Ret.iald (len := 6) rfl (iv_rl_row L ha hq3) (iv_rl_nr ha hq3) c18.1 c18.2 ?_
        show iv_Ret L 31 60 [ivR a, d1, ivI l2, ivR (a + 2 + q3), ivR (a + 2 + q4), ivI l5, d6] [ivI (μ (a + 2 + q3) (iv_wr (l5 - 1)).toNat)] (ivST μ) none (ivST μ')
        refine iv_Ret.stl [61] (ls' := [ivR a, d1, ivI l2, ivR (a + 2 + q3), ivR (a + 2 + q4), ivI l5, d6]) (st' := [ivR a, ivI (μ (a + 2 + q3) (iv_wr (l5 - 1)).toNat)]) (w' := (135, μ, iv_rho)) rfl ?_
        refine iv_Ret.geti rfl (iv_rl_lay L ha) (iv_rl_n ha) rfl ?_
        show iv_Ret L 31 64 [ivR a, d1, ivI l2, ivR (a + 2 + q3), ivR (a + 2 + q4), ivI l5, d6] [ivI (μ a 1), ivI (μ (a + 2 + q3) (iv_wr (l5 - 1)).toNat)] (ivST μ) none (ivST μ')
        refine iv_Ret.stl [66, 67, 68] (ls' := [ivR a, d1, ivI l2, ivR (a + 2 + q3), ivR (a + 2 + q4), ivI l5, d6]) (st' := [ivI (iv_wr (l5 - 1)), ivI (μ a 1), ivI (μ (a + 2 + q3) (iv_wr (l5 - 1)).toNat)]) (w' := (135, μ, iv_rho)) rfl ?_
        obtain ⟨r19, μ20, e21, h⟩ := iv_bndE h
        refine iv_Ret.calls rfl rfl (T_X3_soundAt L (μ a 1) (iv_wr (l5 - 1)) e21) ?_
        show iv_Ret L 31 71 [ivR a, d1, ivI l2, ivR (a + 2 + q3), ivR (a + 2 + q4), ivI l5, d6] [ivI r19, ivI (μ (a + 2 + q3) (iv_wr (l5 - 1)).toNat)] (ivST μ20) none (ivST μ')
        refine iv_Ret.stl [72] (ls' := [ivR a, d1, ivI l2, ivR (a + 2 + q3), ivR (a + 2 + q4), ivI l5, d6]) (st' := [ivI l2, ivI r19, ivI (μ (a + 2 + q3) (iv_wr (l5 - 1)).toNat)]) (w' := (135, μ20, iv_rho)) rfl ?_
        refine iv_letE (fun j22 => ∀ (v25 : Int) (μ26 : ivM) (r27 : Int) (μ28 : ivM) (z23 : ivV) (z24 : ivV), j22 v25 μ26 = some (r27, μ28) → iv_Ret L 31 80 [ivR a, z23, ivI l2, ivR (a + 2 + q3), ivR (a + 2 + q4), ivI l5, z24] [ivI v25, ivI (μ (a + 2 + q3) (iv_wr (l5 - 1)).toNat)] (ivST μ26) none (ivST μ28)) h (fun v25 μ26 r27 μ28 z23 z24 h => ?_) (fun j22 hj22 h => ?_)
        · refine iv_Ret.stl [81, 83, 85, 87, 89, 90, 92] (ls' := [ivR a, z23, ivI l2, ivR (a + 2 + q3), ivR (a + 2 + q4), ivI l5, ivI (iv_wr ((μ (a + 2 + q3) (iv_wr (l5 - 1)).toNat) + v25))]) (st' := [ivI l5, ivR (a + 2 + q3), ivI (iv_wr ((μ (a + 2 + q3) (iv_wr (l5 - 1)).toNat) + v25)), ivI l5, ivR (a + 2 + q4)]) (w' := (135, μ26, iv_rho)) rfl ?_
          obtain ⟨c29, h⟩ := iv_ckE h
          refine iv_Ret.iald (len := 6) rfl (iv_rl_row L ha hq3) (iv_rl_nr ha hq3) c29.1 c29.2 ?_
          show iv_Ret L 31 93 [ivR a, z23, ivI l2, ivR (a + 2 + q3), ivR (a + 2 + q4), ivI l5, ivI (iv_wr ((μ (a + 2 + q3) (iv_wr (l5 - 1)).toNat) + v25))] [ivI (μ26 (a + 2 + q3) l5.toNat), ivI (iv_wr ((μ (a + 2 + q3) (iv_wr (l5 - 1)).toNat) + v25)), ivI l5, ivR (a + 2 + q4)] (ivST μ26) none (ivST μ28)
          refine iv_Ret.stl [95, 97, 98, 99] (ls' := [ivR a, z23, ivI l2, ivR (a + 2 + q3), ivR (a + 2 + q4), ivI l5, ivI (iv_wr ((μ (a + 2 + q3) (iv_wr (l5 - 1)).toNat) + v25))]) (st' := [ivI (iv_wr (l5 - 1)), ivR (a + 2 + q4), ivI (μ26 (a + 2 + q3) l5.toNat), ivI (iv_wr ((μ (a + 2 + q3) (iv_wr (l5 - 1)).toNat) + v25)), ivI l5, ivR (a + 2 + q4)]) (w' := (135, μ26, iv_rho)) rfl ?_
          obtain ⟨c30, h⟩ := iv_ckE h
          refine iv_Ret.iald (len := 6) rfl (iv_rl_row L ha hq4) (iv_rl_nr ha hq4) c30.1 c30.2 ?_
          show iv_Ret L 31 100 [ivR a, z23, ivI l2, ivR (a + 2 + q3), ivR (a + 2 + q4), ivI l5, ivI (iv_wr ((μ (a + 2 + q3) (iv_wr (l5 - 1)).toNat) + v25))] [ivI (μ26 (a + 2 + q4) (iv_wr (l5 - 1)).toNat), ivI (μ26 (a + 2 + q3) l5.toNat), ivI (iv_wr ((μ (a + 2 + q3) (iv_wr (l5 - 1)).toNat) + v25)), ivI l5, ivR (a + 2 + q4)] (ivST μ26) none (ivST μ28)
          obtain ⟨r31, μ32, e33, h⟩ := iv_bndE h
          refine iv_Ret.calls rfl rfl (T_J9_min_7cf53 L (μ26 (a + 2 + q3) l5.toNat) (μ26 (a + 2 + q4) (iv_wr (l5 - 1)).toNat) e33) ?_
          show iv_Ret L 31 103 [ivR a, z23, ivI l2, ivR (a + 2 + q3), ivR (a + 2 + q4), ivI l5, ivI (iv_wr ((μ (a + 2 + q3) (iv_wr (l5 - 1)).toNat) + v25))] [ivI r31, ivI (iv_wr ((μ (a + 2 + q3) (iv_wr (l5 - 1)).toNat) + v25)), ivI l5, ivR (a + 2 + q4)] (ivST μ32) none (ivST μ28)
          refine iv_Ret.stl [104, 105] (ls' := [ivR a, z23, ivI l2, ivR (a + 2 + q3), ivR (a + 2 + q4), ivI l5, ivI (iv_wr ((μ (a + 2 + q3) (iv_wr (l5 - 1)).toNat) + v25))]) (st' := [ivI (iv_wr (r31 + 1)), ivI (iv_wr ((μ (a + 2 + q3) (iv_wr (l5 - 1)).toNat) + v25)), ivI l5, ivR (a + 2 + q4)]) (w' := (135, μ32, iv_rho)) rfl ?_
          obtain ⟨r34, μ35, e36, h⟩ := iv_bndE h
          refine iv_Ret.calls rfl rfl (T_J9_min_7cf53 L (iv_wr ((μ (a + 2 + q3) (iv_wr (l5 - 1)).toNat) + v25)) (iv_wr (r31 + 1)) e36) ?_
          show iv_Ret L 31 108 [ivR a, z23, ivI l2, ivR (a + 2 + q3), ivR (a + 2 + q4), ivI l5, ivI (iv_wr ((μ (a + 2 + q3) (iv_wr (l5 - 1)).toNat) + v25))] [ivI r34, ivI l5, ivR (a + 2 + q4)] (ivST μ35) none (ivST μ28)
          obtain ⟨c37, h⟩ := iv_ckE h
          refine iv_Ret.iast (len := 6) rfl (iv_rl_2r ha hq4) (iv_rl_row L ha hq4) (iv_rl_nr ha hq4) c37.1 c37.2 ?_
          show iv_Ret L 31 109 [ivR a, z23, ivI l2, ivR (a + 2 + q3), ivR (a + 2 + q4), ivI l5, ivI (iv_wr ((μ (a + 2 + q3) (iv_wr (l5 - 1)).toNat) + v25))] [] (ivST (iv_upd μ35 (a + 2 + q4) l5.toNat r34)) none (ivST μ28)
          refine iv_Ret.stl [112, 39] (ls' := [ivR a, z23, ivI l2, ivR (a + 2 + q3), ivR (a + 2 + q4), ivI (iv_wr (l5 + 1)), ivI (iv_wr ((μ (a + 2 + q3) (iv_wr (l5 - 1)).toNat) + v25))]) (st' := []) (w' := (135, (iv_upd μ35 (a + 2 + q4) l5.toNat r34), iv_rho)) rfl ?_
          exact ih (iv_wr (l5 + 1)) (iv_upd μ35 (a + 2 + q4) l5.toNat r34) _ _ z23 (ivI (iv_wr ((μ (a + 2 + q3) (iv_wr (l5 - 1)).toNat) + v25))) h
        · rcases iv_iteE h with ⟨c38, h⟩ | ⟨c38, h⟩
          · refine iv_Ret.icF (t := 75) rfl (decide_eq_false (not_not_intro c38)) rfl ?_
            refine iv_Ret.stl [76, 80] (ls' := [ivR a, d1, ivI l2, ivR (a + 2 + q3), ivR (a + 2 + q4), ivI l5, d6]) (st' := [ivI 0, ivI (μ (a + 2 + q3) (iv_wr (l5 - 1)).toNat)]) (w' := (135, μ20, iv_rho)) rfl ?_
            exact hj22 0 μ20 _ _ d1 d6 h
          · refine iv_Ret.icT (t := 79) rfl (decide_eq_true c38) rfl ?_
            refine iv_Ret.stl [80] (ls' := [ivR a, d1, ivI l2, ivR (a + 2 + q3), ivR (a + 2 + q4), ivI l5, d6]) (st' := [ivI 1, ivI (μ (a + 2 + q3) (iv_wr (l5 - 1)).toNat)]) (w' := (135, μ20, iv_rho)) rfl ?_
            exact hj22 1 μ20 _ _ d1 d6 h
theorem T_X4_step (L : Nat) (a : Nat) (p1 : Int) (p2 : Int) (ha : iv_isRul a = true) {μ μ' : ivM} {r : Int} (h : f_X4_step a p1 p2 μ = some (r, μ')) : iv_Ret L 31 0 [ivR a, ivI p1, ivI p2, ivU, ivU, ivU, ivU] [] (ivST μ) none (ivST μ') := by
  unfold f_X4_step at h
  refine iv_Ret.stl [1] (ls' := [ivR a, ivI p1, ivI p2, ivU, ivU, ivU, ivU]) (st' := [ivI p1]) (w' := (135, μ, iv_rho)) rfl ?_
  refine iv_letE (fun j1 => ∀ (μ9 : ivM) (r10 : Int) (μ11 : ivM) (z2 : ivV) (z3 : ivV) (z4 : ivV) (z5 : ivV) (z6 : ivV) (z7 : ivV) (z8 : ivV), j1 μ9 = some (r10, μ11) → iv_Ret L 31 9 [z2, z3, z4, z5, z6, z7, z8] [] (ivST μ9) none (ivST μ11)) h (fun μ9 r10 μ11 z2 z3 z4 z5 z6 z7 z8 h => ?_) (fun j1 hj1 h => ?_)
  · obtain ⟨rfl, rfl⟩ := iv_retE h
    exact ⟨1, rfl⟩
  · rcases iv_iteE h with ⟨c12, h⟩ | ⟨c12, h⟩
    · refine iv_Ret.ifT (t := 9) rfl (decide_eq_true c12) rfl ?_
      exact hj1 μ _ _ (ivR a) (ivI p1) (ivI p2) ivU ivU ivU ivU h
    · refine iv_Ret.ifF (t := 4) rfl (decide_eq_false c12) rfl ?_
      refine iv_Ret.stl [5, 6] (ls' := [ivR a, ivI p1, ivI p2, ivU, ivU, ivU, ivU]) (st' := [ivI 5, ivI p1]) (w' := (135, μ, iv_rho)) rfl ?_
      rcases iv_iteE h with ⟨c13, h⟩ | ⟨c13, h⟩
      · refine iv_Ret.icT (t := 10) rfl (decide_eq_true c13) rfl ?_
        refine iv_Ret.stl [11] (ls' := [ivR a, ivI p1, ivI p2, ivU, ivU, ivU, ivU]) (st' := [ivR a]) (w' := (135, μ, iv_rho)) rfl ?_
        refine iv_Ret.getr (y := a + 1) rfl (iv_rl_lay L ha) (iv_rl_n ha) rfl (iv_rl_rho ha) ?_
        show iv_Ret L 31 14 [ivR a, ivI p1, ivI p2, ivU, ivU, ivU, ivU] [ivR (a + 1)] (ivST μ) none (ivST μ')
        refine iv_Ret.stl [15] (ls' := [ivR a, ivI p1, ivI p2, ivU, ivU, ivU, ivU]) (st' := [ivI p1, ivR (a + 1)]) (w' := (135, μ, iv_rho)) rfl ?_
        obtain ⟨c14, h⟩ := iv_ckE h
        refine iv_Ret.aald (len := 6) (y := (a + 2 + p1.toNat)) rfl (iv_rl_rows L ha) rfl (iv_rl_n1 ha) c14.1 c14.2 (iv_rl_rhor ha (iv_j6 c14)) ?_
        show iv_Ret L 31 16 [ivR a, ivI p1, ivI p2, ivU, ivU, ivU, ivU] [ivR (a + 2 + p1.toNat)] (ivST μ) none (ivST μ')
        refine iv_Ret.stl [17, 18] (ls' := [ivR a, ivI p1, ivI p2, ivR (a + 2 + p1.toNat), ivU, ivU, ivU]) (st' := [ivR a]) (w' := (135, μ, iv_rho)) rfl ?_
        refine iv_Ret.getr (y := a + 1) rfl (iv_rl_lay L ha) (iv_rl_n ha) rfl (iv_rl_rho ha) ?_
        show iv_Ret L 31 21 [ivR a, ivI p1, ivI p2, ivR (a + 2 + p1.toNat), ivU, ivU, ivU] [ivR (a + 1)] (ivST μ) none (ivST μ')
        refine iv_Ret.stl [22, 23, 24] (ls' := [ivR a, ivI p1, ivI p2, ivR (a + 2 + p1.toNat), ivU, ivU, ivU]) (st' := [ivI (iv_wr (p1 + 1)), ivR (a + 1)]) (w' := (135, μ, iv_rho)) rfl ?_
        obtain ⟨c15, h⟩ := iv_ckE h
        refine iv_Ret.aald (len := 6) (y := (a + 2 + (iv_wr (p1 + 1)).toNat)) rfl (iv_rl_rows L ha) rfl (iv_rl_n1 ha) c15.1 c15.2 (iv_rl_rhor ha (iv_j6 c15)) ?_
        show iv_Ret L 31 25 [ivR a, ivI p1, ivI p2, ivR (a + 2 + p1.toNat), ivU, ivU, ivU] [ivR (a + 2 + (iv_wr (p1 + 1)).toNat)] (ivST μ) none (ivST μ')
        refine iv_Ret.stl [27, 29, 30, 31, 32] (ls' := [ivR a, ivI p1, ivI p2, ivR (a + 2 + p1.toNat), ivR (a + 2 + (iv_wr (p1 + 1)).toNat), ivU, ivU]) (st' := [ivI 0, ivR (a + 2 + p1.toNat), ivI 0, ivR (a + 2 + (iv_wr (p1 + 1)).toNat)]) (w' := (135, μ, iv_rho)) rfl ?_
        refine iv_Ret.iald (len := 6) rfl (iv_rl_row L ha (iv_j6 c14)) (iv_rl_nr ha (iv_j6 c14)) (by decide) (by decide) ?_
        show iv_Ret L 31 33 [ivR a, ivI p1, ivI p2, ivR (a + 2 + p1.toNat), ivR (a + 2 + (iv_wr (p1 + 1)).toNat), ivU, ivU] [ivI (μ (a + 2 + p1.toNat) 0), ivI 0, ivR (a + 2 + (iv_wr (p1 + 1)).toNat)] (ivST μ) none (ivST μ')
        refine iv_Ret.stl [34, 35] (ls' := [ivR a, ivI p1, ivI p2, ivR (a + 2 + p1.toNat), ivR (a + 2 + (iv_wr (p1 + 1)).toNat), ivU, ivU]) (st' := [ivI (iv_wr ((μ (a + 2 + p1.toNat) 0) + 1)), ivI 0, ivR (a + 2 + (iv_wr (p1 + 1)).toNat)]) (w' := (135, μ, iv_rho)) rfl ?_
        refine iv_Ret.iast (len := 6) rfl (iv_rl_2r ha (iv_j6 c15)) (iv_rl_row L ha (iv_j6 c15)) (iv_rl_nr ha (iv_j6 c15)) (by decide) (by decide) ?_
        show iv_Ret L 31 36 [ivR a, ivI p1, ivI p2, ivR (a + 2 + p1.toNat), ivR (a + 2 + (iv_wr (p1 + 1)).toNat), ivU, ivU] [] (ivST (iv_upd μ (a + 2 + (iv_wr (p1 + 1)).toNat) 0 (iv_wr ((μ (a + 2 + p1.toNat) 0) + 1)))) none (ivST μ')
        refine iv_Ret.stl [37, 39] (ls' := [ivR a, ivI p1, ivI p2, ivR (a + 2 + p1.toNat), ivR (a + 2 + (iv_wr (p1 + 1)).toNat), ivI 1, ivU]) (st' := []) (w' := (135, (iv_upd μ (a + 2 + (iv_wr (p1 + 1)).toNat) 0 (iv_wr ((μ (a + 2 + p1.toNat) 0) + 1))), iv_rho)) rfl ?_
        refine T_lp_X4_step_39 L a p2 (p1.toNat) ((iv_wr (p1 + 1)).toNat) ha (iv_j6 c14) (iv_j6 c15) (fun μ46 r47 μ48 z39 z40 z41 z42 z43 z44 z45 h => ?_) iv_fuel 1 (iv_upd μ (a + 2 + (iv_wr (p1 + 1)).toNat) 0 (iv_wr ((μ (a + 2 + p1.toNat) 0) + 1))) _ _ (ivI p1) ivU h
        obtain ⟨rfl, rfl⟩ := iv_retE h
        exact ⟨1, rfl⟩
      · refine iv_Ret.icF (t := 9) rfl (decide_eq_false c13) rfl ?_
        exact hj1 μ _ _ (ivR a) (ivI p1) (ivI p2) ivU ivU ivU ivU h
theorem T_lp_X4_between_13 (L : Nat) (l1 : Int) (l3 : Int)  {k37 : ivM → Option (Int × ivM)} (hk37 : ∀  (μ : ivM) (r : Int) (μ' : ivM) (d1 : ivV) (d2 : ivV) (d4 : ivV), k37 μ = some (r, μ') → iv_Ret L 29 37 [ivR 24, d1, d2, ivI l3, d4] [] (ivST μ) (some (ivI r)) (ivST μ')) : ∀ (n : Nat) (l4 : Int) (μ : ivM) (r : Int) (μ' : ivM) (d2 : ivV), lp_X4_between_13 l1 l3 k37 n l4 μ = some (r, μ') → iv_Ret L 29 13 [ivR 24, ivI l1, d2, ivI l3, ivI l4] [] (ivST μ) (some (ivI r)) (ivST μ') := by
  intro n
  induction n with
  | zero => intro l4 μ r μ' d2 h; unfold lp_X4_between_13 at h; cases h
  | succ n ih =>
    intro l4 μ r μ' d2 h
    unfold lp_X4_between_13 at h
    refine iv_Ret.stl [15, 16] (ls' := [ivR 24, ivI l1, d2, ivI l3, ivI l4]) (st' := [ivI l3, ivI l4]) (w' := (135, μ, iv_rho)) rfl ?_
    rcases iv_iteE h with ⟨c7, h⟩ | ⟨c7, h⟩
    · refine iv_Ret.icT (t := 37) rfl (decide_eq_true c7) rfl ?_
      exact hk37 μ _ _ (ivI l1) d2 (ivI l4) h
    · refine iv_Ret.icF (t := 19) rfl (decide_eq_false c7) rfl ?_
      refine iv_Ret.stl [20, 22, 23, 25] (ls' := [ivR 24, ivI l1, d2, ivI l3, ivI l4]) (st' := [ivI l4, ivI l1, ivI l4, ivR 24]) (w' := (135, μ, iv_rho)) rfl ?_
      obtain ⟨r8, μ9, e10, h⟩ := iv_bndE h
      refine iv_Ret.calls rfl rfl (T_X3_soundAt L l1 l4 e10) ?_
      show iv_Ret L 29 28 [ivR 24, ivI l1, d2, ivI l3, ivI l4] [ivI r8, ivI l4, ivR 24] (ivST μ9) (some (ivI r)) (ivST μ')
      obtain ⟨r11, μ12, e13, h⟩ := iv_bndE h
      refine iv_Ret.callv rfl rfl rfl (T_X4_step L 24 l4 r8 rfl e13) ?_
      show iv_Ret L 29 31 [ivR 24, ivI l1, d2, ivI l3, ivI l4] [] (ivST μ12) (some (ivI r)) (ivST μ')
      refine iv_Ret.stl [34, 13] (ls' := [ivR 24, ivI l1, d2, ivI l3, ivI (iv_wr (l4 + 1))]) (st' := []) (w' := (135, μ12, iv_rho)) rfl ?_
      exact ih (iv_wr (l4 + 1)) μ12 _ _ d2 h
theorem T_X4_between (L : Nat) (p1 : Int) (p2 : Int)  {μ μ' : ivM} {r : Int} (h : f_X4_between p1 p2 μ = some (r, μ')) : iv_Ret L 29 0 [ivR 24, ivI p1, ivI p2, ivU, ivU] [] (ivST μ) (some (ivI r)) (ivST μ') := by
  unfold f_X4_between at h
  refine iv_Ret.stl [1, 2] (ls' := [ivR 24, ivI p1, ivI p2, ivU, ivU]) (st' := [ivI p2, ivR 24]) (w' := (135, μ, iv_rho)) rfl ?_
  obtain ⟨r1, μ2, e3, h⟩ := iv_bndE h
  refine iv_Ret.callv rfl rfl rfl (T_X4_lay L 24 p2 rfl e3) ?_
  show iv_Ret L 29 5 [ivR 24, ivI p1, ivI p2, ivU, ivU] [] (ivST μ2) (some (ivI r)) (ivST μ')
  refine iv_Ret.stl [6] (ls' := [ivR 24, ivI p1, ivI p2, ivU, ivU]) (st' := [ivI p1]) (w' := (135, μ2, iv_rho)) rfl ?_
  obtain ⟨r4, μ5, e6, h⟩ := iv_bndE h
  refine iv_Ret.calls rfl rfl (T_X3_lengthOf L p1 e6) ?_
  show iv_Ret L 29 9 [ivR 24, ivI p1, ivI p2, ivU, ivU] [ivI r4] (ivST μ5) (some (ivI r)) (ivST μ')
  refine iv_Ret.stl [10, 11, 13] (ls' := [ivR 24, ivI p1, ivI p2, ivI r4, ivI 0]) (st' := []) (w' := (135, μ5, iv_rho)) rfl ?_
  refine T_lp_X4_between_13 L p1 r4 (fun μ17 r18 μ19 z14 z15 z16 h => ?_) iv_fuel 0 μ5 _ _ (ivI p2) h
  refine iv_Ret.stl [38, 39] (ls' := [ivR 24, z14, z15, ivI r4, z16]) (st' := [ivI 5, ivI r4]) (w' := (135, μ17, iv_rho)) rfl ?_
  refine iv_letE (fun j20 => ∀ (v26 : Int) (μ27 : ivM) (r28 : Int) (μ29 : ivM) (z21 : ivV) (z22 : ivV) (z23 : ivV) (z24 : ivV) (z25 : ivV), j20 v26 μ27 = some (r28, μ29) → iv_Ret L 29 65 [z21, z22, z23, z24, z25] [ivI v26] (ivST μ27) (some (ivI r28)) (ivST μ29)) h (fun v26 μ27 r28 μ29 z21 z22 z23 z24 z25 h => ?_) (fun j20 hj20 h => ?_)
  · obtain ⟨rfl, rfl⟩ := iv_retE h
    exact ⟨1, rfl⟩
  · refine iv_letE (fun j30 => ∀ (μ36 : ivM) (r37 : Int) (μ38 : ivM) (z31 : ivV) (z32 : ivV) (z33 : ivV) (z34 : ivV) (z35 : ivV), j30 μ36 = some (r37, μ38) → iv_Ret L 29 64 [z31, z32, z33, z34, z35] [] (ivST μ36) (some (ivI r37)) (ivST μ38)) h (fun μ36 r37 μ38 z31 z32 z33 z34 z35 h => ?_) (fun j30 hj30 h => ?_)
    · refine iv_Ret.stl [65] (ls' := [z31, z32, z33, z34, z35]) (st' := [ivI 0]) (w' := (135, μ36, iv_rho)) rfl ?_
      exact hj20 0 μ36 _ _ z31 z32 z33 z34 z35 h
    · rcases iv_iteE h with ⟨c39, h⟩ | ⟨c39, h⟩
      · refine iv_Ret.icT (t := 64) rfl (decide_eq_true c39) rfl ?_
        exact hj30 μ17 _ _ (ivR 24) z14 z15 (ivI r4) z16 h
      · refine iv_Ret.icF (t := 42) rfl (decide_eq_false c39) rfl ?_
        refine iv_Ret.stl [43, 46, 47] (ls' := [ivR 24, z14, z15, ivI r4, z16]) (st' := [ivI 5, ivI (μ17 24 2)]) (w' := (135, μ17, iv_rho)) rfl ?_
        rcases iv_iteE h with ⟨c40, h⟩ | ⟨c40, h⟩
        · refine iv_Ret.icT (t := 64) rfl (decide_eq_true c40) rfl ?_
          exact hj30 μ17 _ _ (ivR 24) z14 z15 (ivI r4) z16 h
        · refine iv_Ret.icF (t := 50) rfl (decide_eq_false c40) rfl ?_
          refine iv_Ret.stl [51, 54] (ls' := [ivR 24, z14, z15, ivI r4, z16]) (st' := [ivR 25]) (w' := (135, μ17, iv_rho)) rfl ?_
          refine iv_Ret.stl [55] (ls' := [ivR 24, z14, z15, ivI r4, z16]) (st' := [ivI r4, ivR 25]) (w' := (135, μ17, iv_rho)) rfl ?_
          obtain ⟨c41, h⟩ := iv_ckE h
          refine iv_Ret.aald (len := 6) (y := (24 + 2 + r4.toNat)) rfl rfl rfl rfl c41.1 c41.2 (iv_rl_rhor (a := 24) rfl (iv_j6 c41)) ?_
          show iv_Ret L 29 56 [ivR 24, z14, z15, ivI r4, z16] [ivR (24 + 2 + r4.toNat)] (ivST μ17) (some (ivI r18)) (ivST μ19)
          refine iv_Ret.stl [57, 60] (ls' := [ivR 24, z14, z15, ivI r4, z16]) (st' := [ivI (μ17 24 2), ivR (24 + 2 + r4.toNat)]) (w' := (135, μ17, iv_rho)) rfl ?_
          obtain ⟨c42, h⟩ := iv_ckE h
          refine iv_Ret.iald (len := 6) rfl (iv_rl_row L (show iv_isRul 24 = true from rfl) (iv_j6 c41)) (iv_rl_nr (show iv_isRul 24 = true from rfl) (iv_j6 c41)) c42.1 c42.2 ?_
          show iv_Ret L 29 61 [ivR 24, z14, z15, ivI r4, z16] [ivI (μ17 (24 + 2 + r4.toNat) (μ17 24 2).toNat)] (ivST μ17) (some (ivI r18)) (ivST μ19)
          refine iv_Ret.stl [65] (ls' := [ivR 24, z14, z15, ivI r4, z16]) (st' := [ivI (μ17 (24 + 2 + r4.toNat) (μ17 24 2).toNat)]) (w' := (135, μ17, iv_rho)) rfl ?_
          exact hj20 (μ17 (24 + 2 + r4.toNat) (μ17 24 2).toNat) μ17 _ _ (ivR 24) z14 z15 (ivI r4) z16 h
theorem T_J9_max_7cf53 (L : Nat) (p0 : Int) (p1 : Int)  {μ μ' : ivM} {r : Int} (h : f_J9_max_7cf53 p0 p1 μ = some (r, μ')) : iv_Ret L 169 0 [ivI p0, ivI p1] [] (ivST μ) (some (ivI r)) (ivST μ') := by
  unfold f_J9_max_7cf53 at h
  refine iv_Ret.stl [1, 2] (ls' := [ivI p0, ivI p1]) (st' := [ivI p1, ivI p0]) (w' := (135, μ, iv_rho)) rfl ?_
  refine iv_letE (fun j1 => ∀ (v4 : Int) (μ5 : ivM) (r6 : Int) (μ7 : ivM) (z2 : ivV) (z3 : ivV), j1 v4 μ5 = some (r6, μ7) → iv_Ret L 169 10 [z2, z3] [ivI v4] (ivST μ5) (some (ivI r6)) (ivST μ7)) h (fun v4 μ5 r6 μ7 z2 z3 h => ?_) (fun j1 hj1 h => ?_)
  · obtain ⟨rfl, rfl⟩ := iv_retE h
    exact ⟨1, rfl⟩
  · rcases iv_iteE h with ⟨c8, h⟩ | ⟨c8, h⟩
    · refine iv_Ret.icT (t := 9) rfl (decide_eq_true c8) rfl ?_
      refine iv_Ret.stl [10] (ls' := [ivI p0, ivI p1]) (st' := [ivI p1]) (w' := (135, μ, iv_rho)) rfl ?_
      exact hj1 p1 μ _ _ (ivI p0) (ivI p1) h
    · refine iv_Ret.icF (t := 5) rfl (decide_eq_false c8) rfl ?_
      refine iv_Ret.stl [6, 10] (ls' := [ivI p0, ivI p1]) (st' := [ivI p0]) (w' := (135, μ, iv_rho)) rfl ?_
      exact hj1 p0 μ _ _ (ivI p0) (ivI p1) h
theorem T_lp_X4_atMost_35 (L : Nat) (a : Nat) (l2 : Int) (q3 : Nat) (ha : iv_isRul a = true) (hq3 : q3 < 6) {k79 : Int → ivM → Option (Int × ivM)} (hk79 : ∀ (l4 : Int) (μ : ivM) (r : Int) (μ' : ivM) (d0 : ivV) (d1 : ivV) (d2 : ivV) (d3 : ivV) (d5 : ivV), k79 l4 μ = some (r, μ') → iv_Ret L 32 79 [d0, d1, d2, d3, ivI l4, d5] [] (ivST μ) (some (ivI r)) (ivST μ')) : ∀ (n : Nat) (l4 : Int) (l5 : Int) (μ : ivM) (r : Int) (μ' : ivM) (d1 : ivV), lp_X4_atMost_35 a l2 q3 k79 n l4 l5 μ = some (r, μ') → iv_Ret L 32 35 [ivR a, d1, ivI l2, ivR (a + 2 + q3), ivI l4, ivI l5] [] (ivST μ) (some (ivI r)) (ivST μ') := by
  intro n
  induction n with
  | zero => intro l4 l5 μ r μ' d1 h; unfold lp_X4_atMost_35 at h; cases h
  | succ n ih =>
    intro l4 l5 μ r μ' d1 h
    unfold lp_X4_atMost_35 at h
    refine iv_Ret.stl [37, 38] (ls' := [ivR a, d1, ivI l2, ivR (a + 2 + q3), ivI l4, ivI l5]) (st' := [ivR a, ivI l5]) (w' := (135, μ, iv_rho)) rfl ?_
    refine iv_Ret.geti rfl (iv_rl_lay L ha) (iv_rl_n ha) rfl ?_
    show iv_Ret L 32 41 [ivR a, d1, ivI l2, ivR (a + 2 + q3), ivI l4, ivI l5] [ivI (μ a 2), ivI l5] (ivST μ) (some (ivI r)) (ivST μ')
    rcases iv_iteE h with ⟨c17, h⟩ | ⟨c17, h⟩
    · refine iv_Ret.icT (t := 79) rfl (decide_eq_true c17) rfl ?_
      exact hk79 l4 μ _ _ (ivR a) d1 (ivI l2) (ivR (a + 2 + q3)) (ivI l5) h
    · refine iv_Ret.icF (t := 44) rfl (decide_eq_false c17) rfl ?_
      refine iv_Ret.stl [46, 47] (ls' := [ivR a, d1, ivI l2, ivR (a + 2 + q3), ivI l4, ivI l5]) (st' := [ivI 5, ivI l5]) (w' := (135, μ, iv_rho)) rfl ?_
      rcases iv_iteE h with ⟨c18, h⟩ | ⟨c18, h⟩
      · refine iv_Ret.icT (t := 79) rfl (decide_eq_true c18) rfl ?_
        exact hk79 l4 μ _ _ (ivR a) d1 (ivI l2) (ivR (a + 2 + q3)) (ivI l5) h
      · refine iv_Ret.icF (t := 50) rfl (decide_eq_false c18) rfl ?_
        refine iv_Ret.stl [52, 53, 55] (ls' := [ivR a, d1, ivI l2, ivR (a + 2 + q3), ivI l4, ivI l5]) (st' := [ivI l5, ivR (a + 2 + q3), ivI l4]) (w' := (135, μ, iv_rho)) rfl ?_
        obtain ⟨c19, h⟩ := iv_ckE h
        refine iv_Ret.iald (len := 6) rfl (iv_rl_row L ha hq3) (iv_rl_nr ha hq3) c19.1 c19.2 ?_
        show iv_Ret L 32 56 [ivR a, d1, ivI l2, ivR (a + 2 + q3), ivI l4, ivI l5] [ivI (μ (a + 2 + q3) l5.toNat), ivI l4] (ivST μ) (some (ivI r)) (ivST μ')
        refine iv_Ret.stl [57, 58] (ls' := [ivR a, d1, ivI l2, ivR (a + 2 + q3), ivI l4, ivI l5]) (st' := [ivR a, ivI l2, ivI (μ (a + 2 + q3) l5.toNat), ivI l4]) (w' := (135, μ, iv_rho)) rfl ?_
        refine iv_Ret.geti rfl (iv_rl_lay L ha) (iv_rl_n ha) rfl ?_
        show iv_Ret L 32 61 [ivR a, d1, ivI l2, ivR (a + 2 + q3), ivI l4, ivI l5] [ivI (μ a 2), ivI l2, ivI (μ (a + 2 + q3) l5.toNat), ivI l4] (ivST μ) (some (ivI r)) (ivST μ')
        refine iv_Ret.stl [63, 64] (ls' := [ivR a, d1, ivI l2, ivR (a + 2 + q3), ivI l4, ivI l5]) (st' := [ivI (iv_wr ((μ a 2) - l5)), ivI l2, ivI (μ (a + 2 + q3) l5.toNat), ivI l4]) (w' := (135, μ, iv_rho)) rfl ?_
        obtain ⟨r20, μ21, e22, h⟩ := iv_bndE h
        refine iv_Ret.calls rfl rfl (T_J9_max_7cf53 L l2 (iv_wr ((μ a 2) - l5)) e22) ?_
        show iv_Ret L 32 67 [ivR a, d1, ivI l2, ivR (a + 2 + q3), ivI l4, ivI l5] [ivI r20, ivI (μ (a + 2 + q3) l5.toNat), ivI l4] (ivST μ21) (some (ivI r)) (ivST μ')
        refine iv_Ret.stl [68] (ls' := [ivR a, d1, ivI l2, ivR (a + 2 + q3), ivI l4, ivI l5]) (st' := [ivI (iv_wr ((μ (a + 2 + q3) l5.toNat) + r20)), ivI l4]) (w' := (135, μ21, iv_rho)) rfl ?_
        obtain ⟨r23, μ24, e25, h⟩ := iv_bndE h
        refine iv_Ret.calls rfl rfl (T_J9_min_7cf53 L l4 (iv_wr ((μ (a + 2 + q3) l5.toNat) + r20)) e25) ?_
        show iv_Ret L 32 71 [ivR a, d1, ivI l2, ivR (a + 2 + q3), ivI l4, ivI l5] [ivI r23] (ivST μ24) (some (ivI r)) (ivST μ')
        refine iv_Ret.stl [73, 76, 35] (ls' := [ivR a, d1, ivI l2, ivR (a + 2 + q3), ivI r23, ivI (iv_wr (l5 + 1))]) (st' := []) (w' := (135, μ24, iv_rho)) rfl ?_
        exact ih r23 (iv_wr (l5 + 1)) μ24 _ _ d1 h
theorem T_X4_atMost (L : Nat) (a : Nat) (p1 : Int) (p2 : Int) (ha : iv_isRul a = true) {μ μ' : ivM} {r : Int} (h : f_X4_atMost a p1 p2 μ = some (r, μ')) : iv_Ret L 32 0 [ivR a, ivI p1, ivI p2, ivU, ivU, ivU] [] (ivST μ) (some (ivI r)) (ivST μ') := by
  unfold f_X4_atMost at h
  refine iv_Ret.stl [1] (ls' := [ivR a, ivI p1, ivI p2, ivU, ivU, ivU]) (st' := [ivI p1]) (w' := (135, μ, iv_rho)) rfl ?_
  refine iv_letE (fun j1 => ∀ (μ8 : ivM) (r9 : Int) (μ10 : ivM) (z2 : ivV) (z3 : ivV) (z4 : ivV) (z5 : ivV) (z6 : ivV) (z7 : ivV), j1 μ8 = some (r9, μ10) → iv_Ret L 32 9 [z2, z3, z4, z5, z6, z7] [] (ivST μ8) (some (ivI r9)) (ivST μ10)) h (fun μ8 r9 μ10 z2 z3 z4 z5 z6 z7 h => ?_) (fun j1 hj1 h => ?_)
  · refine iv_Ret.stl [10] (ls' := [z2, z3, z4, z5, z6, z7]) (st' := [ivI 0]) (w' := (135, μ8, iv_rho)) rfl ?_
    obtain ⟨rfl, rfl⟩ := iv_retE h
    exact ⟨1, rfl⟩
  · rcases iv_iteE h with ⟨c11, h⟩ | ⟨c11, h⟩
    · refine iv_Ret.ifT (t := 9) rfl (decide_eq_true c11) rfl ?_
      exact hj1 μ _ _ (ivR a) (ivI p1) (ivI p2) ivU ivU ivU h
    · refine iv_Ret.ifF (t := 4) rfl (decide_eq_false c11) rfl ?_
      refine iv_Ret.stl [5, 6] (ls' := [ivR a, ivI p1, ivI p2, ivU, ivU, ivU]) (st' := [ivI 5, ivI p1]) (w' := (135, μ, iv_rho)) rfl ?_
      rcases iv_iteE h with ⟨c12, h⟩ | ⟨c12, h⟩
      · refine iv_Ret.icT (t := 11) rfl (decide_eq_true c12) rfl ?_
        refine iv_Ret.stl [12] (ls' := [ivR a, ivI p1, ivI p2, ivU, ivU, ivU]) (st' := [ivR a]) (w' := (135, μ, iv_rho)) rfl ?_
        refine iv_Ret.getr (y := a + 1) rfl (iv_rl_lay L ha) (iv_rl_n ha) rfl (iv_rl_rho ha) ?_
        show iv_Ret L 32 15 [ivR a, ivI p1, ivI p2, ivU, ivU, ivU] [ivR (a + 1)] (ivST μ) (some (ivI r)) (ivST μ')
        refine iv_Ret.stl [16] (ls' := [ivR a, ivI p1, ivI p2, ivU, ivU, ivU]) (st' := [ivI p1, ivR (a + 1)]) (w' := (135, μ, iv_rho)) rfl ?_
        obtain ⟨c13, h⟩ := iv_ckE h
        refine iv_Ret.aald (len := 6) (y := (a + 2 + p1.toNat)) rfl (iv_rl_rows L ha) rfl (iv_rl_n1 ha) c13.1 c13.2 (iv_rl_rhor ha (iv_j6 c13)) ?_
        show iv_Ret L 32 17 [ivR a, ivI p1, ivI p2, ivU, ivU, ivU] [ivR (a + 2 + p1.toNat)] (ivST μ) (some (ivI r)) (ivST μ')
        refine iv_Ret.stl [18, 19, 20] (ls' := [ivR a, ivI p1, ivI p2, ivR (a + 2 + p1.toNat), ivU, ivU]) (st' := [ivI 0, ivR (a + 2 + p1.toNat)]) (w' := (135, μ, iv_rho)) rfl ?_
        refine iv_Ret.iald (len := 6) rfl (iv_rl_row L ha (iv_j6 c13)) (iv_rl_nr ha (iv_j6 c13)) (by decide) (by decide) ?_
        show iv_Ret L 32 21 [ivR a, ivI p1, ivI p2, ivR (a + 2 + p1.toNat), ivU, ivU] [ivI (μ (a + 2 + p1.toNat) 0)] (ivST μ) (some (ivI r)) (ivST μ')
        refine iv_Ret.stl [22, 23] (ls' := [ivR a, ivI p1, ivI p2, ivR (a + 2 + p1.toNat), ivU, ivU]) (st' := [ivR a, ivI p2, ivI (μ (a + 2 + p1.toNat) 0)]) (w' := (135, μ, iv_rho)) rfl ?_
        refine iv_Ret.geti rfl (iv_rl_lay L ha) (iv_rl_n ha) rfl ?_
        show iv_Ret L 32 26 [ivR a, ivI p1, ivI p2, ivR (a + 2 + p1.toNat), ivU, ivU] [ivI (μ a 2), ivI p2, ivI (μ (a + 2 + p1.toNat) 0)] (ivST μ) (some (ivI r)) (ivST μ')
        obtain ⟨r14, μ15, e16, h⟩ := iv_bndE h
        refine iv_Ret.calls rfl rfl (T_J9_max_7cf53 L p2 (μ a 2) e16) ?_
        show iv_Ret L 32 29 [ivR a, ivI p1, ivI p2, ivR (a + 2 + p1.toNat), ivU, ivU] [ivI r14, ivI (μ (a + 2 + p1.toNat) 0)] (ivST μ15) (some (ivI r)) (ivST μ')
        refine iv_Ret.stl [30, 32, 33, 35] (ls' := [ivR a, ivI p1, ivI p2, ivR (a + 2 + p1.toNat), ivI (iv_wr ((μ (a + 2 + p1.toNat) 0) + r14)), ivI 1]) (st' := []) (w' := (135, μ15, iv_rho)) rfl ?_
        refine T_lp_X4_atMost_35 L a p2 (p1.toNat) ha (iv_j6 c13) (fun w30 μ32 r33 μ34 z26 z27 z28 z29 z31 h => ?_) iv_fuel (iv_wr ((μ (a + 2 + p1.toNat) 0) + r14)) 1 μ15 _ _ (ivI p1) h
        refine iv_Ret.stl [81] (ls' := [z26, z27, z28, z29, ivI w30, z31]) (st' := [ivI w30]) (w' := (135, μ32, iv_rho)) rfl ?_
        obtain ⟨rfl, rfl⟩ := iv_retE h
        exact ⟨1, rfl⟩
      · refine iv_Ret.icF (t := 9) rfl (decide_eq_false c12) rfl ?_
        exact hj1 μ _ _ (ivR a) (ivI p1) (ivI p2) ivU ivU ivU h
theorem T_X5_begin (L : Nat)   {μ μ' : ivM} {r : Int} (h : f_X5_begin  μ = some (r, μ')) : iv_Ret L 34 0 [ivR 32] [] (ivST μ) none (ivST μ') := by
  unfold f_X5_begin at h
  refine iv_Ret.stl [1, 2, 5] (ls' := [ivR 32]) (st' := []) (w' := (135, (iv_upd μ 32 2 0), iv_rho)) rfl ?_
  obtain ⟨rfl, rfl⟩ := iv_retE h
  exact ⟨1, rfl⟩
theorem T_X5_rulerAt (L : Nat) (p1 : Int)  {μ μ' : ivM} {r : Int} (h : f_X5_rulerAt p1 μ = some (r, μ')) : iv_Ret L 36 0 [ivR 32, ivI p1] [] (ivST μ) (some (ivR r.toNat)) (ivST μ') := by
  unfold f_X5_rulerAt at h
  refine iv_Ret.stl [1] (ls' := [ivR 32, ivI p1]) (st' := [ivI p1]) (w' := (135, μ, iv_rho)) rfl ?_
  refine iv_letE (fun j1 => ∀ (v4 : Nat) (μ5 : ivM) (r6 : Int) (μ7 : ivM) (z2 : ivV) (z3 : ivV), j1 v4 μ5 = some (r6, μ7) → iv_Ret L 36 20 [z2, z3] [ivR v4] (ivST μ5) (some (ivR r6.toNat)) (ivST μ7)) h (fun v4 μ5 r6 μ7 z2 z3 h => ?_) (fun j1 hj1 h => ?_)
  · obtain ⟨rfl, rfl⟩ := iv_retE h
    exact ⟨1, rfl⟩
  · refine iv_letE (fun j8 => ∀ (μ11 : ivM) (r12 : Int) (μ13 : ivM) (z9 : ivV) (z10 : ivV), j8 μ11 = some (r12, μ13) → iv_Ret L 36 19 [z9, z10] [] (ivST μ11) (some (ivR r12.toNat)) (ivST μ13)) h (fun μ11 r12 μ13 z9 z10 h => ?_) (fun j8 hj8 h => ?_)
    · refine iv_Ret.stl [20] (ls' := [z9, z10]) (st' := [ivR 0]) (w' := (135, μ11, iv_rho)) rfl ?_
      exact hj1 0 μ11 _ _ z9 z10 h
    · rcases iv_iteE h with ⟨c14, h⟩ | ⟨c14, h⟩
      · refine iv_Ret.ifT (t := 19) rfl (decide_eq_true c14) rfl ?_
        exact hj8 μ _ _ (ivR 32) (ivI p1) h
      · refine iv_Ret.ifF (t := 4) rfl (decide_eq_false c14) rfl ?_
        refine iv_Ret.stl [5, 7] (ls' := [ivR 32, ivI p1]) (st' := [ivI 8, ivI p1]) (w' := (135, μ, iv_rho)) rfl ?_
        rcases iv_iteE h with ⟨c15, h⟩ | ⟨c15, h⟩
        · refine iv_Ret.icT (t := 19) rfl (decide_eq_true c15) rfl ?_
          exact hj8 μ _ _ (ivR 32) (ivI p1) h
        · refine iv_Ret.icF (t := 10) rfl (decide_eq_false c15) rfl ?_
          refine iv_Ret.stl [11, 14] (ls' := [ivR 32, ivI p1]) (st' := [ivR 34]) (w' := (135, μ, iv_rho)) rfl ?_
          refine iv_Ret.stl [15] (ls' := [ivR 32, ivI p1]) (st' := [ivI p1, ivR 34]) (w' := (135, μ, iv_rho)) rfl ?_
          obtain ⟨c16, h⟩ := iv_ckE h
          refine iv_Ret.aald (len := 8) (y := (35 + 8 * p1.toNat)) rfl rfl rfl rfl c16.1 c16.2 (iv_rho_34 c16) ?_
          show iv_Ret L 36 16 [ivR 32, ivI p1] [ivR (35 + 8 * p1.toNat)] (ivST μ) (some (ivR r.toNat)) (ivST μ')
          refine iv_Ret.stl [20] (ls' := [ivR 32, ivI p1]) (st' := [ivR (35 + 8 * p1.toNat)]) (w' := (135, μ, iv_rho)) rfl ?_
          exact hj1 (35 + 8 * p1.toNat) μ _ _ (ivR 32) (ivI p1) h
theorem T_X5_avoid (L : Nat) (p1 : Int)  {μ μ' : ivM} {r : Int} (h : f_X5_avoid p1 μ = some (r, μ')) : iv_Ret L 35 0 [ivR 32, ivI p1, ivU] [] (ivST μ) none (ivST μ') := by
  unfold f_X5_avoid at h
  refine iv_Ret.stl [1, 2, 5] (ls' := [ivR 32, ivI p1, ivU]) (st' := [ivI (μ 32 2), ivR 32]) (w' := (135, μ, iv_rho)) rfl ?_
  obtain ⟨r1, μ2, e3, h⟩ := iv_bndE h
  refine iv_Ret.callv rfl rfl rfl (T_X5_rulerAt L (μ 32 2) e3) ?_
  show iv_Ret L 35 8 [ivR 32, ivI p1, ivU] [ivR (r1.toNat)] (ivST μ2) none (ivST μ')
  refine iv_Ret.stl [9, 10] (ls' := [ivR 32, ivI p1, ivR (r1.toNat)]) (st' := [ivR (r1.toNat)]) (w' := (135, μ2, iv_rho)) rfl ?_
  refine iv_letE (fun j4 => ∀ (μ8 : ivM) (r9 : Int) (μ10 : ivM) (z5 : ivV) (z6 : ivV) (z7 : ivV), j4 μ8 = some (r9, μ10) → iv_Ret L 35 28 [z5, z6, z7] [] (ivST μ8) none (ivST μ10)) h (fun μ8 r9 μ10 z5 z6 z7 h => ?_) (fun j4 hj4 h => ?_)
  · obtain ⟨rfl, rfl⟩ := iv_retE h
    exact ⟨1, rfl⟩
  · rcases iv_iteE h with ⟨c11, h⟩ | ⟨c11, h⟩
    · refine iv_Ret.nuT (t := 28) rfl c11 rfl ?_
      exact hj4 μ2 _ _ (ivR 32) (ivI p1) (ivR (r1.toNat)) h
    · obtain ⟨c12, h⟩ := iv_ckE h
      refine iv_Ret.nuF (t := 13) rfl c11 rfl ?_
      refine iv_Ret.stl [14, 15] (ls' := [ivR 32, ivI p1, ivR (r1.toNat)]) (st' := [ivI p1, ivR (r1.toNat)]) (w' := (135, μ2, iv_rho)) rfl ?_
      obtain ⟨r13, μ14, e15, h⟩ := iv_bndE h
      refine iv_Ret.callv rfl rfl (iv_obj_sym (iv_rl_lay L c12) (iv_rl_n c12)) (T_X4_lay L (r1.toNat) p1 c12 e15) ?_
      show iv_Ret L 35 18 [ivR 32, ivI p1, ivR (r1.toNat)] [] (ivST μ14) none (ivST μ')
      refine iv_Ret.stl [19, 20, 23, 24, 25, 28] (ls' := [ivR 32, ivI p1, ivR (r1.toNat)]) (st' := []) (w' := (135, (iv_upd μ14 32 2 (iv_wr ((μ14 32 2) + 1))), iv_rho)) rfl ?_
      exact hj4 (iv_upd μ14 32 2 (iv_wr ((μ14 32 2) + 1))) _ _ (ivR 32) (ivI p1) (ivR (r1.toNat)) h
theorem T_lp_X5_isHopeless_2 (L : Nat) (l1 : Int) (l2 : Int)    : ∀ (n : Nat) (l3 : Int) (μ : ivM) (r : Int) (μ' : ivM) (d4 : ivV), lp_X5_isHopeless_2 l1 l2 n l3 μ = some (r, μ') → iv_Ret L 39 2 [ivR 32, ivI l1, ivI l2, ivI l3, d4] [] (ivST μ) (some (ivI r)) (ivST μ') := by
  intro n
  induction n with
  | zero => intro l3 μ r μ' d4 h; unfold lp_X5_isHopeless_2 at h; cases h
  | succ n ih =>
    intro l3 μ r μ' d4 h
    unfold lp_X5_isHopeless_2 at h
    refine iv_Ret.stl [3, 4, 7] (ls' := [ivR 32, ivI l1, ivI l2, ivI l3, d4]) (st' := [ivI (μ 32 2), ivI l3]) (w' := (135, μ, iv_rho)) rfl ?_
    rcases iv_iteE h with ⟨c1, h⟩ | ⟨c1, h⟩
    · refine iv_Ret.icT (t := 41) rfl (decide_eq_true c1) rfl ?_
      refine iv_Ret.stl [42] (ls' := [ivR 32, ivI l1, ivI l2, ivI l3, d4]) (st' := [ivI 0]) (w' := (135, μ, iv_rho)) rfl ?_
      obtain ⟨rfl, rfl⟩ := iv_retE h
      exact ⟨1, rfl⟩
    · refine iv_Ret.icF (t := 10) rfl (decide_eq_false c1) rfl ?_
      refine iv_Ret.stl [11, 12] (ls' := [ivR 32, ivI l1, ivI l2, ivI l3, d4]) (st' := [ivI l3, ivR 32]) (w' := (135, μ, iv_rho)) rfl ?_
      obtain ⟨r2, μ3, e4, h⟩ := iv_bndE h
      refine iv_Ret.callv rfl rfl rfl (T_X5_rulerAt L l3 e4) ?_
      show iv_Ret L 39 15 [ivR 32, ivI l1, ivI l2, ivI l3, d4] [ivR (r2.toNat)] (ivST μ3) (some (ivI r)) (ivST μ')
      refine iv_Ret.stl [17, 19] (ls' := [ivR 32, ivI l1, ivI l2, ivI l3, ivR (r2.toNat)]) (st' := [ivR (r2.toNat)]) (w' := (135, μ3, iv_rho)) rfl ?_
      refine iv_letE (fun j5 => ∀ (μ7 : ivM) (r8 : Int) (μ9 : ivM) (z6 : ivV), j5 μ7 = some (r8, μ9) → iv_Ret L 39 35 [ivR 32, ivI l1, ivI l2, ivI l3, z6] [] (ivST μ7) (some (ivI r8)) (ivST μ9)) h (fun μ7 r8 μ9 z6 h => ?_) (fun j5 hj5 h => ?_)
      · refine iv_Ret.stl [38, 2] (ls' := [ivR 32, ivI l1, ivI l2, ivI (iv_wr (l3 + 1)), z6]) (st' := []) (w' := (135, μ7, iv_rho)) rfl ?_
        exact ih (iv_wr (l3 + 1)) μ7 _ _ z6 h
      · rcases iv_iteE h with ⟨c10, h⟩ | ⟨c10, h⟩
        · refine iv_Ret.nuT (t := 35) rfl c10 rfl ?_
          exact hj5 μ3 _ _ (ivR (r2.toNat)) h
        · obtain ⟨c11, h⟩ := iv_ckE h
          refine iv_Ret.nuF (t := 22) rfl c10 rfl ?_
          refine iv_Ret.stl [24, 25, 26] (ls' := [ivR 32, ivI l1, ivI l2, ivI l3, ivR (r2.toNat)]) (st' := [ivI l1, ivI 0, ivR (r2.toNat)]) (w' := (135, μ3, iv_rho)) rfl ?_
          obtain ⟨r12, μ13, e14, h⟩ := iv_bndE h
          refine iv_Ret.callv rfl rfl (iv_obj_sym (iv_rl_lay L c11) (iv_rl_n c11)) (T_X4_atMost L (r2.toNat) 0 l1 c11 e14) ?_
          show iv_Ret L 39 29 [ivR 32, ivI l1, ivI l2, ivI l3, ivR (r2.toNat)] [ivI r12] (ivST μ13) (some (ivI r)) (ivST μ')
          refine iv_Ret.stl [30] (ls' := [ivR 32, ivI l1, ivI l2, ivI l3, ivR (r2.toNat)]) (st' := [ivI l2, ivI r12]) (w' := (135, μ13, iv_rho)) rfl ?_
          rcases iv_iteE h with ⟨c15, h⟩ | ⟨c15, h⟩
          · refine iv_Ret.icT (t := 35) rfl (decide_eq_true c15) rfl ?_
            exact hj5 μ13 _ _ (ivR (r2.toNat)) h
          · refine iv_Ret.icF (t := 33) rfl (decide_eq_false c15) rfl ?_
            refine iv_Ret.stl [34] (ls' := [ivR 32, ivI l1, ivI l2, ivI l3, ivR (r2.toNat)]) (st' := [ivI 1]) (w' := (135, μ13, iv_rho)) rfl ?_
            obtain ⟨rfl, rfl⟩ := iv_retE h
            exact ⟨1, rfl⟩
theorem T_X5_isHopeless (L : Nat) (p1 : Int) (p2 : Int)  {μ μ' : ivM} {r : Int} (h : f_X5_isHopeless p1 p2 μ = some (r, μ')) : iv_Ret L 39 0 [ivR 32, ivI p1, ivI p2, ivU, ivU] [] (ivST μ) (some (ivI r)) (ivST μ') := by
  unfold f_X5_isHopeless at h
  refine iv_Ret.stl [1, 2] (ls' := [ivR 32, ivI p1, ivI p2, ivI 0, ivU]) (st' := []) (w' := (135, μ, iv_rho)) rfl ?_
  exact T_lp_X5_isHopeless_2 L p1 p2 iv_fuel 0 μ _ _ ivU h
theorem T_lp_X5_isTooNear_3 (L : Nat) (l1 : Int) (l2 : Int) (l3 : Int) (l4 : Int)    : ∀ (n : Nat) (l5 : Int) (μ : ivM) (r : Int) (μ' : ivM) (d6 : ivV), lp_X5_isTooNear_3 l1 l2 l3 l4 n l5 μ = some (r, μ') → iv_Ret L 40 3 [ivR 32, ivI l1, ivI l2, ivI l3, ivI l4, ivI l5, d6] [] (ivST μ) (some (ivI r)) (ivST μ') := by
  intro n
  induction n with
  | zero => intro l5 μ r μ' d6 h; unfold lp_X5_isTooNear_3 at h; cases h
  | succ n ih =>
    intro l5 μ r μ' d6 h
    unfold lp_X5_isTooNear_3 at h
    refine iv_Ret.stl [5, 6, 9] (ls' := [ivR 32, ivI l1, ivI l2, ivI l3, ivI l4, ivI l5, d6]) (st' := [ivI (μ 32 2), ivI l5]) (w' := (135, μ, iv_rho)) rfl ?_
    rcases iv_iteE h with ⟨c1, h⟩ | ⟨c1, h⟩
    · refine iv_Ret.icT (t := 58) rfl (decide_eq_true c1) rfl ?_
      refine iv_Ret.stl [59] (ls' := [ivR 32, ivI l1, ivI l2, ivI l3, ivI l4, ivI l5, d6]) (st' := [ivI 0]) (w' := (135, μ, iv_rho)) rfl ?_
      obtain ⟨rfl, rfl⟩ := iv_retE h
      exact ⟨1, rfl⟩
    · refine iv_Ret.icF (t := 12) rfl (decide_eq_false c1) rfl ?_
      refine iv_Ret.stl [13, 15] (ls' := [ivR 32, ivI l1, ivI l2, ivI l3, ivI l4, ivI l5, d6]) (st' := [ivI l5, ivR 32]) (w' := (135, μ, iv_rho)) rfl ?_
      obtain ⟨r2, μ3, e4, h⟩ := iv_bndE h
      refine iv_Ret.callv rfl rfl rfl (T_X5_rulerAt L l5 e4) ?_
      show iv_Ret L 40 18 [ivR 32, ivI l1, ivI l2, ivI l3, ivI l4, ivI l5, d6] [ivR (r2.toNat)] (ivST μ3) (some (ivI r)) (ivST μ')
      refine iv_Ret.stl [20, 22] (ls' := [ivR 32, ivI l1, ivI l2, ivI l3, ivI l4, ivI l5, ivR (r2.toNat)]) (st' := [ivR (r2.toNat)]) (w' := (135, μ3, iv_rho)) rfl ?_
      refine iv_letE (fun j5 => ∀ (μ7 : ivM) (r8 : Int) (μ9 : ivM) (z6 : ivV), j5 μ7 = some (r8, μ9) → iv_Ret L 40 52 [ivR 32, ivI l1, ivI l2, ivI l3, ivI l4, ivI l5, z6] [] (ivST μ7) (some (ivI r8)) (ivST μ9)) h (fun μ7 r8 μ9 z6 h => ?_) (fun j5 hj5 h => ?_)
      · refine iv_Ret.stl [55, 3] (ls' := [ivR 32, ivI l1, ivI l2, ivI l3, ivI l4, ivI (iv_wr (l5 + 1)), z6]) (st' := []) (w' := (135, μ7, iv_rho)) rfl ?_
        exact ih (iv_wr (l5 + 1)) μ7 _ _ z6 h
      · rcases iv_iteE h with ⟨c10, h⟩ | ⟨c10, h⟩
        · refine iv_Ret.nuT (t := 52) rfl c10 rfl ?_
          exact hj5 μ3 _ _ (ivR (r2.toNat)) h
        · obtain ⟨c11, h⟩ := iv_ckE h
          refine iv_Ret.nuF (t := 25) rfl c10 rfl ?_
          refine iv_Ret.stl [27, 28, 29] (ls' := [ivR 32, ivI l1, ivI l2, ivI l3, ivI l4, ivI l5, ivR (r2.toNat)]) (st' := [ivI l2, ivI l1, ivR (r2.toNat)]) (w' := (135, μ3, iv_rho)) rfl ?_
          obtain ⟨r12, μ13, e14, h⟩ := iv_bndE h
          refine iv_Ret.callv rfl rfl (iv_obj_sym (iv_rl_lay L c11) (iv_rl_n c11)) (T_X4_step L (r2.toNat) l1 l2 c11 e14) ?_
          show iv_Ret L 40 32 [ivR 32, ivI l1, ivI l2, ivI l3, ivI l4, ivI l5, ivR (r2.toNat)] [] (ivST μ13) (some (ivI r)) (ivST μ')
          refine iv_Ret.stl [34, 35, 36, 37, 38, 39, 40, 41, 42] (ls' := [ivR 32, ivI l1, ivI l2, ivI l3, ivI l4, ivI l5, ivR (r2.toNat)]) (st' := [ivI (iv_wr ((iv_wr (l3 - l1)) - 1)), ivI (iv_wr (l1 + 1)), ivR (r2.toNat)]) (w' := (135, μ13, iv_rho)) rfl ?_
          obtain ⟨r15, μ16, e17, h⟩ := iv_bndE h
          refine iv_Ret.callv rfl rfl (iv_obj_sym (iv_rl_lay L c11) (iv_rl_n c11)) (T_X4_atMost L (r2.toNat) (iv_wr (l1 + 1)) (iv_wr ((iv_wr (l3 - l1)) - 1)) c11 e17) ?_
          show iv_Ret L 40 45 [ivR 32, ivI l1, ivI l2, ivI l3, ivI l4, ivI l5, ivR (r2.toNat)] [ivI r15] (ivST μ16) (some (ivI r)) (ivST μ')
          refine iv_Ret.stl [47] (ls' := [ivR 32, ivI l1, ivI l2, ivI l3, ivI l4, ivI l5, ivR (r2.toNat)]) (st' := [ivI l4, ivI r15]) (w' := (135, μ16, iv_rho)) rfl ?_
          rcases iv_iteE h with ⟨c18, h⟩ | ⟨c18, h⟩
          · refine iv_Ret.icT (t := 52) rfl (decide_eq_true c18) rfl ?_
            exact hj5 μ16 _ _ (ivR (r2.toNat)) h
          · refine iv_Ret.icF (t := 50) rfl (decide_eq_false c18) rfl ?_
            refine iv_Ret.stl [51] (ls' := [ivR 32, ivI l1, ivI l2, ivI l3, ivI l4, ivI l5, ivR (r2.toNat)]) (st' := [ivI 1]) (w' := (135, μ16, iv_rho)) rfl ?_
            obtain ⟨rfl, rfl⟩ := iv_retE h
            exact ⟨1, rfl⟩
theorem T_X5_isTooNear (L : Nat) (p1 : Int) (p2 : Int) (p3 : Int) (p4 : Int)  {μ μ' : ivM} {r : Int} (h : f_X5_isTooNear p1 p2 p3 p4 μ = some (r, μ')) : iv_Ret L 40 0 [ivR 32, ivI p1, ivI p2, ivI p3, ivI p4, ivU, ivU] [] (ivST μ) (some (ivI r)) (ivST μ') := by
  unfold f_X5_isTooNear at h
  refine iv_Ret.stl [1, 3] (ls' := [ivR 32, ivI p1, ivI p2, ivI p3, ivI p4, ivI 0, ivU]) (st' := []) (w' := (135, μ, iv_rho)) rfl ?_
  exact T_lp_X5_isTooNear_3 L p1 p2 p3 p4 iv_fuel 0 μ _ _ ivU h
theorem T_lp_X5_find_23 (L : Nat) (l1 : Int) (l2 : Int)  {k130 : Int → ivM → Option (Int × ivM)} (hk130 : ∀ (l3 : Int) (μ : ivM) (r : Int) (μ' : ivM) (d0 : ivV) (d2 : ivV) (d4 : ivV), k130 l3 μ = some (r, μ') → iv_Ret L 38 130 [d0, ivI l1, d2, ivI l3, d4] [] (ivST μ) (some (ivI r)) (ivST μ')) : ∀ (n : Nat) (l3 : Int) (l4 : Int) (μ : ivM) (r : Int) (μ' : ivM), lp_X5_find_23 l1 l2 k130 n l3 l4 μ = some (r, μ') → iv_Ret L 38 23 [ivR 32, ivI l1, ivI l2, ivI l3, ivI l4] [] (ivST μ) (some (ivI r)) (ivST μ') := by
  intro n
  induction n with
  | zero => intro l3 l4 μ r μ' h; unfold lp_X5_find_23 at h; cases h
  | succ n ih =>
    intro l3 l4 μ r μ' h
    unfold lp_X5_find_23 at h
    refine iv_Ret.stl [25, 27] (ls' := [ivR 32, ivI l1, ivI l2, ivI l3, ivI l4]) (st' := [ivI 1000000, ivI l4]) (w' := (135, μ, iv_rho)) rfl ?_
    rcases iv_iteE h with ⟨c5, h⟩ | ⟨c5, h⟩
    · refine iv_Ret.icT (t := 130) rfl (decide_eq_true c5) rfl ?_
      exact hk130 l3 μ _ _ (ivR 32) (ivI l2) (ivI l4) h
    · refine iv_Ret.icF (t := 30) rfl (decide_eq_false c5) rfl ?_
      refine iv_Ret.stl [31] (ls' := [ivR 32, ivI l1, ivI l2, ivI l3, ivI l4]) (st' := [ivI l3]) (w' := (135, μ, iv_rho)) rfl ?_
      rcases iv_iteE h with ⟨c6, h⟩ | ⟨c6, h⟩
      · refine iv_Ret.ifT (t := 130) rfl (decide_eq_true c6) rfl ?_
        exact hk130 l3 μ _ _ (ivR 32) (ivI l2) (ivI l4) h
      · refine iv_Ret.ifF (t := 34) rfl (decide_eq_false c6) rfl ?_
        refine iv_Ret.stl [35, 36] (ls' := [ivR 32, ivI l1, ivI l2, ivI l3, ivI l4]) (st' := [ivI l1, ivI l3]) (w' := (135, μ, iv_rho)) rfl ?_
        rcases iv_iteE h with ⟨c7, h⟩ | ⟨c7, h⟩
        · refine iv_Ret.icT (t := 130) rfl (decide_eq_true c7) rfl ?_
          exact hk130 l3 μ _ _ (ivR 32) (ivI l2) (ivI l4) h
        · refine iv_Ret.icF (t := 39) rfl (decide_eq_false c7) rfl ?_
          refine iv_Ret.stl [40, 41] (ls' := [ivR 32, ivI l1, ivI l2, ivI l3, ivI l4]) (st' := [ivI 5, ivI l3]) (w' := (135, μ, iv_rho)) rfl ?_
          rcases iv_iteE h with ⟨c8, h⟩ | ⟨c8, h⟩
          · refine iv_Ret.icT (t := 130) rfl (decide_eq_true c8) rfl ?_
            exact hk130 l3 μ _ _ (ivR 32) (ivI l2) (ivI l4) h
          · refine iv_Ret.icF (t := 44) rfl (decide_eq_false c8) rfl ?_
            refine iv_Ret.stl [45, 48] (ls' := [ivR 32, ivI l1, ivI l2, ivI l3, ivI l4]) (st' := [ivR 33]) (w' := (135, μ, iv_rho)) rfl ?_
            refine iv_Ret.stl [49] (ls' := [ivR 32, ivI l1, ivI l2, ivI l3, ivI l4]) (st' := [ivI l3, ivR 33]) (w' := (135, μ, iv_rho)) rfl ?_
            obtain ⟨c9, h⟩ := iv_ckE h
            refine iv_Ret.iald (len := 5) rfl rfl rfl c9.1 c9.2 ?_
            show iv_Ret L 38 50 [ivR 32, ivI l1, ivI l2, ivI l3, ivI l4] [ivI (μ 33 l3.toNat)] (ivST μ) (some (ivI r)) (ivST μ')
            refine iv_Ret.stl [52] (ls' := [ivR 32, ivI l1, ivI l2, ivI l3, ivI l4]) (st' := [ivI 6, ivI (μ 33 l3.toNat)]) (w' := (135, μ, iv_rho)) rfl ?_
            refine iv_letE (fun j10 => ∀ (w11 : Int) (μ12 : ivM) (r13 : Int) (μ14 : ivM), j10 w11 μ12 = some (r13, μ14) → iv_Ret L 38 124 [ivR 32, ivI l1, ivI l2, ivI w11, ivI l4] [] (ivST μ12) (some (ivI r13)) (ivST μ14)) h (fun w11 μ12 r13 μ14 h => ?_) (fun j10 hj10 h => ?_)
            · refine iv_Ret.stl [127, 23] (ls' := [ivR 32, ivI l1, ivI l2, ivI w11, ivI (iv_wr (l4 + 1))]) (st' := []) (w' := (135, μ12, iv_rho)) rfl ?_
              exact ih w11 (iv_wr (l4 + 1)) μ12 _ _ h
            · rcases iv_iteE h with ⟨c15, h⟩ | ⟨c15, h⟩
              · refine iv_Ret.icT (t := 75) rfl (decide_eq_true c15) rfl ?_
                refine iv_Ret.stl [76, 77, 78, 81] (ls' := [ivR 32, ivI l1, ivI l2, ivI l3, ivI l4]) (st' := [ivR 33, ivI l3, ivR 32]) (w' := (135, μ, iv_rho)) rfl ?_
                refine iv_Ret.stl [82] (ls' := [ivR 32, ivI l1, ivI l2, ivI l3, ivI l4]) (st' := [ivI l3, ivR 33, ivI l3, ivR 32]) (w' := (135, μ, iv_rho)) rfl ?_
                obtain ⟨c16, h⟩ := iv_ckE h
                refine iv_Ret.iald (len := 5) rfl rfl rfl c16.1 c16.2 ?_
                show iv_Ret L 38 83 [ivR 32, ivI l1, ivI l2, ivI l3, ivI l4] [ivI (μ 33 l3.toNat), ivI l3, ivR 32] (ivST μ) (some (ivI r)) (ivST μ')
                refine iv_Ret.stl [84, 85] (ls' := [ivR 32, ivI l1, ivI l2, ivI l3, ivI l4]) (st' := [ivI l2, ivI l1, ivI (μ 33 l3.toNat), ivI l3, ivR 32]) (w' := (135, μ, iv_rho)) rfl ?_
                obtain ⟨r17, μ18, e19, h⟩ := iv_bndE h
                refine iv_Ret.callv rfl rfl rfl (T_X5_isTooNear L l3 (μ 33 l3.toNat) l1 l2 e19) ?_
                show iv_Ret L 38 88 [ivR 32, ivI l1, ivI l2, ivI l3, ivI l4] [ivI r17] (ivST μ18) (some (ivI r)) (ivST μ')
                rcases iv_iteE h with ⟨c20, h⟩ | ⟨c20, h⟩
                · refine iv_Ret.ifT (t := 104) rfl (decide_eq_true c20) rfl ?_
                  refine iv_Ret.stl [107, 108, 109] (ls' := [ivR 32, ivI l1, ivI l2, ivI (iv_wr (l3 + 1)), ivI l4]) (st' := [ivI l1, ivI (iv_wr (l3 + 1))]) (w' := (135, μ18, iv_rho)) rfl ?_
                  rcases iv_iteE h with ⟨c21, h⟩ | ⟨c21, h⟩
                  · refine iv_Ret.icT (t := 124) rfl (decide_eq_true c21) rfl ?_
                    exact hj10 (iv_wr (l3 + 1)) μ18 _ _ h
                  · refine iv_Ret.icF (t := 112) rfl (decide_eq_false c21) rfl ?_
                    refine iv_Ret.stl [113, 114] (ls' := [ivR 32, ivI l1, ivI l2, ivI (iv_wr (l3 + 1)), ivI l4]) (st' := [ivI 5, ivI (iv_wr (l3 + 1))]) (w' := (135, μ18, iv_rho)) rfl ?_
                    rcases iv_iteE h with ⟨c22, h⟩ | ⟨c22, h⟩
                    · refine iv_Ret.icT (t := 124) rfl (decide_eq_true c22) rfl ?_
                      exact hj10 (iv_wr (l3 + 1)) μ18 _ _ h
                    · refine iv_Ret.icF (t := 117) rfl (decide_eq_false c22) rfl ?_
                      refine iv_Ret.stl [118, 121] (ls' := [ivR 32, ivI l1, ivI l2, ivI (iv_wr (l3 + 1)), ivI l4]) (st' := [ivR 33]) (w' := (135, μ18, iv_rho)) rfl ?_
                      refine iv_Ret.stl [122, 123] (ls' := [ivR 32, ivI l1, ivI l2, ivI (iv_wr (l3 + 1)), ivI l4]) (st' := [ivI 0, ivI (iv_wr (l3 + 1)), ivR 33]) (w' := (135, μ18, iv_rho)) rfl ?_
                      obtain ⟨c23, h⟩ := iv_ckE h
                      refine iv_Ret.iast (len := 5) rfl rfl rfl rfl c23.1 c23.2 ?_
                      show iv_Ret L 38 124 [ivR 32, ivI l1, ivI l2, ivI (iv_wr (l3 + 1)), ivI l4] [] (ivST (iv_upd μ18 33 (iv_wr (l3 + 1)).toNat 0)) (some (ivI r)) (ivST μ')
                      exact hj10 (iv_wr (l3 + 1)) (iv_upd μ18 33 (iv_wr (l3 + 1)).toNat 0) _ _ h
                · refine iv_Ret.ifF (t := 91) rfl (decide_eq_false c20) rfl ?_
                  refine iv_Ret.stl [92, 95] (ls' := [ivR 32, ivI l1, ivI l2, ivI l3, ivI l4]) (st' := [ivR 33]) (w' := (135, μ18, iv_rho)) rfl ?_
                  refine iv_Ret.stl [96, 97] (ls' := [ivR 32, ivI l1, ivI l2, ivI l3, ivI l4]) (st' := [ivI l3, ivR 33, ivI l3, ivR 33]) (w' := (135, μ18, iv_rho)) rfl ?_
                  obtain ⟨c24, h⟩ := iv_ckE h
                  refine iv_Ret.iald (len := 5) rfl rfl rfl c24.1 c24.2 ?_
                  show iv_Ret L 38 98 [ivR 32, ivI l1, ivI l2, ivI l3, ivI l4] [ivI (μ18 33 l3.toNat), ivI l3, ivR 33] (ivST μ18) (some (ivI r)) (ivST μ')
                  refine iv_Ret.stl [99, 100] (ls' := [ivR 32, ivI l1, ivI l2, ivI l3, ivI l4]) (st' := [ivI (iv_wr ((μ18 33 l3.toNat) + 1)), ivI l3, ivR 33]) (w' := (135, μ18, iv_rho)) rfl ?_
                  obtain ⟨c25, h⟩ := iv_ckE h
                  refine iv_Ret.iast (len := 5) rfl rfl rfl rfl c25.1 c25.2 ?_
                  show iv_Ret L 38 101 [ivR 32, ivI l1, ivI l2, ivI l3, ivI l4] [] (ivST (iv_upd μ18 33 l3.toNat (iv_wr ((μ18 33 l3.toNat) + 1)))) (some (ivI r)) (ivST μ')
                  refine iv_Ret.stl [124] (ls' := [ivR 32, ivI l1, ivI l2, ivI l3, ivI l4]) (st' := []) (w' := (135, (iv_upd μ18 33 l3.toNat (iv_wr ((μ18 33 l3.toNat) + 1))), iv_rho)) rfl ?_
                  exact hj10 l3 (iv_upd μ18 33 l3.toNat (iv_wr ((μ18 33 l3.toNat) + 1))) _ _ h
              · refine iv_Ret.icF (t := 55) rfl (decide_eq_false c15) rfl ?_
                refine iv_Ret.stl [58, 59] (ls' := [ivR 32, ivI l1, ivI l2, ivI (iv_wr (l3 + (-1))), ivI l4]) (st' := [ivI (iv_wr (l3 + (-1)))]) (w' := (135, μ, iv_rho)) rfl ?_
                rcases iv_iteE h with ⟨c26, h⟩ | ⟨c26, h⟩
                · refine iv_Ret.ifT (t := 124) rfl (decide_eq_true c26) rfl ?_
                  exact hj10 (iv_wr (l3 + (-1))) μ _ _ h
                · refine iv_Ret.ifF (t := 62) rfl (decide_eq_false c26) rfl ?_
                  refine iv_Ret.stl [63, 66] (ls' := [ivR 32, ivI l1, ivI l2, ivI (iv_wr (l3 + (-1))), ivI l4]) (st' := [ivR 33]) (w' := (135, μ, iv_rho)) rfl ?_
                  refine iv_Ret.stl [67, 68] (ls' := [ivR 32, ivI l1, ivI l2, ivI (iv_wr (l3 + (-1))), ivI l4]) (st' := [ivI (iv_wr (l3 + (-1))), ivR 33, ivI (iv_wr (l3 + (-1))), ivR 33]) (w' := (135, μ, iv_rho)) rfl ?_
                  obtain ⟨c27, h⟩ := iv_ckE h
                  refine iv_Ret.iald (len := 5) rfl rfl rfl c27.1 c27.2 ?_
                  show iv_Ret L 38 69 [ivR 32, ivI l1, ivI l2, ivI (iv_wr (l3 + (-1))), ivI l4] [ivI (μ 33 (iv_wr (l3 + (-1))).toNat), ivI (iv_wr (l3 + (-1))), ivR 33] (ivST μ) (some (ivI r)) (ivST μ')
                  refine iv_Ret.stl [70, 71] (ls' := [ivR 32, ivI l1, ivI l2, ivI (iv_wr (l3 + (-1))), ivI l4]) (st' := [ivI (iv_wr ((μ 33 (iv_wr (l3 + (-1))).toNat) + 1)), ivI (iv_wr (l3 + (-1))), ivR 33]) (w' := (135, μ, iv_rho)) rfl ?_
                  obtain ⟨c28, h⟩ := iv_ckE h
                  refine iv_Ret.iast (len := 5) rfl rfl rfl rfl c28.1 c28.2 ?_
                  show iv_Ret L 38 72 [ivR 32, ivI l1, ivI l2, ivI (iv_wr (l3 + (-1))), ivI l4] [] (ivST (iv_upd μ 33 (iv_wr (l3 + (-1))).toNat (iv_wr ((μ 33 (iv_wr (l3 + (-1))).toNat) + 1)))) (some (ivI r)) (ivST μ')
                  refine iv_Ret.stl [124] (ls' := [ivR 32, ivI l1, ivI l2, ivI (iv_wr (l3 + (-1))), ivI l4]) (st' := []) (w' := (135, (iv_upd μ 33 (iv_wr (l3 + (-1))).toNat (iv_wr ((μ 33 (iv_wr (l3 + (-1))).toNat) + 1))), iv_rho)) rfl ?_
                  exact hj10 (iv_wr (l3 + (-1))) (iv_upd μ 33 (iv_wr (l3 + (-1))).toNat (iv_wr ((μ 33 (iv_wr (l3 + (-1))).toNat) + 1))) _ _ h
theorem T_X5_find (L : Nat) (p1 : Int) (p2 : Int)  {μ μ' : ivM} {r : Int} (h : f_X5_find p1 p2 μ = some (r, μ')) : iv_Ret L 38 0 [ivR 32, ivI p1, ivI p2, ivU, ivU] [] (ivST μ) (some (ivI r)) (ivST μ') := by
  unfold f_X5_find at h
  refine iv_Ret.stl [1, 2, 3] (ls' := [ivR 32, ivI p1, ivI p2, ivU, ivU]) (st' := [ivI p2, ivI p1, ivR 32]) (w' := (135, μ, iv_rho)) rfl ?_
  obtain ⟨r1, μ2, e3, h⟩ := iv_bndE h
  refine iv_Ret.callv rfl rfl rfl (T_X5_isHopeless L p1 p2 e3) ?_
  show iv_Ret L 38 6 [ivR 32, ivI p1, ivI p2, ivU, ivU] [ivI r1] (ivST μ2) (some (ivI r)) (ivST μ')
  rcases iv_iteE h with ⟨c4, h⟩ | ⟨c4, h⟩
  · refine iv_Ret.ifT (t := 11) rfl (decide_eq_true c4) rfl ?_
    refine iv_Ret.stl [12, 13, 14, 17] (ls' := [ivR 32, ivI p1, ivI p2, ivI 0, ivU]) (st' := [ivR 33]) (w' := (135, μ2, iv_rho)) rfl ?_
    refine iv_Ret.stl [18, 19] (ls' := [ivR 32, ivI p1, ivI p2, ivI 0, ivU]) (st' := [ivI 0, ivI 0, ivR 33]) (w' := (135, μ2, iv_rho)) rfl ?_
    refine iv_Ret.iast (len := 5) rfl rfl rfl rfl (by decide) (by decide) ?_
    show iv_Ret L 38 20 [ivR 32, ivI p1, ivI p2, ivI 0, ivU] [] (ivST (iv_upd μ2 33 0 0)) (some (ivI r)) (ivST μ')
    refine iv_Ret.stl [21, 23] (ls' := [ivR 32, ivI p1, ivI p2, ivI 0, ivI 0]) (st' := []) (w' := (135, (iv_upd μ2 33 0 0), iv_rho)) rfl ?_
    refine T_lp_X5_find_23 L p1 p2 (fun w31 μ33 r34 μ35 z29 z30 z32 h => ?_) iv_fuel 0 0 (iv_upd μ2 33 0 0) _ _ h
    refine iv_Ret.stl [131, 132] (ls' := [z29, ivI p1, z30, ivI w31, z32]) (st' := [ivI p1, ivI w31]) (w' := (135, μ33, iv_rho)) rfl ?_
    refine iv_letE (fun j36 => ∀ (v42 : Int) (μ43 : ivM) (r44 : Int) (μ45 : ivM) (z37 : ivV) (z38 : ivV) (z39 : ivV) (z40 : ivV) (z41 : ivV), j36 v42 μ43 = some (r44, μ45) → iv_Ret L 38 140 [z37, z38, z39, z40, z41] [ivI v42] (ivST μ43) (some (ivI r44)) (ivST μ45)) h (fun v42 μ43 r44 μ45 z37 z38 z39 z40 z41 h => ?_) (fun j36 hj36 h => ?_)
    · obtain ⟨c46, h⟩ := iv_ckE h
      obtain ⟨rfl, rfl⟩ := iv_retE h
      exact iv_Ret.zret rfl c46
    · rcases iv_iteE h with ⟨c47, h⟩ | ⟨c47, h⟩
      · refine iv_Ret.icF (t := 135) rfl (decide_eq_false (not_not_intro c47)) rfl ?_
        refine iv_Ret.stl [136, 140] (ls' := [z29, ivI p1, z30, ivI w31, z32]) (st' := [ivI 1]) (w' := (135, μ33, iv_rho)) rfl ?_
        exact hj36 1 μ33 _ _ z29 (ivI p1) z30 (ivI w31) z32 h
      · refine iv_Ret.icT (t := 139) rfl (decide_eq_true c47) rfl ?_
        refine iv_Ret.stl [140] (ls' := [z29, ivI p1, z30, ivI w31, z32]) (st' := [ivI 0]) (w' := (135, μ33, iv_rho)) rfl ?_
        exact hj36 0 μ33 _ _ z29 (ivI p1) z30 (ivI w31) z32 h
  · refine iv_Ret.ifF (t := 9) rfl (decide_eq_false c4) rfl ?_
    refine iv_Ret.stl [10] (ls' := [ivR 32, ivI p1, ivI p2, ivU, ivU]) (st' := [ivI 0]) (w' := (135, μ2, iv_rho)) rfl ?_
    obtain ⟨rfl, rfl⟩ := iv_retE h
    exact ⟨1, rfl⟩
theorem T_lp_X5_found_4 (L : Nat) (l1 : Int)  {k32 : Int → ivM → Option (Int × ivM)} (hk32 : ∀ (l2 : Int) (μ : ivM) (r : Int) (μ' : ivM) (d0 : ivV) (d1 : ivV) (d3 : ivV), k32 l2 μ = some (r, μ') → iv_Ret L 41 32 [d0, d1, ivI l2, d3] [] (ivST μ) (some (ivI r)) (ivST μ')) : ∀ (n : Nat) (l2 : Int) (l3 : Int) (μ : ivM) (r : Int) (μ' : ivM), lp_X5_found_4 l1 k32 n l2 l3 μ = some (r, μ') → iv_Ret L 41 4 [ivR 32, ivI l1, ivI l2, ivI l3] [] (ivST μ) (some (ivI r)) (ivST μ') := by
  intro n
  induction n with
  | zero => intro l2 l3 μ r μ' h; unfold lp_X5_found_4 at h; cases h
  | succ n ih =>
    intro l2 l3 μ r μ' h
    unfold lp_X5_found_4 at h
    refine iv_Ret.stl [5, 6] (ls' := [ivR 32, ivI l1, ivI l2, ivI l3]) (st' := [ivI l1, ivI l3]) (w' := (135, μ, iv_rho)) rfl ?_
    rcases iv_iteE h with ⟨c1, h⟩ | ⟨c1, h⟩
    · refine iv_Ret.icT (t := 32) rfl (decide_eq_true c1) rfl ?_
      exact hk32 l2 μ _ _ (ivR 32) (ivI l1) (ivI l3) h
    · refine iv_Ret.icF (t := 9) rfl (decide_eq_false c1) rfl ?_
      refine iv_Ret.stl [10, 11] (ls' := [ivR 32, ivI l1, ivI l2, ivI l3]) (st' := [ivI 5, ivI l3]) (w' := (135, μ, iv_rho)) rfl ?_
      rcases iv_iteE h with ⟨c2, h⟩ | ⟨c2, h⟩
      · refine iv_Ret.icT (t := 32) rfl (decide_eq_true c2) rfl ?_
        exact hk32 l2 μ _ _ (ivR 32) (ivI l1) (ivI l3) h
      · refine iv_Ret.icF (t := 14) rfl (decide_eq_false c2) rfl ?_
        refine iv_Ret.stl [15, 16, 17, 20] (ls' := [ivR 32, ivI l1, ivI l2, ivI l3]) (st' := [ivR 33, ivI l3, ivI l2]) (w' := (135, μ, iv_rho)) rfl ?_
        refine iv_Ret.stl [21] (ls' := [ivR 32, ivI l1, ivI l2, ivI l3]) (st' := [ivI l3, ivR 33, ivI l3, ivI l2]) (w' := (135, μ, iv_rho)) rfl ?_
        obtain ⟨c3, h⟩ := iv_ckE h
        refine iv_Ret.iald (len := 5) rfl rfl rfl c3.1 c3.2 ?_
        show iv_Ret L 41 22 [ivR 32, ivI l1, ivI l2, ivI l3] [ivI (μ 33 l3.toNat), ivI l3, ivI l2] (ivST μ) (some (ivI r)) (ivST μ')
        obtain ⟨r4, μ5, e6, h⟩ := iv_bndE h
        refine iv_Ret.calls rfl rfl (T_X3_withSound L l2 l3 (μ 33 l3.toNat) e6) ?_
        show iv_Ret L 41 25 [ivR 32, ivI l1, ivI l2, ivI l3] [ivI r4] (ivST μ5) (some (ivI r)) (ivST μ')
        refine iv_Ret.stl [26, 29, 4] (ls' := [ivR 32, ivI l1, ivI r4, ivI (iv_wr (l3 + 1))]) (st' := []) (w' := (135, μ5, iv_rho)) rfl ?_
        exact ih r4 (iv_wr (l3 + 1)) μ5 _ _ h
theorem T_X5_found (L : Nat) (p1 : Int)  {μ μ' : ivM} {r : Int} (h : f_X5_found p1 μ = some (r, μ')) : iv_Ret L 41 0 [ivR 32, ivI p1, ivU, ivU] [] (ivST μ) (some (ivI r)) (ivST μ') := by
  unfold f_X5_found at h
  refine iv_Ret.stl [1, 2, 3, 4] (ls' := [ivR 32, ivI p1, ivI 0, ivI 0]) (st' := []) (w' := (135, μ, iv_rho)) rfl ?_
  refine T_lp_X5_found_4 L p1 (fun w9 μ11 r12 μ13 z7 z8 z10 h => ?_) iv_fuel 0 0 μ _ _ h
  refine iv_Ret.stl [33] (ls' := [z7, z8, ivI w9, z10]) (st' := [ivI w9]) (w' := (135, μ11, iv_rho)) rfl ?_
  obtain ⟨rfl, rfl⟩ := iv_retE h
  exact ⟨1, rfl⟩
theorem T_lp_X5_shortest_2 (L : Nat) (l1 : Int)  {k16 : Int → ivM → Option (Int × ivM)} (hk16 : ∀ (l2 : Int) (μ : ivM) (r : Int) (μ' : ivM) (d1 : ivV), k16 l2 μ = some (r, μ') → iv_Ret L 37 16 [ivR 32, d1, ivI l2] [] (ivST μ) (some (ivI r)) (ivST μ')) : ∀ (n : Nat) (l2 : Int) (μ : ivM) (r : Int) (μ' : ivM), lp_X5_shortest_2 l1 k16 n l2 μ = some (r, μ') → iv_Ret L 37 2 [ivR 32, ivI l1, ivI l2] [] (ivST μ) (some (ivI r)) (ivST μ') := by
  intro n
  induction n with
  | zero => intro l2 μ r μ' h; unfold lp_X5_shortest_2 at h; cases h
  | succ n ih =>
    intro l2 μ r μ' h
    unfold lp_X5_shortest_2 at h
    refine iv_Ret.stl [3, 4] (ls' := [ivR 32, ivI l1, ivI l2]) (st' := [ivI 5, ivI l2]) (w' := (135, μ, iv_rho)) rfl ?_
    rcases iv_iteE h with ⟨c1, h⟩ | ⟨c1, h⟩
    · refine iv_Ret.icT (t := 28) rfl (decide_eq_true c1) rfl ?_
      refine iv_Ret.stl [29] (ls' := [ivR 32, ivI l1, ivI l2]) (st' := [ivI 0]) (w' := (135, μ, iv_rho)) rfl ?_
      obtain ⟨rfl, rfl⟩ := iv_retE h
      exact ⟨1, rfl⟩
    · refine iv_Ret.icF (t := 7) rfl (decide_eq_false c1) rfl ?_
      refine iv_Ret.stl [8, 9, 10] (ls' := [ivR 32, ivI l1, ivI l2]) (st' := [ivI l1, ivI l2, ivR 32]) (w' := (135, μ, iv_rho)) rfl ?_
      obtain ⟨r2, μ3, e4, h⟩ := iv_bndE h
      refine iv_Ret.callv rfl rfl rfl (T_X5_find L l2 l1 e4) ?_
      show iv_Ret L 37 13 [ivR 32, ivI l1, ivI l2] [ivI r2] (ivST μ3) (some (ivI r)) (ivST μ')
      rcases iv_iteE h with ⟨c5, h⟩ | ⟨c5, h⟩
      · refine iv_Ret.ifT (t := 22) rfl (decide_eq_true c5) rfl ?_
        refine iv_Ret.stl [25, 2] (ls' := [ivR 32, ivI l1, ivI (iv_wr (l2 + 1))]) (st' := []) (w' := (135, μ3, iv_rho)) rfl ?_
        exact ih (iv_wr (l2 + 1)) μ3 _ _ h
      · refine iv_Ret.ifF (t := 16) rfl (decide_eq_false c5) rfl ?_
        exact hk16 l2 μ3 _ _ (ivI l1) h
theorem T_X5_shortest (L : Nat) (p1 : Int)  {μ μ' : ivM} {r : Int} (h : f_X5_shortest p1 μ = some (r, μ')) : iv_Ret L 37 0 [ivR 32, ivI p1, ivU] [] (ivST μ) (some (ivI r)) (ivST μ') := by
  unfold f_X5_shortest at h
  refine iv_Ret.stl [1, 2] (ls' := [ivR 32, ivI p1, ivI 1]) (st' := []) (w' := (135, μ, iv_rho)) rfl ?_
  refine T_lp_X5_shortest_2 L p1 (fun w7 μ8 r9 μ10 z6 h => ?_) iv_fuel 1 μ _ _ h
  refine iv_Ret.stl [17, 18] (ls' := [ivR 32, z6, ivI w7]) (st' := [ivI w7, ivR 32]) (w' := (135, μ8, iv_rho)) rfl ?_
  obtain ⟨r11, μ12, e13, h⟩ := iv_bndE h
  refine iv_Ret.callv rfl rfl rfl (T_X5_found L w7 e13) ?_
  show iv_Ret L 37 21 [ivR 32, z6, ivI w7] [ivI r11] (ivST μ12) (some (ivI r9)) (ivST μ10)
  obtain ⟨rfl, rfl⟩ := iv_retE h
  exact ⟨1, rfl⟩
theorem T_X6_sing (L : Nat) (p1 : Int) (p2 : Int)  {μ μ' : ivM} {r : Int} (h : f_X6_sing p1 p2 μ = some (r, μ')) : iv_Ret L 43 0 [ivR 105, ivI p1, ivI p2] [] (ivST μ) none (ivST μ') := by
  unfold f_X6_sing at h
  refine iv_Ret.stl [1, 4] (ls' := [ivR 105, ivI p1, ivI p2]) (st' := [ivI (μ 105 0)]) (w' := (135, μ, iv_rho)) rfl ?_
  refine iv_letE (fun j1 => ∀ (μ5 : ivM) (r6 : Int) (μ7 : ivM) (z2 : ivV) (z3 : ivV) (z4 : ivV), j1 μ5 = some (r6, μ7) → iv_Ret L 43 46 [z2, z3, z4] [] (ivST μ5) none (ivST μ7)) h (fun μ5 r6 μ7 z2 z3 z4 h => ?_) (fun j1 hj1 h => ?_)
  · obtain ⟨rfl, rfl⟩ := iv_retE h
    exact ⟨1, rfl⟩
  · rcases iv_iteE h with ⟨c8, h⟩ | ⟨c8, h⟩
    · refine iv_Ret.ifT (t := 46) rfl (decide_eq_true c8) rfl ?_
      exact hj1 μ _ _ (ivR 105) (ivI p1) (ivI p2) h
    · refine iv_Ret.ifF (t := 7) rfl (decide_eq_false c8) rfl ?_
      refine iv_Ret.stl [8, 11, 13] (ls' := [ivR 105, ivI p1, ivI p2]) (st' := [ivI 16, ivI (μ 105 0)]) (w' := (135, μ, iv_rho)) rfl ?_
      rcases iv_iteE h with ⟨c9, h⟩ | ⟨c9, h⟩
      · refine iv_Ret.icT (t := 46) rfl (decide_eq_true c9) rfl ?_
        exact hj1 μ _ _ (ivR 105) (ivI p1) (ivI p2) h
      · refine iv_Ret.icF (t := 16) rfl (decide_eq_false c9) rfl ?_
        refine iv_Ret.stl [17, 20] (ls' := [ivR 105, ivI p1, ivI p2]) (st' := [ivR 106]) (w' := (135, μ, iv_rho)) rfl ?_
        refine iv_Ret.stl [21, 24, 25] (ls' := [ivR 105, ivI p1, ivI p2]) (st' := [ivI p1, ivI (μ 105 0), ivR 106]) (w' := (135, μ, iv_rho)) rfl ?_
        obtain ⟨c10, h⟩ := iv_ckE h
        refine iv_Ret.iast (len := 16) rfl rfl rfl rfl c10.1 c10.2 ?_
        show iv_Ret L 43 26 [ivR 105, ivI p1, ivI p2] [] (ivST (iv_upd μ 106 (μ 105 0).toNat p1)) none (ivST μ')
        refine iv_Ret.stl [27, 30] (ls' := [ivR 105, ivI p1, ivI p2]) (st' := [ivR 107]) (w' := (135, (iv_upd μ 106 (μ 105 0).toNat p1), iv_rho)) rfl ?_
        refine iv_Ret.stl [31, 34, 35] (ls' := [ivR 105, ivI p1, ivI p2]) (st' := [ivI p2, ivI ((iv_upd μ 106 (μ 105 0).toNat p1) 105 0), ivR 107]) (w' := (135, (iv_upd μ 106 (μ 105 0).toNat p1), iv_rho)) rfl ?_
        obtain ⟨c11, h⟩ := iv_ckE h
        refine iv_Ret.iast (len := 16) rfl rfl rfl rfl c11.1 c11.2 ?_
        show iv_Ret L 43 36 [ivR 105, ivI p1, ivI p2] [] (ivST (iv_upd (iv_upd μ 106 (μ 105 0).toNat p1) 107 ((iv_upd μ 106 (μ 105 0).toNat p1) 105 0).toNat p2)) none (ivST μ')
        refine iv_Ret.stl [37, 38, 41, 42, 43, 46] (ls' := [ivR 105, ivI p1, ivI p2]) (st' := []) (w' := (135, (iv_upd (iv_upd (iv_upd μ 106 (μ 105 0).toNat p1) 107 ((iv_upd μ 106 (μ 105 0).toNat p1) 105 0).toNat p2) 105 0 (iv_wr (((iv_upd (iv_upd μ 106 (μ 105 0).toNat p1) 107 ((iv_upd μ 106 (μ 105 0).toNat p1) 105 0).toNat p2) 105 0) + 1))), iv_rho)) rfl ?_
        exact hj1 (iv_upd (iv_upd (iv_upd μ 106 (μ 105 0).toNat p1) 107 ((iv_upd μ 106 (μ 105 0).toNat p1) 105 0).toNat p2) 105 0 (iv_wr (((iv_upd (iv_upd μ 106 (μ 105 0).toNat p1) 107 ((iv_upd μ 106 (μ 105 0).toNat p1) 105 0).toNat p2) 105 0) + 1))) _ _ (ivR 105) (ivI p1) (ivI p2) h
theorem T_lp_X6_hear_2 (L : Nat) (l1 : Int) (l2 : Int)  {k30 : ivM → Option (Int × ivM)} (hk30 : ∀  (μ : ivM) (r : Int) (μ' : ivM) (d3 : ivV) (d4 : ivV), k30 μ = some (r, μ') → iv_Ret L 47 30 [ivR 105, ivI l1, ivI l2, d3, d4] [] (ivST μ) none (ivST μ')) : ∀ (n : Nat) (l3 : Int) (μ : ivM) (r : Int) (μ' : ivM) (d4 : ivV), lp_X6_hear_2 l1 l2 k30 n l3 μ = some (r, μ') → iv_Ret L 47 2 [ivR 105, ivI l1, ivI l2, ivI l3, d4] [] (ivST μ) none (ivST μ') := by
  intro n
  induction n with
  | zero => intro l3 μ r μ' d4 h; unfold lp_X6_hear_2 at h; cases h
  | succ n ih =>
    intro l3 μ r μ' d4 h
    unfold lp_X6_hear_2 at h
    refine iv_Ret.stl [3, 4] (ls' := [ivR 105, ivI l1, ivI l2, ivI l3, d4]) (st' := [ivI l1, ivI l3]) (w' := (135, μ, iv_rho)) rfl ?_
    rcases iv_iteE h with ⟨c1, h⟩ | ⟨c1, h⟩
    · refine iv_Ret.icT (t := 30) rfl (decide_eq_true c1) rfl ?_
      exact hk30 μ _ _ (ivI l3) d4 h
    · refine iv_Ret.icF (t := 7) rfl (decide_eq_false c1) rfl ?_
      refine iv_Ret.stl [8, 10] (ls' := [ivR 105, ivI l1, ivI l2, ivI l3, d4]) (st' := [ivI 8, ivI l3]) (w' := (135, μ, iv_rho)) rfl ?_
      rcases iv_iteE h with ⟨c2, h⟩ | ⟨c2, h⟩
      · refine iv_Ret.icT (t := 30) rfl (decide_eq_true c2) rfl ?_
        exact hk30 μ _ _ (ivI l3) d4 h
      · refine iv_Ret.icF (t := 13) rfl (decide_eq_false c2) rfl ?_
        refine iv_Ret.stl [14, 17] (ls' := [ivR 105, ivI l1, ivI l2, ivI l3, d4]) (st' := [ivR 108]) (w' := (135, μ, iv_rho)) rfl ?_
        refine iv_Ret.stl [18, 19, 20, 21, 22, 23] (ls' := [ivR 105, ivI l1, ivI l2, ivI l3, d4]) (st' := [ivI (iv_wr ((iv_shl 1 l1) - 1)), ivI l3, ivR 108]) (w' := (135, μ, iv_rho)) rfl ?_
        obtain ⟨c3, h⟩ := iv_ckE h
        refine iv_Ret.iast (len := 8) rfl rfl rfl rfl c3.1 c3.2 ?_
        show iv_Ret L 47 24 [ivR 105, ivI l1, ivI l2, ivI l3, d4] [] (ivST (iv_upd μ 108 l3.toNat (iv_wr ((iv_shl 1 l1) - 1)))) none (ivST μ')
        refine iv_Ret.stl [27, 2] (ls' := [ivR 105, ivI l1, ivI l2, ivI (iv_wr (l3 + 1)), d4]) (st' := []) (w' := (135, (iv_upd μ 108 l3.toNat (iv_wr ((iv_shl 1 l1) - 1))), iv_rho)) rfl ?_
        exact ih (iv_wr (l3 + 1)) (iv_upd μ 108 l3.toNat (iv_wr ((iv_shl 1 l1) - 1))) _ _ d4 h
theorem T_lp_X6_hear_32 (L : Nat) (l1 : Int) (l2 : Int)  {k91 : ivM → Option (Int × ivM)} (hk91 : ∀  (μ : ivM) (r : Int) (μ' : ivM) (d0 : ivV) (d1 : ivV) (d2 : ivV) (d3 : ivV) (d4 : ivV), k91 μ = some (r, μ') → iv_Ret L 47 91 [d0, d1, d2, d3, d4] [] (ivST μ) none (ivST μ')) : ∀ (n : Nat) (l3 : Int) (μ : ivM) (r : Int) (μ' : ivM) (d4 : ivV), lp_X6_hear_32 l1 l2 k91 n l3 μ = some (r, μ') → iv_Ret L 47 32 [ivR 105, ivI l1, ivI l2, ivI l3, d4] [] (ivST μ) none (ivST μ') := by
  intro n
  induction n with
  | zero => intro l3 μ r μ' d4 h; unfold lp_X6_hear_32 at h; cases h
  | succ n ih =>
    intro l3 μ r μ' d4 h
    unfold lp_X6_hear_32 at h
    refine iv_Ret.stl [33, 34] (ls' := [ivR 105, ivI l1, ivI l2, ivI l3, d4]) (st' := [ivI l2, ivI l3]) (w' := (135, μ, iv_rho)) rfl ?_
    rcases iv_iteE h with ⟨c9, h⟩ | ⟨c9, h⟩
    · refine iv_Ret.icT (t := 91) rfl (decide_eq_true c9) rfl ?_
      exact hk91 μ _ _ (ivR 105) (ivI l1) (ivI l2) (ivI l3) d4 h
    · refine iv_Ret.icF (t := 37) rfl (decide_eq_false c9) rfl ?_
      refine iv_Ret.stl [38, 40] (ls' := [ivR 105, ivI l1, ivI l2, ivI l3, d4]) (st' := [ivI 16, ivI l3]) (w' := (135, μ, iv_rho)) rfl ?_
      rcases iv_iteE h with ⟨c10, h⟩ | ⟨c10, h⟩
      · refine iv_Ret.icT (t := 91) rfl (decide_eq_true c10) rfl ?_
        exact hk91 μ _ _ (ivR 105) (ivI l1) (ivI l2) (ivI l3) d4 h
      · refine iv_Ret.icF (t := 43) rfl (decide_eq_false c10) rfl ?_
        refine iv_Ret.stl [44, 47] (ls' := [ivR 105, ivI l1, ivI l2, ivI l3, d4]) (st' := [ivR 106]) (w' := (135, μ, iv_rho)) rfl ?_
        refine iv_Ret.stl [48] (ls' := [ivR 105, ivI l1, ivI l2, ivI l3, d4]) (st' := [ivI l3, ivR 106]) (w' := (135, μ, iv_rho)) rfl ?_
        obtain ⟨c11, h⟩ := iv_ckE h
        refine iv_Ret.iald (len := 16) rfl rfl rfl c11.1 c11.2 ?_
        show iv_Ret L 47 49 [ivR 105, ivI l1, ivI l2, ivI l3, d4] [ivI (μ 106 l3.toNat)] (ivST μ) none (ivST μ')
        refine iv_Ret.stl [51, 53] (ls' := [ivR 105, ivI l1, ivI l2, ivI l3, ivI (μ 106 l3.toNat)]) (st' := [ivI (μ 106 l3.toNat)]) (w' := (135, μ, iv_rho)) rfl ?_
        refine iv_letE (fun j12 => ∀ (μ14 : ivM) (r15 : Int) (μ16 : ivM) (z13 : ivV), j12 μ14 = some (r15, μ16) → iv_Ret L 47 85 [ivR 105, ivI l1, ivI l2, ivI l3, z13] [] (ivST μ14) none (ivST μ16)) h (fun μ14 r15 μ16 z13 h => ?_) (fun j12 hj12 h => ?_)
        · refine iv_Ret.stl [88, 32] (ls' := [ivR 105, ivI l1, ivI l2, ivI (iv_wr (l3 + 1)), z13]) (st' := []) (w' := (135, μ14, iv_rho)) rfl ?_
          exact ih (iv_wr (l3 + 1)) μ14 _ _ z13 h
        · rcases iv_iteE h with ⟨c17, h⟩ | ⟨c17, h⟩
          · refine iv_Ret.ifT (t := 85) rfl (decide_eq_true c17) rfl ?_
            exact hj12 μ _ _ (ivI (μ 106 l3.toNat)) h
          · refine iv_Ret.ifF (t := 56) rfl (decide_eq_false c17) rfl ?_
            refine iv_Ret.stl [58, 59] (ls' := [ivR 105, ivI l1, ivI l2, ivI l3, ivI (μ 106 l3.toNat)]) (st' := [ivI l1, ivI (μ 106 l3.toNat)]) (w' := (135, μ, iv_rho)) rfl ?_
            rcases iv_iteE h with ⟨c18, h⟩ | ⟨c18, h⟩
            · refine iv_Ret.icT (t := 85) rfl (decide_eq_true c18) rfl ?_
              exact hj12 μ _ _ (ivI (μ 106 l3.toNat)) h
            · refine iv_Ret.icF (t := 62) rfl (decide_eq_false c18) rfl ?_
              refine iv_Ret.stl [64, 66] (ls' := [ivR 105, ivI l1, ivI l2, ivI l3, ivI (μ 106 l3.toNat)]) (st' := [ivI 8, ivI (μ 106 l3.toNat)]) (w' := (135, μ, iv_rho)) rfl ?_
              rcases iv_iteE h with ⟨c19, h⟩ | ⟨c19, h⟩
              · refine iv_Ret.icT (t := 85) rfl (decide_eq_true c19) rfl ?_
                exact hj12 μ _ _ (ivI (μ 106 l3.toNat)) h
              · refine iv_Ret.icF (t := 69) rfl (decide_eq_false c19) rfl ?_
                refine iv_Ret.stl [70, 73] (ls' := [ivR 105, ivI l1, ivI l2, ivI l3, ivI (μ 106 l3.toNat)]) (st' := [ivR 108]) (w' := (135, μ, iv_rho)) rfl ?_
                refine iv_Ret.stl [75, 76] (ls' := [ivR 105, ivI l1, ivI l2, ivI l3, ivI (μ 106 l3.toNat)]) (st' := [ivI (μ 106 l3.toNat), ivR 108, ivI (μ 106 l3.toNat), ivR 108]) (w' := (135, μ, iv_rho)) rfl ?_
                obtain ⟨c20, h⟩ := iv_ckE h
                refine iv_Ret.iald (len := 8) rfl rfl rfl c20.1 c20.2 ?_
                show iv_Ret L 47 77 [ivR 105, ivI l1, ivI l2, ivI l3, ivI (μ 106 l3.toNat)] [ivI (μ 108 (μ 106 l3.toNat).toNat), ivI (μ 106 l3.toNat), ivR 108] (ivST μ) none (ivST μ')
                refine iv_Ret.stl [78, 81] (ls' := [ivR 105, ivI l1, ivI l2, ivI l3, ivI (μ 106 l3.toNat)]) (st' := [ivR 107, ivI (μ 108 (μ 106 l3.toNat).toNat), ivI (μ 106 l3.toNat), ivR 108]) (w' := (135, μ, iv_rho)) rfl ?_
                refine iv_Ret.stl [82] (ls' := [ivR 105, ivI l1, ivI l2, ivI l3, ivI (μ 106 l3.toNat)]) (st' := [ivI l3, ivR 107, ivI (μ 108 (μ 106 l3.toNat).toNat), ivI (μ 106 l3.toNat), ivR 108]) (w' := (135, μ, iv_rho)) rfl ?_
                obtain ⟨c21, h⟩ := iv_ckE h
                refine iv_Ret.iald (len := 16) rfl rfl rfl c21.1 c21.2 ?_
                show iv_Ret L 47 83 [ivR 105, ivI l1, ivI l2, ivI l3, ivI (μ 106 l3.toNat)] [ivI (μ 107 l3.toNat), ivI (μ 108 (μ 106 l3.toNat).toNat), ivI (μ 106 l3.toNat), ivR 108] (ivST μ) none (ivST μ')
                refine iv_Ret.stl [84] (ls' := [ivR 105, ivI l1, ivI l2, ivI l3, ivI (μ 106 l3.toNat)]) (st' := [ivI (iv_and (μ 108 (μ 106 l3.toNat).toNat) (μ 107 l3.toNat)), ivI (μ 106 l3.toNat), ivR 108]) (w' := (135, μ, iv_rho)) rfl ?_
                obtain ⟨c22, h⟩ := iv_ckE h
                refine iv_Ret.iast (len := 8) rfl rfl rfl rfl c22.1 c22.2 ?_
                show iv_Ret L 47 85 [ivR 105, ivI l1, ivI l2, ivI l3, ivI (μ 106 l3.toNat)] [] (ivST (iv_upd μ 108 (μ 106 l3.toNat).toNat (iv_and (μ 108 (μ 106 l3.toNat).toNat) (μ 107 l3.toNat)))) none (ivST μ')
                exact hj12 (iv_upd μ 108 (μ 106 l3.toNat).toNat (iv_and (μ 108 (μ 106 l3.toNat).toNat) (μ 107 l3.toNat))) _ _ (ivI (μ 106 l3.toNat)) h
theorem T_X6_hear (L : Nat) (p1 : Int) (p2 : Int)  {μ μ' : ivM} {r : Int} (h : f_X6_hear p1 p2 μ = some (r, μ')) : iv_Ret L 47 0 [ivR 105, ivI p1, ivI p2, ivU, ivU] [] (ivST μ) none (ivST μ') := by
  unfold f_X6_hear at h
  refine iv_Ret.stl [1, 2] (ls' := [ivR 105, ivI p1, ivI p2, ivI 0, ivU]) (st' := []) (w' := (135, μ, iv_rho)) rfl ?_
  refine T_lp_X6_hear_2 L p1 p2 (fun μ6 r7 μ8 z4 z5 h => ?_) iv_fuel 0 μ _ _ ivU h
  refine iv_Ret.stl [31, 32] (ls' := [ivR 105, ivI p1, ivI p2, ivI 0, z5]) (st' := []) (w' := (135, μ6, iv_rho)) rfl ?_
  refine T_lp_X6_hear_32 L p1 p2 (fun μ28 r29 μ30 z23 z24 z25 z26 z27 h => ?_) iv_fuel 0 μ6 _ _ z5 h
  obtain ⟨rfl, rfl⟩ := iv_retE h
  exact ⟨1, rfl⟩
theorem T_J6_bitCount_0f7a4 (L : Nat) (p0 : Int)  {μ μ' : ivM} {r : Int} (h : f_J6_bitCount_0f7a4 p0 μ = some (r, μ')) : iv_Ret L 168 0 [ivI p0] [] (ivST μ) (some (ivI r)) (ivST μ') := by
  unfold f_J6_bitCount_0f7a4 at h
  refine iv_Ret.stl [1, 2, 3, 4, 7, 8, 9, 10, 11, 14, 15, 16, 17, 18, 21, 22, 23, 24, 25, 26, 27, 28, 29, 32, 33, 34, 35, 36, 38, 39, 40, 41, 42, 43, 45, 46, 47, 48, 49, 51, 52] (ls' := [ivI (iv_wr ((iv_wr ((iv_and (iv_wr ((iv_wr ((iv_and (iv_wr (p0 - (iv_and (iv_ushr p0 1) 1431655765))) 858993459) + (iv_and (iv_ushr (iv_wr (p0 - (iv_and (iv_ushr p0 1) 1431655765))) 2) 858993459))) + (iv_ushr (iv_wr ((iv_and (iv_wr (p0 - (iv_and (iv_ushr p0 1) 1431655765))) 858993459) + (iv_and (iv_ushr (iv_wr (p0 - (iv_and (iv_ushr p0 1) 1431655765))) 2) 858993459))) 4))) 252645135) + (iv_ushr (iv_and (iv_wr ((iv_wr ((iv_and (iv_wr (p0 - (iv_and (iv_ushr p0 1) 1431655765))) 858993459) + (iv_and (iv_ushr (iv_wr (p0 - (iv_and (iv_ushr p0 1) 1431655765))) 2) 858993459))) + (iv_ushr (iv_wr ((iv_and (iv_wr (p0 - (iv_and (iv_ushr p0 1) 1431655765))) 858993459) + (iv_and (iv_ushr (iv_wr (p0 - (iv_and (iv_ushr p0 1) 1431655765))) 2) 858993459))) 4))) 252645135) 8))) + (iv_ushr (iv_wr ((iv_and (iv_wr ((iv_wr ((iv_and (iv_wr (p0 - (iv_and (iv_ushr p0 1) 1431655765))) 858993459) + (iv_and (iv_ushr (iv_wr (p0 - (iv_and (iv_ushr p0 1) 1431655765))) 2) 858993459))) + (iv_ushr (iv_wr ((iv_and (iv_wr (p0 - (iv_and (iv_ushr p0 1) 1431655765))) 858993459) + (iv_and (iv_ushr (iv_wr (p0 - (iv_and (iv_ushr p0 1) 1431655765))) 2) 858993459))) 4))) 252645135) + (iv_ushr (iv_and (iv_wr ((iv_wr ((iv_and (iv_wr (p0 - (iv_and (iv_ushr p0 1) 1431655765))) 858993459) + (iv_and (iv_ushr (iv_wr (p0 - (iv_and (iv_ushr p0 1) 1431655765))) 2) 858993459))) + (iv_ushr (iv_wr ((iv_and (iv_wr (p0 - (iv_and (iv_ushr p0 1) 1431655765))) 858993459) + (iv_and (iv_ushr (iv_wr (p0 - (iv_and (iv_ushr p0 1) 1431655765))) 2) 858993459))) 4))) 252645135) 8))) 16)))]) (st' := [ivI (iv_and (iv_wr ((iv_wr ((iv_and (iv_wr ((iv_wr ((iv_and (iv_wr (p0 - (iv_and (iv_ushr p0 1) 1431655765))) 858993459) + (iv_and (iv_ushr (iv_wr (p0 - (iv_and (iv_ushr p0 1) 1431655765))) 2) 858993459))) + (iv_ushr (iv_wr ((iv_and (iv_wr (p0 - (iv_and (iv_ushr p0 1) 1431655765))) 858993459) + (iv_and (iv_ushr (iv_wr (p0 - (iv_and (iv_ushr p0 1) 1431655765))) 2) 858993459))) 4))) 252645135) + (iv_ushr (iv_and (iv_wr ((iv_wr ((iv_and (iv_wr (p0 - (iv_and (iv_ushr p0 1) 1431655765))) 858993459) + (iv_and (iv_ushr (iv_wr (p0 - (iv_and (iv_ushr p0 1) 1431655765))) 2) 858993459))) + (iv_ushr (iv_wr ((iv_and (iv_wr (p0 - (iv_and (iv_ushr p0 1) 1431655765))) 858993459) + (iv_and (iv_ushr (iv_wr (p0 - (iv_and (iv_ushr p0 1) 1431655765))) 2) 858993459))) 4))) 252645135) 8))) + (iv_ushr (iv_wr ((iv_and (iv_wr ((iv_wr ((iv_and (iv_wr (p0 - (iv_and (iv_ushr p0 1) 1431655765))) 858993459) + (iv_and (iv_ushr (iv_wr (p0 - (iv_and (iv_ushr p0 1) 1431655765))) 2) 858993459))) + (iv_ushr (iv_wr ((iv_and (iv_wr (p0 - (iv_and (iv_ushr p0 1) 1431655765))) 858993459) + (iv_and (iv_ushr (iv_wr (p0 - (iv_and (iv_ushr p0 1) 1431655765))) 2) 858993459))) 4))) 252645135) + (iv_ushr (iv_and (iv_wr ((iv_wr ((iv_and (iv_wr (p0 - (iv_and (iv_ushr p0 1) 1431655765))) 858993459) + (iv_and (iv_ushr (iv_wr (p0 - (iv_and (iv_ushr p0 1) 1431655765))) 2) 858993459))) + (iv_ushr (iv_wr ((iv_and (iv_wr (p0 - (iv_and (iv_ushr p0 1) 1431655765))) 858993459) + (iv_and (iv_ushr (iv_wr (p0 - (iv_and (iv_ushr p0 1) 1431655765))) 2) 858993459))) 4))) 252645135) 8))) 16))) 63)]) (w' := (135, μ, iv_rho)) rfl ?_
  obtain ⟨rfl, rfl⟩ := iv_retE h
  exact ⟨1, rfl⟩
theorem T_lp_X6_giveNext_22 (L : Nat) (l1 : Int) (l2 : Int) (l3 : Int)  {k84 : ivM → Option (Int × ivM)} (hk84 : ∀  (μ : ivM) (r : Int) (μ' : ivM) (d0 : ivV) (d1 : ivV) (d2 : ivV) (d3 : ivV) (d4 : ivV), k84 μ = some (r, μ') → iv_Ret L 49 84 [d0, d1, d2, d3, d4] [] (ivST μ) none (ivST μ')) : ∀ (n : Nat) (l4 : Int) (μ : ivM) (r : Int) (μ' : ivM), lp_X6_giveNext_22 l1 l2 l3 k84 n l4 μ = some (r, μ') → iv_Ret L 49 22 [ivR 105, ivI l1, ivI l2, ivI l3, ivI l4] [] (ivST μ) none (ivST μ') := by
  intro n
  induction n with
  | zero => intro l4 μ r μ' h; unfold lp_X6_giveNext_22 at h; cases h
  | succ n ih =>
    intro l4 μ r μ' h
    unfold lp_X6_giveNext_22 at h
    refine iv_Ret.stl [24, 25] (ls' := [ivR 105, ivI l1, ivI l2, ivI l3, ivI l4]) (st' := [ivI l1, ivI l4]) (w' := (135, μ, iv_rho)) rfl ?_
    rcases iv_iteE h with ⟨c18, h⟩ | ⟨c18, h⟩
    · refine iv_Ret.icT (t := 84) rfl (decide_eq_true c18) rfl ?_
      exact hk84 μ _ _ (ivR 105) (ivI l1) (ivI l2) (ivI l3) (ivI l4) h
    · refine iv_Ret.icF (t := 28) rfl (decide_eq_false c18) rfl ?_
      refine iv_Ret.stl [30, 32] (ls' := [ivR 105, ivI l1, ivI l2, ivI l3, ivI l4]) (st' := [ivI 8, ivI l4]) (w' := (135, μ, iv_rho)) rfl ?_
      rcases iv_iteE h with ⟨c19, h⟩ | ⟨c19, h⟩
      · refine iv_Ret.icT (t := 84) rfl (decide_eq_true c19) rfl ?_
        exact hk84 μ _ _ (ivR 105) (ivI l1) (ivI l2) (ivI l3) (ivI l4) h
      · refine iv_Ret.icF (t := 35) rfl (decide_eq_false c19) rfl ?_
        refine iv_Ret.stl [36, 39] (ls' := [ivR 105, ivI l1, ivI l2, ivI l3, ivI l4]) (st' := [ivR 108]) (w' := (135, μ, iv_rho)) rfl ?_
        refine iv_Ret.stl [40] (ls' := [ivR 105, ivI l1, ivI l2, ivI l3, ivI l4]) (st' := [ivI l3, ivR 108]) (w' := (135, μ, iv_rho)) rfl ?_
        obtain ⟨c20, h⟩ := iv_ckE h
        refine iv_Ret.iald (len := 8) rfl rfl rfl c20.1 c20.2 ?_
        show iv_Ret L 49 41 [ivR 105, ivI l1, ivI l2, ivI l3, ivI l4] [ivI (μ 108 l3.toNat)] (ivST μ) none (ivST μ')
        refine iv_Ret.stl [43] (ls' := [ivR 105, ivI l1, ivI l2, ivI l3, ivI l4]) (st' := [ivI l4, ivI (μ 108 l3.toNat)]) (w' := (135, μ, iv_rho)) rfl ?_
        obtain ⟨r21, μ22, e23, h⟩ := iv_bndE h
        refine iv_Ret.calls rfl rfl (T_X9_has L (μ 108 l3.toNat) l4 e23) ?_
        show iv_Ret L 49 46 [ivR 105, ivI l1, ivI l2, ivI l3, ivI l4] [ivI r21] (ivST μ22) none (ivST μ')
        refine iv_letE (fun j24 => ∀ (μ25 : ivM) (r26 : Int) (μ27 : ivM), j24 μ25 = some (r26, μ27) → iv_Ret L 49 78 [ivR 105, ivI l1, ivI l2, ivI l3, ivI l4] [] (ivST μ25) none (ivST μ27)) h (fun μ25 r26 μ27 h => ?_) (fun j24 hj24 h => ?_)
        · refine iv_Ret.stl [81, 22] (ls' := [ivR 105, ivI l1, ivI l2, ivI l3, ivI (iv_wr (l4 + 1))]) (st' := []) (w' := (135, μ25, iv_rho)) rfl ?_
          exact ih (iv_wr (l4 + 1)) μ25 _ _ h
        · rcases iv_iteE h with ⟨c28, h⟩ | ⟨c28, h⟩
          · refine iv_Ret.ifT (t := 78) rfl (decide_eq_true c28) rfl ?_
            exact hj24 μ22 _ _ h
          · refine iv_Ret.ifF (t := 49) rfl (decide_eq_false c28) rfl ?_
            refine iv_Ret.stl [50, 52] (ls' := [ivR 105, ivI l1, ivI l2, ivI l3, ivI l4]) (st' := [ivI l4, ivI l2]) (w' := (135, μ22, iv_rho)) rfl ?_
            obtain ⟨r29, μ30, e31, h⟩ := iv_bndE h
            refine iv_Ret.calls rfl rfl (T_X9_has L l2 l4 e31) ?_
            show iv_Ret L 49 55 [ivR 105, ivI l1, ivI l2, ivI l3, ivI l4] [ivI r29] (ivST μ30) none (ivST μ')
            rcases iv_iteE h with ⟨c32, h⟩ | ⟨c32, h⟩
            · refine iv_Ret.ifF (t := 58) rfl (decide_eq_false (not_not_intro c32)) rfl ?_
              refine iv_Ret.stl [59, 62] (ls' := [ivR 105, ivI l1, ivI l2, ivI l3, ivI l4]) (st' := [ivR 109]) (w' := (135, μ30, iv_rho)) rfl ?_
              refine iv_Ret.stl [63, 64, 66, 67, 68, 69] (ls' := [ivR 105, ivI l1, ivI l2, ivI l3, ivI l4]) (st' := [ivI (iv_or l2 (iv_shl 1 l4)), ivR 109, ivI (iv_or l2 (iv_shl 1 l4)), ivR 109]) (w' := (135, μ30, iv_rho)) rfl ?_
              obtain ⟨c33, h⟩ := iv_ckE h
              refine iv_Ret.iald (len := 256) rfl rfl rfl c33.1 c33.2 ?_
              show iv_Ret L 49 70 [ivR 105, ivI l1, ivI l2, ivI l3, ivI l4] [ivI (μ30 109 (iv_or l2 (iv_shl 1 l4)).toNat), ivI (iv_or l2 (iv_shl 1 l4)), ivR 109] (ivST μ30) none (ivST μ')
              refine iv_Ret.stl [71, 74] (ls' := [ivR 105, ivI l1, ivI l2, ivI l3, ivI l4]) (st' := [ivR 109, ivI (μ30 109 (iv_or l2 (iv_shl 1 l4)).toNat), ivI (iv_or l2 (iv_shl 1 l4)), ivR 109]) (w' := (135, μ30, iv_rho)) rfl ?_
              refine iv_Ret.stl [75] (ls' := [ivR 105, ivI l1, ivI l2, ivI l3, ivI l4]) (st' := [ivI l2, ivR 109, ivI (μ30 109 (iv_or l2 (iv_shl 1 l4)).toNat), ivI (iv_or l2 (iv_shl 1 l4)), ivR 109]) (w' := (135, μ30, iv_rho)) rfl ?_
              obtain ⟨c34, h⟩ := iv_ckE h
              refine iv_Ret.iald (len := 256) rfl rfl rfl c34.1 c34.2 ?_
              show iv_Ret L 49 76 [ivR 105, ivI l1, ivI l2, ivI l3, ivI l4] [ivI (μ30 109 l2.toNat), ivI (μ30 109 (iv_or l2 (iv_shl 1 l4)).toNat), ivI (iv_or l2 (iv_shl 1 l4)), ivR 109] (ivST μ30) none (ivST μ')
              refine iv_Ret.stl [77] (ls' := [ivR 105, ivI l1, ivI l2, ivI l3, ivI l4]) (st' := [ivI (iv_wr ((μ30 109 (iv_or l2 (iv_shl 1 l4)).toNat) + (μ30 109 l2.toNat))), ivI (iv_or l2 (iv_shl 1 l4)), ivR 109]) (w' := (135, μ30, iv_rho)) rfl ?_
              obtain ⟨c35, h⟩ := iv_ckE h
              refine iv_Ret.iast (len := 256) rfl rfl rfl rfl c35.1 c35.2 ?_
              show iv_Ret L 49 78 [ivR 105, ivI l1, ivI l2, ivI l3, ivI l4] [] (ivST (iv_upd μ30 109 (iv_or l2 (iv_shl 1 l4)).toNat (iv_wr ((μ30 109 (iv_or l2 (iv_shl 1 l4)).toNat) + (μ30 109 l2.toNat))))) none (ivST μ')
              exact hj24 (iv_upd μ30 109 (iv_or l2 (iv_shl 1 l4)).toNat (iv_wr ((μ30 109 (iv_or l2 (iv_shl 1 l4)).toNat) + (μ30 109 l2.toNat)))) _ _ h
            · refine iv_Ret.ifT (t := 78) rfl (decide_eq_true c32) rfl ?_
              exact hj24 μ30 _ _ h
theorem T_X6_giveNext (L : Nat) (p1 : Int) (p2 : Int)  {μ μ' : ivM} {r : Int} (h : f_X6_giveNext p1 p2 μ = some (r, μ')) : iv_Ret L 49 0 [ivR 105, ivI p1, ivI p2, ivU, ivU] [] (ivST μ) none (ivST μ') := by
  unfold f_X6_giveNext at h
  refine iv_Ret.stl [1] (ls' := [ivR 105, ivI p1, ivI p2, ivU, ivU]) (st' := [ivI p2]) (w' := (135, μ, iv_rho)) rfl ?_
  obtain ⟨r1, μ2, e3, h⟩ := iv_bndE h
  refine iv_Ret.calls rfl rfl (T_J6_bitCount_0f7a4 L p2 e3) ?_
  show iv_Ret L 49 4 [ivR 105, ivI p1, ivI p2, ivU, ivU] [ivI r1] (ivST μ2) none (ivST μ')
  refine iv_Ret.stl [5, 6] (ls' := [ivR 105, ivI p1, ivI p2, ivI r1, ivU]) (st' := [ivI p2]) (w' := (135, μ2, iv_rho)) rfl ?_
  obtain ⟨r4, μ5, e6, h⟩ := iv_bndE h
  refine iv_Ret.calls rfl rfl (T_X9_isSet L p2 e6) ?_
  show iv_Ret L 49 9 [ivR 105, ivI p1, ivI p2, ivI r1, ivU] [ivI r4] (ivST μ5) none (ivST μ')
  refine iv_letE (fun j7 => ∀ (μ13 : ivM) (r14 : Int) (μ15 : ivM) (z8 : ivV) (z9 : ivV) (z10 : ivV) (z11 : ivV) (z12 : ivV), j7 μ13 = some (r14, μ15) → iv_Ret L 49 18 [z8, z9, z10, z11, z12] [] (ivST μ13) none (ivST μ15)) h (fun μ13 r14 μ15 z8 z9 z10 z11 z12 h => ?_) (fun j7 hj7 h => ?_)
  · obtain ⟨rfl, rfl⟩ := iv_retE h
    exact ⟨1, rfl⟩
  · rcases iv_iteE h with ⟨c16, h⟩ | ⟨c16, h⟩
    · refine iv_Ret.ifT (t := 18) rfl (decide_eq_true c16) rfl ?_
      exact hj7 μ5 _ _ (ivR 105) (ivI p1) (ivI p2) (ivI r1) ivU h
    · refine iv_Ret.ifF (t := 12) rfl (decide_eq_false c16) rfl ?_
      refine iv_Ret.stl [13, 15] (ls' := [ivR 105, ivI p1, ivI p2, ivI r1, ivU]) (st' := [ivI 8, ivI r1]) (w' := (135, μ5, iv_rho)) rfl ?_
      rcases iv_iteE h with ⟨c17, h⟩ | ⟨c17, h⟩
      · refine iv_Ret.icT (t := 19) rfl (decide_eq_true c17) rfl ?_
        refine iv_Ret.stl [20, 22] (ls' := [ivR 105, ivI p1, ivI p2, ivI r1, ivI 0]) (st' := []) (w' := (135, μ5, iv_rho)) rfl ?_
        refine T_lp_X6_giveNext_22 L p1 p2 r1 (fun μ41 r42 μ43 z36 z37 z38 z39 z40 h => ?_) iv_fuel 0 μ5 _ _ h
        obtain ⟨rfl, rfl⟩ := iv_retE h
        exact ⟨1, rfl⟩
      · refine iv_Ret.icF (t := 18) rfl (decide_eq_false c17) rfl ?_
        exact hj7 μ5 _ _ (ivR 105) (ivI p1) (ivI p2) (ivI r1) ivU h
theorem T_lp_X6_fit_21 (L : Nat) (l1 : Int) (l2 : Int)  {k39 : ivM → Option (Int × ivM)} (hk39 : ∀  (μ : ivM) (r : Int) (μ' : ivM) (d3 : ivV), k39 μ = some (r, μ') → iv_Ret L 48 39 [ivR 105, ivI l1, ivI l2, d3] [] (ivST μ) (some (ivI r)) (ivST μ')) : ∀ (n : Nat) (l3 : Int) (μ : ivM) (r : Int) (μ' : ivM), lp_X6_fit_21 l1 l2 k39 n l3 μ = some (r, μ') → iv_Ret L 48 21 [ivR 105, ivI l1, ivI l2, ivI l3] [] (ivST μ) (some (ivI r)) (ivST μ') := by
  intro n
  induction n with
  | zero => intro l3 μ r μ' h; unfold lp_X6_fit_21 at h; cases h
  | succ n ih =>
    intro l3 μ r μ' h
    unfold lp_X6_fit_21 at h
    refine iv_Ret.stl [22, 23] (ls' := [ivR 105, ivI l1, ivI l2, ivI l3]) (st' := [ivI l2, ivI l3]) (w' := (135, μ, iv_rho)) rfl ?_
    rcases iv_iteE h with ⟨c11, h⟩ | ⟨c11, h⟩
    · refine iv_Ret.icT (t := 39) rfl (decide_eq_true c11) rfl ?_
      exact hk39 μ _ _ (ivI l3) h
    · refine iv_Ret.icF (t := 26) rfl (decide_eq_false c11) rfl ?_
      refine iv_Ret.stl [27, 30] (ls' := [ivR 105, ivI l1, ivI l2, ivI l3]) (st' := [ivR 109]) (w' := (135, μ, iv_rho)) rfl ?_
      refine iv_Ret.stl [31, 32] (ls' := [ivR 105, ivI l1, ivI l2, ivI l3]) (st' := [ivI 0, ivI l3, ivR 109]) (w' := (135, μ, iv_rho)) rfl ?_
      obtain ⟨c12, h⟩ := iv_ckE h
      refine iv_Ret.iast (len := 256) rfl rfl rfl rfl c12.1 c12.2 ?_
      show iv_Ret L 48 33 [ivR 105, ivI l1, ivI l2, ivI l3] [] (ivST (iv_upd μ 109 l3.toNat 0)) (some (ivI r)) (ivST μ')
      refine iv_Ret.stl [36, 21] (ls' := [ivR 105, ivI l1, ivI l2, ivI (iv_wr (l3 + 1))]) (st' := []) (w' := (135, (iv_upd μ 109 l3.toNat 0), iv_rho)) rfl ?_
      exact ih (iv_wr (l3 + 1)) (iv_upd μ 109 l3.toNat 0) _ _ h
theorem T_lp_X6_fit_48 (L : Nat) (l1 : Int) (l2 : Int)  {k74 : ivM → Option (Int × ivM)} (hk74 : ∀  (μ : ivM) (r : Int) (μ' : ivM) (d1 : ivV) (d3 : ivV), k74 μ = some (r, μ') → iv_Ret L 48 74 [ivR 105, d1, ivI l2, d3] [] (ivST μ) (some (ivI r)) (ivST μ')) : ∀ (n : Nat) (l3 : Int) (μ : ivM) (r : Int) (μ' : ivM), lp_X6_fit_48 l1 l2 k74 n l3 μ = some (r, μ') → iv_Ret L 48 48 [ivR 105, ivI l1, ivI l2, ivI l3] [] (ivST μ) (some (ivI r)) (ivST μ') := by
  intro n
  induction n with
  | zero => intro l3 μ r μ' h; unfold lp_X6_fit_48 at h; cases h
  | succ n ih =>
    intro l3 μ r μ' h
    unfold lp_X6_fit_48 at h
    refine iv_Ret.stl [49, 50] (ls' := [ivR 105, ivI l1, ivI l2, ivI l3]) (st' := [ivI l2, ivI l3]) (w' := (135, μ, iv_rho)) rfl ?_
    rcases iv_iteE h with ⟨c17, h⟩ | ⟨c17, h⟩
    · refine iv_Ret.icT (t := 74) rfl (decide_eq_true c17) rfl ?_
      exact hk74 μ _ _ (ivI l1) (ivI l3) h
    · refine iv_Ret.icF (t := 53) rfl (decide_eq_false c17) rfl ?_
      refine iv_Ret.stl [54, 57] (ls' := [ivR 105, ivI l1, ivI l2, ivI l3]) (st' := [ivR 109]) (w' := (135, μ, iv_rho)) rfl ?_
      refine iv_Ret.stl [58] (ls' := [ivR 105, ivI l1, ivI l2, ivI l3]) (st' := [ivI l3, ivR 109]) (w' := (135, μ, iv_rho)) rfl ?_
      obtain ⟨c18, h⟩ := iv_ckE h
      refine iv_Ret.iald (len := 256) rfl rfl rfl c18.1 c18.2 ?_
      show iv_Ret L 48 59 [ivR 105, ivI l1, ivI l2, ivI l3] [ivI (μ 109 l3.toNat)] (ivST μ) (some (ivI r)) (ivST μ')
      refine iv_letE (fun j19 => ∀ (μ20 : ivM) (r21 : Int) (μ22 : ivM), j19 μ20 = some (r21, μ22) → iv_Ret L 48 68 [ivR 105, ivI l1, ivI l2, ivI l3] [] (ivST μ20) (some (ivI r21)) (ivST μ22)) h (fun μ20 r21 μ22 h => ?_) (fun j19 hj19 h => ?_)
      · refine iv_Ret.stl [71, 48] (ls' := [ivR 105, ivI l1, ivI l2, ivI (iv_wr (l3 + 1))]) (st' := []) (w' := (135, μ20, iv_rho)) rfl ?_
        exact ih (iv_wr (l3 + 1)) μ20 _ _ h
      · rcases iv_iteE h with ⟨c23, h⟩ | ⟨c23, h⟩
        · refine iv_Ret.ifT (t := 68) rfl (decide_eq_true c23) rfl ?_
          exact hj19 μ _ _ h
        · refine iv_Ret.ifF (t := 62) rfl (decide_eq_false c23) rfl ?_
          refine iv_Ret.stl [63, 64, 65] (ls' := [ivR 105, ivI l1, ivI l2, ivI l3]) (st' := [ivI l3, ivI l1, ivR 105]) (w' := (135, μ, iv_rho)) rfl ?_
          obtain ⟨r24, μ25, e26, h⟩ := iv_bndE h
          refine iv_Ret.callv rfl rfl rfl (T_X6_giveNext L l1 l3 e26) ?_
          show iv_Ret L 48 68 [ivR 105, ivI l1, ivI l2, ivI l3] [] (ivST μ25) (some (ivI r)) (ivST μ')
          exact hj19 μ25 _ _ h
theorem T_X6_fit (L : Nat) (p1 : Int)  {μ μ' : ivM} {r : Int} (h : f_X6_fit p1 μ = some (r, μ')) : iv_Ret L 48 0 [ivR 105, ivI p1, ivU, ivU] [] (ivST μ) (some (ivI r)) (ivST μ') := by
  unfold f_X6_fit at h
  refine iv_Ret.stl [1, 2] (ls' := [ivR 105, ivI p1, ivU, ivU]) (st' := [ivI 1, ivI p1]) (w' := (135, μ, iv_rho)) rfl ?_
  refine iv_letE (fun j1 => ∀ (μ6 : ivM) (r7 : Int) (μ8 : ivM) (z2 : ivV) (z3 : ivV) (z4 : ivV) (z5 : ivV), j1 μ6 = some (r7, μ8) → iv_Ret L 48 11 [z2, z3, z4, z5] [] (ivST μ6) (some (ivI r7)) (ivST μ8)) h (fun μ6 r7 μ8 z2 z3 z4 z5 h => ?_) (fun j1 hj1 h => ?_)
  · refine iv_Ret.stl [12] (ls' := [z2, z3, z4, z5]) (st' := [ivI 0]) (w' := (135, μ6, iv_rho)) rfl ?_
    obtain ⟨rfl, rfl⟩ := iv_retE h
    exact ⟨1, rfl⟩
  · rcases iv_iteE h with ⟨c9, h⟩ | ⟨c9, h⟩
    · refine iv_Ret.icT (t := 11) rfl (decide_eq_true c9) rfl ?_
      exact hj1 μ _ _ (ivR 105) (ivI p1) ivU ivU h
    · refine iv_Ret.icF (t := 5) rfl (decide_eq_false c9) rfl ?_
      refine iv_Ret.stl [6, 8] (ls' := [ivR 105, ivI p1, ivU, ivU]) (st' := [ivI 8, ivI p1]) (w' := (135, μ, iv_rho)) rfl ?_
      rcases iv_iteE h with ⟨c10, h⟩ | ⟨c10, h⟩
      · refine iv_Ret.icT (t := 13) rfl (decide_eq_true c10) rfl ?_
        refine iv_Ret.stl [14, 15, 16, 17, 18, 19, 20, 21] (ls' := [ivR 105, ivI p1, ivI (iv_wr ((iv_shl 1 p1) - 1)), ivI 1]) (st' := []) (w' := (135, μ, iv_rho)) rfl ?_
        refine T_lp_X6_fit_21 L p1 (iv_wr ((iv_shl 1 p1) - 1)) (fun μ14 r15 μ16 z13 h => ?_) iv_fuel 1 μ _ _ h
        refine iv_Ret.stl [40, 43] (ls' := [ivR 105, ivI p1, ivI (iv_wr ((iv_shl 1 p1) - 1)), z13]) (st' := [ivR 109]) (w' := (135, μ14, iv_rho)) rfl ?_
        refine iv_Ret.stl [44, 45] (ls' := [ivR 105, ivI p1, ivI (iv_wr ((iv_shl 1 p1) - 1)), z13]) (st' := [ivI 1, ivI 0, ivR 109]) (w' := (135, μ14, iv_rho)) rfl ?_
        refine iv_Ret.iast (len := 256) rfl rfl rfl rfl (by decide) (by decide) ?_
        show iv_Ret L 48 46 [ivR 105, ivI p1, ivI (iv_wr ((iv_shl 1 p1) - 1)), z13] [] (ivST (iv_upd μ14 109 0 1)) (some (ivI r15)) (ivST μ16)
        refine iv_Ret.stl [47, 48] (ls' := [ivR 105, ivI p1, ivI (iv_wr ((iv_shl 1 p1) - 1)), ivI 0]) (st' := []) (w' := (135, (iv_upd μ14 109 0 1), iv_rho)) rfl ?_
        refine T_lp_X6_fit_48 L p1 (iv_wr ((iv_shl 1 p1) - 1)) (fun μ29 r30 μ31 z27 z28 h => ?_) iv_fuel 0 (iv_upd μ14 109 0 1) _ _ h
        refine iv_Ret.stl [75, 78] (ls' := [ivR 105, z27, ivI (iv_wr ((iv_shl 1 p1) - 1)), z28]) (st' := [ivR 109]) (w' := (135, μ29, iv_rho)) rfl ?_
        refine iv_Ret.stl [79] (ls' := [ivR 105, z27, ivI (iv_wr ((iv_shl 1 p1) - 1)), z28]) (st' := [ivI (iv_wr ((iv_shl 1 p1) - 1)), ivR 109]) (w' := (135, μ29, iv_rho)) rfl ?_
        obtain ⟨c32, h⟩ := iv_ckE h
        refine iv_Ret.iald (len := 256) rfl rfl rfl c32.1 c32.2 ?_
        show iv_Ret L 48 80 [ivR 105, z27, ivI (iv_wr ((iv_shl 1 p1) - 1)), z28] [ivI (μ29 109 (iv_wr ((iv_shl 1 p1) - 1)).toNat)] (ivST μ29) (some (ivI r30)) (ivST μ31)
        obtain ⟨rfl, rfl⟩ := iv_retE h
        exact ⟨1, rfl⟩
      · refine iv_Ret.icF (t := 11) rfl (decide_eq_false c10) rfl ?_
        exact hj1 μ _ _ (ivR 105) (ivI p1) ivU ivU h
