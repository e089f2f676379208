theorem T_X6_waysWith (L : Nat) (p1 : Int) (p2 : Int)  {μ μ' : ivM} {r : Int} (h : f_X6_waysWith p1 p2 μ = some (r, μ')) : iv_Ret L 44 0 [ivR 105, ivI p1, ivI p2] [] (ivST μ) (some (ivI r)) (ivST μ') := by
  unfold f_X6_waysWith at h
  refine iv_Ret.stl [1, 2, 3] (ls' := [ivR 105, ivI p1, ivI p2]) (st' := [ivI p2, ivI p1, ivR 105]) (w' := (135, μ, iv_rho)) rfl ?_
  obtain ⟨r1, μ2, e3, h⟩ := iv_bndE h
  refine iv_Ret.callv rfl rfl rfl (T_X6_hear L p1 p2 e3) ?_
  show iv_Ret L 44 6 [ivR 105, ivI p1, ivI p2] [] (ivST μ2) (some (ivI r)) (ivST μ')
  refine iv_Ret.stl [7, 8] (ls' := [ivR 105, ivI p1, ivI p2]) (st' := [ivI p1, ivR 105]) (w' := (135, μ2, iv_rho)) rfl ?_
  obtain ⟨r4, μ5, e6, h⟩ := iv_bndE h
  refine iv_Ret.callv rfl rfl rfl (T_X6_fit L p1 e6) ?_
  show iv_Ret L 44 11 [ivR 105, ivI p1, ivI p2] [ivI r4] (ivST μ5) (some (ivI r)) (ivST μ')
  obtain ⟨rfl, rfl⟩ := iv_retE h
  exact ⟨1, rfl⟩
theorem T_lp_X6_thingsOf_80 (L : Nat) (l1 : Int) (l3 : Int) (l4 : Int)    : ∀ (n : Nat) (l5 : Int) (l6 : Int) (μ : ivM) (r : Int) (μ' : ivM) (d2 : ivV), lp_X6_thingsOf_80 l1 l3 l4 n l5 l6 μ = some (r, μ') → iv_Ret L 45 80 [ivR 105, ivI l1, d2, ivI l3, ivI l4, ivI l5, ivI l6] [] (ivST μ) (some (ivI r)) (ivST μ') := by
  intro n
  induction n with
  | zero => intro l5 l6 μ r μ' d2 h; unfold lp_X6_thingsOf_80 at h; cases h
  | succ n ih =>
    intro l5 l6 μ r μ' d2 h
    unfold lp_X6_thingsOf_80 at h
    refine iv_Ret.stl [82, 83] (ls' := [ivR 105, ivI l1, d2, ivI l3, ivI l4, ivI l5, ivI l6]) (st' := [ivI l1, ivI l6]) (w' := (135, μ, iv_rho)) rfl ?_
    rcases iv_iteE h with ⟨c26, h⟩ | ⟨c26, h⟩
    · refine iv_Ret.icT (t := 125) rfl (decide_eq_true c26) rfl ?_
      refine iv_Ret.stl [127] (ls' := [ivR 105, ivI l1, d2, ivI l3, ivI l4, ivI l5, ivI l6]) (st' := [ivI l5]) (w' := (135, μ, iv_rho)) rfl ?_
      obtain ⟨rfl, rfl⟩ := iv_retE h
      exact ⟨1, rfl⟩
    · refine iv_Ret.icF (t := 86) rfl (decide_eq_false c26) rfl ?_
      refine iv_Ret.stl [87, 89] (ls' := [ivR 105, ivI l1, d2, ivI l3, ivI l4, ivI l5, ivI l6]) (st' := [ivI l6, ivI l3]) (w' := (135, μ, iv_rho)) rfl ?_
      obtain ⟨r27, μ28, e29, h⟩ := iv_bndE h
      refine iv_Ret.calls rfl rfl (T_X9_has L l3 l6 e29) ?_
      show iv_Ret L 45 92 [ivR 105, ivI l1, d2, ivI l3, ivI l4, ivI l5, ivI l6] [ivI r27] (ivST μ28) (some (ivI r)) (ivST μ')
      refine iv_letE (fun j30 => ∀ (w32 : Int) (μ33 : ivM) (r34 : Int) (μ35 : ivM) (z31 : ivV), j30 w32 μ33 = some (r34, μ35) → iv_Ret L 45 119 [ivR 105, ivI l1, z31, ivI l3, ivI l4, ivI w32, ivI l6] [] (ivST μ33) (some (ivI r34)) (ivST μ35)) h (fun w32 μ33 r34 μ35 z31 h => ?_) (fun j30 hj30 h => ?_)
      · refine iv_Ret.stl [122, 80] (ls' := [ivR 105, ivI l1, z31, ivI l3, ivI l4, ivI w32, ivI (iv_wr (l6 + 1))]) (st' := []) (w' := (135, μ33, iv_rho)) rfl ?_
        exact ih w32 (iv_wr (l6 + 1)) μ33 _ _ z31 h
      · rcases iv_iteE h with ⟨c36, h⟩ | ⟨c36, h⟩
        · refine iv_Ret.ifT (t := 119) rfl (decide_eq_true c36) rfl ?_
          exact hj30 l5 μ28 _ _ d2 h
        · refine iv_Ret.ifF (t := 95) rfl (decide_eq_false c36) rfl ?_
          refine iv_Ret.stl [96, 99] (ls' := [ivR 105, ivI l1, d2, ivI l3, ivI l4, ivI l5, ivI l6]) (st' := [ivR 109]) (w' := (135, μ28, iv_rho)) rfl ?_
          refine iv_Ret.stl [101, 102, 104, 105, 106] (ls' := [ivR 105, ivI l1, d2, ivI l3, ivI l4, ivI l5, ivI l6]) (st' := [ivI (iv_xor l4 (iv_shl 1 l6)), ivR 109]) (w' := (135, μ28, iv_rho)) rfl ?_
          obtain ⟨c37, h⟩ := iv_ckE h
          refine iv_Ret.iald (len := 256) rfl rfl rfl c37.1 c37.2 ?_
          show iv_Ret L 45 107 [ivR 105, ivI l1, d2, ivI l3, ivI l4, ivI l5, ivI l6] [ivI (μ28 109 (iv_xor l4 (iv_shl 1 l6)).toNat)] (ivST μ28) (some (ivI r)) (ivST μ')
          rcases iv_iteE h with ⟨c38, h⟩ | ⟨c38, h⟩
          · refine iv_Ret.ifT (t := 119) rfl (decide_eq_true c38) rfl ?_
            exact hj30 l5 μ28 _ _ d2 h
          · refine iv_Ret.ifF (t := 110) rfl (decide_eq_false c38) rfl ?_
            refine iv_Ret.stl [112, 113, 115, 116, 117, 119] (ls' := [ivR 105, ivI l1, d2, ivI l3, ivI l4, ivI (iv_or l5 (iv_shl 1 l6)), ivI l6]) (st' := []) (w' := (135, μ28, iv_rho)) rfl ?_
            exact hj30 (iv_or l5 (iv_shl 1 l6)) μ28 _ _ d2 h
theorem T_X6_thingsOf (L : Nat) (p1 : Int) (p2 : Int)  {μ μ' : ivM} {r : Int} (h : f_X6_thingsOf p1 p2 μ = some (r, μ')) : iv_Ret L 45 0 [ivR 105, ivI p1, ivI p2, ivU, ivU, ivU, ivU] [] (ivST μ) (some (ivI r)) (ivST μ') := by
  unfold f_X6_thingsOf at h
  refine iv_Ret.stl [1, 2] (ls' := [ivR 105, ivI p1, ivI p2, ivU, ivU, ivU, ivU]) (st' := [ivI 1, ivI p1]) (w' := (135, μ, iv_rho)) rfl ?_
  refine iv_letE (fun j1 => ∀ (μ9 : ivM) (r10 : Int) (μ11 : ivM) (z2 : ivV) (z3 : ivV) (z4 : ivV) (z5 : ivV) (z6 : ivV) (z7 : ivV) (z8 : ivV), j1 μ9 = some (r10, μ11) → iv_Ret L 45 20 [z2, z3, z4, z5, z6, z7, z8] [] (ivST μ9) (some (ivI r10)) (ivST μ11)) h (fun μ9 r10 μ11 z2 z3 z4 z5 z6 z7 z8 h => ?_) (fun j1 hj1 h => ?_)
  · refine iv_Ret.stl [21] (ls' := [z2, z3, z4, z5, z6, z7, z8]) (st' := [ivI 0]) (w' := (135, μ9, iv_rho)) rfl ?_
    obtain ⟨rfl, rfl⟩ := iv_retE h
    exact ⟨1, rfl⟩
  · rcases iv_iteE h with ⟨c12, h⟩ | ⟨c12, h⟩
    · refine iv_Ret.icT (t := 20) rfl (decide_eq_true c12) rfl ?_
      exact hj1 μ _ _ (ivR 105) (ivI p1) (ivI p2) ivU ivU ivU ivU h
    · refine iv_Ret.icF (t := 5) rfl (decide_eq_false c12) rfl ?_
      refine iv_Ret.stl [6, 8] (ls' := [ivR 105, ivI p1, ivI p2, ivU, ivU, ivU, ivU]) (st' := [ivI 8, ivI p1]) (w' := (135, μ, iv_rho)) rfl ?_
      rcases iv_iteE h with ⟨c13, h⟩ | ⟨c13, h⟩
      · refine iv_Ret.icT (t := 20) rfl (decide_eq_true c13) rfl ?_
        exact hj1 μ _ _ (ivR 105) (ivI p1) (ivI p2) ivU ivU ivU ivU h
      · refine iv_Ret.icF (t := 11) rfl (decide_eq_false c13) rfl ?_
        refine iv_Ret.stl [12] (ls' := [ivR 105, ivI p1, ivI p2, ivU, ivU, ivU, ivU]) (st' := [ivI p2]) (w' := (135, μ, iv_rho)) rfl ?_
        rcases iv_iteE h with ⟨c14, h⟩ | ⟨c14, h⟩
        · refine iv_Ret.ifT (t := 20) rfl (decide_eq_true c14) rfl ?_
          exact hj1 μ _ _ (ivR 105) (ivI p1) (ivI p2) ivU ivU ivU ivU h
        · refine iv_Ret.ifF (t := 15) rfl (decide_eq_false c14) rfl ?_
          refine iv_Ret.stl [16, 17] (ls' := [ivR 105, ivI p1, ivI p2, ivU, ivU, ivU, ivU]) (st' := [ivI p1, ivI p2]) (w' := (135, μ, iv_rho)) rfl ?_
          rcases iv_iteE h with ⟨c15, h⟩ | ⟨c15, h⟩
          · refine iv_Ret.icT (t := 22) rfl (decide_eq_true c15) rfl ?_
            refine iv_Ret.stl [23, 24, 25, 28] (ls' := [ivR 105, ivI p1, ivI p2, ivU, ivU, ivU, ivU]) (st' := [ivI (μ 105 0), ivI p1, ivR 105]) (w' := (135, μ, iv_rho)) rfl ?_
            obtain ⟨r16, μ17, e18, h⟩ := iv_bndE h
            refine iv_Ret.callv rfl rfl rfl (T_X6_hear L p1 (μ 105 0) e18) ?_
            show iv_Ret L 45 31 [ivR 105, ivI p1, ivI p2, ivU, ivU, ivU, ivU] [] (ivST μ17) (some (ivI r)) (ivST μ')
            refine iv_Ret.stl [32, 35] (ls' := [ivR 105, ivI p1, ivI p2, ivU, ivU, ivU, ivU]) (st' := [ivR 108]) (w' := (135, μ17, iv_rho)) rfl ?_
            refine iv_Ret.stl [36] (ls' := [ivR 105, ivI p1, ivI p2, ivU, ivU, ivU, ivU]) (st' := [ivI p2, ivR 108]) (w' := (135, μ17, iv_rho)) rfl ?_
            obtain ⟨c19, h⟩ := iv_ckE h
            refine iv_Ret.iald (len := 8) rfl rfl rfl c19.1 c19.2 ?_
            show iv_Ret L 45 37 [ivR 105, ivI p1, ivI p2, ivU, ivU, ivU, ivU] [ivI (μ17 108 p2.toNat)] (ivST μ17) (some (ivI r)) (ivST μ')
            refine iv_Ret.stl [38, 39, 42] (ls' := [ivR 105, ivI p1, ivI p2, ivI (μ17 108 p2.toNat), ivU, ivU, ivU]) (st' := [ivR 108]) (w' := (135, μ17, iv_rho)) rfl ?_
            refine iv_Ret.stl [43, 44, 47] (ls' := [ivR 105, ivI p1, ivI p2, ivI (μ17 108 p2.toNat), ivU, ivU, ivU]) (st' := [ivR 108, ivI p2, ivR 108]) (w' := (135, μ17, iv_rho)) rfl ?_
            refine iv_Ret.stl [48, 49, 50] (ls' := [ivR 105, ivI p1, ivI p2, ivI (μ17 108 p2.toNat), ivU, ivU, ivU]) (st' := [ivI (iv_wr (p1 - 1)), ivR 108, ivI p2, ivR 108]) (w' := (135, μ17, iv_rho)) rfl ?_
            obtain ⟨c20, h⟩ := iv_ckE h
            refine iv_Ret.iald (len := 8) rfl rfl rfl c20.1 c20.2 ?_
            show iv_Ret L 45 51 [ivR 105, ivI p1, ivI p2, ivI (μ17 108 p2.toNat), ivU, ivU, ivU] [ivI (μ17 108 (iv_wr (p1 - 1)).toNat), ivI p2, ivR 108] (ivST μ17) (some (ivI r)) (ivST μ')
            obtain ⟨c21, h⟩ := iv_ckE h
            refine iv_Ret.iast (len := 8) rfl rfl rfl rfl c21.1 c21.2 ?_
            show iv_Ret L 45 52 [ivR 105, ivI p1, ivI p2, ivI (μ17 108 p2.toNat), ivU, ivU, ivU] [] (ivST (iv_upd μ17 108 p2.toNat (μ17 108 (iv_wr (p1 - 1)).toNat))) (some (ivI r)) (ivST μ')
            refine iv_Ret.stl [53, 56] (ls' := [ivR 105, ivI p1, ivI p2, ivI (μ17 108 p2.toNat), ivU, ivU, ivU]) (st' := [ivR 108]) (w' := (135, (iv_upd μ17 108 p2.toNat (μ17 108 (iv_wr (p1 - 1)).toNat)), iv_rho)) rfl ?_
            refine iv_Ret.stl [57, 58, 59, 60] (ls' := [ivR 105, ivI p1, ivI p2, ivI (μ17 108 p2.toNat), ivU, ivU, ivU]) (st' := [ivI (μ17 108 p2.toNat), ivI (iv_wr (p1 - 1)), ivR 108]) (w' := (135, (iv_upd μ17 108 p2.toNat (μ17 108 (iv_wr (p1 - 1)).toNat)), iv_rho)) rfl ?_
            obtain ⟨c22, h⟩ := iv_ckE h
            refine iv_Ret.iast (len := 8) rfl rfl rfl rfl c22.1 c22.2 ?_
            show iv_Ret L 45 61 [ivR 105, ivI p1, ivI p2, ivI (μ17 108 p2.toNat), ivU, ivU, ivU] [] (ivST (iv_upd (iv_upd μ17 108 p2.toNat (μ17 108 (iv_wr (p1 - 1)).toNat)) 108 (iv_wr (p1 - 1)).toNat (μ17 108 p2.toNat))) (some (ivI r)) (ivST μ')
            refine iv_Ret.stl [62, 63] (ls' := [ivR 105, ivI p1, ivI p2, ivI (μ17 108 p2.toNat), ivU, ivU, ivU]) (st' := [ivI p1, ivR 105]) (w' := (135, (iv_upd (iv_upd μ17 108 p2.toNat (μ17 108 (iv_wr (p1 - 1)).toNat)) 108 (iv_wr (p1 - 1)).toNat (μ17 108 p2.toNat)), iv_rho)) rfl ?_
            obtain ⟨r23, μ24, e25, h⟩ := iv_bndE h
            refine iv_Ret.callv rfl rfl rfl (T_X6_fit L p1 e25) ?_
            show iv_Ret L 45 66 [ivR 105, ivI p1, ivI p2, ivI (μ17 108 p2.toNat), ivU, ivU, ivU] [ivI r23] (ivST μ24) (some (ivI r)) (ivST μ')
            refine iv_Ret.stl [67, 68, 69, 70, 71, 72, 74, 75, 77, 78, 80] (ls' := [ivR 105, ivI p1, ivI p2, ivI (μ17 108 p2.toNat), ivI (iv_wr ((iv_shl 1 p1) - 1)), ivI 0, ivI 0]) (st' := []) (w' := (135, μ24, iv_rho)) rfl ?_
            exact T_lp_X6_thingsOf_80 L p1 (μ17 108 p2.toNat) (iv_wr ((iv_shl 1 p1) - 1)) iv_fuel 0 0 μ24 _ _ (ivI p2) h
          · refine iv_Ret.icF (t := 20) rfl (decide_eq_false c15) rfl ?_
            exact hj1 μ _ _ (ivR 105) (ivI p1) (ivI p2) ivU ivU ivU ivU h
theorem T_lp_X6_firstBreak_2 (L : Nat) (l1 : Int)    : ∀ (n : Nat) (l2 : Int) (μ : ivM) (r : Int) (μ' : ivM), lp_X6_firstBreak_2 l1 n l2 μ = some (r, μ') → iv_Ret L 46 2 [ivR 105, ivI l1, ivI l2] [] (ivST μ) (some (ivI r)) (ivST μ') := by
  intro n
  induction n with
  | zero => intro l2 μ r μ' h; unfold lp_X6_firstBreak_2 at h; cases h
  | succ n ih =>
    intro l2 μ r μ' h
    unfold lp_X6_firstBreak_2 at h
    refine iv_Ret.stl [3, 4, 7] (ls' := [ivR 105, ivI l1, ivI l2]) (st' := [ivI (μ 105 0), ivI l2]) (w' := (135, μ, iv_rho)) rfl ?_
    rcases iv_iteE h with ⟨c1, h⟩ | ⟨c1, h⟩
    · refine iv_Ret.icT (t := 29) rfl (decide_eq_true c1) rfl ?_
      refine iv_Ret.stl [31] (ls' := [ivR 105, ivI l1, ivI l2]) (st' := [ivI (-9)]) (w' := (135, μ, iv_rho)) rfl ?_
      obtain ⟨rfl, rfl⟩ := iv_retE h
      exact ⟨1, rfl⟩
    · refine iv_Ret.icF (t := 10) rfl (decide_eq_false c1) rfl ?_
      refine iv_Ret.stl [11, 12, 13, 14, 15] (ls' := [ivR 105, ivI l1, ivI l2]) (st' := [ivI (iv_wr (l2 + 1)), ivI l1, ivR 105]) (w' := (135, μ, iv_rho)) rfl ?_
      obtain ⟨r2, μ3, e4, h⟩ := iv_bndE h
      refine iv_Ret.callv rfl rfl rfl (T_X6_waysWith L l1 (iv_wr (l2 + 1)) e4) ?_
      show iv_Ret L 46 18 [ivR 105, ivI l1, ivI l2] [ivI r2] (ivST μ3) (some (ivI r)) (ivST μ')
      rcases iv_iteE h with ⟨c5, h⟩ | ⟨c5, h⟩
      · refine iv_Ret.ifF (t := 21) rfl (decide_eq_false (not_not_intro c5)) rfl ?_
        refine iv_Ret.stl [22] (ls' := [ivR 105, ivI l1, ivI l2]) (st' := [ivI l2]) (w' := (135, μ3, iv_rho)) rfl ?_
        obtain ⟨rfl, rfl⟩ := iv_retE h
        exact ⟨1, rfl⟩
      · refine iv_Ret.ifT (t := 23) rfl (decide_eq_true c5) rfl ?_
        refine iv_Ret.stl [26, 2] (ls' := [ivR 105, ivI l1, ivI (iv_wr (l2 + 1))]) (st' := []) (w' := (135, μ3, iv_rho)) rfl ?_
        exact ih (iv_wr (l2 + 1)) μ3 _ _ h
theorem T_X6_firstBreak (L : Nat) (p1 : Int)  {μ μ' : ivM} {r : Int} (h : f_X6_firstBreak p1 μ = some (r, μ')) : iv_Ret L 46 0 [ivR 105, ivI p1, ivU] [] (ivST μ) (some (ivI r)) (ivST μ') := by
  unfold f_X6_firstBreak at h
  refine iv_Ret.stl [1, 2] (ls' := [ivR 105, ivI p1, ivI 0]) (st' := []) (w' := (135, μ, iv_rho)) rfl ?_
  exact T_lp_X6_firstBreak_2 L p1 iv_fuel 0 μ _ _ h
theorem T_X8_at (L : Nat) (p1 : Int)  {μ μ' : ivM} {r : Int} (h : f_X8_at p1 μ = some (r, μ')) : iv_Ret L 65 0 [ivR 3, ivI p1] [] (ivST μ) (some (ivI r)) (ivST μ') := by
  unfold f_X8_at at h
  refine iv_Ret.stl [1] (ls' := [ivR 3, ivI p1]) (st' := [ivI p1]) (w' := (135, μ, iv_rho)) rfl ?_
  refine iv_letE (fun j1 => ∀ (v4 : Int) (μ5 : ivM) (r6 : Int) (μ7 : ivM) (z2 : ivV) (z3 : ivV), j1 v4 μ5 = some (r6, μ7) → iv_Ret L 65 20 [z2, z3] [ivI v4] (ivST μ5) (some (ivI r6)) (ivST μ7)) h (fun v4 μ5 r6 μ7 z2 z3 h => ?_) (fun j1 hj1 h => ?_)
  · obtain ⟨rfl, rfl⟩ := iv_retE h
    exact ⟨1, rfl⟩
  · refine iv_letE (fun j8 => ∀ (μ11 : ivM) (r12 : Int) (μ13 : ivM) (z9 : ivV) (z10 : ivV), j8 μ11 = some (r12, μ13) → iv_Ret L 65 19 [z9, z10] [] (ivST μ11) (some (ivI r12)) (ivST μ13)) h (fun μ11 r12 μ13 z9 z10 h => ?_) (fun j8 hj8 h => ?_)
    · refine iv_Ret.stl [20] (ls' := [z9, z10]) (st' := [ivI 0]) (w' := (135, μ11, iv_rho)) rfl ?_
      exact hj1 0 μ11 _ _ z9 z10 h
    · rcases iv_iteE h with ⟨c14, h⟩ | ⟨c14, h⟩
      · refine iv_Ret.ifT (t := 19) rfl (decide_eq_true c14) rfl ?_
        exact hj8 μ _ _ (ivR 3) (ivI p1) h
      · refine iv_Ret.ifF (t := 4) rfl (decide_eq_false c14) rfl ?_
        refine iv_Ret.stl [5, 7] (ls' := [ivR 3, ivI p1]) (st' := [ivI 96, ivI p1]) (w' := (135, μ, iv_rho)) rfl ?_
        rcases iv_iteE h with ⟨c15, h⟩ | ⟨c15, h⟩
        · refine iv_Ret.icT (t := 19) rfl (decide_eq_true c15) rfl ?_
          exact hj8 μ _ _ (ivR 3) (ivI p1) h
        · refine iv_Ret.icF (t := 10) rfl (decide_eq_false c15) rfl ?_
          refine iv_Ret.stl [11, 14] (ls' := [ivR 3, ivI p1]) (st' := [ivR 4]) (w' := (135, μ, iv_rho)) rfl ?_
          refine iv_Ret.stl [15] (ls' := [ivR 3, ivI p1]) (st' := [ivI p1, ivR 4]) (w' := (135, μ, iv_rho)) rfl ?_
          obtain ⟨c16, h⟩ := iv_ckE h
          refine iv_Ret.iald (len := 96) rfl rfl rfl c16.1 c16.2 ?_
          show iv_Ret L 65 16 [ivR 3, ivI p1] [ivI (μ 4 p1.toNat)] (ivST μ) (some (ivI r)) (ivST μ')
          refine iv_Ret.stl [20] (ls' := [ivR 3, ivI p1]) (st' := [ivI (μ 4 p1.toNat)]) (w' := (135, μ, iv_rho)) rfl ?_
          exact hj1 (μ 4 p1.toNat) μ _ _ (ivR 3) (ivI p1) h
theorem T_X7_takeH (L : Nat) (p1 : Int)  {μ μ' : ivM} {r : Int} (h : f_X7_takeH p1 μ = some (r, μ')) : iv_Ret L 53 0 [ivR 5, ivI p1] [] (ivST μ) (some (ivI r)) (ivST μ') := by
  unfold f_X7_takeH at h
  refine iv_Ret.stl [1, 2, 5, 6, 8] (ls' := [ivR 5, ivI p1]) (st' := [ivI 72, ivI p1]) (w' := (135, (iv_upd μ 5 7 1), iv_rho)) rfl ?_
  refine iv_letE (fun j1 => ∀ (v4 : Int) (μ5 : ivM) (r6 : Int) (μ7 : ivM) (z2 : ivV) (z3 : ivV), j1 v4 μ5 = some (r6, μ7) → iv_Ret L 53 16 [z2, z3] [ivI v4] (ivST μ5) (some (ivI r6)) (ivST μ7)) h (fun v4 μ5 r6 μ7 z2 z3 h => ?_) (fun j1 hj1 h => ?_)
  · obtain ⟨c8, h⟩ := iv_ckE h
    obtain ⟨rfl, rfl⟩ := iv_retE h
    exact iv_Ret.zret rfl c8
  · rcases iv_iteE h with ⟨c9, h⟩ | ⟨c9, h⟩
    · refine iv_Ret.icF (t := 11) rfl (decide_eq_false (not_not_intro c9)) rfl ?_
      refine iv_Ret.stl [12, 16] (ls' := [ivR 5, ivI p1]) (st' := [ivI 1]) (w' := (135, (iv_upd μ 5 7 1), iv_rho)) rfl ?_
      exact hj1 1 (iv_upd μ 5 7 1) _ _ (ivR 5) (ivI p1) h
    · refine iv_Ret.icT (t := 15) rfl (decide_eq_true c9) rfl ?_
      refine iv_Ret.stl [16] (ls' := [ivR 5, ivI p1]) (st' := [ivI 0]) (w' := (135, (iv_upd μ 5 7 1), iv_rho)) rfl ?_
      exact hj1 0 (iv_upd μ 5 7 1) _ _ (ivR 5) (ivI p1) h
theorem T_X7_takeR (L : Nat) (p1 : Int)  {μ μ' : ivM} {r : Int} (h : f_X7_takeR p1 μ = some (r, μ')) : iv_Ret L 54 0 [ivR 5, ivI p1] [] (ivST μ) (some (ivI r)) (ivST μ') := by
  unfold f_X7_takeR at h
  refine iv_Ret.stl [1, 2, 5, 6, 7, 9, 10, 13, 14, 17] (ls' := [ivR 5, ivI p1]) (st' := [ivI ((iv_upd (iv_upd μ 5 7 2) 5 3 (iv_wr (p1 - 48))) 5 3)]) (w' := (135, (iv_upd (iv_upd μ 5 7 2) 5 3 (iv_wr (p1 - 48))), iv_rho)) rfl ?_
  refine iv_letE (fun j1 => ∀ (v4 : Int) (μ5 : ivM) (r6 : Int) (μ7 : ivM) (z2 : ivV) (z3 : ivV), j1 v4 μ5 = some (r6, μ7) → iv_Ret L 54 33 [z2, z3] [ivI v4] (ivST μ5) (some (ivI r6)) (ivST μ7)) h (fun v4 μ5 r6 μ7 z2 z3 h => ?_) (fun j1 hj1 h => ?_)
  · obtain ⟨c8, h⟩ := iv_ckE h
    obtain ⟨rfl, rfl⟩ := iv_retE h
    exact iv_Ret.zret rfl c8
  · refine iv_letE (fun j9 => ∀ (μ12 : ivM) (r13 : Int) (μ14 : ivM) (z10 : ivV) (z11 : ivV), j9 μ12 = some (r13, μ14) → iv_Ret L 54 32 [z10, z11] [] (ivST μ12) (some (ivI r13)) (ivST μ14)) h (fun μ12 r13 μ14 z10 z11 h => ?_) (fun j9 hj9 h => ?_)
    · refine iv_Ret.stl [33] (ls' := [z10, z11]) (st' := [ivI 0]) (w' := (135, μ12, iv_rho)) rfl ?_
      exact hj1 0 μ12 _ _ z10 z11 h
    · rcases iv_iteE h with ⟨c15, h⟩ | ⟨c15, h⟩
      · refine iv_Ret.ifT (t := 32) rfl (decide_eq_true c15) rfl ?_
        exact hj9 (iv_upd (iv_upd μ 5 7 2) 5 3 (iv_wr (p1 - 48))) _ _ (ivR 5) (ivI p1) h
      · refine iv_Ret.ifF (t := 20) rfl (decide_eq_false c15) rfl ?_
        refine iv_Ret.stl [21, 24, 25] (ls' := [ivR 5, ivI p1]) (st' := [ivI 3, ivI ((iv_upd (iv_upd μ 5 7 2) 5 3 (iv_wr (p1 - 48))) 5 3)]) (w' := (135, (iv_upd (iv_upd μ 5 7 2) 5 3 (iv_wr (p1 - 48))), iv_rho)) rfl ?_
        rcases iv_iteE h with ⟨c16, h⟩ | ⟨c16, h⟩
        · refine iv_Ret.icT (t := 32) rfl (decide_eq_true c16) rfl ?_
          exact hj9 (iv_upd (iv_upd μ 5 7 2) 5 3 (iv_wr (p1 - 48))) _ _ (ivR 5) (ivI p1) h
        · refine iv_Ret.icF (t := 28) rfl (decide_eq_false c16) rfl ?_
          refine iv_Ret.stl [29, 33] (ls' := [ivR 5, ivI p1]) (st' := [ivI 1]) (w' := (135, (iv_upd (iv_upd μ 5 7 2) 5 3 (iv_wr (p1 - 48))), iv_rho)) rfl ?_
          exact hj1 1 (iv_upd (iv_upd μ 5 7 2) 5 3 (iv_wr (p1 - 48))) _ _ (ivR 5) (ivI p1) h
theorem T_lp_X7_isTold_2 (L : Nat) (l1 : Int)  {k34 : ivM → Option (Int × ivM)} (hk34 : ∀  (μ : ivM) (r : Int) (μ' : ivM) (d0 : ivV) (d1 : ivV) (d2 : ivV), k34 μ = some (r, μ') → iv_Ret L 58 34 [d0, d1, d2] [] (ivST μ) (some (ivI r)) (ivST μ')) : ∀ (n : Nat) (l2 : Int) (μ : ivM) (r : Int) (μ' : ivM), lp_X7_isTold_2 l1 k34 n l2 μ = some (r, μ') → iv_Ret L 58 2 [ivR 5, ivI l1, ivI l2] [] (ivST μ) (some (ivI r)) (ivST μ') := by
  intro n
  induction n with
  | zero => intro l2 μ r μ' h; unfold lp_X7_isTold_2 at h; cases h
  | succ n ih =>
    intro l2 μ r μ' h
    unfold lp_X7_isTold_2 at h
    refine iv_Ret.stl [3, 4, 7] (ls' := [ivR 5, ivI l1, ivI l2]) (st' := [ivI (μ 5 4), ivI l2]) (w' := (135, μ, iv_rho)) rfl ?_
    rcases iv_iteE h with ⟨c1, h⟩ | ⟨c1, h⟩
    · refine iv_Ret.icT (t := 34) rfl (decide_eq_true c1) rfl ?_
      exact hk34 μ _ _ (ivR 5) (ivI l1) (ivI l2) h
    · refine iv_Ret.icF (t := 10) rfl (decide_eq_false c1) rfl ?_
      refine iv_Ret.stl [11, 13] (ls' := [ivR 5, ivI l1, ivI l2]) (st' := [ivI 8, ivI l2]) (w' := (135, μ, iv_rho)) rfl ?_
      rcases iv_iteE h with ⟨c2, h⟩ | ⟨c2, h⟩
      · refine iv_Ret.icT (t := 34) rfl (decide_eq_true c2) rfl ?_
        exact hk34 μ _ _ (ivR 5) (ivI l1) (ivI l2) h
      · refine iv_Ret.icF (t := 16) rfl (decide_eq_false c2) rfl ?_
        refine iv_Ret.stl [17, 20] (ls' := [ivR 5, ivI l1, ivI l2]) (st' := [ivR 6]) (w' := (135, μ, iv_rho)) rfl ?_
        refine iv_Ret.stl [21] (ls' := [ivR 5, ivI l1, ivI l2]) (st' := [ivI l2, ivR 6]) (w' := (135, μ, iv_rho)) rfl ?_
        obtain ⟨c3, h⟩ := iv_ckE h
        refine iv_Ret.iald (len := 8) rfl rfl rfl c3.1 c3.2 ?_
        show iv_Ret L 58 22 [ivR 5, ivI l1, ivI l2] [ivI (μ 6 l2.toNat)] (ivST μ) (some (ivI r)) (ivST μ')
        refine iv_Ret.stl [23] (ls' := [ivR 5, ivI l1, ivI l2]) (st' := [ivI l1, ivI (μ 6 l2.toNat)]) (w' := (135, μ, iv_rho)) rfl ?_
        rcases iv_iteE h with ⟨c4, h⟩ | ⟨c4, h⟩
        · refine iv_Ret.icF (t := 26) rfl (decide_eq_false (not_not_intro c4)) rfl ?_
          refine iv_Ret.stl [27] (ls' := [ivR 5, ivI l1, ivI l2]) (st' := [ivI 1]) (w' := (135, μ, iv_rho)) rfl ?_
          obtain ⟨rfl, rfl⟩ := iv_retE h
          exact ⟨1, rfl⟩
        · refine iv_Ret.icT (t := 28) rfl (decide_eq_true c4) rfl ?_
          refine iv_Ret.stl [31, 2] (ls' := [ivR 5, ivI l1, ivI (iv_wr (l2 + 1))]) (st' := []) (w' := (135, μ, iv_rho)) rfl ?_
          exact ih (iv_wr (l2 + 1)) μ _ _ h
theorem T_X7_isTold (L : Nat) (p1 : Int)  {μ μ' : ivM} {r : Int} (h : f_X7_isTold p1 μ = some (r, μ')) : iv_Ret L 58 0 [ivR 5, ivI p1, ivU] [] (ivST μ) (some (ivI r)) (ivST μ') := by
  unfold f_X7_isTold at h
  refine iv_Ret.stl [1, 2] (ls' := [ivR 5, ivI p1, ivI 0]) (st' := []) (w' := (135, μ, iv_rho)) rfl ?_
  refine T_lp_X7_isTold_2 L p1 (fun μ8 r9 μ10 z5 z6 z7 h => ?_) iv_fuel 0 μ _ _ h
  refine iv_Ret.stl [35] (ls' := [z5, z6, z7]) (st' := [ivI 0]) (w' := (135, μ8, iv_rho)) rfl ?_
  obtain ⟨rfl, rfl⟩ := iv_retE h
  exact ⟨1, rfl⟩
theorem T_X7_endName (L : Nat)   {μ μ' : ivM} {r : Int} (h : f_X7_endName  μ = some (r, μ')) : iv_Ret L 57 0 [ivR 5] [] (ivST μ) (some (ivI r)) (ivST μ') := by
  unfold f_X7_endName at h
  refine iv_Ret.stl [1, 4] (ls' := [ivR 5]) (st' := [ivI (μ 5 9)]) (w' := (135, μ, iv_rho)) rfl ?_
  refine iv_letE (fun j1 => ∀ (μ3 : ivM) (r4 : Int) (μ5 : ivM) (z2 : ivV), j1 μ3 = some (r4, μ5) → iv_Ret L 57 34 [z2] [] (ivST μ3) (some (ivI r4)) (ivST μ5)) h (fun μ3 r4 μ5 z2 h => ?_) (fun j1 hj1 h => ?_)
  · refine iv_Ret.stl [35] (ls' := [z2]) (st' := [ivI 0]) (w' := (135, μ3, iv_rho)) rfl ?_
    obtain ⟨rfl, rfl⟩ := iv_retE h
    exact ⟨1, rfl⟩
  · rcases iv_iteE h with ⟨c6, h⟩ | ⟨c6, h⟩
    · refine iv_Ret.ifT (t := 34) rfl (decide_eq_true c6) rfl ?_
      exact hj1 μ _ _ (ivR 5) h
    · refine iv_Ret.ifF (t := 7) rfl (decide_eq_false c6) rfl ?_
      refine iv_Ret.stl [8, 11] (ls' := [ivR 5]) (st' := [ivI (μ 5 4)]) (w' := (135, μ, iv_rho)) rfl ?_
      rcases iv_iteE h with ⟨c7, h⟩ | ⟨c7, h⟩
      · refine iv_Ret.ifT (t := 34) rfl (decide_eq_true c7) rfl ?_
        exact hj1 μ _ _ (ivR 5) h
      · refine iv_Ret.ifF (t := 14) rfl (decide_eq_false c7) rfl ?_
        refine iv_Ret.stl [15, 18, 20] (ls' := [ivR 5]) (st' := [ivI 8, ivI (μ 5 4)]) (w' := (135, μ, iv_rho)) rfl ?_
        rcases iv_iteE h with ⟨c8, h⟩ | ⟨c8, h⟩
        · refine iv_Ret.icT (t := 34) rfl (decide_eq_true c8) rfl ?_
          exact hj1 μ _ _ (ivR 5) h
        · refine iv_Ret.icF (t := 23) rfl (decide_eq_false c8) rfl ?_
          refine iv_Ret.stl [24, 25, 28] (ls' := [ivR 5]) (st' := [ivI (μ 5 8), ivR 5]) (w' := (135, μ, iv_rho)) rfl ?_
          obtain ⟨r9, μ10, e11, h⟩ := iv_bndE h
          refine iv_Ret.callv rfl rfl rfl (T_X7_isTold L (μ 5 8) e11) ?_
          show iv_Ret L 57 31 [ivR 5] [ivI r9] (ivST μ10) (some (ivI r)) (ivST μ')
          rcases iv_iteE h with ⟨c12, h⟩ | ⟨c12, h⟩
          · refine iv_Ret.ifT (t := 36) rfl (decide_eq_true c12) rfl ?_
            refine iv_Ret.stl [37, 40] (ls' := [ivR 5]) (st' := [ivR 6]) (w' := (135, μ10, iv_rho)) rfl ?_
            refine iv_Ret.stl [41, 44, 45, 48] (ls' := [ivR 5]) (st' := [ivI (μ10 5 8), ivI (μ10 5 4), ivR 6]) (w' := (135, μ10, iv_rho)) rfl ?_
            obtain ⟨c13, h⟩ := iv_ckE h
            refine iv_Ret.iast (len := 8) rfl rfl rfl rfl c13.1 c13.2 ?_
            show iv_Ret L 57 49 [ivR 5] [] (ivST (iv_upd μ10 6 (μ10 5 4).toNat (μ10 5 8))) (some (ivI r)) (ivST μ')
            refine iv_Ret.stl [50, 53] (ls' := [ivR 5]) (st' := [ivR 7]) (w' := (135, (iv_upd μ10 6 (μ10 5 4).toNat (μ10 5 8)), iv_rho)) rfl ?_
            refine iv_Ret.stl [54, 57, 58] (ls' := [ivR 5]) (st' := [ivI 0, ivI ((iv_upd μ10 6 (μ10 5 4).toNat (μ10 5 8)) 5 4), ivR 7]) (w' := (135, (iv_upd μ10 6 (μ10 5 4).toNat (μ10 5 8)), iv_rho)) rfl ?_
            obtain ⟨c14, h⟩ := iv_ckE h
            refine iv_Ret.iast (len := 8) rfl rfl rfl rfl c14.1 c14.2 ?_
            show iv_Ret L 57 59 [ivR 5] [] (ivST (iv_upd (iv_upd μ10 6 (μ10 5 4).toNat (μ10 5 8)) 7 ((iv_upd μ10 6 (μ10 5 4).toNat (μ10 5 8)) 5 4).toNat 0)) (some (ivI r)) (ivST μ')
            refine iv_Ret.stl [60, 61, 64, 65, 66, 69, 70, 71, 74, 75] (ls' := [ivR 5]) (st' := [ivI 1]) (w' := (135, (iv_upd (iv_upd (iv_upd (iv_upd μ10 6 (μ10 5 4).toNat (μ10 5 8)) 7 ((iv_upd μ10 6 (μ10 5 4).toNat (μ10 5 8)) 5 4).toNat 0) 5 4 (iv_wr (((iv_upd (iv_upd μ10 6 (μ10 5 4).toNat (μ10 5 8)) 7 ((iv_upd μ10 6 (μ10 5 4).toNat (μ10 5 8)) 5 4).toNat 0) 5 4) + 1))) 5 7 2), iv_rho)) rfl ?_
            obtain ⟨rfl, rfl⟩ := iv_retE h
            exact ⟨1, rfl⟩
          · refine iv_Ret.ifF (t := 34) rfl (decide_eq_false c12) rfl ?_
            exact hj1 μ10 _ _ (ivR 5) h
theorem T_X7_takePart (L : Nat) (p1 : Int)  {μ μ' : ivM} {r : Int} (h : f_X7_takePart p1 μ = some (r, μ')) : iv_Ret L 55 0 [ivR 5, ivI p1] [] (ivST μ) (some (ivI r)) (ivST μ') := by
  unfold f_X7_takePart at h
  refine iv_Ret.stl [1] (ls' := [ivR 5, ivI p1]) (st' := [ivI p1]) (w' := (135, μ, iv_rho)) rfl ?_
  rcases iv_iteE h with ⟨c1, h⟩ | ⟨c1, h⟩
  · refine iv_Ret.lk (t := 86) rfl (by rw [c1]; rfl) ?_
    refine iv_Ret.stl [87, 88, 91, 92, 95, 96, 99, 100, 103, 104] (ls' := [ivR 5, ivI p1]) (st' := [ivI (iv_wr (((iv_upd μ 5 7 5) 5 4) * ((iv_upd μ 5 7 5) 5 5))), ivI ((iv_upd μ 5 7 5) 5 6)]) (w' := (135, (iv_upd μ 5 7 5), iv_rho)) rfl ?_
    refine iv_letE (fun j4 => ∀ (v7 : Int) (μ8 : ivM) (r9 : Int) (μ10 : ivM) (z5 : ivV) (z6 : ivV), j4 v7 μ8 = some (r9, μ10) → iv_Ret L 55 112 [z5, z6] [ivI v7] (ivST μ8) (some (ivI r9)) (ivST μ10)) h (fun v7 μ8 r9 μ10 z5 z6 h => ?_) (fun j4 hj4 h => ?_)
    · obtain ⟨c11, h⟩ := iv_ckE h
      obtain ⟨rfl, rfl⟩ := iv_retE h
      exact iv_Ret.zret rfl c11
    · rcases iv_iteE h with ⟨c12, h⟩ | ⟨c12, h⟩
      · refine iv_Ret.icT (t := 111) rfl (decide_eq_true c12) rfl ?_
        refine iv_Ret.stl [112] (ls' := [ivR 5, ivI p1]) (st' := [ivI 0]) (w' := (135, (iv_upd μ 5 7 5), iv_rho)) rfl ?_
        exact hj4 0 (iv_upd μ 5 7 5) _ _ (ivR 5) (ivI p1) h
      · refine iv_Ret.icF (t := 107) rfl (decide_eq_false c12) rfl ?_
        refine iv_Ret.stl [108, 112] (ls' := [ivR 5, ivI p1]) (st' := [ivI 1]) (w' := (135, (iv_upd μ 5 7 5), iv_rho)) rfl ?_
        exact hj4 1 (iv_upd μ 5 7 5) _ _ (ivR 5) (ivI p1) h
  rcases iv_iteE h with ⟨c2, h⟩ | ⟨c2, h⟩
  · refine iv_Ret.lk (t := 36) rfl (by rw [c2]; rfl) ?_
    refine iv_Ret.stl [37, 38, 41, 42, 43, 46, 47, 48, 51, 52, 55, 57] (ls' := [ivR 5, ivI p1]) (st' := [ivI 8, ivI ((iv_upd (iv_upd (iv_upd μ 5 7 3) 5 8 0) 5 9 0) 5 4)]) (w' := (135, (iv_upd (iv_upd (iv_upd μ 5 7 3) 5 8 0) 5 9 0), iv_rho)) rfl ?_
    refine iv_letE (fun j13 => ∀ (v16 : Int) (μ17 : ivM) (r18 : Int) (μ19 : ivM) (z14 : ivV) (z15 : ivV), j13 v16 μ17 = some (r18, μ19) → iv_Ret L 55 65 [z14, z15] [ivI v16] (ivST μ17) (some (ivI r18)) (ivST μ19)) h (fun v16 μ17 r18 μ19 z14 z15 h => ?_) (fun j13 hj13 h => ?_)
    · obtain ⟨c20, h⟩ := iv_ckE h
      obtain ⟨rfl, rfl⟩ := iv_retE h
      exact iv_Ret.zret rfl c20
    · rcases iv_iteE h with ⟨c21, h⟩ | ⟨c21, h⟩
      · refine iv_Ret.icT (t := 64) rfl (decide_eq_true c21) rfl ?_
        refine iv_Ret.stl [65] (ls' := [ivR 5, ivI p1]) (st' := [ivI 0]) (w' := (135, (iv_upd (iv_upd (iv_upd μ 5 7 3) 5 8 0) 5 9 0), iv_rho)) rfl ?_
        exact hj13 0 (iv_upd (iv_upd (iv_upd μ 5 7 3) 5 8 0) 5 9 0) _ _ (ivR 5) (ivI p1) h
      · refine iv_Ret.icF (t := 60) rfl (decide_eq_false c21) rfl ?_
        refine iv_Ret.stl [61, 65] (ls' := [ivR 5, ivI p1]) (st' := [ivI 1]) (w' := (135, (iv_upd (iv_upd (iv_upd μ 5 7 3) 5 8 0) 5 9 0), iv_rho)) rfl ?_
        exact hj13 1 (iv_upd (iv_upd (iv_upd μ 5 7 3) 5 8 0) 5 9 0) _ _ (ivR 5) (ivI p1) h
  rcases iv_iteE h with ⟨c3, h⟩ | ⟨c3, h⟩
  · refine iv_Ret.lk (t := 66) rfl (by rw [c3]; rfl) ?_
    refine iv_Ret.stl [67, 68, 71, 72, 75, 77] (ls' := [ivR 5, ivI p1]) (st' := [ivI 6, ivI ((iv_upd μ 5 7 4) 5 5)]) (w' := (135, (iv_upd μ 5 7 4), iv_rho)) rfl ?_
    refine iv_letE (fun j22 => ∀ (v25 : Int) (μ26 : ivM) (r27 : Int) (μ28 : ivM) (z23 : ivV) (z24 : ivV), j22 v25 μ26 = some (r27, μ28) → iv_Ret L 55 85 [z23, z24] [ivI v25] (ivST μ26) (some (ivI r27)) (ivST μ28)) h (fun v25 μ26 r27 μ28 z23 z24 h => ?_) (fun j22 hj22 h => ?_)
    · obtain ⟨c29, h⟩ := iv_ckE h
      obtain ⟨rfl, rfl⟩ := iv_retE h
      exact iv_Ret.zret rfl c29
    · rcases iv_iteE h with ⟨c30, h⟩ | ⟨c30, h⟩
      · refine iv_Ret.icT (t := 84) rfl (decide_eq_true c30) rfl ?_
        refine iv_Ret.stl [85] (ls' := [ivR 5, ivI p1]) (st' := [ivI 0]) (w' := (135, (iv_upd μ 5 7 4), iv_rho)) rfl ?_
        exact hj22 0 (iv_upd μ 5 7 4) _ _ (ivR 5) (ivI p1) h
      · refine iv_Ret.icF (t := 80) rfl (decide_eq_false c30) rfl ?_
        refine iv_Ret.stl [81, 85] (ls' := [ivR 5, ivI p1]) (st' := [ivI 1]) (w' := (135, (iv_upd μ 5 7 4), iv_rho)) rfl ?_
        exact hj22 1 (iv_upd μ 5 7 4) _ _ (ivR 5) (ivI p1) h
  refine iv_Ret.lk (t := 113) rfl (by simp only [Op.lookupswitch.offset_cons, if_neg (iv_ne_of c1), if_neg (iv_ne_of c2), if_neg (iv_ne_of c3)]; rfl) ?_
  refine iv_Ret.stl [114] (ls' := [ivR 5, ivI p1]) (st' := [ivI 0]) (w' := (135, μ, iv_rho)) rfl ?_
  obtain ⟨rfl, rfl⟩ := iv_retE h
  exact ⟨1, rfl⟩
theorem T_X7_takeSound (L : Nat) (p1 : Int)  {μ μ' : ivM} {r : Int} (h : f_X7_takeSound p1 μ = some (r, μ')) : iv_Ret L 56 0 [ivR 5, ivI p1, ivU] [] (ivST μ) (some (ivI r)) (ivST μ') := by
  unfold f_X7_takeSound at h
  refine iv_Ret.stl [1, 3, 4, 5, 6] (ls' := [ivR 5, ivI p1, ivI (iv_wr (p1 - 97))]) (st' := [ivI (iv_wr (p1 - 97))]) (w' := (135, μ, iv_rho)) rfl ?_
  refine iv_letE (fun j1 => ∀ (μ3 : ivM) (r4 : Int) (μ5 : ivM) (z2 : ivV), j1 μ3 = some (r4, μ5) → iv_Ret L 56 15 [ivR 5, ivI p1, z2] [] (ivST μ3) (some (ivI r4)) (ivST μ5)) h (fun μ3 r4 μ5 z2 h => ?_) (fun j1 hj1 h => ?_)
  · refine iv_Ret.stl [16] (ls' := [ivR 5, ivI p1, z2]) (st' := [ivR 5]) (w' := (135, μ3, iv_rho)) rfl ?_
    obtain ⟨r6, μ7, e8, h⟩ := iv_bndE h
    refine iv_Ret.callv rfl rfl rfl (T_X7_endName L  e8) ?_
    show iv_Ret L 56 19 [ivR 5, ivI p1, z2] [ivI r6] (ivST μ7) (some (ivI r4)) (ivST μ5)
    refine iv_letE (fun j9 => ∀ (v13 : Int) (μ14 : ivM) (r15 : Int) (μ16 : ivM) (z10 : ivV) (z11 : ivV) (z12 : ivV), j9 v13 μ14 = some (r15, μ16) → iv_Ret L 56 35 [z10, z11, z12] [ivI v13] (ivST μ14) (some (ivI r15)) (ivST μ16)) h (fun v13 μ14 r15 μ16 z10 z11 z12 h => ?_) (fun j9 hj9 h => ?_)
    · obtain ⟨c17, h⟩ := iv_ckE h
      obtain ⟨rfl, rfl⟩ := iv_retE h
      exact iv_Ret.zret rfl c17
    · refine iv_letE (fun j18 => ∀ (μ22 : ivM) (r23 : Int) (μ24 : ivM) (z19 : ivV) (z20 : ivV) (z21 : ivV), j18 μ22 = some (r23, μ24) → iv_Ret L 56 34 [z19, z20, z21] [] (ivST μ22) (some (ivI r23)) (ivST μ24)) h (fun μ22 r23 μ24 z19 z20 z21 h => ?_) (fun j18 hj18 h => ?_)
      · refine iv_Ret.stl [35] (ls' := [z19, z20, z21]) (st' := [ivI 0]) (w' := (135, μ22, iv_rho)) rfl ?_
        exact hj9 0 μ22 _ _ z19 z20 z21 h
      · rcases iv_iteE h with ⟨c25, h⟩ | ⟨c25, h⟩
        · refine iv_Ret.ifT (t := 34) rfl (decide_eq_true c25) rfl ?_
          exact hj18 μ7 _ _ (ivR 5) (ivI p1) z2 h
        · refine iv_Ret.ifF (t := 22) rfl (decide_eq_false c25) rfl ?_
          refine iv_Ret.stl [23, 24] (ls' := [ivR 5, ivI p1, z2]) (st' := [ivI p1, ivR 5]) (w' := (135, μ7, iv_rho)) rfl ?_
          obtain ⟨r26, μ27, e28, h⟩ := iv_bndE h
          refine iv_Ret.callv rfl rfl rfl (T_X7_takePart L p1 e28) ?_
          show iv_Ret L 56 27 [ivR 5, ivI p1, z2] [ivI r26] (ivST μ27) (some (ivI r4)) (ivST μ5)
          rcases iv_iteE h with ⟨c29, h⟩ | ⟨c29, h⟩
          · refine iv_Ret.ifT (t := 34) rfl (decide_eq_true c29) rfl ?_
            exact hj18 μ27 _ _ (ivR 5) (ivI p1) z2 h
          · refine iv_Ret.ifF (t := 30) rfl (decide_eq_false c29) rfl ?_
            refine iv_Ret.stl [31, 35] (ls' := [ivR 5, ivI p1, z2]) (st' := [ivI 1]) (w' := (135, μ27, iv_rho)) rfl ?_
            exact hj9 1 μ27 _ _ (ivR 5) (ivI p1) z2 h
  · rcases iv_iteE h with ⟨c30, h⟩ | ⟨c30, h⟩
    · refine iv_Ret.ifT (t := 15) rfl (decide_eq_true c30) rfl ?_
      exact hj1 μ _ _ (ivI (iv_wr (p1 - 97))) h
    · refine iv_Ret.ifF (t := 9) rfl (decide_eq_false c30) rfl ?_
      refine iv_Ret.stl [10, 12] (ls' := [ivR 5, ivI p1, ivI (iv_wr (p1 - 97))]) (st' := [ivI 6, ivI (iv_wr (p1 - 97))]) (w' := (135, μ, iv_rho)) rfl ?_
      rcases iv_iteE h with ⟨c31, h⟩ | ⟨c31, h⟩
      · refine iv_Ret.icT (t := 36) rfl (decide_eq_true c31) rfl ?_
        refine iv_Ret.stl [37, 38, 41, 42, 45, 46] (ls' := [ivR 5, ivI p1, ivI (iv_wr (p1 - 97))]) (st' := [ivI (iv_wr (p1 - 97)), ivI (μ 5 9), ivI (μ 5 8), ivR 5]) (w' := (135, μ, iv_rho)) rfl ?_
        obtain ⟨r32, μ33, e34, h⟩ := iv_bndE h
        refine iv_Ret.calls rfl rfl (T_X3_withSound L (μ 5 8) (μ 5 9) (iv_wr (p1 - 97)) e34) ?_
        show iv_Ret L 56 49 [ivR 5, ivI p1, ivI (iv_wr (p1 - 97))] [ivI r32, ivR 5] (ivST μ33) (some (ivI r)) (ivST μ')
        refine iv_Ret.stl [52, 53, 54, 57, 58, 59, 62, 63, 66, 67] (ls' := [ivR 5, ivI p1, ivI (iv_wr (p1 - 97))]) (st' := [ivI 5, ivI ((iv_upd (iv_upd μ33 5 8 r32) 5 9 (iv_wr (((iv_upd μ33 5 8 r32) 5 9) + 1))) 5 9)]) (w' := (135, (iv_upd (iv_upd μ33 5 8 r32) 5 9 (iv_wr (((iv_upd μ33 5 8 r32) 5 9) + 1))), iv_rho)) rfl ?_
        refine iv_letE (fun j35 => ∀ (v39 : Int) (μ40 : ivM) (r41 : Int) (μ42 : ivM) (z36 : ivV) (z37 : ivV) (z38 : ivV), j35 v39 μ40 = some (r41, μ42) → iv_Ret L 56 82 [z36, z37, z38] [ivI v39] (ivST μ40) (some (ivI r41)) (ivST μ42)) h (fun v39 μ40 r41 μ42 z36 z37 z38 h => ?_) (fun j35 hj35 h => ?_)
        · obtain ⟨c43, h⟩ := iv_ckE h
          obtain ⟨rfl, rfl⟩ := iv_retE h
          exact iv_Ret.zret rfl c43
        · refine iv_letE (fun j44 => ∀ (μ48 : ivM) (r49 : Int) (μ50 : ivM) (z45 : ivV) (z46 : ivV) (z47 : ivV), j44 μ48 = some (r49, μ50) → iv_Ret L 56 77 [z45, z46, z47] [] (ivST μ48) (some (ivI r49)) (ivST μ50)) h (fun μ48 r49 μ50 z45 z46 z47 h => ?_) (fun j44 hj44 h => ?_)
          · refine iv_Ret.stl [78, 82] (ls' := [z45, z46, z47]) (st' := [ivI 1]) (w' := (135, μ48, iv_rho)) rfl ?_
            exact hj35 1 μ48 _ _ z45 z46 z47 h
          · rcases iv_iteE h with ⟨c51, h⟩ | ⟨c51, h⟩
            · refine iv_Ret.icT (t := 77) rfl (decide_eq_true c51) rfl ?_
              exact hj44 (iv_upd (iv_upd μ33 5 8 r32) 5 9 (iv_wr (((iv_upd μ33 5 8 r32) 5 9) + 1))) _ _ (ivR 5) (ivI p1) (ivI (iv_wr (p1 - 97))) h
            · refine iv_Ret.icF (t := 70) rfl (decide_eq_false c51) rfl ?_
              refine iv_Ret.stl [71] (ls' := [ivR 5, ivI p1, ivI (iv_wr (p1 - 97))]) (st' := [ivR 5]) (w' := (135, (iv_upd (iv_upd μ33 5 8 r32) 5 9 (iv_wr (((iv_upd μ33 5 8 r32) 5 9) + 1))), iv_rho)) rfl ?_
              obtain ⟨r52, μ53, e54, h⟩ := iv_bndE h
              refine iv_Ret.callv rfl rfl rfl (T_X7_endName L  e54) ?_
              show iv_Ret L 56 74 [ivR 5, ivI p1, ivI (iv_wr (p1 - 97))] [ivI r52] (ivST μ53) (some (ivI r)) (ivST μ')
              rcases iv_iteE h with ⟨c55, h⟩ | ⟨c55, h⟩
              · refine iv_Ret.ifT (t := 81) rfl (decide_eq_true c55) rfl ?_
                refine iv_Ret.stl [82] (ls' := [ivR 5, ivI p1, ivI (iv_wr (p1 - 97))]) (st' := [ivI 0]) (w' := (135, μ53, iv_rho)) rfl ?_
                exact hj35 0 μ53 _ _ (ivR 5) (ivI p1) (ivI (iv_wr (p1 - 97))) h
              · refine iv_Ret.ifF (t := 77) rfl (decide_eq_false c55) rfl ?_
                exact hj44 μ53 _ _ (ivR 5) (ivI p1) (ivI (iv_wr (p1 - 97))) h
      · refine iv_Ret.icF (t := 15) rfl (decide_eq_false c31) rfl ?_
        exact hj1 μ _ _ (ivI (iv_wr (p1 - 97))) h
theorem T_X7_takeBear (L : Nat) (p1 : Int)  {μ μ' : ivM} {r : Int} (h : f_X7_takeBear p1 μ = some (r, μ')) : iv_Ret L 59 0 [ivR 5, ivI p1, ivU] [] (ivST μ) (some (ivI r)) (ivST μ') := by
  unfold f_X7_takeBear at h
  refine iv_Ret.stl [1, 3, 4, 5, 6, 7] (ls' := [ivR 5, ivI p1, ivI (iv_wr (p1 - 48))]) (st' := [ivI 1, ivI (iv_wr (p1 - 48))]) (w' := (135, μ, iv_rho)) rfl ?_
  refine iv_letE (fun j1 => ∀ (μ5 : ivM) (r6 : Int) (μ7 : ivM) (z2 : ivV) (z3 : ivV) (z4 : ivV), j1 μ5 = some (r6, μ7) → iv_Ret L 59 32 [z2, z3, z4] [] (ivST μ5) (some (ivI r6)) (ivST μ7)) h (fun μ5 r6 μ7 z2 z3 z4 h => ?_) (fun j1 hj1 h => ?_)
  · refine iv_Ret.stl [33] (ls' := [z2, z3, z4]) (st' := [ivI 0]) (w' := (135, μ5, iv_rho)) rfl ?_
    obtain ⟨rfl, rfl⟩ := iv_retE h
    exact ⟨1, rfl⟩
  · rcases iv_iteE h with ⟨c8, h⟩ | ⟨c8, h⟩
    · refine iv_Ret.icT (t := 32) rfl (decide_eq_true c8) rfl ?_
      exact hj1 μ _ _ (ivR 5) (ivI p1) (ivI (iv_wr (p1 - 48))) h
    · refine iv_Ret.icF (t := 10) rfl (decide_eq_false c8) rfl ?_
      refine iv_Ret.stl [11, 13] (ls' := [ivR 5, ivI p1, ivI (iv_wr (p1 - 48))]) (st' := [ivI 9, ivI (iv_wr (p1 - 48))]) (w' := (135, μ, iv_rho)) rfl ?_
      rcases iv_iteE h with ⟨c9, h⟩ | ⟨c9, h⟩
      · refine iv_Ret.icT (t := 32) rfl (decide_eq_true c9) rfl ?_
        exact hj1 μ _ _ (ivR 5) (ivI p1) (ivI (iv_wr (p1 - 48))) h
      · refine iv_Ret.icF (t := 16) rfl (decide_eq_false c9) rfl ?_
        refine iv_Ret.stl [17, 20] (ls' := [ivR 5, ivI p1, ivI (iv_wr (p1 - 48))]) (st' := [ivI (μ 5 5)]) (w' := (135, μ, iv_rho)) rfl ?_
        rcases iv_iteE h with ⟨c10, h⟩ | ⟨c10, h⟩
        · refine iv_Ret.ifT (t := 32) rfl (decide_eq_true c10) rfl ?_
          exact hj1 μ _ _ (ivR 5) (ivI p1) (ivI (iv_wr (p1 - 48))) h
        · refine iv_Ret.ifF (t := 23) rfl (decide_eq_false c10) rfl ?_
          refine iv_Ret.stl [24, 27, 29] (ls' := [ivR 5, ivI p1, ivI (iv_wr (p1 - 48))]) (st' := [ivI 6, ivI (μ 5 5)]) (w' := (135, μ, iv_rho)) rfl ?_
          rcases iv_iteE h with ⟨c11, h⟩ | ⟨c11, h⟩
          · refine iv_Ret.icT (t := 34) rfl (decide_eq_true c11) rfl ?_
            refine iv_Ret.stl [35, 38] (ls' := [ivR 5, ivI p1, ivI (iv_wr (p1 - 48))]) (st' := [ivR 8]) (w' := (135, μ, iv_rho)) rfl ?_
            refine iv_Ret.stl [39, 42, 43] (ls' := [ivR 5, ivI p1, ivI (iv_wr (p1 - 48))]) (st' := [ivI (iv_wr (p1 - 48)), ivI (μ 5 5), ivR 8]) (w' := (135, μ, iv_rho)) rfl ?_
            obtain ⟨c12, h⟩ := iv_ckE h
            refine iv_Ret.iast (len := 6) rfl rfl rfl rfl c12.1 c12.2 ?_
            show iv_Ret L 59 44 [ivR 5, ivI p1, ivI (iv_wr (p1 - 48))] [] (ivST (iv_upd μ 8 (μ 5 5).toNat (iv_wr (p1 - 48)))) (some (ivI r)) (ivST μ')
            refine iv_Ret.stl [45, 46, 49, 50, 51, 54, 55, 56, 59, 60] (ls' := [ivR 5, ivI p1, ivI (iv_wr (p1 - 48))]) (st' := [ivI 1]) (w' := (135, (iv_upd (iv_upd (iv_upd μ 8 (μ 5 5).toNat (iv_wr (p1 - 48))) 5 5 (iv_wr (((iv_upd μ 8 (μ 5 5).toNat (iv_wr (p1 - 48))) 5 5) + 1))) 5 7 2), iv_rho)) rfl ?_
            obtain ⟨rfl, rfl⟩ := iv_retE h
            exact ⟨1, rfl⟩
          · refine iv_Ret.icF (t := 32) rfl (decide_eq_false c11) rfl ?_
            exact hj1 μ _ _ (ivR 5) (ivI p1) (ivI (iv_wr (p1 - 48))) h
theorem T_lp_X7_canLearn_2 (L : Nat) (l1 : Int)  {k37 : ivM → Option (Int × ivM)} (hk37 : ∀  (μ : ivM) (r : Int) (μ' : ivM) (d0 : ivV) (d1 : ivV) (d2 : ivV), k37 μ = some (r, μ') → iv_Ret L 62 37 [d0, d1, d2] [] (ivST μ) (some (ivI r)) (ivST μ')) : ∀ (n : Nat) (l2 : Int) (μ : ivM) (r : Int) (μ' : ivM), lp_X7_canLearn_2 l1 k37 n l2 μ = some (r, μ') → iv_Ret L 62 2 [ivR 5, ivI l1, ivI l2] [] (ivST μ) (some (ivI r)) (ivST μ') := by
  intro n
  induction n with
  | zero => intro l2 μ r μ' h; unfold lp_X7_canLearn_2 at h; cases h
  | succ n ih =>
    intro l2 μ r μ' h
    unfold lp_X7_canLearn_2 at h
    refine iv_Ret.stl [3, 4, 7] (ls' := [ivR 5, ivI l1, ivI l2]) (st' := [ivI (μ 5 4), ivI l2]) (w' := (135, μ, iv_rho)) rfl ?_
    rcases iv_iteE h with ⟨c1, h⟩ | ⟨c1, h⟩
    · refine iv_Ret.icT (t := 37) rfl (decide_eq_true c1) rfl ?_
      exact hk37 μ _ _ (ivR 5) (ivI l1) (ivI l2) h
    · refine iv_Ret.icF (t := 10) rfl (decide_eq_false c1) rfl ?_
      refine iv_Ret.stl [11, 13] (ls' := [ivR 5, ivI l1, ivI l2]) (st' := [ivI 8, ivI l2]) (w' := (135, μ, iv_rho)) rfl ?_
      rcases iv_iteE h with ⟨c2, h⟩ | ⟨c2, h⟩
      · refine iv_Ret.icT (t := 37) rfl (decide_eq_true c2) rfl ?_
        exact hk37 μ _ _ (ivR 5) (ivI l1) (ivI l2) h
      · refine iv_Ret.icF (t := 16) rfl (decide_eq_false c2) rfl ?_
        refine iv_Ret.stl [17, 20] (ls' := [ivR 5, ivI l1, ivI l2]) (st' := [ivR 7]) (w' := (135, μ, iv_rho)) rfl ?_
        refine iv_Ret.stl [21] (ls' := [ivR 5, ivI l1, ivI l2]) (st' := [ivI l2, ivR 7]) (w' := (135, μ, iv_rho)) rfl ?_
        obtain ⟨c3, h⟩ := iv_ckE h
        refine iv_Ret.iald (len := 8) rfl rfl rfl c3.1 c3.2 ?_
        show iv_Ret L 62 22 [ivR 5, ivI l1, ivI l2] [ivI (μ 7 l2.toNat)] (ivST μ) (some (ivI r)) (ivST μ')
        refine iv_Ret.stl [23] (ls' := [ivR 5, ivI l1, ivI l2]) (st' := [ivI l1, ivI (μ 7 l2.toNat)]) (w' := (135, μ, iv_rho)) rfl ?_
        obtain ⟨r4, μ5, e6, h⟩ := iv_bndE h
        refine iv_Ret.calls rfl rfl (T_X9_has L (μ 7 l2.toNat) l1 e6) ?_
        show iv_Ret L 62 26 [ivR 5, ivI l1, ivI l2] [ivI r4] (ivST μ5) (some (ivI r)) (ivST μ')
        rcases iv_iteE h with ⟨c7, h⟩ | ⟨c7, h⟩
        · refine iv_Ret.ifF (t := 29) rfl (decide_eq_false (not_not_intro c7)) rfl ?_
          refine iv_Ret.stl [30] (ls' := [ivR 5, ivI l1, ivI l2]) (st' := [ivI 1]) (w' := (135, μ5, iv_rho)) rfl ?_
          obtain ⟨rfl, rfl⟩ := iv_retE h
          exact ⟨1, rfl⟩
        · refine iv_Ret.ifT (t := 31) rfl (decide_eq_true c7) rfl ?_
          refine iv_Ret.stl [34, 2] (ls' := [ivR 5, ivI l1, ivI (iv_wr (l2 + 1))]) (st' := []) (w' := (135, μ5, iv_rho)) rfl ?_
          exact ih (iv_wr (l2 + 1)) μ5 _ _ h
theorem T_X7_canLearn (L : Nat) (p1 : Int)  {μ μ' : ivM} {r : Int} (h : f_X7_canLearn p1 μ = some (r, μ')) : iv_Ret L 62 0 [ivR 5, ivI p1, ivU] [] (ivST μ) (some (ivI r)) (ivST μ') := by
  unfold f_X7_canLearn at h
  refine iv_Ret.stl [1, 2] (ls' := [ivR 5, ivI p1, ivI 0]) (st' := []) (w' := (135, μ, iv_rho)) rfl ?_
  refine T_lp_X7_canLearn_2 L p1 (fun μ11 r12 μ13 z8 z9 z10 h => ?_) iv_fuel 0 μ _ _ h
  refine iv_Ret.stl [38] (ls' := [z8, z9, z10]) (st' := [ivI 0]) (w' := (135, μ11, iv_rho)) rfl ?_
  obtain ⟨rfl, rfl⟩ := iv_retE h
  exact ⟨1, rfl⟩
theorem T_X7_takeKnower (L : Nat) (p1 : Int)  {μ μ' : ivM} {r : Int} (h : f_X7_takeKnower p1 μ = some (r, μ')) : iv_Ret L 60 0 [ivR 5, ivI p1] [] (ivST μ) (some (ivI r)) (ivST μ') := by
  unfold f_X7_takeKnower at h
  refine iv_Ret.stl [1, 2, 4, 5, 8, 9, 11, 14, 15, 18] (ls' := [ivR 5, ivI p1]) (st' := [ivI ((iv_upd (iv_upd μ 5 10 (iv_wr (p1 - 48))) 5 7 6) 5 10)]) (w' := (135, (iv_upd (iv_upd μ 5 10 (iv_wr (p1 - 48))) 5 7 6), iv_rho)) rfl ?_
  refine iv_letE (fun j1 => ∀ (v4 : Int) (μ5 : ivM) (r6 : Int) (μ7 : ivM) (z2 : ivV) (z3 : ivV), j1 v4 μ5 = some (r6, μ7) → iv_Ret L 60 48 [z2, z3] [ivI v4] (ivST μ5) (some (ivI r6)) (ivST μ7)) h (fun v4 μ5 r6 μ7 z2 z3 h => ?_) (fun j1 hj1 h => ?_)
  · obtain ⟨c8, h⟩ := iv_ckE h
    obtain ⟨rfl, rfl⟩ := iv_retE h
    exact iv_Ret.zret rfl c8
  · refine iv_letE (fun j9 => ∀ (μ12 : ivM) (r13 : Int) (μ14 : ivM) (z10 : ivV) (z11 : ivV), j9 μ12 = some (r13, μ14) → iv_Ret L 60 47 [z10, z11] [] (ivST μ12) (some (ivI r13)) (ivST μ14)) h (fun μ12 r13 μ14 z10 z11 h => ?_) (fun j9 hj9 h => ?_)
    · refine iv_Ret.stl [48] (ls' := [z10, z11]) (st' := [ivI 0]) (w' := (135, μ12, iv_rho)) rfl ?_
      exact hj1 0 μ12 _ _ z10 z11 h
    · rcases iv_iteE h with ⟨c15, h⟩ | ⟨c15, h⟩
      · refine iv_Ret.ifT (t := 47) rfl (decide_eq_true c15) rfl ?_
        exact hj9 (iv_upd (iv_upd μ 5 10 (iv_wr (p1 - 48))) 5 7 6) _ _ (ivR 5) (ivI p1) h
      · refine iv_Ret.ifF (t := 21) rfl (decide_eq_false c15) rfl ?_
        refine iv_Ret.stl [22, 25, 26, 29] (ls' := [ivR 5, ivI p1]) (st' := [ivI ((iv_upd (iv_upd μ 5 10 (iv_wr (p1 - 48))) 5 7 6) 5 5), ivI ((iv_upd (iv_upd μ 5 10 (iv_wr (p1 - 48))) 5 7 6) 5 10)]) (w' := (135, (iv_upd (iv_upd μ 5 10 (iv_wr (p1 - 48))) 5 7 6), iv_rho)) rfl ?_
        rcases iv_iteE h with ⟨c16, h⟩ | ⟨c16, h⟩
        · refine iv_Ret.icT (t := 47) rfl (decide_eq_true c16) rfl ?_
          exact hj9 (iv_upd (iv_upd μ 5 10 (iv_wr (p1 - 48))) 5 7 6) _ _ (ivR 5) (ivI p1) h
        · refine iv_Ret.icF (t := 32) rfl (decide_eq_false c16) rfl ?_
          refine iv_Ret.stl [33, 34, 37] (ls' := [ivR 5, ivI p1]) (st' := [ivI ((iv_upd (iv_upd μ 5 10 (iv_wr (p1 - 48))) 5 7 6) 5 10), ivR 5]) (w' := (135, (iv_upd (iv_upd μ 5 10 (iv_wr (p1 - 48))) 5 7 6), iv_rho)) rfl ?_
          obtain ⟨r17, μ18, e19, h⟩ := iv_bndE h
          refine iv_Ret.callv rfl rfl rfl (T_X7_canLearn L ((iv_upd (iv_upd μ 5 10 (iv_wr (p1 - 48))) 5 7 6) 5 10) e19) ?_
          show iv_Ret L 60 40 [ivR 5, ivI p1] [ivI r17] (ivST μ18) (some (ivI r)) (ivST μ')
          rcases iv_iteE h with ⟨c20, h⟩ | ⟨c20, h⟩
          · refine iv_Ret.ifT (t := 47) rfl (decide_eq_true c20) rfl ?_
            exact hj9 μ18 _ _ (ivR 5) (ivI p1) h
          · refine iv_Ret.ifF (t := 43) rfl (decide_eq_false c20) rfl ?_
            refine iv_Ret.stl [44, 48] (ls' := [ivR 5, ivI p1]) (st' := [ivI 1]) (w' := (135, μ18, iv_rho)) rfl ?_
            exact hj1 1 μ18 _ _ (ivR 5) (ivI p1) h
theorem T_X7_takeKnown (L : Nat) (p1 : Int)  {μ μ' : ivM} {r : Int} (h : f_X7_takeKnown p1 μ = some (r, μ')) : iv_Ret L 61 0 [ivR 5, ivI p1, ivU] [] (ivST μ) (some (ivI r)) (ivST μ') := by
  unfold f_X7_takeKnown at h
  refine iv_Ret.stl [1, 3, 4, 5, 6] (ls' := [ivR 5, ivI p1, ivI (iv_wr (p1 - 48))]) (st' := [ivI (iv_wr (p1 - 48))]) (w' := (135, μ, iv_rho)) rfl ?_
  refine iv_letE (fun j1 => ∀ (μ5 : ivM) (r6 : Int) (μ7 : ivM) (z2 : ivV) (z3 : ivV) (z4 : ivV), j1 μ5 = some (r6, μ7) → iv_Ret L 61 39 [z2, z3, z4] [] (ivST μ5) (some (ivI r6)) (ivST μ7)) h (fun μ5 r6 μ7 z2 z3 z4 h => ?_) (fun j1 hj1 h => ?_)
  · refine iv_Ret.stl [40] (ls' := [z2, z3, z4]) (st' := [ivI 0]) (w' := (135, μ5, iv_rho)) rfl ?_
    obtain ⟨rfl, rfl⟩ := iv_retE h
    exact ⟨1, rfl⟩
  · rcases iv_iteE h with ⟨c8, h⟩ | ⟨c8, h⟩
    · refine iv_Ret.ifT (t := 39) rfl (decide_eq_true c8) rfl ?_
      exact hj1 μ _ _ (ivR 5) (ivI p1) (ivI (iv_wr (p1 - 48))) h
    · refine iv_Ret.ifF (t := 9) rfl (decide_eq_false c8) rfl ?_
      refine iv_Ret.stl [10, 11, 14] (ls' := [ivR 5, ivI p1, ivI (iv_wr (p1 - 48))]) (st' := [ivI (μ 5 4), ivI (iv_wr (p1 - 48))]) (w' := (135, μ, iv_rho)) rfl ?_
      rcases iv_iteE h with ⟨c9, h⟩ | ⟨c9, h⟩
      · refine iv_Ret.icT (t := 39) rfl (decide_eq_true c9) rfl ?_
        exact hj1 μ _ _ (ivR 5) (ivI p1) (ivI (iv_wr (p1 - 48))) h
      · refine iv_Ret.icF (t := 17) rfl (decide_eq_false c9) rfl ?_
        refine iv_Ret.stl [18, 20] (ls' := [ivR 5, ivI p1, ivI (iv_wr (p1 - 48))]) (st' := [ivI 8, ivI (iv_wr (p1 - 48))]) (w' := (135, μ, iv_rho)) rfl ?_
        rcases iv_iteE h with ⟨c10, h⟩ | ⟨c10, h⟩
        · refine iv_Ret.icT (t := 39) rfl (decide_eq_true c10) rfl ?_
          exact hj1 μ _ _ (ivR 5) (ivI p1) (ivI (iv_wr (p1 - 48))) h
        · refine iv_Ret.icF (t := 23) rfl (decide_eq_false c10) rfl ?_
          refine iv_Ret.stl [24, 27] (ls' := [ivR 5, ivI p1, ivI (iv_wr (p1 - 48))]) (st' := [ivR 7]) (w' := (135, μ, iv_rho)) rfl ?_
          refine iv_Ret.stl [28] (ls' := [ivR 5, ivI p1, ivI (iv_wr (p1 - 48))]) (st' := [ivI (iv_wr (p1 - 48)), ivR 7]) (w' := (135, μ, iv_rho)) rfl ?_
          obtain ⟨c11, h⟩ := iv_ckE h
          refine iv_Ret.iald (len := 8) rfl rfl rfl c11.1 c11.2 ?_
          show iv_Ret L 61 29 [ivR 5, ivI p1, ivI (iv_wr (p1 - 48))] [ivI (μ 7 (iv_wr (p1 - 48)).toNat)] (ivST μ) (some (ivI r)) (ivST μ')
          refine iv_Ret.stl [30, 33] (ls' := [ivR 5, ivI p1, ivI (iv_wr (p1 - 48))]) (st' := [ivI (μ 5 10), ivI (μ 7 (iv_wr (p1 - 48)).toNat)]) (w' := (135, μ, iv_rho)) rfl ?_
          obtain ⟨r12, μ13, e14, h⟩ := iv_bndE h
          refine iv_Ret.calls rfl rfl (T_X9_has L (μ 7 (iv_wr (p1 - 48)).toNat) (μ 5 10) e14) ?_
          show iv_Ret L 61 36 [ivR 5, ivI p1, ivI (iv_wr (p1 - 48))] [ivI r12] (ivST μ13) (some (ivI r)) (ivST μ')
          rcases iv_iteE h with ⟨c15, h⟩ | ⟨c15, h⟩
          · refine iv_Ret.ifT (t := 41) rfl (decide_eq_true c15) rfl ?_
            refine iv_Ret.stl [42, 45] (ls' := [ivR 5, ivI p1, ivI (iv_wr (p1 - 48))]) (st' := [ivR 7]) (w' := (135, μ13, iv_rho)) rfl ?_
            refine iv_Ret.stl [46, 47] (ls' := [ivR 5, ivI p1, ivI (iv_wr (p1 - 48))]) (st' := [ivI (iv_wr (p1 - 48)), ivR 7, ivI (iv_wr (p1 - 48)), ivR 7]) (w' := (135, μ13, iv_rho)) rfl ?_
            obtain ⟨c16, h⟩ := iv_ckE h
            refine iv_Ret.iald (len := 8) rfl rfl rfl c16.1 c16.2 ?_
            show iv_Ret L 61 48 [ivR 5, ivI p1, ivI (iv_wr (p1 - 48))] [ivI (μ13 7 (iv_wr (p1 - 48)).toNat), ivI (iv_wr (p1 - 48)), ivR 7] (ivST μ13) (some (ivI r)) (ivST μ')
            refine iv_Ret.stl [49, 50, 53, 54, 55] (ls' := [ivR 5, ivI p1, ivI (iv_wr (p1 - 48))]) (st' := [ivI (iv_or (μ13 7 (iv_wr (p1 - 48)).toNat) (iv_shl 1 (μ13 5 10))), ivI (iv_wr (p1 - 48)), ivR 7]) (w' := (135, μ13, iv_rho)) rfl ?_
            obtain ⟨c17, h⟩ := iv_ckE h
            refine iv_Ret.iast (len := 8) rfl rfl rfl rfl c17.1 c17.2 ?_
            show iv_Ret L 61 56 [ivR 5, ivI p1, ivI (iv_wr (p1 - 48))] [] (ivST (iv_upd μ13 7 (iv_wr (p1 - 48)).toNat (iv_or (μ13 7 (iv_wr (p1 - 48)).toNat) (iv_shl 1 (μ13 5 10))))) (some (ivI r)) (ivST μ')
            refine iv_Ret.stl [57, 58, 61, 62, 63, 66, 67, 68, 71, 72] (ls' := [ivR 5, ivI p1, ivI (iv_wr (p1 - 48))]) (st' := [ivI 1]) (w' := (135, (iv_upd (iv_upd (iv_upd μ13 7 (iv_wr (p1 - 48)).toNat (iv_or (μ13 7 (iv_wr (p1 - 48)).toNat) (iv_shl 1 (μ13 5 10)))) 5 6 (iv_wr (((iv_upd μ13 7 (iv_wr (p1 - 48)).toNat (iv_or (μ13 7 (iv_wr (p1 - 48)).toNat) (iv_shl 1 (μ13 5 10)))) 5 6) + 1))) 5 7 2), iv_rho)) rfl ?_
            obtain ⟨rfl, rfl⟩ := iv_retE h
            exact ⟨1, rfl⟩
          · refine iv_Ret.ifF (t := 39) rfl (decide_eq_false c15) rfl ?_
            exact hj1 μ13 _ _ (ivR 5) (ivI p1) (ivI (iv_wr (p1 - 48))) h
theorem T_X7_take (L : Nat) (p1 : Int)  {μ μ' : ivM} {r : Int} (h : f_X7_take p1 μ = some (r, μ')) : iv_Ret L 52 0 [ivR 5, ivI p1] [] (ivST μ) (some (ivI r)) (ivST μ') := by
  unfold f_X7_take at h
  refine iv_Ret.stl [1, 4] (ls' := [ivR 5, ivI p1]) (st' := [ivI (μ 5 7)]) (w' := (135, μ, iv_rho)) rfl ?_
  rcases iv_iteE h with ⟨c1, h⟩ | ⟨c1, h⟩
  · refine iv_Ret.tsI (t := 48) rfl c1 rfl ?_
    refine iv_Ret.stl [49, 50] (ls' := [ivR 5, ivI p1]) (st' := [ivI p1, ivR 5]) (w' := (135, μ, iv_rho)) rfl ?_
    obtain ⟨r8, μ9, e10, h⟩ := iv_bndE h
    refine iv_Ret.callv rfl rfl rfl (T_X7_takeH L p1 e10) ?_
    show iv_Ret L 52 53 [ivR 5, ivI p1] [ivI r8] (ivST μ9) (some (ivI r)) (ivST μ')
    obtain ⟨c11, h⟩ := iv_ckE h
    obtain ⟨rfl, rfl⟩ := iv_retE h
    exact iv_Ret.zret rfl c11
  rcases iv_iteE h with ⟨c2, h⟩ | ⟨c2, h⟩
  · refine iv_Ret.tsI (t := 54) rfl c2 rfl ?_
    refine iv_Ret.stl [55, 56] (ls' := [ivR 5, ivI p1]) (st' := [ivI p1, ivR 5]) (w' := (135, μ, iv_rho)) rfl ?_
    obtain ⟨r12, μ13, e14, h⟩ := iv_bndE h
    refine iv_Ret.callv rfl rfl rfl (T_X7_takeR L p1 e14) ?_
    show iv_Ret L 52 59 [ivR 5, ivI p1] [ivI r12] (ivST μ13) (some (ivI r)) (ivST μ')
    obtain ⟨c15, h⟩ := iv_ckE h
    obtain ⟨rfl, rfl⟩ := iv_retE h
    exact iv_Ret.zret rfl c15
  rcases iv_iteE h with ⟨c3, h⟩ | ⟨c3, h⟩
  · refine iv_Ret.tsI (t := 84) rfl c3 rfl ?_
    refine iv_Ret.stl [85, 86] (ls' := [ivR 5, ivI p1]) (st' := [ivI p1, ivR 5]) (w' := (135, μ, iv_rho)) rfl ?_
    obtain ⟨r16, μ17, e18, h⟩ := iv_bndE h
    refine iv_Ret.callv rfl rfl rfl (T_X7_takePart L p1 e18) ?_
    show iv_Ret L 52 89 [ivR 5, ivI p1] [ivI r16] (ivST μ17) (some (ivI r)) (ivST μ')
    obtain ⟨c19, h⟩ := iv_ckE h
    obtain ⟨rfl, rfl⟩ := iv_retE h
    exact iv_Ret.zret rfl c19
  rcases iv_iteE h with ⟨c4, h⟩ | ⟨c4, h⟩
  · refine iv_Ret.tsI (t := 60) rfl c4 rfl ?_
    refine iv_Ret.stl [61, 62] (ls' := [ivR 5, ivI p1]) (st' := [ivI p1, ivR 5]) (w' := (135, μ, iv_rho)) rfl ?_
    obtain ⟨r20, μ21, e22, h⟩ := iv_bndE h
    refine iv_Ret.callv rfl rfl rfl (T_X7_takeSound L p1 e22) ?_
    show iv_Ret L 52 65 [ivR 5, ivI p1] [ivI r20] (ivST μ21) (some (ivI r)) (ivST μ')
    obtain ⟨c23, h⟩ := iv_ckE h
    obtain ⟨rfl, rfl⟩ := iv_retE h
    exact iv_Ret.zret rfl c23
  rcases iv_iteE h with ⟨c5, h⟩ | ⟨c5, h⟩
  · refine iv_Ret.tsI (t := 66) rfl c5 rfl ?_
    refine iv_Ret.stl [67, 68] (ls' := [ivR 5, ivI p1]) (st' := [ivI p1, ivR 5]) (w' := (135, μ, iv_rho)) rfl ?_
    obtain ⟨r24, μ25, e26, h⟩ := iv_bndE h
    refine iv_Ret.callv rfl rfl rfl (T_X7_takeBear L p1 e26) ?_
    show iv_Ret L 52 71 [ivR 5, ivI p1] [ivI r24] (ivST μ25) (some (ivI r)) (ivST μ')
    obtain ⟨c27, h⟩ := iv_ckE h
    obtain ⟨rfl, rfl⟩ := iv_retE h
    exact iv_Ret.zret rfl c27
  rcases iv_iteE h with ⟨c6, h⟩ | ⟨c6, h⟩
  · refine iv_Ret.tsI (t := 72) rfl c6 rfl ?_
    refine iv_Ret.stl [73, 74] (ls' := [ivR 5, ivI p1]) (st' := [ivI p1, ivR 5]) (w' := (135, μ, iv_rho)) rfl ?_
    obtain ⟨r28, μ29, e30, h⟩ := iv_bndE h
    refine iv_Ret.callv rfl rfl rfl (T_X7_takeKnower L p1 e30) ?_
    show iv_Ret L 52 77 [ivR 5, ivI p1] [ivI r28] (ivST μ29) (some (ivI r)) (ivST μ')
    obtain ⟨c31, h⟩ := iv_ckE h
    obtain ⟨rfl, rfl⟩ := iv_retE h
    exact iv_Ret.zret rfl c31
  rcases iv_iteE h with ⟨c7, h⟩ | ⟨c7, h⟩
  · refine iv_Ret.tsI (t := 78) rfl c7 rfl ?_
    refine iv_Ret.stl [79, 80] (ls' := [ivR 5, ivI p1]) (st' := [ivI p1, ivR 5]) (w' := (135, μ, iv_rho)) rfl ?_
    obtain ⟨r32, μ33, e34, h⟩ := iv_bndE h
    refine iv_Ret.callv rfl rfl rfl (T_X7_takeKnown L p1 e34) ?_
    show iv_Ret L 52 83 [ivR 5, ivI p1] [ivI r32] (ivST μ33) (some (ivI r)) (ivST μ')
    obtain ⟨c35, h⟩ := iv_ckE h
    obtain ⟨rfl, rfl⟩ := iv_retE h
    exact iv_Ret.zret rfl c35
  have o40 : (decide ((μ 5 7) < 0) || decide (6 < (μ 5 7))) = true := by
    rw [Bool.or_eq_true, decide_eq_true_eq, decide_eq_true_eq]; omega
  refine iv_Ret.tsO (t := 84) rfl o40 rfl ?_
  refine iv_Ret.stl [85, 86] (ls' := [ivR 5, ivI p1]) (st' := [ivI p1, ivR 5]) (w' := (135, μ, iv_rho)) rfl ?_
  obtain ⟨r36, μ37, e38, h⟩ := iv_bndE h
  refine iv_Ret.callv rfl rfl rfl (T_X7_takePart L p1 e38) ?_
  show iv_Ret L 52 89 [ivR 5, ivI p1] [ivI r36] (ivST μ37) (some (ivI r)) (ivST μ')
  obtain ⟨c39, h⟩ := iv_ckE h
  obtain ⟨rfl, rfl⟩ := iv_retE h
  exact iv_Ret.zret rfl c39
theorem T_lp_X7_faultOf_27 (L : Nat)   {k55 : ivM → Option (Int × ivM)} (hk55 : ∀  (μ : ivM) (r : Int) (μ' : ivM) (d2 : ivV), k55 μ = some (r, μ') → iv_Ret L 51 55 [ivR 5, ivR 3, d2] [] (ivST μ) (some (ivI r)) (ivST μ')) : ∀ (n : Nat) (l2 : Int) (μ : ivM) (r : Int) (μ' : ivM), lp_X7_faultOf_27 k55 n l2 μ = some (r, μ') → iv_Ret L 51 27 [ivR 5, ivR 3, ivI l2] [] (ivST μ) (some (ivI r)) (ivST μ') := by
  intro n
  induction n with
  | zero => intro l2 μ r μ' h; unfold lp_X7_faultOf_27 at h; cases h
  | succ n ih =>
    intro l2 μ r μ' h
    unfold lp_X7_faultOf_27 at h
    refine iv_Ret.stl [28, 29, 32] (ls' := [ivR 5, ivR 3, ivI l2]) (st' := [ivI (μ 3 1), ivI l2]) (w' := (135, μ, iv_rho)) rfl ?_
    rcases iv_iteE h with ⟨c1, h⟩ | ⟨c1, h⟩
    · refine iv_Ret.icT (t := 55) rfl (decide_eq_true c1) rfl ?_
      exact hk55 μ _ _ (ivI l2) h
    · refine iv_Ret.icF (t := 35) rfl (decide_eq_false c1) rfl ?_
      refine iv_Ret.stl [36, 37, 38] (ls' := [ivR 5, ivR 3, ivI l2]) (st' := [ivI l2, ivR 3, ivR 5]) (w' := (135, μ, iv_rho)) rfl ?_
      obtain ⟨r2, μ3, e4, h⟩ := iv_bndE h
      refine iv_Ret.callv rfl rfl rfl (T_X8_at L l2 e4) ?_
      show iv_Ret L 51 41 [ivR 5, ivR 3, ivI l2] [ivI r2, ivR 5] (ivST μ3) (some (ivI r)) (ivST μ')
      obtain ⟨r5, μ6, e7, h⟩ := iv_bndE h
      refine iv_Ret.callv rfl rfl rfl (T_X7_take L r2 e7) ?_
      show iv_Ret L 51 44 [ivR 5, ivR 3, ivI l2] [ivI r5] (ivST μ6) (some (ivI r)) (ivST μ')
      rcases iv_iteE h with ⟨c8, h⟩ | ⟨c8, h⟩
      · refine iv_Ret.ifF (t := 47) rfl (decide_eq_false (not_not_intro c8)) rfl ?_
        refine iv_Ret.stl [48] (ls' := [ivR 5, ivR 3, ivI l2]) (st' := [ivI l2]) (w' := (135, μ6, iv_rho)) rfl ?_
        obtain ⟨rfl, rfl⟩ := iv_retE h
        exact ⟨1, rfl⟩
      · refine iv_Ret.ifT (t := 49) rfl (decide_eq_true c8) rfl ?_
        refine iv_Ret.stl [52, 27] (ls' := [ivR 5, ivR 3, ivI (iv_wr (l2 + 1))]) (st' := []) (w' := (135, μ6, iv_rho)) rfl ?_
        exact ih (iv_wr (l2 + 1)) μ6 _ _ h
theorem T_X7_faultOf (L : Nat)   {μ μ' : ivM} {r : Int} (h : f_X7_faultOf  μ = some (r, μ')) : iv_Ret L 51 0 [ivR 5, ivR 3, ivU] [] (ivST μ) (some (ivI r)) (ivST μ') := by
  unfold f_X7_faultOf at h
  refine iv_Ret.stl [1, 2, 5, 6, 7, 10, 11, 12, 15, 16, 17, 20, 21, 22, 25, 26, 27] (ls' := [ivR 5, ivR 3, ivI 0]) (st' := []) (w' := (135, (iv_upd (iv_upd (iv_upd (iv_upd (iv_upd μ 5 3 0) 5 4 0) 5 5 0) 5 6 0) 5 7 0), iv_rho)) rfl ?_
  refine T_lp_X7_faultOf_27 L  (fun μ10 r11 μ12 z9 h => ?_) iv_fuel 0 (iv_upd (iv_upd (iv_upd (iv_upd (iv_upd μ 5 3 0) 5 4 0) 5 5 0) 5 6 0) 5 7 0) _ _ h
  refine iv_Ret.stl [56, 59, 60] (ls' := [ivR 5, ivR 3, z9]) (st' := [ivI 2, ivI (μ10 5 7)]) (w' := (135, μ10, iv_rho)) rfl ?_
  refine iv_letE (fun j13 => ∀ (v16 : Int) (μ17 : ivM) (r18 : Int) (μ19 : ivM) (z14 : ivV) (z15 : ivV), j13 v16 μ17 = some (r18, μ19) → iv_Ret L 51 83 [z14, ivR 3, z15] [ivI v16] (ivST μ17) (some (ivI r18)) (ivST μ19)) h (fun v16 μ17 r18 μ19 z14 z15 h => ?_) (fun j13 hj13 h => ?_)
  · refine iv_Ret.stl [84, 85] (ls' := [z14, ivR 3, ivI v16]) (st' := [ivI v16]) (w' := (135, μ17, iv_rho)) rfl ?_
    refine iv_letE (fun j20 => ∀ (v24 : Int) (μ25 : ivM) (r26 : Int) (μ27 : ivM) (z21 : ivV) (z22 : ivV) (z23 : ivV), j20 v24 μ25 = some (r26, μ27) → iv_Ret L 51 97 [z21, z22, z23] [ivI v24] (ivST μ25) (some (ivI r26)) (ivST μ27)) h (fun v24 μ25 r26 μ27 z21 z22 z23 h => ?_) (fun j20 hj20 h => ?_)
    · obtain ⟨rfl, rfl⟩ := iv_retE h
      exact ⟨1, rfl⟩
    · rcases iv_iteE h with ⟨c28, h⟩ | ⟨c28, h⟩
      · refine iv_Ret.ifT (t := 93) rfl (decide_eq_true c28) rfl ?_
        refine iv_Ret.stl [94, 97] (ls' := [z14, ivR 3, ivI v16]) (st' := [ivI (μ17 3 1)]) (w' := (135, μ17, iv_rho)) rfl ?_
        exact hj20 (μ17 3 1) μ17 _ _ z14 (ivR 3) (ivI v16) h
      · refine iv_Ret.ifF (t := 88) rfl (decide_eq_false c28) rfl ?_
        refine iv_Ret.stl [90, 97] (ls' := [z14, ivR 3, ivI v16]) (st' := [ivI (-9)]) (w' := (135, μ17, iv_rho)) rfl ?_
        exact hj20 (-9) μ17 _ _ z14 (ivR 3) (ivI v16) h
  · refine iv_letE (fun j29 => ∀ (μ32 : ivM) (r33 : Int) (μ34 : ivM) (z30 : ivV) (z31 : ivV), j29 μ32 = some (r33, μ34) → iv_Ret L 51 78 [z30, ivR 3, z31] [] (ivST μ32) (some (ivI r33)) (ivST μ34)) h (fun μ32 r33 μ34 z30 z31 h => ?_) (fun j29 hj29 h => ?_)
    · refine iv_Ret.stl [79, 83] (ls' := [z30, ivR 3, z31]) (st' := [ivI 1]) (w' := (135, μ32, iv_rho)) rfl ?_
      exact hj13 1 μ32 _ _ z30 z31 h
    · rcases iv_iteE h with ⟨c35, h⟩ | ⟨c35, h⟩
      · refine iv_Ret.icT (t := 78) rfl (decide_eq_true c35) rfl ?_
        exact hj29 μ10 _ _ (ivR 5) z9 h
      · refine iv_Ret.icF (t := 63) rfl (decide_eq_false c35) rfl ?_
        refine iv_Ret.stl [64, 67, 68] (ls' := [ivR 5, ivR 3, z9]) (st' := [ivI 3, ivI (μ10 5 7)]) (w' := (135, μ10, iv_rho)) rfl ?_
        refine iv_letE (fun j36 => ∀ (μ39 : ivM) (r40 : Int) (μ41 : ivM) (z37 : ivV) (z38 : ivV), j36 μ39 = some (r40, μ41) → iv_Ret L 51 82 [z37, ivR 3, z38] [] (ivST μ39) (some (ivI r40)) (ivST μ41)) h (fun μ39 r40 μ41 z37 z38 h => ?_) (fun j36 hj36 h => ?_)
        · refine iv_Ret.stl [83] (ls' := [z37, ivR 3, z38]) (st' := [ivI 0]) (w' := (135, μ39, iv_rho)) rfl ?_
          exact hj13 0 μ39 _ _ z37 z38 h
        · rcases iv_iteE h with ⟨c42, h⟩ | ⟨c42, h⟩
          · refine iv_Ret.icF (t := 71) rfl (decide_eq_false (not_not_intro c42)) rfl ?_
            refine iv_Ret.stl [72] (ls' := [ivR 5, ivR 3, z9]) (st' := [ivR 5]) (w' := (135, μ10, iv_rho)) rfl ?_
            obtain ⟨r43, μ44, e45, h⟩ := iv_bndE h
            refine iv_Ret.callv rfl rfl rfl (T_X7_endName L  e45) ?_
            show iv_Ret L 51 75 [ivR 5, ivR 3, z9] [ivI r43] (ivST μ44) (some (ivI r11)) (ivST μ12)
            rcases iv_iteE h with ⟨c46, h⟩ | ⟨c46, h⟩
            · refine iv_Ret.ifT (t := 82) rfl (decide_eq_true c46) rfl ?_
              exact hj36 μ44 _ _ (ivR 5) z9 h
            · refine iv_Ret.ifF (t := 78) rfl (decide_eq_false c46) rfl ?_
              exact hj29 μ44 _ _ (ivR 5) z9 h
          · refine iv_Ret.icT (t := 82) rfl (decide_eq_true c42) rfl ?_
            exact hj36 μ10 _ _ (ivR 5) z9 h
theorem T_X8_append (L : Nat) (p1 : Int)  {μ μ' : ivM} {r : Int} (h : f_X8_append p1 μ = some (r, μ')) : iv_Ret L 64 0 [ivR 3, ivI p1] [] (ivST μ) none (ivST μ') := by
  unfold f_X8_append at h
  refine iv_Ret.stl [1, 4] (ls' := [ivR 3, ivI p1]) (st' := [ivI (μ 3 1)]) (w' := (135, μ, iv_rho)) rfl ?_
  refine iv_letE (fun j1 => ∀ (μ4 : ivM) (r5 : Int) (μ6 : ivM) (z2 : ivV) (z3 : ivV), j1 μ4 = some (r5, μ6) → iv_Ret L 64 36 [z2, z3] [] (ivST μ4) none (ivST μ6)) h (fun μ4 r5 μ6 z2 z3 h => ?_) (fun j1 hj1 h => ?_)
  · obtain ⟨rfl, rfl⟩ := iv_retE h
    exact ⟨1, rfl⟩
  · rcases iv_iteE h with ⟨c7, h⟩ | ⟨c7, h⟩
    · refine iv_Ret.ifT (t := 36) rfl (decide_eq_true c7) rfl ?_
      exact hj1 μ _ _ (ivR 3) (ivI p1) h
    · refine iv_Ret.ifF (t := 7) rfl (decide_eq_false c7) rfl ?_
      refine iv_Ret.stl [8, 11, 13] (ls' := [ivR 3, ivI p1]) (st' := [ivI 96, ivI (μ 3 1)]) (w' := (135, μ, iv_rho)) rfl ?_
      rcases iv_iteE h with ⟨c8, h⟩ | ⟨c8, h⟩
      · refine iv_Ret.icT (t := 36) rfl (decide_eq_true c8) rfl ?_
        exact hj1 μ _ _ (ivR 3) (ivI p1) h
      · refine iv_Ret.icF (t := 16) rfl (decide_eq_false c8) rfl ?_
        refine iv_Ret.stl [17, 20] (ls' := [ivR 3, ivI p1]) (st' := [ivR 4]) (w' := (135, μ, iv_rho)) rfl ?_
        refine iv_Ret.stl [21, 24, 25] (ls' := [ivR 3, ivI p1]) (st' := [ivI p1, ivI (μ 3 1), ivR 4]) (w' := (135, μ, iv_rho)) rfl ?_
        obtain ⟨c9, h⟩ := iv_ckE h
        refine iv_Ret.iast (len := 96) rfl rfl rfl rfl c9.1 c9.2 ?_
        show iv_Ret L 64 26 [ivR 3, ivI p1] [] (ivST (iv_upd μ 4 (μ 3 1).toNat p1)) none (ivST μ')
        refine iv_Ret.stl [27, 28, 31, 32, 33, 36] (ls' := [ivR 3, ivI p1]) (st' := []) (w' := (135, (iv_upd (iv_upd μ 4 (μ 3 1).toNat p1) 3 1 (iv_wr (((iv_upd μ 4 (μ 3 1).toNat p1) 3 1) + 1))), iv_rho)) rfl ?_
        exact hj1 (iv_upd (iv_upd μ 4 (μ 3 1).toNat p1) 3 1 (iv_wr (((iv_upd μ 4 (μ 3 1).toNat p1) 3 1) + 1))) _ _ (ivR 3) (ivI p1) h
theorem T_lp_X9_write_36 (L : Nat) (l2 : Int)    : ∀ (n : Nat) (l4 : Int) (μ : ivM) (r : Int) (μ' : ivM) (d1 : ivV) (d3 : ivV), lp_X9_write_36 l2 n l4 μ = some (r, μ') → iv_Ret L 67 36 [ivR 2, d1, ivJ l2, d3, ivI l4] [] (ivST μ) (some (ivI r)) (ivST μ') := by
  intro n
  induction n with
  | zero => intro l4 μ r μ' d1 d3 h; unfold lp_X9_write_36 at h; cases h
  | succ n ih =>
    intro l4 μ r μ' d1 d3 h
    unfold lp_X9_write_36 at h
    refine iv_Ret.stl [38] (ls' := [ivR 2, d1, ivJ l2, d3, ivI l4]) (st' := [ivI l4]) (w' := (135, μ, iv_rho)) rfl ?_
    rcases iv_iteE h with ⟨c13, h⟩ | ⟨c13, h⟩
    · refine iv_Ret.ifT (t := 66) rfl (decide_eq_true c13) rfl ?_
      refine iv_Ret.stl [67, 70] (ls' := [ivR 2, d1, ivJ l2, d3, ivI l4]) (st' := [ivR 3]) (w' := (135, μ, iv_rho)) rfl ?_
      refine iv_Ret.stl [73] (ls' := [ivR 2, d1, ivJ l2, d3, ivI l4]) (st' := [ivI (μ 3 1)]) (w' := (135, μ, iv_rho)) rfl ?_
      obtain ⟨rfl, rfl⟩ := iv_retE h
      exact ⟨1, rfl⟩
    · refine iv_Ret.ifF (t := 41) rfl (decide_eq_false c13) rfl ?_
      refine iv_Ret.stl [42, 45] (ls' := [ivR 2, d1, ivJ l2, d3, ivI l4]) (st' := [ivR 3]) (w' := (135, μ, iv_rho)) rfl ?_
      refine iv_Ret.stl [46, 48, 50, 51, 52, 53, 56, 57] (ls' := [ivR 2, d1, ivJ l2, d3, ivI l4]) (st' := [ivI (iv_and (iv_wr (iv_lushr l2 (iv_wr (8 * l4)))) 255), ivR 3]) (w' := (135, μ, iv_rho)) rfl ?_
      obtain ⟨r14, μ15, e16, h⟩ := iv_bndE h
      refine iv_Ret.callv rfl rfl rfl (T_X8_append L (iv_and (iv_wr (iv_lushr l2 (iv_wr (8 * l4)))) 255) e16) ?_
      show iv_Ret L 67 60 [ivR 2, d1, ivJ l2, d3, ivI l4] [] (ivST μ15) (some (ivI r)) (ivST μ')
      refine iv_Ret.stl [63, 36] (ls' := [ivR 2, d1, ivJ l2, (iv_un d3), ivI (iv_wr (l4 + (-1)))]) (st' := []) (w' := (135, μ15, iv_rho)) rfl ?_
      exact ih (iv_wr (l4 + (-1))) μ15 _ _ d1 (iv_un d3) h
theorem T_X9_write (L : Nat) (p1 : Int) (p2 : Int)  {μ μ' : ivM} {r : Int} (h : f_X9_write p1 p2 μ = some (r, μ')) : iv_Ret L 67 0 [ivR 2, ivI p1, ivJ p2, ivU, ivU] [] (ivST μ) (some (ivI r)) (ivST μ') := by
  unfold f_X9_write at h
  refine iv_Ret.stl [1, 2] (ls' := [ivR 2, ivI p1, ivJ p2, ivU, ivU]) (st' := [ivI 1, ivI p1]) (w' := (135, μ, iv_rho)) rfl ?_
  refine iv_letE (fun j1 => ∀ (μ7 : ivM) (r8 : Int) (μ9 : ivM) (z2 : ivV) (z3 : ivV) (z4 : ivV) (z5 : ivV) (z6 : ivV), j1 μ7 = some (r8, μ9) → iv_Ret L 67 11 [z2, z3, z4, z5, z6] [] (ivST μ7) (some (ivI r8)) (ivST μ9)) h (fun μ7 r8 μ9 z2 z3 z4 z5 z6 h => ?_) (fun j1 hj1 h => ?_)
  · refine iv_Ret.stl [13] (ls' := [z2, z3, z4, z5, z6]) (st' := [ivI (-2)]) (w' := (135, μ7, iv_rho)) rfl ?_
    obtain ⟨rfl, rfl⟩ := iv_retE h
    exact ⟨1, rfl⟩
  · rcases iv_iteE h with ⟨c10, h⟩ | ⟨c10, h⟩
    · refine iv_Ret.icT (t := 11) rfl (decide_eq_true c10) rfl ?_
      exact hj1 μ _ _ (ivR 2) (ivI p1) (ivJ p2) ivU ivU h
    · refine iv_Ret.icF (t := 5) rfl (decide_eq_false c10) rfl ?_
      refine iv_Ret.stl [6, 8] (ls' := [ivR 2, ivI p1, ivJ p2, ivU, ivU]) (st' := [ivI 8, ivI p1]) (w' := (135, μ, iv_rho)) rfl ?_
      rcases iv_iteE h with ⟨c11, h⟩ | ⟨c11, h⟩
      · refine iv_Ret.icT (t := 14) rfl (decide_eq_true c11) rfl ?_
        refine iv_Ret.stl [15, 18] (ls' := [ivR 2, ivI p1, ivJ p2, ivU, ivU]) (st' := [ivR 3]) (w' := (135, μ, iv_rho)) rfl ?_
        refine iv_Ret.stl [21, 22, 23, 25] (ls' := [ivR 2, ivI p1, ivJ p2, ivU, ivU]) (st' := [ivI 96, ivI (iv_wr ((μ 3 1) + p1))]) (w' := (135, μ, iv_rho)) rfl ?_
        rcases iv_iteE h with ⟨c12, h⟩ | ⟨c12, h⟩
        · refine iv_Ret.icT (t := 31) rfl (decide_eq_true c12) rfl ?_
          refine iv_Ret.stl [32, 33, 34, 36] (ls' := [ivR 2, ivI p1, ivJ p2, ivU, ivI (iv_wr (p1 - 1))]) (st' := []) (w' := (135, μ, iv_rho)) rfl ?_
          exact T_lp_X9_write_36 L p2 iv_fuel (iv_wr (p1 - 1)) μ _ _ (ivI p1) ivU h
        · refine iv_Ret.icF (t := 28) rfl (decide_eq_false c12) rfl ?_
          refine iv_Ret.stl [30] (ls' := [ivR 2, ivI p1, ivJ p2, ivU, ivU]) (st' := [ivI (-4)]) (w' := (135, μ, iv_rho)) rfl ?_
          obtain ⟨rfl, rfl⟩ := iv_retE h
          exact ⟨1, rfl⟩
      · refine iv_Ret.icF (t := 11) rfl (decide_eq_false c11) rfl ?_
        exact hj1 μ _ _ (ivR 2) (ivI p1) (ivJ p2) ivU ivU h
theorem T_X9_wipe (L : Nat)   {μ μ' : ivM} {r : Int} (h : f_X9_wipe  μ = some (r, μ')) : iv_Ret L 68 0 [ivR 2, ivU] [] (ivST μ) (some (ivI r)) (ivST μ') := by
  unfold f_X9_wipe at h
  refine iv_Ret.stl [1, 4] (ls' := [ivR 2, ivU]) (st' := [ivR 3]) (w' := (135, μ, iv_rho)) rfl ?_
  refine iv_Ret.stl [7, 8, 9, 12] (ls' := [ivR 2, ivI (μ 3 1)]) (st' := [ivR 3]) (w' := (135, μ, iv_rho)) rfl ?_
  refine iv_Ret.stl [13, 16, 17] (ls' := [ivR 2, ivI (μ 3 1)]) (st' := [ivI (μ 3 1)]) (w' := (135, (iv_upd μ 3 1 0), iv_rho)) rfl ?_
  obtain ⟨rfl, rfl⟩ := iv_retE h
  exact ⟨1, rfl⟩
theorem T_X9_fault (L : Nat)   {μ μ' : ivM} {r : Int} (h : f_X9_fault  μ = some (r, μ')) : iv_Ret L 69 0 [ivR 2] [] (ivST μ) (some (ivI r)) (ivST μ') := by
  unfold f_X9_fault at h
  refine iv_Ret.stl [1, 4] (ls' := [ivR 2]) (st' := [ivR 5]) (w' := (135, μ, iv_rho)) rfl ?_
  refine iv_Ret.stl [5, 8] (ls' := [ivR 2]) (st' := [ivR 3, ivR 5]) (w' := (135, μ, iv_rho)) rfl ?_
  obtain ⟨r1, μ2, e3, h⟩ := iv_bndE h
  refine iv_Ret.callv rfl rfl rfl (T_X7_faultOf L  e3) ?_
  show iv_Ret L 69 11 [ivR 2] [ivI r1] (ivST μ2) (some (ivI r)) (ivST μ')
  obtain ⟨rfl, rfl⟩ := iv_retE h
  exact ⟨1, rfl⟩
theorem T_X9_slotAt (L : Nat) (p1 : Int)  {μ μ' : ivM} {r : Int} (h : f_X9_slotAt p1 μ = some (r, μ')) : iv_Ret L 101 0 [ivR 2, ivI p1] [] (ivST μ) (some (ivR r.toNat)) (ivST μ') := by
  unfold f_X9_slotAt at h
  refine iv_Ret.stl [1] (ls' := [ivR 2, ivI p1]) (st' := [ivI p1]) (w' := (135, μ, iv_rho)) rfl ?_
  refine iv_letE (fun j1 => ∀ (v4 : Nat) (μ5 : ivM) (r6 : Int) (μ7 : ivM) (z2 : ivV) (z3 : ivV), j1 v4 μ5 = some (r6, μ7) → iv_Ret L 101 19 [z2, z3] [ivR v4] (ivST μ5) (some (ivR r6.toNat)) (ivST μ7)) h (fun v4 μ5 r6 μ7 z2 z3 h => ?_) (fun j1 hj1 h => ?_)
  · obtain ⟨rfl, rfl⟩ := iv_retE h
    exact ⟨1, rfl⟩
  · refine iv_letE (fun j8 => ∀ (μ11 : ivM) (r12 : Int) (μ13 : ivM) (z9 : ivV) (z10 : ivV), j8 μ11 = some (r12, μ13) → iv_Ret L 101 18 [z9, z10] [] (ivST μ11) (some (ivR r12.toNat)) (ivST μ13)) h (fun μ11 r12 μ13 z9 z10 h => ?_) (fun j8 hj8 h => ?_)
    · refine iv_Ret.stl [19] (ls' := [z9, z10]) (st' := [ivR 0]) (w' := (135, μ11, iv_rho)) rfl ?_
      exact hj1 0 μ11 _ _ z9 z10 h
    · rcases iv_iteE h with ⟨c14, h⟩ | ⟨c14, h⟩
      · refine iv_Ret.ifT (t := 18) rfl (decide_eq_true c14) rfl ?_
        exact hj8 μ _ _ (ivR 2) (ivI p1) h
      · refine iv_Ret.ifF (t := 4) rfl (decide_eq_false c14) rfl ?_
        refine iv_Ret.stl [5, 6] (ls' := [ivR 2, ivI p1]) (st' := [ivI 2, ivI p1]) (w' := (135, μ, iv_rho)) rfl ?_
        rcases iv_iteE h with ⟨c15, h⟩ | ⟨c15, h⟩
        · refine iv_Ret.icT (t := 18) rfl (decide_eq_true c15) rfl ?_
          exact hj8 μ _ _ (ivR 2) (ivI p1) h
        · refine iv_Ret.icF (t := 9) rfl (decide_eq_false c15) rfl ?_
          refine iv_Ret.stl [10, 13] (ls' := [ivR 2, ivI p1]) (st' := [ivR 15]) (w' := (135, μ, iv_rho)) rfl ?_
          refine iv_Ret.stl [14] (ls' := [ivR 2, ivI p1]) (st' := [ivI p1, ivR 15]) (w' := (135, μ, iv_rho)) rfl ?_
          obtain ⟨c16, h⟩ := iv_ckE h
          refine iv_Ret.aald (len := 2) (y := (16 + 4 * p1.toNat)) rfl rfl rfl rfl c16.1 c16.2 (iv_rho_15 c16) ?_
          show iv_Ret L 101 15 [ivR 2, ivI p1] [ivR (16 + 4 * p1.toNat)] (ivST μ) (some (ivR r.toNat)) (ivST μ')
          refine iv_Ret.stl [19] (ls' := [ivR 2, ivI p1]) (st' := [ivR (16 + 4 * p1.toNat)]) (w' := (135, μ, iv_rho)) rfl ?_
          exact hj1 (16 + 4 * p1.toNat) μ _ _ (ivR 2) (ivI p1) h
theorem T_lp_X9_house_43 (L : Nat)   {k69 : ivM → Option (Int × ivM)} (hk69 : ∀  (μ : ivM) (r : Int) (μ' : ivM) (d1 : ivV) (d2 : ivV), k69 μ = some (r, μ') → iv_Ret L 70 69 [ivR 2, d1, d2] [] (ivST μ) (some (ivI r)) (ivST μ')) : ∀ (n : Nat) (l1 : Int) (μ : ivM) (r : Int) (μ' : ivM) (d2 : ivV), lp_X9_house_43 k69 n l1 μ = some (r, μ') → iv_Ret L 70 43 [ivR 2, ivI l1, d2] [] (ivST μ) (some (ivI r)) (ivST μ') := by
  intro n
  induction n with
  | zero => intro l1 μ r μ' d2 h; unfold lp_X9_house_43 at h; cases h
  | succ n ih =>
    intro l1 μ r μ' d2 h
    unfold lp_X9_house_43 at h
    refine iv_Ret.stl [44, 45] (ls' := [ivR 2, ivI l1, d2]) (st' := [ivI 2, ivI l1]) (w' := (135, μ, iv_rho)) rfl ?_
    rcases iv_iteE h with ⟨c11, h⟩ | ⟨c11, h⟩
    · refine iv_Ret.icT (t := 69) rfl (decide_eq_true c11) rfl ?_
      exact hk69 μ _ _ (ivI l1) d2 h
    · refine iv_Ret.icF (t := 48) rfl (decide_eq_false c11) rfl ?_
      refine iv_Ret.stl [49, 50] (ls' := [ivR 2, ivI l1, d2]) (st' := [ivI l1, ivR 2]) (w' := (135, μ, iv_rho)) rfl ?_
      obtain ⟨r12, μ13, e14, h⟩ := iv_bndE h
      refine iv_Ret.callv rfl rfl rfl (T_X9_slotAt L l1 e14) ?_
      show iv_Ret L 70 53 [ivR 2, ivI l1, d2] [ivR (r12.toNat)] (ivST μ13) (some (ivI r)) (ivST μ')
      refine iv_Ret.stl [54, 55] (ls' := [ivR 2, ivI l1, ivR (r12.toNat)]) (st' := [ivR (r12.toNat)]) (w' := (135, μ13, iv_rho)) rfl ?_
      refine iv_letE (fun j15 => ∀ (μ17 : ivM) (r18 : Int) (μ19 : ivM) (z16 : ivV), j15 μ17 = some (r18, μ19) → iv_Ret L 70 63 [ivR 2, ivI l1, z16] [] (ivST μ17) (some (ivI r18)) (ivST μ19)) h (fun μ17 r18 μ19 z16 h => ?_) (fun j15 hj15 h => ?_)
      · refine iv_Ret.stl [66, 43] (ls' := [ivR 2, ivI (iv_wr (l1 + 1)), z16]) (st' := []) (w' := (135, μ17, iv_rho)) rfl ?_
        exact ih (iv_wr (l1 + 1)) μ17 _ _ z16 h
      · rcases iv_iteE h with ⟨c20, h⟩ | ⟨c20, h⟩
        · refine iv_Ret.nuT (t := 63) rfl c20 rfl ?_
          exact hj15 μ13 _ _ (ivR (r12.toNat)) h
        · obtain ⟨c21, h⟩ := iv_ckE h
          refine iv_Ret.nuF (t := 58) rfl c20 rfl ?_
          refine iv_Ret.stl [59, 60] (ls' := [ivR 2, ivI l1, ivR (r12.toNat)]) (st' := [ivI 0, ivR (r12.toNat)]) (w' := (135, μ13, iv_rho)) rfl ?_
          refine iv_Ret.puti rfl (iv_mm_lay L c21) (iv_mm_n c21) rfl ?_
          show iv_Ret L 70 63 [ivR 2, ivI l1, ivR (r12.toNat)] [] (ivST (iv_upd μ13 (r12.toNat) 4 0)) (some (ivI r)) (ivST μ')
          exact hj15 (iv_upd μ13 (r12.toNat) 4 0) _ _ (ivR (r12.toNat)) h
theorem T_X9_house (L : Nat)   {μ μ' : ivM} {r : Int} (h : f_X9_house  μ = some (r, μ')) : iv_Ret L 70 0 [ivR 2, ivU, ivU] [] (ivST μ) (some (ivI r)) (ivST μ') := by
  unfold f_X9_house at h
  refine iv_Ret.stl [1, 4] (ls' := [ivR 2, ivU, ivU]) (st' := [ivR 5]) (w' := (135, μ, iv_rho)) rfl ?_
  refine iv_Ret.stl [5, 8] (ls' := [ivR 2, ivU, ivU]) (st' := [ivR 3, ivR 5]) (w' := (135, μ, iv_rho)) rfl ?_
  obtain ⟨r1, μ2, e3, h⟩ := iv_bndE h
  refine iv_Ret.callv rfl rfl rfl (T_X7_faultOf L  e3) ?_
  show iv_Ret L 70 11 [ivR 2, ivU, ivU] [ivI r1] (ivST μ2) (some (ivI r)) (ivST μ')
  refine iv_Ret.stl [13] (ls' := [ivR 2, ivU, ivU]) (st' := [ivI (-9), ivI r1]) (w' := (135, μ2, iv_rho)) rfl ?_
  rcases iv_iteE h with ⟨c4, h⟩ | ⟨c4, h⟩
  · refine iv_Ret.icT (t := 19) rfl (decide_eq_true c4) rfl ?_
    refine iv_Ret.stl [20, 23] (ls' := [ivR 2, ivU, ivU]) (st' := [ivR 9]) (w' := (135, μ2, iv_rho)) rfl ?_
    refine iv_Ret.stl [24, 27] (ls' := [ivR 2, ivU, ivU]) (st' := [ivR 5, ivR 9]) (w' := (135, μ2, iv_rho)) rfl ?_
    obtain ⟨r5, μ6, e7, h⟩ := iv_bndE h
    refine iv_Ret.callv rfl rfl rfl (T_X1_settle L  e7) ?_
    show iv_Ret L 70 30 [ivR 2, ivU, ivU] [] (ivST μ6) (some (ivI r)) (ivST μ')
    refine iv_Ret.stl [31, 34] (ls' := [ivR 2, ivU, ivU]) (st' := [ivR 11]) (w' := (135, μ6, iv_rho)) rfl ?_
    refine iv_Ret.stl [35, 38] (ls' := [ivR 2, ivU, ivU]) (st' := [ivR 5, ivR 11]) (w' := (135, μ6, iv_rho)) rfl ?_
    obtain ⟨r8, μ9, e10, h⟩ := iv_bndE h
    refine iv_Ret.callv rfl rfl rfl (T_X2_begin L  e10) ?_
    show iv_Ret L 70 41 [ivR 2, ivU, ivU] [] (ivST μ9) (some (ivI r)) (ivST μ')
    refine iv_Ret.stl [42, 43] (ls' := [ivR 2, ivI 0, ivU]) (st' := []) (w' := (135, μ9, iv_rho)) rfl ?_
    refine T_lp_X9_house_43 L  (fun μ24 r25 μ26 z22 z23 h => ?_) iv_fuel 0 μ9 _ _ ivU h
    refine iv_Ret.stl [71, 72, 75] (ls' := [ivR 2, z22, z23]) (st' := [ivR 9, ivI 10]) (w' := (135, μ24, iv_rho)) rfl ?_
    refine iv_Ret.stl [78, 79, 80, 83] (ls' := [ivR 2, z22, z23]) (st' := [ivR 9, ivI (iv_wr (10 * (μ24 9 2)))]) (w' := (135, μ24, iv_rho)) rfl ?_
    refine iv_Ret.stl [86, 87] (ls' := [ivR 2, z22, z23]) (st' := [ivI (iv_wr ((iv_wr (10 * (μ24 9 2))) + (μ24 9 3)))]) (w' := (135, μ24, iv_rho)) rfl ?_
    obtain ⟨rfl, rfl⟩ := iv_retE h
    exact ⟨1, rfl⟩
  · refine iv_Ret.icF (t := 16) rfl (decide_eq_false c4) rfl ?_
    refine iv_Ret.stl [18] (ls' := [ivR 2, ivU, ivU]) (st' := [ivI (-3)]) (w' := (135, μ2, iv_rho)) rfl ?_
    obtain ⟨rfl, rfl⟩ := iv_retE h
    exact ⟨1, rfl⟩
theorem T_X9_sound (L : Nat) (p1 : Int) (p2 : Int)  {μ μ' : ivM} {r : Int} (h : f_X9_sound p1 p2 μ = some (r, μ')) : iv_Ret L 71 0 [ivR 2, ivI p1, ivI p2] [] (ivST μ) (some (ivI r)) (ivST μ') := by
  unfold f_X9_sound at h
  refine iv_Ret.stl [1, 4] (ls' := [ivR 2, ivI p1, ivI p2]) (st' := [ivR 9]) (w' := (135, μ, iv_rho)) rfl ?_
  refine iv_Ret.stl [5] (ls' := [ivR 2, ivI p1, ivI p2]) (st' := [ivI p1, ivR 9]) (w' := (135, μ, iv_rho)) rfl ?_
  obtain ⟨r1, μ2, e3, h⟩ := iv_bndE h
  refine iv_Ret.callv rfl rfl rfl (T_X1_hasThing L p1 e3) ?_
  show iv_Ret L 71 8 [ivR 2, ivI p1, ivI p2] [ivI r1] (ivST μ2) (some (ivI r)) (ivST μ')
  rcases iv_iteE h with ⟨c4, h⟩ | ⟨c4, h⟩
  · refine iv_Ret.ifF (t := 11) rfl (decide_eq_false (not_not_intro c4)) rfl ?_
    refine iv_Ret.stl [12] (ls' := [ivR 2, ivI p1, ivI p2]) (st' := [ivI (-1)]) (w' := (135, μ2, iv_rho)) rfl ?_
    obtain ⟨rfl, rfl⟩ := iv_retE h
    exact ⟨1, rfl⟩
  · refine iv_Ret.ifT (t := 13) rfl (decide_eq_true c4) rfl ?_
    refine iv_Ret.stl [14, 17] (ls' := [ivR 2, ivI p1, ivI p2]) (st' := [ivR 11]) (w' := (135, μ2, iv_rho)) rfl ?_
    refine iv_Ret.stl [20] (ls' := [ivR 2, ivI p1, ivI p2]) (st' := [ivR 12]) (w' := (135, μ2, iv_rho)) rfl ?_
    refine iv_Ret.stl [21] (ls' := [ivR 2, ivI p1, ivI p2]) (st' := [ivI p1, ivR 12]) (w' := (135, μ2, iv_rho)) rfl ?_
    obtain ⟨c5, h⟩ := iv_ckE h
    refine iv_Ret.iald (len := 8) rfl rfl rfl c5.1 c5.2 ?_
    show iv_Ret L 71 22 [ivR 2, ivI p1, ivI p2] [ivI (μ2 12 p1.toNat)] (ivST μ2) (some (ivI r)) (ivST μ')
    refine iv_Ret.stl [23] (ls' := [ivR 2, ivI p1, ivI p2]) (st' := [ivI p2, ivI (μ2 12 p1.toNat)]) (w' := (135, μ2, iv_rho)) rfl ?_
    obtain ⟨r6, μ7, e8, h⟩ := iv_bndE h
    refine iv_Ret.calls rfl rfl (T_X3_soundAt L (μ2 12 p1.toNat) p2 e8) ?_
    show iv_Ret L 71 26 [ivR 2, ivI p1, ivI p2] [ivI r6] (ivST μ7) (some (ivI r)) (ivST μ')
    obtain ⟨rfl, rfl⟩ := iv_retE h
    exact ⟨1, rfl⟩
theorem T_X9_off (L : Nat) (p1 : Int) (p2 : Int)  {μ μ' : ivM} {r : Int} (h : f_X9_off p1 p2 μ = some (r, μ')) : iv_Ret L 72 0 [ivR 2, ivI p1, ivI p2] [] (ivST μ) (some (ivI r)) (ivST μ') := by
  unfold f_X9_off at h
  refine iv_Ret.stl [1, 4] (ls' := [ivR 2, ivI p1, ivI p2]) (st' := [ivR 9]) (w' := (135, μ, iv_rho)) rfl ?_
  refine iv_Ret.stl [5] (ls' := [ivR 2, ivI p1, ivI p2]) (st' := [ivI p1, ivR 9]) (w' := (135, μ, iv_rho)) rfl ?_
  obtain ⟨r1, μ2, e3, h⟩ := iv_bndE h
  refine iv_Ret.callv rfl rfl rfl (T_X1_hasThing L p1 e3) ?_
  show iv_Ret L 72 8 [ivR 2, ivI p1, ivI p2] [ivI r1] (ivST μ2) (some (ivI r)) (ivST μ')
  refine iv_letE (fun j4 => ∀ (μ8 : ivM) (r9 : Int) (μ10 : ivM) (z5 : ivV) (z6 : ivV) (z7 : ivV), j4 μ8 = some (r9, μ10) → iv_Ret L 72 22 [z5, z6, z7] [] (ivST μ8) (some (ivI r9)) (ivST μ10)) h (fun μ8 r9 μ10 z5 z6 z7 h => ?_) (fun j4 hj4 h => ?_)
  · refine iv_Ret.stl [23] (ls' := [z5, z6, z7]) (st' := [ivI (-1)]) (w' := (135, μ8, iv_rho)) rfl ?_
    obtain ⟨rfl, rfl⟩ := iv_retE h
    exact ⟨1, rfl⟩
  · rcases iv_iteE h with ⟨c11, h⟩ | ⟨c11, h⟩
    · refine iv_Ret.ifT (t := 22) rfl (decide_eq_true c11) rfl ?_
      exact hj4 μ2 _ _ (ivR 2) (ivI p1) (ivI p2) h
    · refine iv_Ret.ifF (t := 11) rfl (decide_eq_false c11) rfl ?_
      refine iv_Ret.stl [12, 15] (ls' := [ivR 2, ivI p1, ivI p2]) (st' := [ivR 9]) (w' := (135, μ2, iv_rho)) rfl ?_
      refine iv_Ret.stl [16] (ls' := [ivR 2, ivI p1, ivI p2]) (st' := [ivI p2, ivR 9]) (w' := (135, μ2, iv_rho)) rfl ?_
      obtain ⟨r12, μ13, e14, h⟩ := iv_bndE h
      refine iv_Ret.callv rfl rfl rfl (T_X1_hasThing L p2 e14) ?_
      show iv_Ret L 72 19 [ivR 2, ivI p1, ivI p2] [ivI r12] (ivST μ13) (some (ivI r)) (ivST μ')
      rcases iv_iteE h with ⟨c15, h⟩ | ⟨c15, h⟩
      · refine iv_Ret.ifF (t := 22) rfl (decide_eq_false (not_not_intro c15)) rfl ?_
        exact hj4 μ13 _ _ (ivR 2) (ivI p1) (ivI p2) h
      · refine iv_Ret.ifT (t := 24) rfl (decide_eq_true c15) rfl ?_
        refine iv_Ret.stl [25, 28] (ls' := [ivR 2, ivI p1, ivI p2]) (st' := [ivR 24]) (w' := (135, μ13, iv_rho)) rfl ?_
        refine iv_Ret.stl [29, 32] (ls' := [ivR 2, ivI p1, ivI p2]) (st' := [ivR 11, ivR 24]) (w' := (135, μ13, iv_rho)) rfl ?_
        refine iv_Ret.stl [35] (ls' := [ivR 2, ivI p1, ivI p2]) (st' := [ivR 12, ivR 24]) (w' := (135, μ13, iv_rho)) rfl ?_
        refine iv_Ret.stl [36] (ls' := [ivR 2, ivI p1, ivI p2]) (st' := [ivI p1, ivR 12, ivR 24]) (w' := (135, μ13, iv_rho)) rfl ?_
        obtain ⟨c16, h⟩ := iv_ckE h
        refine iv_Ret.iald (len := 8) rfl rfl rfl c16.1 c16.2 ?_
        show iv_Ret L 72 37 [ivR 2, ivI p1, ivI p2] [ivI (μ13 12 p1.toNat), ivR 24] (ivST μ13) (some (ivI r)) (ivST μ')
        refine iv_Ret.stl [38, 41] (ls' := [ivR 2, ivI p1, ivI p2]) (st' := [ivR 11, ivI (μ13 12 p1.toNat), ivR 24]) (w' := (135, μ13, iv_rho)) rfl ?_
        refine iv_Ret.stl [44] (ls' := [ivR 2, ivI p1, ivI p2]) (st' := [ivR 12, ivI (μ13 12 p1.toNat), ivR 24]) (w' := (135, μ13, iv_rho)) rfl ?_
        refine iv_Ret.stl [45] (ls' := [ivR 2, ivI p1, ivI p2]) (st' := [ivI p2, ivR 12, ivI (μ13 12 p1.toNat), ivR 24]) (w' := (135, μ13, iv_rho)) rfl ?_
        obtain ⟨c17, h⟩ := iv_ckE h
        refine iv_Ret.iald (len := 8) rfl rfl rfl c17.1 c17.2 ?_
        show iv_Ret L 72 46 [ivR 2, ivI p1, ivI p2] [ivI (μ13 12 p2.toNat), ivI (μ13 12 p1.toNat), ivR 24] (ivST μ13) (some (ivI r)) (ivST μ')
        obtain ⟨r18, μ19, e20, h⟩ := iv_bndE h
        refine iv_Ret.callv rfl rfl rfl (T_X4_between L (μ13 12 p1.toNat) (μ13 12 p2.toNat) e20) ?_
        show iv_Ret L 72 49 [ivR 2, ivI p1, ivI p2] [ivI r18] (ivST μ19) (some (ivI r)) (ivST μ')
        obtain ⟨rfl, rfl⟩ := iv_retE h
        exact ⟨1, rfl⟩
theorem T_lp_X9_nearTo_5 (L : Nat) (l1 : Int) (l2 : Int)    : ∀ (n : Nat) (l3 : Int) (l4 : Int) (μ : ivM) (r : Int) (μ' : ivM), lp_X9_nearTo_5 l1 l2 n l3 l4 μ = some (r, μ') → iv_Ret L 105 5 [ivR 2, ivI l1, ivI l2, ivI l3, ivI l4] [] (ivST μ) (some (ivI r)) (ivST μ') := by
  intro n
  induction n with
  | zero => intro l3 l4 μ r μ' h; unfold lp_X9_nearTo_5 at h; cases h
  | succ n ih =>
    intro l3 l4 μ r μ' h
    unfold lp_X9_nearTo_5 at h
    refine iv_Ret.stl [7, 9] (ls' := [ivR 2, ivI l1, ivI l2, ivI l3, ivI l4]) (st' := [ivI 8, ivI l4]) (w' := (135, μ, iv_rho)) rfl ?_
    rcases iv_iteE h with ⟨c1, h⟩ | ⟨c1, h⟩
    · refine iv_Ret.icT (t := 62) rfl (decide_eq_true c1) rfl ?_
      refine iv_Ret.stl [63] (ls' := [ivR 2, ivI l1, ivI l2, ivI l3, ivI l4]) (st' := [ivI l3]) (w' := (135, μ, iv_rho)) rfl ?_
      obtain ⟨rfl, rfl⟩ := iv_retE h
      exact ⟨1, rfl⟩
    · refine iv_Ret.icF (t := 12) rfl (decide_eq_false c1) rfl ?_
      refine iv_Ret.stl [13, 15] (ls' := [ivR 2, ivI l1, ivI l2, ivI l3, ivI l4]) (st' := [ivI l4, ivI l2]) (w' := (135, μ, iv_rho)) rfl ?_
      obtain ⟨r2, μ3, e4, h⟩ := iv_bndE h
      refine iv_Ret.calls rfl rfl (T_X9_has L l2 l4 e4) ?_
      show iv_Ret L 105 18 [ivR 2, ivI l1, ivI l2, ivI l3, ivI l4] [ivI r2] (ivST μ3) (some (ivI r)) (ivST μ')
      refine iv_letE (fun j5 => ∀ (w6 : Int) (μ7 : ivM) (r8 : Int) (μ9 : ivM), j5 w6 μ7 = some (r8, μ9) → iv_Ret L 105 56 [ivR 2, ivI l1, ivI l2, ivI w6, ivI l4] [] (ivST μ7) (some (ivI r8)) (ivST μ9)) h (fun w6 μ7 r8 μ9 h => ?_) (fun j5 hj5 h => ?_)
      · refine iv_Ret.stl [59, 5] (ls' := [ivR 2, ivI l1, ivI l2, ivI w6, ivI (iv_wr (l4 + 1))]) (st' := []) (w' := (135, μ7, iv_rho)) rfl ?_
        exact ih w6 (iv_wr (l4 + 1)) μ7 _ _ h
      · rcases iv_iteE h with ⟨c10, h⟩ | ⟨c10, h⟩
        · refine iv_Ret.ifT (t := 56) rfl (decide_eq_true c10) rfl ?_
          exact hj5 l3 μ3 _ _ h
        · refine iv_Ret.ifF (t := 21) rfl (decide_eq_false c10) rfl ?_
          refine iv_Ret.stl [22, 25] (ls' := [ivR 2, ivI l1, ivI l2, ivI l3, ivI l4]) (st' := [ivR 24]) (w' := (135, μ3, iv_rho)) rfl ?_
          refine iv_Ret.stl [26, 27, 30] (ls' := [ivR 2, ivI l1, ivI l2, ivI l3, ivI l4]) (st' := [ivR 11, ivI l1, ivR 24]) (w' := (135, μ3, iv_rho)) rfl ?_
          refine iv_Ret.stl [33] (ls' := [ivR 2, ivI l1, ivI l2, ivI l3, ivI l4]) (st' := [ivR 12, ivI l1, ivR 24]) (w' := (135, μ3, iv_rho)) rfl ?_
          refine iv_Ret.stl [35] (ls' := [ivR 2, ivI l1, ivI l2, ivI l3, ivI l4]) (st' := [ivI l4, ivR 12, ivI l1, ivR 24]) (w' := (135, μ3, iv_rho)) rfl ?_
          obtain ⟨c11, h⟩ := iv_ckE h
          refine iv_Ret.iald (len := 8) rfl rfl rfl c11.1 c11.2 ?_
          show iv_Ret L 105 36 [ivR 2, ivI l1, ivI l2, ivI l3, ivI l4] [ivI (μ3 12 l4.toNat), ivI l1, ivR 24] (ivST μ3) (some (ivI r)) (ivST μ')
          obtain ⟨r12, μ13, e14, h⟩ := iv_bndE h
          refine iv_Ret.callv rfl rfl rfl (T_X4_between L l1 (μ3 12 l4.toNat) e14) ?_
          show iv_Ret L 105 39 [ivR 2, ivI l1, ivI l2, ivI l3, ivI l4] [ivI r12] (ivST μ13) (some (ivI r)) (ivST μ')
          refine iv_Ret.stl [40, 43] (ls' := [ivR 2, ivI l1, ivI l2, ivI l3, ivI l4]) (st' := [ivR 9, ivI r12]) (w' := (135, μ13, iv_rho)) rfl ?_
          refine iv_Ret.stl [46] (ls' := [ivR 2, ivI l1, ivI l2, ivI l3, ivI l4]) (st' := [ivI (μ13 9 1), ivI r12]) (w' := (135, μ13, iv_rho)) rfl ?_
          rcases iv_iteE h with ⟨c15, h⟩ | ⟨c15, h⟩
          · refine iv_Ret.icT (t := 56) rfl (decide_eq_true c15) rfl ?_
            exact hj5 l3 μ13 _ _ h
          · refine iv_Ret.icF (t := 49) rfl (decide_eq_false c15) rfl ?_
            refine iv_Ret.stl [50, 51, 53, 54, 55, 56] (ls' := [ivR 2, ivI l1, ivI l2, ivI (iv_or l3 (iv_shl 1 l4)), ivI l4]) (st' := []) (w' := (135, μ13, iv_rho)) rfl ?_
            exact hj5 (iv_or l3 (iv_shl 1 l4)) μ13 _ _ h
theorem T_X9_nearTo (L : Nat) (p1 : Int) (p2 : Int)  {μ μ' : ivM} {r : Int} (h : f_X9_nearTo p1 p2 μ = some (r, μ')) : iv_Ret L 105 0 [ivR 2, ivI p1, ivI p2, ivU, ivU] [] (ivST μ) (some (ivI r)) (ivST μ') := by
  unfold f_X9_nearTo at h
  refine iv_Ret.stl [1, 2, 3, 5] (ls' := [ivR 2, ivI p1, ivI p2, ivI 0, ivI 0]) (st' := []) (w' := (135, μ, iv_rho)) rfl ?_
  exact T_lp_X9_nearTo_5 L p1 p2 iv_fuel 0 0 μ _ _ h
theorem T_X9_near (L : Nat) (p1 : Int)  {μ μ' : ivM} {r : Int} (h : f_X9_near p1 μ = some (r, μ')) : iv_Ret L 73 0 [ivR 2, ivI p1] [] (ivST μ) (some (ivI r)) (ivST μ') := by
  unfold f_X9_near at h
  refine iv_Ret.stl [1, 4] (ls' := [ivR 2, ivI p1]) (st' := [ivR 9]) (w' := (135, μ, iv_rho)) rfl ?_
  refine iv_Ret.stl [5] (ls' := [ivR 2, ivI p1]) (st' := [ivI p1, ivR 9]) (w' := (135, μ, iv_rho)) rfl ?_
  obtain ⟨r1, μ2, e3, h⟩ := iv_bndE h
  refine iv_Ret.callv rfl rfl rfl (T_X1_hasThing L p1 e3) ?_
  show iv_Ret L 73 8 [ivR 2, ivI p1] [ivI r1] (ivST μ2) (some (ivI r)) (ivST μ')
  rcases iv_iteE h with ⟨c4, h⟩ | ⟨c4, h⟩
  · refine iv_Ret.ifF (t := 11) rfl (decide_eq_false (not_not_intro c4)) rfl ?_
    refine iv_Ret.stl [12] (ls' := [ivR 2, ivI p1]) (st' := [ivI (-1)]) (w' := (135, μ2, iv_rho)) rfl ?_
    obtain ⟨rfl, rfl⟩ := iv_retE h
    exact ⟨1, rfl⟩
  · refine iv_Ret.ifT (t := 13) rfl (decide_eq_true c4) rfl ?_
    refine iv_Ret.stl [14, 17] (ls' := [ivR 2, ivI p1]) (st' := [ivR 11]) (w' := (135, μ2, iv_rho)) rfl ?_
    refine iv_Ret.stl [18] (ls' := [ivR 2, ivI p1]) (st' := [ivI p1, ivR 11]) (w' := (135, μ2, iv_rho)) rfl ?_
    obtain ⟨r5, μ6, e7, h⟩ := iv_bndE h
    refine iv_Ret.callv rfl rfl rfl (T_X2_isLive L p1 e7) ?_
    show iv_Ret L 73 21 [ivR 2, ivI p1] [ivI r5] (ivST μ6) (some (ivI r)) (ivST μ')
    rcases iv_iteE h with ⟨c8, h⟩ | ⟨c8, h⟩
    · refine iv_Ret.ifF (t := 24) rfl (decide_eq_false (not_not_intro c8)) rfl ?_
      refine iv_Ret.stl [26] (ls' := [ivR 2, ivI p1]) (st' := [ivI (-3)]) (w' := (135, μ6, iv_rho)) rfl ?_
      obtain ⟨rfl, rfl⟩ := iv_retE h
      exact ⟨1, rfl⟩
    · refine iv_Ret.ifT (t := 27) rfl (decide_eq_true c8) rfl ?_
      refine iv_Ret.stl [28, 29, 32] (ls' := [ivR 2, ivI p1]) (st' := [ivR 11, ivR 2]) (w' := (135, μ6, iv_rho)) rfl ?_
      refine iv_Ret.stl [35] (ls' := [ivR 2, ivI p1]) (st' := [ivR 12, ivR 2]) (w' := (135, μ6, iv_rho)) rfl ?_
      refine iv_Ret.stl [36] (ls' := [ivR 2, ivI p1]) (st' := [ivI p1, ivR 12, ivR 2]) (w' := (135, μ6, iv_rho)) rfl ?_
      obtain ⟨c9, h⟩ := iv_ckE h
      refine iv_Ret.iald (len := 8) rfl rfl rfl c9.1 c9.2 ?_
      show iv_Ret L 73 37 [ivR 2, ivI p1] [ivI (μ6 12 p1.toNat), ivR 2] (ivST μ6) (some (ivI r)) (ivST μ')
      refine iv_Ret.stl [38, 41] (ls' := [ivR 2, ivI p1]) (st' := [ivR 11, ivI (μ6 12 p1.toNat), ivR 2]) (w' := (135, μ6, iv_rho)) rfl ?_
      obtain ⟨r10, μ11, e12, h⟩ := iv_bndE h
      refine iv_Ret.callv rfl rfl rfl (T_X2_liveOnes L  e12) ?_
      show iv_Ret L 73 44 [ivR 2, ivI p1] [ivI r10, ivI (μ6 12 p1.toNat), ivR 2] (ivST μ11) (some (ivI r)) (ivST μ')
      refine iv_Ret.stl [45, 46, 47, 48, 49, 50] (ls' := [ivR 2, ivI p1]) (st' := [ivI (iv_and r10 (iv_xor (iv_shl 1 p1) (-1))), ivI (μ6 12 p1.toNat), ivR 2]) (w' := (135, μ11, iv_rho)) rfl ?_
      obtain ⟨r13, μ14, e15, h⟩ := iv_bndE h
      refine iv_Ret.callv rfl rfl rfl (T_X9_nearTo L (μ6 12 p1.toNat) (iv_and r10 (iv_xor (iv_shl 1 p1) (-1))) e15) ?_
      show iv_Ret L 73 53 [ivR 2, ivI p1] [ivI r13] (ivST μ14) (some (ivI r)) (ivST μ')
      obtain ⟨rfl, rfl⟩ := iv_retE h
      exact ⟨1, rfl⟩
theorem T_X9_knows (L : Nat) (p1 : Int)  {μ μ' : ivM} {r : Int} (h : f_X9_knows p1 μ = some (r, μ')) : iv_Ret L 74 0 [ivR 2, ivI p1] [] (ivST μ) (some (ivI r)) (ivST μ') := by
  unfold f_X9_knows at h
  refine iv_Ret.stl [1, 4] (ls' := [ivR 2, ivI p1]) (st' := [ivR 9]) (w' := (135, μ, iv_rho)) rfl ?_
  refine iv_Ret.stl [5] (ls' := [ivR 2, ivI p1]) (st' := [ivI p1, ivR 9]) (w' := (135, μ, iv_rho)) rfl ?_
  obtain ⟨r1, μ2, e3, h⟩ := iv_bndE h
  refine iv_Ret.callv rfl rfl rfl (T_X1_hasThing L p1 e3) ?_
  show iv_Ret L 74 8 [ivR 2, ivI p1] [ivI r1] (ivST μ2) (some (ivI r)) (ivST μ')
  refine iv_letE (fun j4 => ∀ (v7 : Int) (μ8 : ivM) (r9 : Int) (μ10 : ivM) (z5 : ivV) (z6 : ivV), j4 v7 μ8 = some (r9, μ10) → iv_Ret L 74 24 [z5, z6] [ivI v7] (ivST μ8) (some (ivI r9)) (ivST μ10)) h (fun v7 μ8 r9 μ10 z5 z6 h => ?_) (fun j4 hj4 h => ?_)
  · obtain ⟨rfl, rfl⟩ := iv_retE h
    exact ⟨1, rfl⟩
  · rcases iv_iteE h with ⟨c11, h⟩ | ⟨c11, h⟩
    · refine iv_Ret.ifT (t := 23) rfl (decide_eq_true c11) rfl ?_
      refine iv_Ret.stl [24] (ls' := [ivR 2, ivI p1]) (st' := [ivI (-1)]) (w' := (135, μ2, iv_rho)) rfl ?_
      exact hj4 (-1) μ2 _ _ (ivR 2) (ivI p1) h
    · refine iv_Ret.ifF (t := 11) rfl (decide_eq_false c11) rfl ?_
      refine iv_Ret.stl [12, 15] (ls' := [ivR 2, ivI p1]) (st' := [ivR 11]) (w' := (135, μ2, iv_rho)) rfl ?_
      refine iv_Ret.stl [18] (ls' := [ivR 2, ivI p1]) (st' := [ivR 14]) (w' := (135, μ2, iv_rho)) rfl ?_
      refine iv_Ret.stl [19] (ls' := [ivR 2, ivI p1]) (st' := [ivI p1, ivR 14]) (w' := (135, μ2, iv_rho)) rfl ?_
      obtain ⟨c12, h⟩ := iv_ckE h
      refine iv_Ret.iald (len := 8) rfl rfl rfl c12.1 c12.2 ?_
      show iv_Ret L 74 20 [ivR 2, ivI p1] [ivI (μ2 14 p1.toNat)] (ivST μ2) (some (ivI r)) (ivST μ')
      refine iv_Ret.stl [24] (ls' := [ivR 2, ivI p1]) (st' := [ivI (μ2 14 p1.toNat)]) (w' := (135, μ2, iv_rho)) rfl ?_
      exact hj4 (μ2 14 p1.toNat) μ2 _ _ (ivR 2) (ivI p1) h
theorem T_X9_live (L : Nat)   {μ μ' : ivM} {r : Int} (h : f_X9_live  μ = some (r, μ')) : iv_Ret L 75 0 [ivR 2] [] (ivST μ) (some (ivI r)) (ivST μ') := by
  unfold f_X9_live at h
  refine iv_Ret.stl [1, 4] (ls' := [ivR 2]) (st' := [ivR 11]) (w' := (135, μ, iv_rho)) rfl ?_
  obtain ⟨r1, μ2, e3, h⟩ := iv_bndE h
  refine iv_Ret.callv rfl rfl rfl (T_X2_liveOnes L  e3) ?_
  show iv_Ret L 75 7 [ivR 2] [ivI r1] (ivST μ2) (some (ivI r)) (ivST μ')
  obtain ⟨rfl, rfl⟩ := iv_retE h
  exact ⟨1, rfl⟩
theorem T_X9_days (L : Nat) (p1 : Int)  {μ μ' : ivM} {r : Int} (h : f_X9_days p1 μ = some (r, μ')) : iv_Ret L 76 0 [ivR 2, ivI p1] [] (ivST μ) (some (ivI r)) (ivST μ') := by
  unfold f_X9_days at h
  refine iv_Ret.stl [1, 2] (ls' := [ivR 2, ivI p1]) (st' := [ivI 1, ivI p1]) (w' := (135, μ, iv_rho)) rfl ?_
  refine iv_letE (fun j1 => ∀ (μ4 : ivM) (r5 : Int) (μ6 : ivM) (z2 : ivV) (z3 : ivV), j1 μ4 = some (r5, μ6) → iv_Ret L 76 11 [z2, z3] [] (ivST μ4) (some (ivI r5)) (ivST μ6)) h (fun μ4 r5 μ6 z2 z3 h => ?_) (fun j1 hj1 h => ?_)
  · refine iv_Ret.stl [13] (ls' := [z2, z3]) (st' := [ivI (-2)]) (w' := (135, μ4, iv_rho)) rfl ?_
    obtain ⟨rfl, rfl⟩ := iv_retE h
    exact ⟨1, rfl⟩
  · rcases iv_iteE h with ⟨c7, h⟩ | ⟨c7, h⟩
    · refine iv_Ret.icT (t := 11) rfl (decide_eq_true c7) rfl ?_
      exact hj1 μ _ _ (ivR 2) (ivI p1) h
    · refine iv_Ret.icF (t := 5) rfl (decide_eq_false c7) rfl ?_
      refine iv_Ret.stl [6, 8] (ls' := [ivR 2, ivI p1]) (st' := [ivI 99, ivI p1]) (w' := (135, μ, iv_rho)) rfl ?_
      rcases iv_iteE h with ⟨c8, h⟩ | ⟨c8, h⟩
      · refine iv_Ret.icT (t := 14) rfl (decide_eq_true c8) rfl ?_
        refine iv_Ret.stl [15, 18] (ls' := [ivR 2, ivI p1]) (st' := [ivR 11]) (w' := (135, μ, iv_rho)) rfl ?_
        refine iv_Ret.stl [19] (ls' := [ivR 2, ivI p1]) (st' := [ivI p1, ivR 11]) (w' := (135, μ, iv_rho)) rfl ?_
        obtain ⟨r9, μ10, e11, h⟩ := iv_bndE h
        refine iv_Ret.callv rfl rfl rfl (T_X2_pass L p1 e11) ?_
        show iv_Ret L 76 22 [ivR 2, ivI p1] [ivI r9] (ivST μ10) (some (ivI r)) (ivST μ')
        obtain ⟨rfl, rfl⟩ := iv_retE h
        exact ⟨1, rfl⟩
      · refine iv_Ret.icF (t := 11) rfl (decide_eq_false c8) rfl ?_
        exact hj1 μ _ _ (ivR 2) (ivI p1) h
theorem T_X9_fades (L : Nat) (p1 : Int)  {μ μ' : ivM} {r : Int} (h : f_X9_fades p1 μ = some (r, μ')) : iv_Ret L 77 0 [ivR 2, ivI p1] [] (ivST μ) (some (ivI r)) (ivST μ') := by
  unfold f_X9_fades at h
  refine iv_Ret.stl [1, 4] (ls' := [ivR 2, ivI p1]) (st' := [ivR 9]) (w' := (135, μ, iv_rho)) rfl ?_
  refine iv_Ret.stl [5] (ls' := [ivR 2, ivI p1]) (st' := [ivI p1, ivR 9]) (w' := (135, μ, iv_rho)) rfl ?_
  obtain ⟨r1, μ2, e3, h⟩ := iv_bndE h
  refine iv_Ret.callv rfl rfl rfl (T_X1_hasThing L p1 e3) ?_
  show iv_Ret L 77 8 [ivR 2, ivI p1] [ivI r1] (ivST μ2) (some (ivI r)) (ivST μ')
  rcases iv_iteE h with ⟨c4, h⟩ | ⟨c4, h⟩
  · refine iv_Ret.ifF (t := 11) rfl (decide_eq_false (not_not_intro c4)) rfl ?_
    refine iv_Ret.stl [12] (ls' := [ivR 2, ivI p1]) (st' := [ivI (-1)]) (w' := (135, μ2, iv_rho)) rfl ?_
    obtain ⟨rfl, rfl⟩ := iv_retE h
    exact ⟨1, rfl⟩
  · refine iv_Ret.ifT (t := 13) rfl (decide_eq_true c4) rfl ?_
    refine iv_Ret.stl [14, 17] (ls' := [ivR 2, ivI p1]) (st' := [ivR 11]) (w' := (135, μ2, iv_rho)) rfl ?_
    refine iv_Ret.stl [18] (ls' := [ivR 2, ivI p1]) (st' := [ivI p1, ivR 11]) (w' := (135, μ2, iv_rho)) rfl ?_
    obtain ⟨r5, μ6, e7, h⟩ := iv_bndE h
    refine iv_Ret.callv rfl rfl rfl (T_X2_isLive L p1 e7) ?_
    show iv_Ret L 77 21 [ivR 2, ivI p1] [ivI r5] (ivST μ6) (some (ivI r)) (ivST μ')
    rcases iv_iteE h with ⟨c8, h⟩ | ⟨c8, h⟩
    · refine iv_Ret.ifF (t := 24) rfl (decide_eq_false (not_not_intro c8)) rfl ?_
      refine iv_Ret.stl [26] (ls' := [ivR 2, ivI p1]) (st' := [ivI (-3)]) (w' := (135, μ6, iv_rho)) rfl ?_
      obtain ⟨rfl, rfl⟩ := iv_retE h
      exact ⟨1, rfl⟩
    · refine iv_Ret.ifT (t := 27) rfl (decide_eq_true c8) rfl ?_
      refine iv_Ret.stl [28, 31] (ls' := [ivR 2, ivI p1]) (st' := [ivR 11]) (w' := (135, μ6, iv_rho)) rfl ?_
      refine iv_Ret.stl [34] (ls' := [ivR 2, ivI p1]) (st' := [ivR 13]) (w' := (135, μ6, iv_rho)) rfl ?_
      refine iv_Ret.stl [35] (ls' := [ivR 2, ivI p1]) (st' := [ivI p1, ivR 13]) (w' := (135, μ6, iv_rho)) rfl ?_
      obtain ⟨c9, h⟩ := iv_ckE h
      refine iv_Ret.iald (len := 8) rfl rfl rfl c9.1 c9.2 ?_
      show iv_Ret L 77 36 [ivR 2, ivI p1] [ivI (μ6 13 p1.toNat)] (ivST μ6) (some (ivI r)) (ivST μ')
      refine iv_Ret.stl [38, 39, 40, 41, 42, 45] (ls' := [ivR 2, ivI p1]) (st' := [ivR 11, ivI (iv_wr ((iv_wr ((μ6 13 p1.toNat) + 9)) + 1))]) (w' := (135, μ6, iv_rho)) rfl ?_
      refine iv_Ret.stl [48, 49] (ls' := [ivR 2, ivI p1]) (st' := [ivI (iv_wr ((iv_wr ((iv_wr ((μ6 13 p1.toNat) + 9)) + 1)) - (μ6 11 3)))]) (w' := (135, μ6, iv_rho)) rfl ?_
      obtain ⟨rfl, rfl⟩ := iv_retE h
      exact ⟨1, rfl⟩
