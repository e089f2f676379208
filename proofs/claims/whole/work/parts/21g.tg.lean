theorem T_lp_X10_carries_47 (L : Nat) (l1 : Int)    : ∀ (n : Nat) (l3 : Int) (l4 : Int) (l5 : Int) (μ : ivM) (r : Int) (μ' : ivM) (d2 : ivV), lp_X10_carries_47 l1 n l3 l4 l5 μ = some (r, μ') → iv_Ret L 151 47 [ivR 110, ivI l1, d2, ivI l3, ivI l4, ivI l5] [] (ivST μ) (some (ivI r)) (ivST μ') := by
  intro n
  induction n with
  | zero => intro l3 l4 l5 μ r μ' d2 h; unfold lp_X10_carries_47 at h; cases h
  | succ n ih =>
    intro l3 l4 l5 μ r μ' d2 h
    unfold lp_X10_carries_47 at h
    refine iv_Ret.stl [49, 50] (ls' := [ivR 110, ivI l1, d2, ivI l3, ivI l4, ivI l5]) (st' := [ivI l1, ivI l5]) (w' := (135, μ, iv_rho)) rfl ?_
    rcases iv_iteE h with ⟨c14, h⟩ | ⟨c14, h⟩
    · refine iv_Ret.icT (t := 75) rfl (decide_eq_true c14) rfl ?_
      refine iv_Ret.stl [77] (ls' := [ivR 110, ivI l1, d2, ivI l3, ivI l4, ivI l5]) (st' := [ivI l4]) (w' := (135, μ, iv_rho)) rfl ?_
      obtain ⟨rfl, rfl⟩ := iv_retE h
      exact ⟨1, rfl⟩
    · refine iv_Ret.icF (t := 53) rfl (decide_eq_false c14) rfl ?_
      refine iv_Ret.stl [54, 56, 57] (ls' := [ivR 110, ivI l1, d2, ivI l3, ivI l4, ivI l5]) (st' := [ivI l3, ivI l5, ivR 110]) (w' := (135, μ, iv_rho)) rfl ?_
      obtain ⟨r15, μ16, e17, h⟩ := iv_bndE h
      refine iv_Ret.callv rfl rfl rfl (T_X10_leastLoad L l5 l3 e17) ?_
      show iv_Ret L 151 60 [ivR 110, ivI l1, d2, ivI l3, ivI l4, ivI l5] [ivI r15] (ivST μ16) (some (ivI r)) (ivST μ')
      refine iv_Ret.stl [62, 63, 65, 66, 67, 68, 69, 72, 47] (ls' := [ivR 110, ivI l1, (iv_un d2), ivI (iv_and l3 (iv_xor r15 (-1))), ivI r15, ivI (iv_wr (l5 + 1))]) (st' := []) (w' := (135, μ16, iv_rho)) rfl ?_
      exact ih (iv_and l3 (iv_xor r15 (-1))) r15 (iv_wr (l5 + 1)) μ16 _ _ (iv_un d2) h
theorem T_X10_carries (L : Nat) (p1 : Int) (p2 : Int)  {μ μ' : ivM} {r : Int} (h : f_X10_carries p1 p2 μ = some (r, μ')) : iv_Ret L 151 0 [ivR 110, ivI p1, ivI p2, ivU, ivU, ivU] [] (ivST μ) (some (ivI r)) (ivST μ') := by
  unfold f_X10_carries at h
  refine iv_Ret.stl [1, 2] (ls' := [ivR 110, ivI p1, ivI p2, ivU, ivU, ivU]) (st' := [ivI p1, ivR 110]) (w' := (135, μ, iv_rho)) rfl ?_
  obtain ⟨r1, μ2, e3, h⟩ := iv_bndE h
  refine iv_Ret.callv rfl rfl rfl (T_X10_isPerson L p1 e3) ?_
  show iv_Ret L 151 5 [ivR 110, ivI p1, ivI p2, ivU, ivU, ivU] [ivI r1] (ivST μ2) (some (ivI r)) (ivST μ')
  rcases iv_iteE h with ⟨c4, h⟩ | ⟨c4, h⟩
  · refine iv_Ret.ifF (t := 8) rfl (decide_eq_false (not_not_intro c4)) rfl ?_
    refine iv_Ret.stl [9] (ls' := [ivR 110, ivI p1, ivI p2, ivU, ivU, ivU]) (st' := [ivI (-1)]) (w' := (135, μ2, iv_rho)) rfl ?_
    obtain ⟨rfl, rfl⟩ := iv_retE h
    exact ⟨1, rfl⟩
  · refine iv_Ret.ifT (t := 10) rfl (decide_eq_true c4) rfl ?_
    refine iv_Ret.stl [11, 12] (ls' := [ivR 110, ivI p1, ivI p2, ivU, ivU, ivU]) (st' := [ivI p2, ivR 110]) (w' := (135, μ2, iv_rho)) rfl ?_
    obtain ⟨r5, μ6, e7, h⟩ := iv_bndE h
    refine iv_Ret.callv rfl rfl rfl (T_X10_isThings L p2 e7) ?_
    show iv_Ret L 151 15 [ivR 110, ivI p1, ivI p2, ivU, ivU, ivU] [ivI r5] (ivST μ6) (some (ivI r)) (ivST μ')
    rcases iv_iteE h with ⟨c8, h⟩ | ⟨c8, h⟩
    · refine iv_Ret.ifF (t := 18) rfl (decide_eq_false (not_not_intro c8)) rfl ?_
      refine iv_Ret.stl [20] (ls' := [ivR 110, ivI p1, ivI p2, ivU, ivU, ivU]) (st' := [ivI (-2)]) (w' := (135, μ6, iv_rho)) rfl ?_
      obtain ⟨rfl, rfl⟩ := iv_retE h
      exact ⟨1, rfl⟩
    · refine iv_Ret.ifT (t := 21) rfl (decide_eq_true c8) rfl ?_
      refine iv_Ret.stl [22, 24] (ls' := [ivR 110, ivI p1, ivI p2, ivU, ivU, ivU]) (st' := [ivI (-9), ivR 110]) (w' := (135, μ6, iv_rho)) rfl ?_
      obtain ⟨r9, μ10, e11, h⟩ := iv_bndE h
      refine iv_Ret.callv rfl rfl rfl (T_X10_layCan L (-9) e11) ?_
      show iv_Ret L 151 27 [ivR 110, ivI p1, ivI p2, ivU, ivU, ivU] [] (ivST μ10) (some (ivI r)) (ivST μ')
      refine iv_Ret.stl [28, 31] (ls' := [ivR 110, ivI p1, ivI p2, ivU, ivU, ivU]) (st' := [ivR 123]) (w' := (135, μ10, iv_rho)) rfl ?_
      refine iv_Ret.stl [32] (ls' := [ivR 110, ivI p1, ivI p2, ivU, ivU, ivU]) (st' := [ivI p2, ivR 123]) (w' := (135, μ10, iv_rho)) rfl ?_
      obtain ⟨c12, h⟩ := iv_ckE h
      refine iv_Ret.bald (len := 1792) rfl rfl rfl c12.1 c12.2 ?_
      show iv_Ret L 151 33 [ivR 110, ivI p1, ivI p2, ivU, ivU, ivU] [ivI (μ10 123 p2.toNat)] (ivST μ10) (some (ivI r)) (ivST μ')
      rcases iv_iteE h with ⟨c13, h⟩ | ⟨c13, h⟩
      · refine iv_Ret.ifF (t := 36) rfl (decide_eq_false (not_not_intro c13)) rfl ?_
        refine iv_Ret.stl [38] (ls' := [ivR 110, ivI p1, ivI p2, ivU, ivU, ivU]) (st' := [ivI (-3)]) (w' := (135, μ10, iv_rho)) rfl ?_
        obtain ⟨rfl, rfl⟩ := iv_retE h
        exact ⟨1, rfl⟩
      · refine iv_Ret.ifT (t := 39) rfl (decide_eq_true c13) rfl ?_
        refine iv_Ret.stl [40, 41, 42, 44, 45, 47] (ls' := [ivR 110, ivI p1, ivI p2, ivI p2, ivI 0, ivI 0]) (st' := []) (w' := (135, μ10, iv_rho)) rfl ?_
        exact T_lp_X10_carries_47 L p1 iv_fuel p2 0 0 μ10 _ _ (ivI p2) h
theorem T_lp_X10_timesOf_31 (L : Nat) (l1 : Int) (l2 : Int)  {k109 : ivM → Option (Int × ivM)} (hk109 : ∀  (μ : ivM) (r : Int) (μ' : ivM) (d3 : ivV) (d4 : ivV), k109 μ = some (r, μ') → iv_Ret L 152 109 [ivR 110, ivI l1, ivI l2, d3, d4] [] (ivST μ) (some (ivI r)) (ivST μ')) : ∀ (n : Nat) (l3 : Int) (μ : ivM) (r : Int) (μ' : ivM) (d4 : ivV), lp_X10_timesOf_31 l1 l2 k109 n l3 μ = some (r, μ') → iv_Ret L 152 31 [ivR 110, ivI l1, ivI l2, ivI l3, d4] [] (ivST μ) (some (ivI r)) (ivST μ') := by
  intro n
  induction n with
  | zero => intro l3 μ r μ' d4 h; unfold lp_X10_timesOf_31 at h; cases h
  | succ n ih =>
    intro l3 μ r μ' d4 h
    unfold lp_X10_timesOf_31 at h
    refine iv_Ret.stl [32] (ls' := [ivR 110, ivI l1, ivI l2, ivI l3, d4]) (st' := [ivI l3]) (w' := (135, μ, iv_rho)) rfl ?_
    rcases iv_iteE h with ⟨c10, h⟩ | ⟨c10, h⟩
    · refine iv_Ret.ifT (t := 109) rfl (decide_eq_true c10) rfl ?_
      exact hk109 μ _ _ (ivI l3) d4 h
    · refine iv_Ret.ifF (t := 35) rfl (decide_eq_false c10) rfl ?_
      refine iv_Ret.stl [36, 37, 38, 39, 40] (ls' := [ivR 110, ivI l1, ivI l2, ivI l3, d4]) (st' := [ivI (iv_and l2 (iv_xor l1 (-1)))]) (w' := (135, μ, iv_rho)) rfl ?_
      rcases iv_iteE h with ⟨c11, h⟩ | ⟨c11, h⟩
      · refine iv_Ret.ifF (t := 43) rfl (decide_eq_false (not_not_intro c11)) rfl ?_
        refine iv_Ret.stl [44, 47] (ls' := [ivR 110, ivI l1, ivI l2, ivI l3, d4]) (st' := [ivR 123]) (w' := (135, μ, iv_rho)) rfl ?_
        refine iv_Ret.stl [48] (ls' := [ivR 110, ivI l1, ivI l2, ivI l3, d4]) (st' := [ivI l3, ivR 123]) (w' := (135, μ, iv_rho)) rfl ?_
        obtain ⟨c12, h⟩ := iv_ckE h
        refine iv_Ret.bald (len := 1792) rfl rfl rfl c12.1 c12.2 ?_
        show iv_Ret L 152 49 [ivR 110, ivI l1, ivI l2, ivI l3, d4] [ivI (μ 123 l3.toNat)] (ivST μ) (some (ivI r)) (ivST μ')
        refine iv_letE (fun j13 => ∀ (v15 : Int) (μ16 : ivM) (r17 : Int) (μ18 : ivM) (z14 : ivV), j13 v15 μ16 = some (r17, μ18) → iv_Ret L 152 70 [ivR 110, ivI l1, ivI l2, ivI l3, z14] [ivI v15] (ivST μ16) (some (ivI r17)) (ivST μ18)) h (fun v15 μ16 r17 μ18 z14 h => ?_) (fun j13 hj13 h => ?_)
        · refine iv_Ret.stl [72, 73, 76] (ls' := [ivR 110, ivI l1, ivI l2, ivI l3, ivI v15]) (st' := [ivR 125]) (w' := (135, μ16, iv_rho)) rfl ?_
          refine iv_Ret.stl [77, 79, 80, 83] (ls' := [ivR 110, ivI l1, ivI l2, ivI l3, ivI v15]) (st' := [ivR 125, ivI v15, ivI l2, ivR 125]) (w' := (135, μ16, iv_rho)) rfl ?_
          refine iv_Ret.stl [84] (ls' := [ivR 110, ivI l1, ivI l2, ivI l3, ivI v15]) (st' := [ivI l2, ivR 125, ivI v15, ivI l2, ivR 125]) (w' := (135, μ16, iv_rho)) rfl ?_
          obtain ⟨c19, h⟩ := iv_ckE h
          refine iv_Ret.iald (len := 256) rfl rfl rfl c19.1 c19.2 ?_
          show iv_Ret L 152 85 [ivR 110, ivI l1, ivI l2, ivI l3, ivI v15] [ivI (μ16 125 l2.toNat), ivI v15, ivI l2, ivR 125] (ivST μ16) (some (ivI r17)) (ivST μ18)
          refine iv_letE (fun j20 => ∀ (v22 : Int) (μ23 : ivM) (r24 : Int) (μ25 : ivM) (z21 : ivV), j20 v22 μ23 = some (r24, μ25) → iv_Ret L 152 99 [ivR 110, ivI l1, ivI l2, ivI l3, z21] [ivI v22, ivI l2, ivR 125] (ivST μ23) (some (ivI r24)) (ivST μ25)) h (fun v22 μ23 r24 μ25 z21 h => ?_) (fun j20 hj20 h => ?_)
          · obtain ⟨c26, h⟩ := iv_ckE h
            refine iv_Ret.iast (len := 256) rfl rfl rfl rfl c26.1 c26.2 ?_
            show iv_Ret L 152 100 [ivR 110, ivI l1, ivI l2, ivI l3, z21] [] (ivST (iv_upd μ23 125 l2.toNat v22)) (some (ivI r24)) (ivST μ25)
            refine iv_Ret.stl [101, 102, 103, 104, 105, 106, 31] (ls' := [ivR 110, ivI l1, ivI l2, ivI (iv_and (iv_wr (l3 - 1)) l2), z21]) (st' := []) (w' := (135, (iv_upd μ23 125 l2.toNat v22), iv_rho)) rfl ?_
            exact ih (iv_and (iv_wr (l3 - 1)) l2) (iv_upd μ23 125 l2.toNat v22) _ _ z21 h
          · rcases iv_iteE h with ⟨c27, h⟩ | ⟨c27, h⟩
            · refine iv_Ret.icT (t := 93) rfl (decide_eq_true c27) rfl ?_
              refine iv_Ret.stl [94, 97] (ls' := [ivR 110, ivI l1, ivI l2, ivI l3, ivI v15]) (st' := [ivR 125, ivI l2, ivR 125]) (w' := (135, μ16, iv_rho)) rfl ?_
              refine iv_Ret.stl [98] (ls' := [ivR 110, ivI l1, ivI l2, ivI l3, ivI v15]) (st' := [ivI l2, ivR 125, ivI l2, ivR 125]) (w' := (135, μ16, iv_rho)) rfl ?_
              obtain ⟨c28, h⟩ := iv_ckE h
              refine iv_Ret.iald (len := 256) rfl rfl rfl c28.1 c28.2 ?_
              show iv_Ret L 152 99 [ivR 110, ivI l1, ivI l2, ivI l3, ivI v15] [ivI (μ16 125 l2.toNat), ivI l2, ivR 125] (ivST μ16) (some (ivI r17)) (ivST μ18)
              exact hj20 (μ16 125 l2.toNat) μ16 _ _ (ivI v15) h
            · refine iv_Ret.icF (t := 88) rfl (decide_eq_false c27) rfl ?_
              refine iv_Ret.stl [90, 99] (ls' := [ivR 110, ivI l1, ivI l2, ivI l3, ivI v15]) (st' := [ivI v15, ivI l2, ivR 125]) (w' := (135, μ16, iv_rho)) rfl ?_
              exact hj20 v15 μ16 _ _ (ivI v15) h
        · rcases iv_iteE h with ⟨c29, h⟩ | ⟨c29, h⟩
          · refine iv_Ret.ifT (t := 67) rfl (decide_eq_true c29) rfl ?_
            refine iv_Ret.stl [70] (ls' := [ivR 110, ivI l1, ivI l2, ivI l3, d4]) (st' := [ivI 999]) (w' := (135, μ, iv_rho)) rfl ?_
            exact hj13 999 μ _ _ d4 h
          · refine iv_Ret.ifF (t := 52) rfl (decide_eq_false c29) rfl ?_
            refine iv_Ret.stl [53, 56] (ls' := [ivR 110, ivI l1, ivI l2, ivI l3, d4]) (st' := [ivR 125]) (w' := (135, μ, iv_rho)) rfl ?_
            refine iv_Ret.stl [57, 58, 59, 60, 61] (ls' := [ivR 110, ivI l1, ivI l2, ivI l3, d4]) (st' := [ivI (iv_and l2 (iv_xor l3 (-1))), ivR 125]) (w' := (135, μ, iv_rho)) rfl ?_
            obtain ⟨c30, h⟩ := iv_ckE h
            refine iv_Ret.iald (len := 256) rfl rfl rfl c30.1 c30.2 ?_
            show iv_Ret L 152 62 [ivR 110, ivI l1, ivI l2, ivI l3, d4] [ivI (μ 125 (iv_and l2 (iv_xor l3 (-1))).toNat)] (ivST μ) (some (ivI r)) (ivST μ')
            refine iv_Ret.stl [63, 64, 70] (ls' := [ivR 110, ivI l1, ivI l2, ivI l3, d4]) (st' := [ivI (iv_wr ((μ 125 (iv_and l2 (iv_xor l3 (-1))).toNat) + 1))]) (w' := (135, μ, iv_rho)) rfl ?_
            exact hj13 (iv_wr ((μ 125 (iv_and l2 (iv_xor l3 (-1))).toNat) + 1)) μ _ _ d4 h
      · refine iv_Ret.ifT (t := 109) rfl (decide_eq_true c11) rfl ?_
        exact hk109 μ _ _ (ivI l3) d4 h
theorem T_lp_X10_timesOf_2 (L : Nat) (l1 : Int)  {k115 : ivM → Option (Int × ivM)} (hk115 : ∀  (μ : ivM) (r : Int) (μ' : ivM) (d2 : ivV) (d3 : ivV) (d4 : ivV), k115 μ = some (r, μ') → iv_Ret L 152 115 [ivR 110, ivI l1, d2, d3, d4] [] (ivST μ) (some (ivI r)) (ivST μ')) : ∀ (n : Nat) (l2 : Int) (μ : ivM) (r : Int) (μ' : ivM) (d3 : ivV) (d4 : ivV), lp_X10_timesOf_2 l1 k115 n l2 μ = some (r, μ') → iv_Ret L 152 2 [ivR 110, ivI l1, ivI l2, d3, d4] [] (ivST μ) (some (ivI r)) (ivST μ') := by
  intro n
  induction n with
  | zero => intro l2 μ r μ' d3 d4 h; unfold lp_X10_timesOf_2 at h; cases h
  | succ n ih =>
    intro l2 μ r μ' d3 d4 h
    unfold lp_X10_timesOf_2 at h
    refine iv_Ret.stl [3, 4, 5, 8, 9] (ls' := [ivR 110, ivI l1, ivI l2, d3, d4]) (st' := [ivI (iv_shl 1 (μ 110 13)), ivI l2]) (w' := (135, μ, iv_rho)) rfl ?_
    rcases iv_iteE h with ⟨c1, h⟩ | ⟨c1, h⟩
    · refine iv_Ret.icT (t := 115) rfl (decide_eq_true c1) rfl ?_
      exact hk115 μ _ _ (ivI l2) d3 d4 h
    · refine iv_Ret.icF (t := 12) rfl (decide_eq_false c1) rfl ?_
      refine iv_Ret.stl [13, 16] (ls' := [ivR 110, ivI l1, ivI l2, d3, d4]) (st' := [ivR 125]) (w' := (135, μ, iv_rho)) rfl ?_
      refine iv_Ret.stl [17, 18] (ls' := [ivR 110, ivI l1, ivI l2, d3, d4]) (st' := [ivI l2, ivI l2, ivR 125]) (w' := (135, μ, iv_rho)) rfl ?_
      refine iv_letE (fun j2 => ∀ (v5 : Int) (μ6 : ivM) (r7 : Int) (μ8 : ivM) (z3 : ivV) (z4 : ivV), j2 v5 μ6 = some (r7, μ8) → iv_Ret L 152 28 [ivR 110, ivI l1, ivI l2, z3, z4] [ivI v5, ivI l2, ivR 125] (ivST μ6) (some (ivI r7)) (ivST μ8)) h (fun v5 μ6 r7 μ8 z3 z4 h => ?_) (fun j2 hj2 h => ?_)
      · obtain ⟨c9, h⟩ := iv_ckE h
        refine iv_Ret.iast (len := 256) rfl rfl rfl rfl c9.1 c9.2 ?_
        show iv_Ret L 152 29 [ivR 110, ivI l1, ivI l2, z3, z4] [] (ivST (iv_upd μ6 125 l2.toNat v5)) (some (ivI r7)) (ivST μ8)
        refine iv_Ret.stl [30, 31] (ls' := [ivR 110, ivI l1, ivI l2, ivI l2, z4]) (st' := []) (w' := (135, (iv_upd μ6 125 l2.toNat v5), iv_rho)) rfl ?_
        refine T_lp_X10_timesOf_31 L l1 l2 (fun μ33 r34 μ35 z31 z32 h => ?_) iv_fuel l2 (iv_upd μ6 125 l2.toNat v5) _ _ z4 h
        refine iv_Ret.stl [112, 2] (ls' := [ivR 110, ivI l1, ivI (iv_wr (l2 + 1)), z31, z32]) (st' := []) (w' := (135, μ33, iv_rho)) rfl ?_
        exact ih (iv_wr (l2 + 1)) μ33 _ _ z31 z32 h
      · rcases iv_iteE h with ⟨c36, h⟩ | ⟨c36, h⟩
        · refine iv_Ret.ifF (t := 21) rfl (decide_eq_false (not_not_intro c36)) rfl ?_
          refine iv_Ret.stl [22, 28] (ls' := [ivR 110, ivI l1, ivI l2, d3, d4]) (st' := [ivI 0, ivI l2, ivR 125]) (w' := (135, μ, iv_rho)) rfl ?_
          exact hj2 0 μ _ _ d3 d4 h
        · refine iv_Ret.ifT (t := 25) rfl (decide_eq_true c36) rfl ?_
          refine iv_Ret.stl [28] (ls' := [ivR 110, ivI l1, ivI l2, d3, d4]) (st' := [ivI 999, ivI l2, ivR 125]) (w' := (135, μ, iv_rho)) rfl ?_
          exact hj2 999 μ _ _ d3 d4 h
theorem T_X10_timesOf (L : Nat) (p1 : Int)  {μ μ' : ivM} {r : Int} (h : f_X10_timesOf p1 μ = some (r, μ')) : iv_Ret L 152 0 [ivR 110, ivI p1, ivU, ivU, ivU] [] (ivST μ) (some (ivI r)) (ivST μ') := by
  unfold f_X10_timesOf at h
  refine iv_Ret.stl [1, 2] (ls' := [ivR 110, ivI p1, ivI 0, ivU, ivU]) (st' := []) (w' := (135, μ, iv_rho)) rfl ?_
  refine T_lp_X10_timesOf_2 L p1 (fun μ40 r41 μ42 z37 z38 z39 h => ?_) iv_fuel 0 μ _ _ ivU ivU h
  refine iv_Ret.stl [116, 119] (ls' := [ivR 110, ivI p1, z37, z38, z39]) (st' := [ivR 125]) (w' := (135, μ40, iv_rho)) rfl ?_
  refine iv_Ret.stl [120] (ls' := [ivR 110, ivI p1, z37, z38, z39]) (st' := [ivI p1, ivR 125]) (w' := (135, μ40, iv_rho)) rfl ?_
  obtain ⟨c43, h⟩ := iv_ckE h
  refine iv_Ret.iald (len := 256) rfl rfl rfl c43.1 c43.2 ?_
  show iv_Ret L 152 121 [ivR 110, ivI p1, z37, z38, z39] [ivI (μ40 125 p1.toNat)] (ivST μ40) (some (ivI r41)) (ivST μ42)
  obtain ⟨rfl, rfl⟩ := iv_retE h
  exact ⟨1, rfl⟩
theorem T_X10_times (L : Nat) (p1 : Int)  {μ μ' : ivM} {r : Int} (h : f_X10_times p1 μ = some (r, μ')) : iv_Ret L 153 0 [ivR 110, ivI p1, ivU] [] (ivST μ) (some (ivI r)) (ivST μ') := by
  unfold f_X10_times at h
  refine iv_Ret.stl [1, 2] (ls' := [ivR 110, ivI p1, ivU]) (st' := [ivI p1, ivR 110]) (w' := (135, μ, iv_rho)) rfl ?_
  obtain ⟨r1, μ2, e3, h⟩ := iv_bndE h
  refine iv_Ret.callv rfl rfl rfl (T_X10_isThings L p1 e3) ?_
  show iv_Ret L 153 5 [ivR 110, ivI p1, ivU] [ivI r1] (ivST μ2) (some (ivI r)) (ivST μ')
  rcases iv_iteE h with ⟨c4, h⟩ | ⟨c4, h⟩
  · refine iv_Ret.ifF (t := 8) rfl (decide_eq_false (not_not_intro c4)) rfl ?_
    refine iv_Ret.stl [10] (ls' := [ivR 110, ivI p1, ivU]) (st' := [ivI (-2)]) (w' := (135, μ2, iv_rho)) rfl ?_
    obtain ⟨rfl, rfl⟩ := iv_retE h
    exact ⟨1, rfl⟩
  · refine iv_Ret.ifT (t := 11) rfl (decide_eq_true c4) rfl ?_
    refine iv_Ret.stl [12, 14] (ls' := [ivR 110, ivI p1, ivU]) (st' := [ivI (-9), ivR 110]) (w' := (135, μ2, iv_rho)) rfl ?_
    obtain ⟨r5, μ6, e7, h⟩ := iv_bndE h
    refine iv_Ret.callv rfl rfl rfl (T_X10_layCan L (-9) e7) ?_
    show iv_Ret L 153 17 [ivR 110, ivI p1, ivU] [] (ivST μ6) (some (ivI r)) (ivST μ')
    refine iv_Ret.stl [18, 19] (ls' := [ivR 110, ivI p1, ivU]) (st' := [ivI p1, ivR 110]) (w' := (135, μ6, iv_rho)) rfl ?_
    obtain ⟨r8, μ9, e10, h⟩ := iv_bndE h
    refine iv_Ret.callv rfl rfl rfl (T_X10_timesOf L p1 e10) ?_
    show iv_Ret L 153 22 [ivR 110, ivI p1, ivU] [ivI r8] (ivST μ9) (some (ivI r)) (ivST μ')
    refine iv_Ret.stl [23, 24, 26] (ls' := [ivR 110, ivI p1, ivI r8]) (st' := [ivI 99, ivI r8]) (w' := (135, μ9, iv_rho)) rfl ?_
    refine iv_letE (fun j11 => ∀ (v15 : Int) (μ16 : ivM) (r17 : Int) (μ18 : ivM) (z12 : ivV) (z13 : ivV) (z14 : ivV), j11 v15 μ16 = some (r17, μ18) → iv_Ret L 153 35 [z12, z13, z14] [ivI v15] (ivST μ16) (some (ivI r17)) (ivST μ18)) h (fun v15 μ16 r17 μ18 z12 z13 z14 h => ?_) (fun j11 hj11 h => ?_)
    · obtain ⟨rfl, rfl⟩ := iv_retE h
      exact ⟨1, rfl⟩
    · rcases iv_iteE h with ⟨c19, h⟩ | ⟨c19, h⟩
      · refine iv_Ret.icT (t := 34) rfl (decide_eq_true c19) rfl ?_
        refine iv_Ret.stl [35] (ls' := [ivR 110, ivI p1, ivI r8]) (st' := [ivI r8]) (w' := (135, μ9, iv_rho)) rfl ?_
        exact hj11 r8 μ9 _ _ (ivR 110) (ivI p1) (ivI r8) h
      · refine iv_Ret.icF (t := 29) rfl (decide_eq_false c19) rfl ?_
        refine iv_Ret.stl [31, 35] (ls' := [ivR 110, ivI p1, ivI r8]) (st' := [ivI (-9)]) (w' := (135, μ9, iv_rho)) rfl ?_
        exact hj11 (-9) μ9 _ _ (ivR 110) (ivI p1) (ivI r8) h
theorem T_lp_X10_worth_14 (L : Nat) (l1 : Int)  {k36 : Int → ivM → Option (Int × ivM)} (hk36 : ∀ (l2 : Int) (μ : ivM) (r : Int) (μ' : ivM) (d3 : ivV) (d4 : ivV), k36 l2 μ = some (r, μ') → iv_Ret L 154 36 [ivR 110, ivI l1, ivI l2, d3, d4] [] (ivST μ) (some (ivI r)) (ivST μ')) : ∀ (n : Nat) (l2 : Int) (l3 : Int) (μ : ivM) (r : Int) (μ' : ivM) (d4 : ivV), lp_X10_worth_14 l1 k36 n l2 l3 μ = some (r, μ') → iv_Ret L 154 14 [ivR 110, ivI l1, ivI l2, ivI l3, d4] [] (ivST μ) (some (ivI r)) (ivST μ') := by
  intro n
  induction n with
  | zero => intro l2 l3 μ r μ' d4 h; unfold lp_X10_worth_14 at h; cases h
  | succ n ih =>
    intro l2 l3 μ r μ' d4 h
    unfold lp_X10_worth_14 at h
    refine iv_Ret.stl [15, 16, 19] (ls' := [ivR 110, ivI l1, ivI l2, ivI l3, d4]) (st' := [ivI (μ 110 14), ivI l3]) (w' := (135, μ, iv_rho)) rfl ?_
    rcases iv_iteE h with ⟨c5, h⟩ | ⟨c5, h⟩
    · refine iv_Ret.icT (t := 36) rfl (decide_eq_true c5) rfl ?_
      exact hk36 l2 μ _ _ (ivI l3) d4 h
    · refine iv_Ret.icF (t := 22) rfl (decide_eq_false c5) rfl ?_
      refine iv_Ret.stl [23, 24, 25] (ls' := [ivR 110, ivI l1, ivI l2, ivI l3, d4]) (st' := [ivI l3, ivR 110, ivI l2]) (w' := (135, μ, iv_rho)) rfl ?_
      obtain ⟨r6, μ7, e8, h⟩ := iv_bndE h
      refine iv_Ret.callv rfl rfl rfl (T_X10_liftsOf L l3 e8) ?_
      show iv_Ret L 154 28 [ivR 110, ivI l1, ivI l2, ivI l3, d4] [ivI r6, ivI l2] (ivST μ7) (some (ivI r)) (ivST μ')
      refine iv_Ret.stl [29, 30, 33, 14] (ls' := [ivR 110, ivI l1, ivI (iv_or l2 r6), ivI (iv_wr (l3 + 1)), d4]) (st' := []) (w' := (135, μ7, iv_rho)) rfl ?_
      exact ih (iv_or l2 r6) (iv_wr (l3 + 1)) μ7 _ _ d4 h
theorem T_X10_worth (L : Nat) (p1 : Int)  {μ μ' : ivM} {r : Int} (h : f_X10_worth p1 μ = some (r, μ')) : iv_Ret L 154 0 [ivR 110, ivI p1, ivU, ivU, ivU] [] (ivST μ) (some (ivI r)) (ivST μ') := by
  unfold f_X10_worth at h
  refine iv_Ret.stl [1, 2] (ls' := [ivR 110, ivI p1, ivU, ivU, ivU]) (st' := [ivI p1, ivR 110]) (w' := (135, μ, iv_rho)) rfl ?_
  obtain ⟨r1, μ2, e3, h⟩ := iv_bndE h
  refine iv_Ret.callv rfl rfl rfl (T_X10_isPerson L p1 e3) ?_
  show iv_Ret L 154 5 [ivR 110, ivI p1, ivU, ivU, ivU] [ivI r1] (ivST μ2) (some (ivI r)) (ivST μ')
  rcases iv_iteE h with ⟨c4, h⟩ | ⟨c4, h⟩
  · refine iv_Ret.ifF (t := 8) rfl (decide_eq_false (not_not_intro c4)) rfl ?_
    refine iv_Ret.stl [9] (ls' := [ivR 110, ivI p1, ivU, ivU, ivU]) (st' := [ivI (-1)]) (w' := (135, μ2, iv_rho)) rfl ?_
    obtain ⟨rfl, rfl⟩ := iv_retE h
    exact ⟨1, rfl⟩
  · refine iv_Ret.ifT (t := 10) rfl (decide_eq_true c4) rfl ?_
    refine iv_Ret.stl [11, 12, 13, 14] (ls' := [ivR 110, ivI p1, ivI 0, ivI 0, ivU]) (st' := []) (w' := (135, μ2, iv_rho)) rfl ?_
    refine T_lp_X10_worth_14 L p1 (fun w9 μ12 r13 μ14 z10 z11 h => ?_) iv_fuel 0 0 μ2 _ _ ivU h
    refine iv_Ret.stl [37, 39] (ls' := [ivR 110, ivI p1, ivI w9, z10, z11]) (st' := [ivI (-9), ivR 110]) (w' := (135, μ12, iv_rho)) rfl ?_
    obtain ⟨r15, μ16, e17, h⟩ := iv_bndE h
    refine iv_Ret.callv rfl rfl rfl (T_X10_layCan L (-9) e17) ?_
    show iv_Ret L 154 42 [ivR 110, ivI p1, ivI w9, z10, z11] [] (ivST μ16) (some (ivI r13)) (ivST μ14)
    refine iv_Ret.stl [43, 44] (ls' := [ivR 110, ivI p1, ivI w9, z10, z11]) (st' := [ivI w9, ivR 110]) (w' := (135, μ16, iv_rho)) rfl ?_
    obtain ⟨r18, μ19, e20, h⟩ := iv_bndE h
    refine iv_Ret.callv rfl rfl rfl (T_X10_timesOf L w9 e20) ?_
    show iv_Ret L 154 47 [ivR 110, ivI p1, ivI w9, z10, z11] [ivI r18] (ivST μ19) (some (ivI r13)) (ivST μ14)
    refine iv_Ret.stl [48, 49, 50] (ls' := [ivR 110, ivI p1, ivI w9, ivI r18, z11]) (st' := [ivI p1, ivR 110]) (w' := (135, μ19, iv_rho)) rfl ?_
    obtain ⟨r21, μ22, e23, h⟩ := iv_bndE h
    refine iv_Ret.callv rfl rfl rfl (T_X10_layCan L p1 e23) ?_
    show iv_Ret L 154 53 [ivR 110, ivI p1, ivI w9, ivI r18, z11] [] (ivST μ22) (some (ivI r13)) (ivST μ14)
    refine iv_Ret.stl [54, 55] (ls' := [ivR 110, ivI p1, ivI w9, ivI r18, z11]) (st' := [ivI w9, ivR 110]) (w' := (135, μ22, iv_rho)) rfl ?_
    obtain ⟨r24, μ25, e26, h⟩ := iv_bndE h
    refine iv_Ret.callv rfl rfl rfl (T_X10_timesOf L w9 e26) ?_
    show iv_Ret L 154 58 [ivR 110, ivI p1, ivI w9, ivI r18, z11] [ivI r24] (ivST μ25) (some (ivI r13)) (ivST μ14)
    refine iv_Ret.stl [60, 62, 64] (ls' := [ivR 110, ivI p1, ivI w9, ivI r18, ivI r24]) (st' := [ivI 99, ivI r24]) (w' := (135, μ25, iv_rho)) rfl ?_
    refine iv_letE (fun j27 => ∀ (v33 : Int) (μ34 : ivM) (r35 : Int) (μ36 : ivM) (z28 : ivV) (z29 : ivV) (z30 : ivV) (z31 : ivV) (z32 : ivV), j27 v33 μ34 = some (r35, μ36) → iv_Ret L 154 76 [z28, z29, z30, z31, z32] [ivI v33] (ivST μ34) (some (ivI r35)) (ivST μ36)) h (fun v33 μ34 r35 μ36 z28 z29 z30 z31 z32 h => ?_) (fun j27 hj27 h => ?_)
    · obtain ⟨rfl, rfl⟩ := iv_retE h
      exact ⟨1, rfl⟩
    · rcases iv_iteE h with ⟨c37, h⟩ | ⟨c37, h⟩
      · refine iv_Ret.icT (t := 72) rfl (decide_eq_true c37) rfl ?_
        refine iv_Ret.stl [74, 75, 76] (ls' := [ivR 110, ivI p1, ivI w9, ivI r18, ivI r24]) (st' := [ivI (iv_wr (r24 - r18))]) (w' := (135, μ25, iv_rho)) rfl ?_
        exact hj27 (iv_wr (r24 - r18)) μ25 _ _ (ivR 110) (ivI p1) (ivI w9) (ivI r18) (ivI r24) h
      · refine iv_Ret.icF (t := 67) rfl (decide_eq_false c37) rfl ?_
        refine iv_Ret.stl [69, 76] (ls' := [ivR 110, ivI p1, ivI w9, ivI r18, ivI r24]) (st' := [ivI 99]) (w' := (135, μ25, iv_rho)) rfl ?_
        exact hj27 99 μ25 _ _ (ivR 110) (ivI p1) (ivI w9) (ivI r18) (ivI r24) h
theorem T_lp_X10_upkeep_75 (L : Nat) (l1 : Int) (l2 : Int) (l4 : Int) (l5 : Int)  {k100 : Int → ivM → Option (Int × ivM)} (hk100 : ∀ (l3 : Int) (μ : ivM) (r : Int) (μ' : ivM) (d5 : ivV) (d6 : ivV), k100 l3 μ = some (r, μ') → iv_Ret L 155 100 [ivR 110, ivI l1, ivI l2, ivI l3, ivI l4, d5, d6] [] (ivST μ) (some (ivI r)) (ivST μ')) : ∀ (n : Nat) (l3 : Int) (l6 : Int) (μ : ivM) (r : Int) (μ' : ivM), lp_X10_upkeep_75 l1 l2 l4 l5 k100 n l3 l6 μ = some (r, μ') → iv_Ret L 155 75 [ivR 110, ivI l1, ivI l2, ivI l3, ivI l4, ivI l5, ivI l6] [] (ivST μ) (some (ivI r)) (ivST μ') := by
  intro n
  induction n with
  | zero => intro l3 l6 μ r μ' h; unfold lp_X10_upkeep_75 at h; cases h
  | succ n ih =>
    intro l3 l6 μ r μ' h
    unfold lp_X10_upkeep_75 at h
    refine iv_Ret.stl [77] (ls' := [ivR 110, ivI l1, ivI l2, ivI l3, ivI l4, ivI l5, ivI l6]) (st' := [ivI l5]) (w' := (135, μ, iv_rho)) rfl ?_
    rcases iv_iteE h with ⟨c29, h⟩ | ⟨c29, h⟩
    · refine iv_Ret.ifT (t := 100) rfl (decide_eq_true c29) rfl ?_
      exact hk100 l3 μ _ _ (ivI l5) (ivI l6) h
    · refine iv_Ret.ifF (t := 80) rfl (decide_eq_false c29) rfl ?_
      refine iv_Ret.stl [82, 83, 86, 87, 88] (ls' := [ivR 110, ivI l1, ivI l2, ivI l3, ivI l4, ivI l5, ivI l6]) (st' := [ivI (iv_wr ((μ 110 15) + l2)), ivI l6]) (w' := (135, μ, iv_rho)) rfl ?_
      rcases iv_iteE h with ⟨c30, h⟩ | ⟨c30, h⟩
      · refine iv_Ret.icT (t := 100) rfl (decide_eq_true c30) rfl ?_
        exact hk100 l3 μ _ _ (ivI l5) (ivI l6) h
      · refine iv_Ret.icF (t := 91) rfl (decide_eq_false c30) rfl ?_
        refine iv_Ret.stl [94, 97, 75] (ls' := [ivR 110, ivI l1, ivI l2, ivI (iv_wr (l3 + 1)), ivI l4, ivI l5, ivI (iv_wr (l6 + 9))]) (st' := []) (w' := (135, μ, iv_rho)) rfl ?_
        exact ih (iv_wr (l3 + 1)) (iv_wr (l6 + 9)) μ _ _ h
theorem T_lp_X10_upkeep_28 (L : Nat) (l1 : Int) (l2 : Int)    : ∀ (n : Nat) (l3 : Int) (l4 : Int) (μ : ivM) (r : Int) (μ' : ivM) (d5 : ivV) (d6 : ivV), lp_X10_upkeep_28 l1 l2 n l3 l4 μ = some (r, μ') → iv_Ret L 155 28 [ivR 110, ivI l1, ivI l2, ivI l3, ivI l4, d5, d6] [] (ivST μ) (some (ivI r)) (ivST μ') := by
  intro n
  induction n with
  | zero => intro l3 l4 μ r μ' d5 d6 h; unfold lp_X10_upkeep_28 at h; cases h
  | succ n ih =>
    intro l3 l4 μ r μ' d5 d6 h
    unfold lp_X10_upkeep_28 at h
    refine iv_Ret.stl [30, 31, 34] (ls' := [ivR 110, ivI l1, ivI l2, ivI l3, ivI l4, d5, d6]) (st' := [ivI (μ 110 13), ivI l4]) (w' := (135, μ, iv_rho)) rfl ?_
    rcases iv_iteE h with ⟨c20, h⟩ | ⟨c20, h⟩
    · refine iv_Ret.icT (t := 106) rfl (decide_eq_true c20) rfl ?_
      refine iv_Ret.stl [107] (ls' := [ivR 110, ivI l1, ivI l2, ivI l3, ivI l4, d5, d6]) (st' := [ivI l3]) (w' := (135, μ, iv_rho)) rfl ?_
      obtain ⟨rfl, rfl⟩ := iv_retE h
      exact ⟨1, rfl⟩
    · refine iv_Ret.icF (t := 37) rfl (decide_eq_false c20) rfl ?_
      refine iv_Ret.stl [38, 40, 41, 42, 43, 44] (ls' := [ivR 110, ivI l1, ivI l2, ivI l3, ivI l4, d5, d6]) (st' := [ivI 1, ivI (iv_and (iv_shr l1 l4) 1)]) (w' := (135, μ, iv_rho)) rfl ?_
      refine iv_letE (fun j21 => ∀ (v24 : Int) (μ25 : ivM) (r26 : Int) (μ27 : ivM) (z22 : ivV) (z23 : ivV), j21 v24 μ25 = some (r26, μ27) → iv_Ret L 155 61 [ivR 110, ivI l1, ivI l2, ivI l3, ivI l4, z22, z23] [ivI v24] (ivST μ25) (some (ivI r26)) (ivST μ27)) h (fun v24 μ25 r26 μ27 z22 z23 h => ?_) (fun j21 hj21 h => ?_)
      · refine iv_Ret.stl [63, 64, 67] (ls' := [ivR 110, ivI l1, ivI l2, ivI l3, ivI l4, ivI v24, z23]) (st' := [ivR 118]) (w' := (135, μ25, iv_rho)) rfl ?_
        refine iv_Ret.stl [69] (ls' := [ivR 110, ivI l1, ivI l2, ivI l3, ivI l4, ivI v24, z23]) (st' := [ivI l4, ivR 118]) (w' := (135, μ25, iv_rho)) rfl ?_
        obtain ⟨c28, h⟩ := iv_ckE h
        refine iv_Ret.iald (len := 8) rfl rfl rfl c28.1 c28.2 ?_
        show iv_Ret L 155 70 [ivR 110, ivI l1, ivI l2, ivI l3, ivI l4, ivI v24, z23] [ivI (μ25 118 l4.toNat)] (ivST μ25) (some (ivI r26)) (ivST μ27)
        refine iv_Ret.stl [72, 73, 75] (ls' := [ivR 110, ivI l1, ivI l2, ivI l3, ivI l4, ivI v24, ivI (iv_wr ((μ25 118 l4.toNat) + 9))]) (st' := []) (w' := (135, μ25, iv_rho)) rfl ?_
        refine T_lp_X10_upkeep_75 L l1 l2 l4 v24 (fun w31 μ34 r35 μ36 z32 z33 h => ?_) iv_fuel l3 (iv_wr ((μ25 118 l4.toNat) + 9)) μ25 _ _ h
        refine iv_Ret.stl [103, 28] (ls' := [ivR 110, ivI l1, ivI l2, ivI w31, ivI (iv_wr (l4 + 1)), z32, z33]) (st' := []) (w' := (135, μ34, iv_rho)) rfl ?_
        exact ih w31 (iv_wr (l4 + 1)) μ34 _ _ z32 z33 h
      · refine iv_letE (fun j37 => ∀ (μ40 : ivM) (r41 : Int) (μ42 : ivM) (z38 : ivV) (z39 : ivV), j37 μ40 = some (r41, μ42) → iv_Ret L 155 60 [ivR 110, ivI l1, ivI l2, ivI l3, ivI l4, z38, z39] [] (ivST μ40) (some (ivI r41)) (ivST μ42)) h (fun μ40 r41 μ42 z38 z39 h => ?_) (fun j37 hj37 h => ?_)
        · refine iv_Ret.stl [61] (ls' := [ivR 110, ivI l1, ivI l2, ivI l3, ivI l4, z38, z39]) (st' := [ivI 0]) (w' := (135, μ40, iv_rho)) rfl ?_
          exact hj21 0 μ40 _ _ z38 z39 h
        · rcases iv_iteE h with ⟨c43, h⟩ | ⟨c43, h⟩
          · refine iv_Ret.icF (t := 47) rfl (decide_eq_false (not_not_intro c43)) rfl ?_
            refine iv_Ret.stl [48, 50] (ls' := [ivR 110, ivI l1, ivI l2, ivI l3, ivI l4, d5, d6]) (st' := [ivI l4, ivR 110]) (w' := (135, μ, iv_rho)) rfl ?_
            obtain ⟨r44, μ45, e46, h⟩ := iv_bndE h
            refine iv_Ret.callv rfl rfl rfl (T_X10_isLive L l4 e46) ?_
            show iv_Ret L 155 53 [ivR 110, ivI l1, ivI l2, ivI l3, ivI l4, d5, d6] [ivI r44] (ivST μ45) (some (ivI r)) (ivST μ')
            rcases iv_iteE h with ⟨c47, h⟩ | ⟨c47, h⟩
            · refine iv_Ret.ifT (t := 60) rfl (decide_eq_true c47) rfl ?_
              exact hj37 μ45 _ _ d5 d6 h
            · refine iv_Ret.ifF (t := 56) rfl (decide_eq_false c47) rfl ?_
              refine iv_Ret.stl [57, 61] (ls' := [ivR 110, ivI l1, ivI l2, ivI l3, ivI l4, d5, d6]) (st' := [ivI 1]) (w' := (135, μ45, iv_rho)) rfl ?_
              exact hj21 1 μ45 _ _ d5 d6 h
          · refine iv_Ret.icT (t := 60) rfl (decide_eq_true c43) rfl ?_
            exact hj37 μ _ _ d5 d6 h
theorem T_X10_upkeep (L : Nat) (p1 : Int) (p2 : Int)  {μ μ' : ivM} {r : Int} (h : f_X10_upkeep p1 p2 μ = some (r, μ')) : iv_Ret L 155 0 [ivR 110, ivI p1, ivI p2, ivU, ivU, ivU, ivU] [] (ivST μ) (some (ivI r)) (ivST μ') := by
  unfold f_X10_upkeep at h
  refine iv_Ret.stl [1, 2] (ls' := [ivR 110, ivI p1, ivI p2, ivU, ivU, ivU, ivU]) (st' := [ivI p1, ivR 110]) (w' := (135, μ, iv_rho)) rfl ?_
  obtain ⟨r1, μ2, e3, h⟩ := iv_bndE h
  refine iv_Ret.callv rfl rfl rfl (T_X10_isThings L p1 e3) ?_
  show iv_Ret L 155 5 [ivR 110, ivI p1, ivI p2, ivU, ivU, ivU, ivU] [ivI r1] (ivST μ2) (some (ivI r)) (ivST μ')
  refine iv_letE (fun j4 => ∀ (μ12 : ivM) (r13 : Int) (μ14 : ivM) (z5 : ivV) (z6 : ivV) (z7 : ivV) (z8 : ivV) (z9 : ivV) (z10 : ivV) (z11 : ivV), j4 μ12 = some (r13, μ14) → iv_Ret L 155 20 [z5, z6, z7, z8, z9, z10, z11] [] (ivST μ12) (some (ivI r13)) (ivST μ14)) h (fun μ12 r13 μ14 z5 z6 z7 z8 z9 z10 z11 h => ?_) (fun j4 hj4 h => ?_)
  · refine iv_Ret.stl [22] (ls' := [z5, z6, z7, z8, z9, z10, z11]) (st' := [ivI (-2)]) (w' := (135, μ12, iv_rho)) rfl ?_
    obtain ⟨rfl, rfl⟩ := iv_retE h
    exact ⟨1, rfl⟩
  · rcases iv_iteE h with ⟨c15, h⟩ | ⟨c15, h⟩
    · refine iv_Ret.ifT (t := 20) rfl (decide_eq_true c15) rfl ?_
      exact hj4 μ2 _ _ (ivR 110) (ivI p1) (ivI p2) ivU ivU ivU ivU h
    · refine iv_Ret.ifF (t := 8) rfl (decide_eq_false c15) rfl ?_
      refine iv_Ret.stl [9, 10, 11, 14] (ls' := [ivR 110, ivI p1, ivI p2, ivU, ivU, ivU, ivU]) (st' := [ivJ 99, ivJ 0, ivJ p2]) (w' := (135, μ2, iv_rho)) rfl ?_
      obtain ⟨r16, μ17, e18, h⟩ := iv_bndE h
      refine iv_Ret.calls rfl rfl (T_X10_in L p2 0 99 e18) ?_
      show iv_Ret L 155 17 [ivR 110, ivI p1, ivI p2, ivU, ivU, ivU, ivU] [ivI r16] (ivST μ17) (some (ivI r)) (ivST μ')
      rcases iv_iteE h with ⟨c19, h⟩ | ⟨c19, h⟩
      · refine iv_Ret.ifF (t := 20) rfl (decide_eq_false (not_not_intro c19)) rfl ?_
        exact hj4 μ17 _ _ (ivR 110) (ivI p1) (ivI p2) ivU ivU ivU ivU h
      · refine iv_Ret.ifT (t := 23) rfl (decide_eq_true c19) rfl ?_
        refine iv_Ret.stl [24, 25, 26, 28] (ls' := [ivR 110, ivI p1, ivI p2, ivI 0, ivI 0, ivU, ivU]) (st' := []) (w' := (135, μ17, iv_rho)) rfl ?_
        exact T_lp_X10_upkeep_28 L p1 p2 iv_fuel 0 0 μ17 _ _ ivU ivU h
theorem T_lp_X10_mayHave_14 (L : Nat) (l1 : Int)    : ∀ (n : Nat) (l2 : Int) (l3 : Int) (μ : ivM) (r : Int) (μ' : ivM), lp_X10_mayHave_14 l1 n l2 l3 μ = some (r, μ') → iv_Ret L 156 14 [ivR 110, ivI l1, ivI l2, ivI l3] [] (ivST μ) (some (ivI r)) (ivST μ') := by
  intro n
  induction n with
  | zero => intro l2 l3 μ r μ' h; unfold lp_X10_mayHave_14 at h; cases h
  | succ n ih =>
    intro l2 l3 μ r μ' h
    unfold lp_X10_mayHave_14 at h
    refine iv_Ret.stl [15, 16, 19] (ls' := [ivR 110, ivI l1, ivI l2, ivI l3]) (st' := [ivI (μ 110 14), ivI l3]) (w' := (135, μ, iv_rho)) rfl ?_
    rcases iv_iteE h with ⟨c5, h⟩ | ⟨c5, h⟩
    · refine iv_Ret.icT (t := 42) rfl (decide_eq_true c5) rfl ?_
      refine iv_Ret.stl [43] (ls' := [ivR 110, ivI l1, ivI l2, ivI l3]) (st' := [ivI l2]) (w' := (135, μ, iv_rho)) rfl ?_
      obtain ⟨rfl, rfl⟩ := iv_retE h
      exact ⟨1, rfl⟩
    · refine iv_Ret.icF (t := 22) rfl (decide_eq_false c5) rfl ?_
      refine iv_Ret.stl [23, 24, 25] (ls' := [ivR 110, ivI l1, ivI l2, ivI l3]) (st' := [ivI l3, ivR 110, ivI l2]) (w' := (135, μ, iv_rho)) rfl ?_
      obtain ⟨r6, μ7, e8, h⟩ := iv_bndE h
      refine iv_Ret.callv rfl rfl rfl (T_X10_liftsOf L l3 e8) ?_
      show iv_Ret L 156 28 [ivR 110, ivI l1, ivI l2, ivI l3] [ivI r6, ivI l2] (ivST μ7) (some (ivI r)) (ivST μ')
      refine iv_Ret.stl [29, 30, 31, 32, 33, 34, 35, 36, 39, 14] (ls' := [ivR 110, ivI l1, ivI (iv_or l2 (iv_shl (iv_and (iv_shr r6 l1) 1) l3)), ivI (iv_wr (l3 + 1))]) (st' := []) (w' := (135, μ7, iv_rho)) rfl ?_
      exact ih (iv_or l2 (iv_shl (iv_and (iv_shr r6 l1) 1) l3)) (iv_wr (l3 + 1)) μ7 _ _ h
theorem T_X10_mayHave (L : Nat) (p1 : Int)  {μ μ' : ivM} {r : Int} (h : f_X10_mayHave p1 μ = some (r, μ')) : iv_Ret L 156 0 [ivR 110, ivI p1, ivU, ivU] [] (ivST μ) (some (ivI r)) (ivST μ') := by
  unfold f_X10_mayHave at h
  refine iv_Ret.stl [1, 2] (ls' := [ivR 110, ivI p1, ivU, ivU]) (st' := [ivI p1, ivR 110]) (w' := (135, μ, iv_rho)) rfl ?_
  obtain ⟨r1, μ2, e3, h⟩ := iv_bndE h
  refine iv_Ret.callv rfl rfl rfl (T_X10_isThing L p1 e3) ?_
  show iv_Ret L 156 5 [ivR 110, ivI p1, ivU, ivU] [ivI r1] (ivST μ2) (some (ivI r)) (ivST μ')
  rcases iv_iteE h with ⟨c4, h⟩ | ⟨c4, h⟩
  · refine iv_Ret.ifF (t := 8) rfl (decide_eq_false (not_not_intro c4)) rfl ?_
    refine iv_Ret.stl [9] (ls' := [ivR 110, ivI p1, ivU, ivU]) (st' := [ivI (-1)]) (w' := (135, μ2, iv_rho)) rfl ?_
    obtain ⟨rfl, rfl⟩ := iv_retE h
    exact ⟨1, rfl⟩
  · refine iv_Ret.ifT (t := 10) rfl (decide_eq_true c4) rfl ?_
    refine iv_Ret.stl [11, 12, 13, 14] (ls' := [ivR 110, ivI p1, ivI 0, ivI 0]) (st' := []) (w' := (135, μ2, iv_rho)) rfl ?_
    exact T_lp_X10_mayHave_14 L p1 iv_fuel 0 0 μ2 _ _ h
theorem T_X10_line (L : Nat) (p1 : Int) (p2 : Int)  {μ μ' : ivM} {r : Int} (h : f_X10_line p1 p2 μ = some (r, μ')) : iv_Ret L 157 0 [ivR 110, ivI p1, ivI p2] [] (ivST μ) (some (ivI r)) (ivST μ') := by
  unfold f_X10_line at h
  refine iv_Ret.stl [1, 2, 3, 6] (ls' := [ivR 110, ivI p1, ivI p2]) (st' := [ivJ 7, ivJ 0, ivJ p1]) (w' := (135, μ, iv_rho)) rfl ?_
  obtain ⟨r1, μ2, e3, h⟩ := iv_bndE h
  refine iv_Ret.calls rfl rfl (T_X10_in L p1 0 7 e3) ?_
  show iv_Ret L 157 9 [ivR 110, ivI p1, ivI p2] [ivI r1] (ivST μ2) (some (ivI r)) (ivST μ')
  refine iv_letE (fun j4 => ∀ (μ8 : ivM) (r9 : Int) (μ10 : ivM) (z5 : ivV) (z6 : ivV) (z7 : ivV), j4 μ8 = some (r9, μ10) → iv_Ret L 157 24 [z5, z6, z7] [] (ivST μ8) (some (ivI r9)) (ivST μ10)) h (fun μ8 r9 μ10 z5 z6 z7 h => ?_) (fun j4 hj4 h => ?_)
  · refine iv_Ret.stl [26] (ls' := [z5, z6, z7]) (st' := [ivI (-2)]) (w' := (135, μ8, iv_rho)) rfl ?_
    obtain ⟨rfl, rfl⟩ := iv_retE h
    exact ⟨1, rfl⟩
  · rcases iv_iteE h with ⟨c11, h⟩ | ⟨c11, h⟩
    · refine iv_Ret.ifT (t := 24) rfl (decide_eq_true c11) rfl ?_
      exact hj4 μ2 _ _ (ivR 110) (ivI p1) (ivI p2) h
    · refine iv_Ret.ifF (t := 12) rfl (decide_eq_false c11) rfl ?_
      refine iv_Ret.stl [13, 14, 15, 18] (ls' := [ivR 110, ivI p1, ivI p2]) (st' := [ivJ 255, ivJ 1, ivJ p2]) (w' := (135, μ2, iv_rho)) rfl ?_
      obtain ⟨r12, μ13, e14, h⟩ := iv_bndE h
      refine iv_Ret.calls rfl rfl (T_X10_in L p2 1 255 e14) ?_
      show iv_Ret L 157 21 [ivR 110, ivI p1, ivI p2] [ivI r12] (ivST μ13) (some (ivI r)) (ivST μ')
      rcases iv_iteE h with ⟨c15, h⟩ | ⟨c15, h⟩
      · refine iv_Ret.ifF (t := 24) rfl (decide_eq_false (not_not_intro c15)) rfl ?_
        exact hj4 μ13 _ _ (ivR 110) (ivI p1) (ivI p2) h
      · refine iv_Ret.ifT (t := 27) rfl (decide_eq_true c15) rfl ?_
        refine iv_Ret.stl [28, 31, 33] (ls' := [ivR 110, ivI p1, ivI p2]) (st' := [ivI 16, ivI (μ13 110 26)]) (w' := (135, μ13, iv_rho)) rfl ?_
        rcases iv_iteE h with ⟨c16, h⟩ | ⟨c16, h⟩
        · refine iv_Ret.icF (t := 36) rfl (decide_eq_false (not_not_intro c16)) rfl ?_
          refine iv_Ret.stl [38] (ls' := [ivR 110, ivI p1, ivI p2]) (st' := [ivI (-4)]) (w' := (135, μ13, iv_rho)) rfl ?_
          obtain ⟨rfl, rfl⟩ := iv_retE h
          exact ⟨1, rfl⟩
        · refine iv_Ret.icT (t := 39) rfl (decide_eq_true c16) rfl ?_
          refine iv_Ret.stl [40, 43] (ls' := [ivR 110, ivI p1, ivI p2]) (st' := [ivR 126]) (w' := (135, μ13, iv_rho)) rfl ?_
          refine iv_Ret.stl [44, 47, 48] (ls' := [ivR 110, ivI p1, ivI p2]) (st' := [ivI p1, ivI (μ13 110 26), ivR 126]) (w' := (135, μ13, iv_rho)) rfl ?_
          obtain ⟨c17, h⟩ := iv_ckE h
          refine iv_Ret.iast (len := 16) rfl rfl rfl rfl c17.1 c17.2 ?_
          show iv_Ret L 157 49 [ivR 110, ivI p1, ivI p2] [] (ivST (iv_upd μ13 126 (μ13 110 26).toNat p1)) (some (ivI r)) (ivST μ')
          refine iv_Ret.stl [50, 53] (ls' := [ivR 110, ivI p1, ivI p2]) (st' := [ivR 127]) (w' := (135, (iv_upd μ13 126 (μ13 110 26).toNat p1), iv_rho)) rfl ?_
          refine iv_Ret.stl [54, 57, 58] (ls' := [ivR 110, ivI p1, ivI p2]) (st' := [ivI p2, ivI ((iv_upd μ13 126 (μ13 110 26).toNat p1) 110 26), ivR 127]) (w' := (135, (iv_upd μ13 126 (μ13 110 26).toNat p1), iv_rho)) rfl ?_
          obtain ⟨c18, h⟩ := iv_ckE h
          refine iv_Ret.iast (len := 16) rfl rfl rfl rfl c18.1 c18.2 ?_
          show iv_Ret L 157 59 [ivR 110, ivI p1, ivI p2] [] (ivST (iv_upd (iv_upd μ13 126 (μ13 110 26).toNat p1) 127 ((iv_upd μ13 126 (μ13 110 26).toNat p1) 110 26).toNat p2)) (some (ivI r)) (ivST μ')
          refine iv_Ret.stl [60, 61, 64, 65, 66, 69, 70, 73] (ls' := [ivR 110, ivI p1, ivI p2]) (st' := [ivI ((iv_upd (iv_upd (iv_upd μ13 126 (μ13 110 26).toNat p1) 127 ((iv_upd μ13 126 (μ13 110 26).toNat p1) 110 26).toNat p2) 110 26 (iv_wr (((iv_upd (iv_upd μ13 126 (μ13 110 26).toNat p1) 127 ((iv_upd μ13 126 (μ13 110 26).toNat p1) 110 26).toNat p2) 110 26) + 1))) 110 26)]) (w' := (135, (iv_upd (iv_upd (iv_upd μ13 126 (μ13 110 26).toNat p1) 127 ((iv_upd μ13 126 (μ13 110 26).toNat p1) 110 26).toNat p2) 110 26 (iv_wr (((iv_upd (iv_upd μ13 126 (μ13 110 26).toNat p1) 127 ((iv_upd μ13 126 (μ13 110 26).toNat p1) 110 26).toNat p2) 110 26) + 1))), iv_rho)) rfl ?_
          obtain ⟨rfl, rfl⟩ := iv_retE h
          exact ⟨1, rfl⟩
theorem T_X10_silence (L : Nat)   {μ μ' : ivM} {r : Int} (h : f_X10_silence  μ = some (r, μ')) : iv_Ret L 158 0 [ivR 110, ivU] [] (ivST μ) (some (ivI r)) (ivST μ') := by
  unfold f_X10_silence at h
  refine iv_Ret.stl [1, 4, 5, 6, 7, 10, 11] (ls' := [ivR 110, ivI (μ 110 26)]) (st' := [ivI (μ 110 26)]) (w' := (135, (iv_upd μ 110 26 0), iv_rho)) rfl ?_
  obtain ⟨rfl, rfl⟩ := iv_retE h
  exact ⟨1, rfl⟩
theorem T_lp_X10_givings_29 (L : Nat) (l1 : Int) (l2 : Int)  {k50 : Int → ivM → Option (Int × ivM)} (hk50 : ∀ (l3 : Int) (μ : ivM) (r : Int) (μ' : ivM) (d4 : ivV), k50 l3 μ = some (r, μ') → iv_Ret L 160 50 [ivR 110, ivI l1, ivI l2, ivI l3, d4] [] (ivST μ) (some (ivI r)) (ivST μ')) : ∀ (n : Nat) (l3 : Int) (l4 : Int) (μ : ivM) (r : Int) (μ' : ivM), lp_X10_givings_29 l1 l2 k50 n l3 l4 μ = some (r, μ') → iv_Ret L 160 29 [ivR 110, ivI l1, ivI l2, ivI l3, ivI l4] [] (ivST μ) (some (ivI r)) (ivST μ') := by
  intro n
  induction n with
  | zero => intro l3 l4 μ r μ' h; unfold lp_X10_givings_29 at h; cases h
  | succ n ih =>
    intro l3 l4 μ r μ' h
    unfold lp_X10_givings_29 at h
    refine iv_Ret.stl [31, 32] (ls' := [ivR 110, ivI l1, ivI l2, ivI l3, ivI l4]) (st' := [ivI l1, ivI l4]) (w' := (135, μ, iv_rho)) rfl ?_
    rcases iv_iteE h with ⟨c10, h⟩ | ⟨c10, h⟩
    · refine iv_Ret.icT (t := 50) rfl (decide_eq_true c10) rfl ?_
      exact hk50 l3 μ _ _ (ivI l4) h
    · refine iv_Ret.icF (t := 35) rfl (decide_eq_false c10) rfl ?_
      refine iv_Ret.stl [36, 37, 39, 40, 41, 42, 43, 44, 47, 29] (ls' := [ivR 110, ivI l1, ivI l2, ivI (iv_wr (l3 + (iv_and (iv_shr l2 l4) 1))), ivI (iv_wr (l4 + 1))]) (st' := []) (w' := (135, μ, iv_rho)) rfl ?_
      exact ih (iv_wr (l3 + (iv_and (iv_shr l2 l4) 1))) (iv_wr (l4 + 1)) μ _ _ h
theorem T_lp_X10_givings_53 (L : Nat) (l1 : Int) (l2 : Int) (l3 : Int)  {k120 : ivM → Option (Int × ivM)} (hk120 : ∀  (μ : ivM) (r : Int) (μ' : ivM) (d3 : ivV) (d4 : ivV), k120 μ = some (r, μ') → iv_Ret L 160 120 [ivR 110, ivI l1, ivI l2, d3, d4] [] (ivST μ) (some (ivI r)) (ivST μ')) : ∀ (n : Nat) (l4 : Int) (μ : ivM) (r : Int) (μ' : ivM), lp_X10_givings_53 l1 l2 l3 k120 n l4 μ = some (r, μ') → iv_Ret L 160 53 [ivR 110, ivI l1, ivI l2, ivI l3, ivI l4] [] (ivST μ) (some (ivI r)) (ivST μ') := by
  intro n
  induction n with
  | zero => intro l4 μ r μ' h; unfold lp_X10_givings_53 at h; cases h
  | succ n ih =>
    intro l4 μ r μ' h
    unfold lp_X10_givings_53 at h
    refine iv_Ret.stl [55, 56] (ls' := [ivR 110, ivI l1, ivI l2, ivI l3, ivI l4]) (st' := [ivI l1, ivI l4]) (w' := (135, μ, iv_rho)) rfl ?_
    rcases iv_iteE h with ⟨c16, h⟩ | ⟨c16, h⟩
    · refine iv_Ret.icT (t := 120) rfl (decide_eq_true c16) rfl ?_
      exact hk120 μ _ _ (ivI l3) (ivI l4) h
    · refine iv_Ret.icF (t := 59) rfl (decide_eq_false c16) rfl ?_
      refine iv_Ret.stl [60] (ls' := [ivR 110, ivI l1, ivI l2, ivI l3, ivI l4]) (st' := [ivI l2]) (w' := (135, μ, iv_rho)) rfl ?_
      rcases iv_iteE h with ⟨c17, h⟩ | ⟨c17, h⟩
      · refine iv_Ret.ifT (t := 120) rfl (decide_eq_true c17) rfl ?_
        exact hk120 μ _ _ (ivI l3) (ivI l4) h
      · refine iv_Ret.ifF (t := 63) rfl (decide_eq_false c17) rfl ?_
        refine iv_Ret.stl [64, 67] (ls' := [ivR 110, ivI l1, ivI l2, ivI l3, ivI l4]) (st' := [ivR 128]) (w' := (135, μ, iv_rho)) rfl ?_
        refine iv_Ret.stl [68, 69] (ls' := [ivR 110, ivI l1, ivI l2, ivI l3, ivI l4]) (st' := [ivI l2, ivR 128, ivI l2, ivR 128]) (w' := (135, μ, iv_rho)) rfl ?_
        obtain ⟨c18, h⟩ := iv_ckE h
        refine iv_Ret.iald (len := 256) rfl rfl rfl c18.1 c18.2 ?_
        show iv_Ret L 160 70 [ivR 110, ivI l1, ivI l2, ivI l3, ivI l4] [ivI (μ 128 l2.toNat), ivI l2, ivR 128] (ivST μ) (some (ivI r)) (ivST μ')
        refine iv_Ret.stl [71, 73, 74, 75, 76, 77] (ls' := [ivR 110, ivI l1, ivI l2, ivI l3, ivI l4]) (st' := [ivI 1, ivI (iv_and (iv_shr l2 l4) 1), ivI (μ 128 l2.toNat), ivI l2, ivR 128]) (w' := (135, μ, iv_rho)) rfl ?_
        refine iv_letE (fun j19 => ∀ (v20 : Int) (μ21 : ivM) (r22 : Int) (μ23 : ivM), j19 v20 μ21 = some (r22, μ23) → iv_Ret L 160 112 [ivR 110, ivI l1, ivI l2, ivI l3, ivI l4] [ivI v20, ivI (μ 128 l2.toNat), ivI l2, ivR 128] (ivST μ21) (some (ivI r22)) (ivST μ23)) h (fun v20 μ21 r22 μ23 h => ?_) (fun j19 hj19 h => ?_)
        · refine iv_Ret.stl [113] (ls' := [ivR 110, ivI l1, ivI l2, ivI l3, ivI l4]) (st' := [ivI (iv_wr ((μ 128 l2.toNat) + v20)), ivI l2, ivR 128]) (w' := (135, μ21, iv_rho)) rfl ?_
          obtain ⟨c24, h⟩ := iv_ckE h
          refine iv_Ret.iast (len := 256) rfl rfl rfl rfl c24.1 c24.2 ?_
          show iv_Ret L 160 114 [ivR 110, ivI l1, ivI l2, ivI l3, ivI l4] [] (ivST (iv_upd μ21 128 l2.toNat (iv_wr ((μ 128 l2.toNat) + v20)))) (some (ivI r22)) (ivST μ23)
          refine iv_Ret.stl [117, 53] (ls' := [ivR 110, ivI l1, ivI l2, ivI l3, ivI (iv_wr (l4 + 1))]) (st' := []) (w' := (135, (iv_upd μ21 128 l2.toNat (iv_wr ((μ 128 l2.toNat) + v20))), iv_rho)) rfl ?_
          exact ih (iv_wr (l4 + 1)) (iv_upd μ21 128 l2.toNat (iv_wr ((μ 128 l2.toNat) + v20))) _ _ h
        · refine iv_letE (fun j25 => ∀ (μ26 : ivM) (r27 : Int) (μ28 : ivM), j25 μ26 = some (r27, μ28) → iv_Ret L 160 111 [ivR 110, ivI l1, ivI l2, ivI l3, ivI l4] [ivI (μ 128 l2.toNat), ivI l2, ivR 128] (ivST μ26) (some (ivI r27)) (ivST μ28)) h (fun μ26 r27 μ28 h => ?_) (fun j25 hj25 h => ?_)
          · refine iv_Ret.stl [112] (ls' := [ivR 110, ivI l1, ivI l2, ivI l3, ivI l4]) (st' := [ivI 0, ivI (μ 128 l2.toNat), ivI l2, ivR 128]) (w' := (135, μ26, iv_rho)) rfl ?_
            exact hj19 0 μ26 _ _ h
          · rcases iv_iteE h with ⟨c29, h⟩ | ⟨c29, h⟩
            · refine iv_Ret.icF (t := 80) rfl (decide_eq_false (not_not_intro c29)) rfl ?_
              refine iv_Ret.stl [81, 84] (ls' := [ivR 110, ivI l1, ivI l2, ivI l3, ivI l4]) (st' := [ivR 129, ivI (μ 128 l2.toNat), ivI l2, ivR 128]) (w' := (135, μ, iv_rho)) rfl ?_
              refine iv_Ret.stl [85] (ls' := [ivR 110, ivI l1, ivI l2, ivI l3, ivI l4]) (st' := [ivI l3, ivR 129, ivI (μ 128 l2.toNat), ivI l2, ivR 128]) (w' := (135, μ, iv_rho)) rfl ?_
              obtain ⟨c30, h⟩ := iv_ckE h
              refine iv_Ret.iald (len := 8) rfl rfl rfl c30.1 c30.2 ?_
              show iv_Ret L 160 86 [ivR 110, ivI l1, ivI l2, ivI l3, ivI l4] [ivI (μ 129 l3.toNat), ivI (μ 128 l2.toNat), ivI l2, ivR 128] (ivST μ) (some (ivI r)) (ivST μ')
              refine iv_Ret.stl [88, 89, 90, 91, 92] (ls' := [ivR 110, ivI l1, ivI l2, ivI l3, ivI l4]) (st' := [ivI 1, ivI (iv_and (iv_shr (μ 129 l3.toNat) l4) 1), ivI (μ 128 l2.toNat), ivI l2, ivR 128]) (w' := (135, μ, iv_rho)) rfl ?_
              rcases iv_iteE h with ⟨c31, h⟩ | ⟨c31, h⟩
              · refine iv_Ret.icF (t := 95) rfl (decide_eq_false (not_not_intro c31)) rfl ?_
                refine iv_Ret.stl [96, 99] (ls' := [ivR 110, ivI l1, ivI l2, ivI l3, ivI l4]) (st' := [ivR 128, ivI (μ 128 l2.toNat), ivI l2, ivR 128]) (w' := (135, μ, iv_rho)) rfl ?_
                refine iv_Ret.stl [100, 101, 103, 104, 105, 106, 107] (ls' := [ivR 110, ivI l1, ivI l2, ivI l3, ivI l4]) (st' := [ivI (iv_and l2 (iv_xor (iv_shl 1 l4) (-1))), ivR 128, ivI (μ 128 l2.toNat), ivI l2, ivR 128]) (w' := (135, μ, iv_rho)) rfl ?_
                obtain ⟨c32, h⟩ := iv_ckE h
                refine iv_Ret.iald (len := 256) rfl rfl rfl c32.1 c32.2 ?_
                show iv_Ret L 160 108 [ivR 110, ivI l1, ivI l2, ivI l3, ivI l4] [ivI (μ 128 (iv_and l2 (iv_xor (iv_shl 1 l4) (-1))).toNat), ivI (μ 128 l2.toNat), ivI l2, ivR 128] (ivST μ) (some (ivI r)) (ivST μ')
                refine iv_Ret.stl [112] (ls' := [ivR 110, ivI l1, ivI l2, ivI l3, ivI l4]) (st' := [ivI (μ 128 (iv_and l2 (iv_xor (iv_shl 1 l4) (-1))).toNat), ivI (μ 128 l2.toNat), ivI l2, ivR 128]) (w' := (135, μ, iv_rho)) rfl ?_
                exact hj19 (μ 128 (iv_and l2 (iv_xor (iv_shl 1 l4) (-1))).toNat) μ _ _ h
              · refine iv_Ret.icT (t := 111) rfl (decide_eq_true c31) rfl ?_
                exact hj25 μ _ _ h
            · refine iv_Ret.icT (t := 111) rfl (decide_eq_true c29) rfl ?_
              exact hj25 μ _ _ h
theorem T_lp_X10_givings_2 (L : Nat) (l1 : Int)  {k126 : ivM → Option (Int × ivM)} (hk126 : ∀  (μ : ivM) (r : Int) (μ' : ivM) (d2 : ivV) (d3 : ivV) (d4 : ivV), k126 μ = some (r, μ') → iv_Ret L 160 126 [ivR 110, ivI l1, d2, d3, d4] [] (ivST μ) (some (ivI r)) (ivST μ')) : ∀ (n : Nat) (l2 : Int) (μ : ivM) (r : Int) (μ' : ivM) (d3 : ivV) (d4 : ivV), lp_X10_givings_2 l1 k126 n l2 μ = some (r, μ') → iv_Ret L 160 2 [ivR 110, ivI l1, ivI l2, d3, d4] [] (ivST μ) (some (ivI r)) (ivST μ') := by
  intro n
  induction n with
  | zero => intro l2 μ r μ' d3 d4 h; unfold lp_X10_givings_2 at h; cases h
  | succ n ih =>
    intro l2 μ r μ' d3 d4 h
    unfold lp_X10_givings_2 at h
    refine iv_Ret.stl [3, 4, 5, 6] (ls' := [ivR 110, ivI l1, ivI l2, d3, d4]) (st' := [ivI (iv_shl 1 l1), ivI l2]) (w' := (135, μ, iv_rho)) rfl ?_
    rcases iv_iteE h with ⟨c1, h⟩ | ⟨c1, h⟩
    · refine iv_Ret.icT (t := 126) rfl (decide_eq_true c1) rfl ?_
      exact hk126 μ _ _ (ivI l2) d3 d4 h
    · refine iv_Ret.icF (t := 9) rfl (decide_eq_false c1) rfl ?_
      refine iv_Ret.stl [10, 13] (ls' := [ivR 110, ivI l1, ivI l2, d3, d4]) (st' := [ivR 128]) (w' := (135, μ, iv_rho)) rfl ?_
      refine iv_Ret.stl [14, 15] (ls' := [ivR 110, ivI l1, ivI l2, d3, d4]) (st' := [ivI l2, ivI l2, ivR 128]) (w' := (135, μ, iv_rho)) rfl ?_
      refine iv_letE (fun j2 => ∀ (v5 : Int) (μ6 : ivM) (r7 : Int) (μ8 : ivM) (z3 : ivV) (z4 : ivV), j2 v5 μ6 = some (r7, μ8) → iv_Ret L 160 23 [ivR 110, ivI l1, ivI l2, z3, z4] [ivI v5, ivI l2, ivR 128] (ivST μ6) (some (ivI r7)) (ivST μ8)) h (fun v5 μ6 r7 μ8 z3 z4 h => ?_) (fun j2 hj2 h => ?_)
      · obtain ⟨c9, h⟩ := iv_ckE h
        refine iv_Ret.iast (len := 256) rfl rfl rfl rfl c9.1 c9.2 ?_
        show iv_Ret L 160 24 [ivR 110, ivI l1, ivI l2, z3, z4] [] (ivST (iv_upd μ6 128 l2.toNat v5)) (some (ivI r7)) (ivST μ8)
        refine iv_Ret.stl [25, 26, 27, 29] (ls' := [ivR 110, ivI l1, ivI l2, ivI (-1), ivI 0]) (st' := []) (w' := (135, (iv_upd μ6 128 l2.toNat v5), iv_rho)) rfl ?_
        refine T_lp_X10_givings_29 L l1 l2 (fun w11 μ13 r14 μ15 z12 h => ?_) iv_fuel (-1) 0 (iv_upd μ6 128 l2.toNat v5) _ _ h
        refine iv_Ret.stl [51, 53] (ls' := [ivR 110, ivI l1, ivI l2, ivI w11, ivI 0]) (st' := []) (w' := (135, μ13, iv_rho)) rfl ?_
        refine T_lp_X10_givings_53 L l1 l2 w11 (fun μ35 r36 μ37 z33 z34 h => ?_) iv_fuel 0 μ13 _ _ h
        refine iv_Ret.stl [123, 2] (ls' := [ivR 110, ivI l1, ivI (iv_wr (l2 + 1)), z33, z34]) (st' := []) (w' := (135, μ35, iv_rho)) rfl ?_
        exact ih (iv_wr (l2 + 1)) μ35 _ _ z33 z34 h
      · rcases iv_iteE h with ⟨c38, h⟩ | ⟨c38, h⟩
        · refine iv_Ret.ifF (t := 18) rfl (decide_eq_false (not_not_intro c38)) rfl ?_
          refine iv_Ret.stl [19, 23] (ls' := [ivR 110, ivI l1, ivI l2, d3, d4]) (st' := [ivI 1, ivI l2, ivR 128]) (w' := (135, μ, iv_rho)) rfl ?_
          exact hj2 1 μ _ _ d3 d4 h
        · refine iv_Ret.ifT (t := 22) rfl (decide_eq_true c38) rfl ?_
          refine iv_Ret.stl [23] (ls' := [ivR 110, ivI l1, ivI l2, d3, d4]) (st' := [ivI 0, ivI l2, ivR 128]) (w' := (135, μ, iv_rho)) rfl ?_
          exact hj2 0 μ _ _ d3 d4 h
theorem T_X10_givings (L : Nat) (p1 : Int)  {μ μ' : ivM} {r : Int} (h : f_X10_givings p1 μ = some (r, μ')) : iv_Ret L 160 0 [ivR 110, ivI p1, ivU, ivU, ivU] [] (ivST μ) (some (ivI r)) (ivST μ') := by
  unfold f_X10_givings at h
  refine iv_Ret.stl [1, 2] (ls' := [ivR 110, ivI p1, ivI 0, ivU, ivU]) (st' := []) (w' := (135, μ, iv_rho)) rfl ?_
  refine T_lp_X10_givings_2 L p1 (fun μ42 r43 μ44 z39 z40 z41 h => ?_) iv_fuel 0 μ _ _ ivU ivU h
  refine iv_Ret.stl [127, 130] (ls' := [ivR 110, ivI p1, z39, z40, z41]) (st' := [ivR 128]) (w' := (135, μ42, iv_rho)) rfl ?_
  refine iv_Ret.stl [131, 132, 133, 134, 135] (ls' := [ivR 110, ivI p1, z39, z40, z41]) (st' := [ivI (iv_wr ((iv_shl 1 p1) - 1)), ivR 128]) (w' := (135, μ42, iv_rho)) rfl ?_
  obtain ⟨c45, h⟩ := iv_ckE h
  refine iv_Ret.iald (len := 256) rfl rfl rfl c45.1 c45.2 ?_
  show iv_Ret L 160 136 [ivR 110, ivI p1, z39, z40, z41] [ivI (μ42 128 (iv_wr ((iv_shl 1 p1) - 1)).toNat)] (ivST μ42) (some (ivI r43)) (ivST μ44)
  obtain ⟨rfl, rfl⟩ := iv_retE h
  exact ⟨1, rfl⟩
theorem T_lp_X10_waysBy_2 (L : Nat) (l1 : Int) (l2 : Int)  {k25 : ivM → Option (Int × ivM)} (hk25 : ∀  (μ : ivM) (r : Int) (μ' : ivM) (d3 : ivV), k25 μ = some (r, μ') → iv_Ret L 159 25 [ivR 110, ivI l1, ivI l2, d3] [] (ivST μ) (some (ivI r)) (ivST μ')) : ∀ (n : Nat) (l3 : Int) (μ : ivM) (r : Int) (μ' : ivM), lp_X10_waysBy_2 l1 l2 k25 n l3 μ = some (r, μ') → iv_Ret L 159 2 [ivR 110, ivI l1, ivI l2, ivI l3] [] (ivST μ) (some (ivI r)) (ivST μ') := by
  intro n
  induction n with
  | zero => intro l3 μ r μ' h; unfold lp_X10_waysBy_2 at h; cases h
  | succ n ih =>
    intro l3 μ r μ' h
    unfold lp_X10_waysBy_2 at h
    refine iv_Ret.stl [3, 5] (ls' := [ivR 110, ivI l1, ivI l2, ivI l3]) (st' := [ivI 8, ivI l3]) (w' := (135, μ, iv_rho)) rfl ?_
    rcases iv_iteE h with ⟨c1, h⟩ | ⟨c1, h⟩
    · refine iv_Ret.icT (t := 25) rfl (decide_eq_true c1) rfl ?_
      exact hk25 μ _ _ (ivI l3) h
    · refine iv_Ret.icF (t := 8) rfl (decide_eq_false c1) rfl ?_
      refine iv_Ret.stl [9, 12] (ls' := [ivR 110, ivI l1, ivI l2, ivI l3]) (st' := [ivR 129]) (w' := (135, μ, iv_rho)) rfl ?_
      refine iv_Ret.stl [13, 14, 15, 16, 17, 18] (ls' := [ivR 110, ivI l1, ivI l2, ivI l3]) (st' := [ivI (iv_wr ((iv_shl 1 l1) - 1)), ivI l3, ivR 129]) (w' := (135, μ, iv_rho)) rfl ?_
      obtain ⟨c2, h⟩ := iv_ckE h
      refine iv_Ret.iast (len := 8) rfl rfl rfl rfl c2.1 c2.2 ?_
      show iv_Ret L 159 19 [ivR 110, ivI l1, ivI l2, ivI l3] [] (ivST (iv_upd μ 129 l3.toNat (iv_wr ((iv_shl 1 l1) - 1)))) (some (ivI r)) (ivST μ')
      refine iv_Ret.stl [22, 2] (ls' := [ivR 110, ivI l1, ivI l2, ivI (iv_wr (l3 + 1))]) (st' := []) (w' := (135, (iv_upd μ 129 l3.toNat (iv_wr ((iv_shl 1 l1) - 1))), iv_rho)) rfl ?_
      exact ih (iv_wr (l3 + 1)) (iv_upd μ 129 l3.toNat (iv_wr ((iv_shl 1 l1) - 1))) _ _ h
theorem T_lp_X10_waysBy_27 (L : Nat) (l1 : Int) (l2 : Int)  {k58 : ivM → Option (Int × ivM)} (hk58 : ∀  (μ : ivM) (r : Int) (μ' : ivM) (d2 : ivV) (d3 : ivV), k58 μ = some (r, μ') → iv_Ret L 159 58 [ivR 110, ivI l1, d2, d3] [] (ivST μ) (some (ivI r)) (ivST μ')) : ∀ (n : Nat) (l3 : Int) (μ : ivM) (r : Int) (μ' : ivM), lp_X10_waysBy_27 l1 l2 k58 n l3 μ = some (r, μ') → iv_Ret L 159 27 [ivR 110, ivI l1, ivI l2, ivI l3] [] (ivST μ) (some (ivI r)) (ivST μ') := by
  intro n
  induction n with
  | zero => intro l3 μ r μ' h; unfold lp_X10_waysBy_27 at h; cases h
  | succ n ih =>
    intro l3 μ r μ' h
    unfold lp_X10_waysBy_27 at h
    refine iv_Ret.stl [28, 29] (ls' := [ivR 110, ivI l1, ivI l2, ivI l3]) (st' := [ivI l2, ivI l3]) (w' := (135, μ, iv_rho)) rfl ?_
    rcases iv_iteE h with ⟨c7, h⟩ | ⟨c7, h⟩
    · refine iv_Ret.icT (t := 58) rfl (decide_eq_true c7) rfl ?_
      exact hk58 μ _ _ (ivI l2) (ivI l3) h
    · refine iv_Ret.icF (t := 32) rfl (decide_eq_false c7) rfl ?_
      refine iv_Ret.stl [33, 36] (ls' := [ivR 110, ivI l1, ivI l2, ivI l3]) (st' := [ivR 129]) (w' := (135, μ, iv_rho)) rfl ?_
      refine iv_Ret.stl [37, 40] (ls' := [ivR 110, ivI l1, ivI l2, ivI l3]) (st' := [ivR 126, ivR 129]) (w' := (135, μ, iv_rho)) rfl ?_
      refine iv_Ret.stl [41] (ls' := [ivR 110, ivI l1, ivI l2, ivI l3]) (st' := [ivI l3, ivR 126, ivR 129]) (w' := (135, μ, iv_rho)) rfl ?_
      obtain ⟨c8, h⟩ := iv_ckE h
      refine iv_Ret.iald (len := 16) rfl rfl rfl c8.1 c8.2 ?_
      show iv_Ret L 159 42 [ivR 110, ivI l1, ivI l2, ivI l3] [ivI (μ 126 l3.toNat), ivR 129] (ivST μ) (some (ivI r)) (ivST μ')
      refine iv_Ret.stl [43] (ls' := [ivR 110, ivI l1, ivI l2, ivI l3]) (st' := [ivI (μ 126 l3.toNat), ivR 129, ivI (μ 126 l3.toNat), ivR 129]) (w' := (135, μ, iv_rho)) rfl ?_
      obtain ⟨c9, h⟩ := iv_ckE h
      refine iv_Ret.iald (len := 8) rfl rfl rfl c9.1 c9.2 ?_
      show iv_Ret L 159 44 [ivR 110, ivI l1, ivI l2, ivI l3] [ivI (μ 129 (μ 126 l3.toNat).toNat), ivI (μ 126 l3.toNat), ivR 129] (ivST μ) (some (ivI r)) (ivST μ')
      refine iv_Ret.stl [45, 48] (ls' := [ivR 110, ivI l1, ivI l2, ivI l3]) (st' := [ivR 127, ivI (μ 129 (μ 126 l3.toNat).toNat), ivI (μ 126 l3.toNat), ivR 129]) (w' := (135, μ, iv_rho)) rfl ?_
      refine iv_Ret.stl [49] (ls' := [ivR 110, ivI l1, ivI l2, ivI l3]) (st' := [ivI l3, ivR 127, ivI (μ 129 (μ 126 l3.toNat).toNat), ivI (μ 126 l3.toNat), ivR 129]) (w' := (135, μ, iv_rho)) rfl ?_
      obtain ⟨c10, h⟩ := iv_ckE h
      refine iv_Ret.iald (len := 16) rfl rfl rfl c10.1 c10.2 ?_
      show iv_Ret L 159 50 [ivR 110, ivI l1, ivI l2, ivI l3] [ivI (μ 127 l3.toNat), ivI (μ 129 (μ 126 l3.toNat).toNat), ivI (μ 126 l3.toNat), ivR 129] (ivST μ) (some (ivI r)) (ivST μ')
      refine iv_Ret.stl [51] (ls' := [ivR 110, ivI l1, ivI l2, ivI l3]) (st' := [ivI (iv_and (μ 129 (μ 126 l3.toNat).toNat) (μ 127 l3.toNat)), ivI (μ 126 l3.toNat), ivR 129]) (w' := (135, μ, iv_rho)) rfl ?_
      obtain ⟨c11, h⟩ := iv_ckE h
      refine iv_Ret.iast (len := 8) rfl rfl rfl rfl c11.1 c11.2 ?_
      show iv_Ret L 159 52 [ivR 110, ivI l1, ivI l2, ivI l3] [] (ivST (iv_upd μ 129 (μ 126 l3.toNat).toNat (iv_and (μ 129 (μ 126 l3.toNat).toNat) (μ 127 l3.toNat)))) (some (ivI r)) (ivST μ')
      refine iv_Ret.stl [55, 27] (ls' := [ivR 110, ivI l1, ivI l2, ivI (iv_wr (l3 + 1))]) (st' := []) (w' := (135, (iv_upd μ 129 (μ 126 l3.toNat).toNat (iv_and (μ 129 (μ 126 l3.toNat).toNat) (μ 127 l3.toNat))), iv_rho)) rfl ?_
      exact ih (iv_wr (l3 + 1)) (iv_upd μ 129 (μ 126 l3.toNat).toNat (iv_and (μ 129 (μ 126 l3.toNat).toNat) (μ 127 l3.toNat))) _ _ h
theorem T_X10_waysBy (L : Nat) (p1 : Int) (p2 : Int)  {μ μ' : ivM} {r : Int} (h : f_X10_waysBy p1 p2 μ = some (r, μ')) : iv_Ret L 159 0 [ivR 110, ivI p1, ivI p2, ivU] [] (ivST μ) (some (ivI r)) (ivST μ') := by
  unfold f_X10_waysBy at h
  refine iv_Ret.stl [1, 2] (ls' := [ivR 110, ivI p1, ivI p2, ivI 0]) (st' := []) (w' := (135, μ, iv_rho)) rfl ?_
  refine T_lp_X10_waysBy_2 L p1 p2 (fun μ4 r5 μ6 z3 h => ?_) iv_fuel 0 μ _ _ h
  refine iv_Ret.stl [26, 27] (ls' := [ivR 110, ivI p1, ivI p2, ivI 0]) (st' := []) (w' := (135, μ4, iv_rho)) rfl ?_
  refine T_lp_X10_waysBy_27 L p1 p2 (fun μ14 r15 μ16 z12 z13 h => ?_) iv_fuel 0 μ4 _ _ h
  refine iv_Ret.stl [59, 60] (ls' := [ivR 110, ivI p1, z12, z13]) (st' := [ivI p1, ivR 110]) (w' := (135, μ14, iv_rho)) rfl ?_
  obtain ⟨r17, μ18, e19, h⟩ := iv_bndE h
  refine iv_Ret.callv rfl rfl rfl (T_X10_givings L p1 e19) ?_
  show iv_Ret L 159 63 [ivR 110, ivI p1, z12, z13] [ivI r17] (ivST μ18) (some (ivI r15)) (ivST μ16)
  obtain ⟨rfl, rfl⟩ := iv_retE h
  exact ⟨1, rfl⟩
theorem T_X10_ways (L : Nat) (p1 : Int)  {μ μ' : ivM} {r : Int} (h : f_X10_ways p1 μ = some (r, μ')) : iv_Ret L 161 0 [ivR 110, ivI p1] [] (ivST μ) (some (ivI r)) (ivST μ') := by
  unfold f_X10_ways at h
  refine iv_Ret.stl [1, 2, 3, 6] (ls' := [ivR 110, ivI p1]) (st' := [ivJ 8, ivJ 1, ivJ p1]) (w' := (135, μ, iv_rho)) rfl ?_
  obtain ⟨r1, μ2, e3, h⟩ := iv_bndE h
  refine iv_Ret.calls rfl rfl (T_X10_in L p1 1 8 e3) ?_
  show iv_Ret L 161 9 [ivR 110, ivI p1] [ivI r1] (ivST μ2) (some (ivI r)) (ivST μ')
  refine iv_letE (fun j4 => ∀ (v7 : Int) (μ8 : ivM) (r9 : Int) (μ10 : ivM) (z5 : ivV) (z6 : ivV), j4 v7 μ8 = some (r9, μ10) → iv_Ret L 161 26 [z5, z6] [ivI v7] (ivST μ8) (some (ivI r9)) (ivST μ10)) h (fun v7 μ8 r9 μ10 z5 z6 h => ?_) (fun j4 hj4 h => ?_)
  · obtain ⟨rfl, rfl⟩ := iv_retE h
    exact ⟨1, rfl⟩
  · rcases iv_iteE h with ⟨c11, h⟩ | ⟨c11, h⟩
    · refine iv_Ret.ifT (t := 24) rfl (decide_eq_true c11) rfl ?_
      refine iv_Ret.stl [26] (ls' := [ivR 110, ivI p1]) (st' := [ivI (-2)]) (w' := (135, μ2, iv_rho)) rfl ?_
      exact hj4 (-2) μ2 _ _ (ivR 110) (ivI p1) h
    · refine iv_Ret.ifF (t := 12) rfl (decide_eq_false c11) rfl ?_
      refine iv_Ret.stl [13, 14, 15, 18] (ls' := [ivR 110, ivI p1]) (st' := [ivI (μ2 110 26), ivI p1, ivR 110]) (w' := (135, μ2, iv_rho)) rfl ?_
      obtain ⟨r12, μ13, e14, h⟩ := iv_bndE h
      refine iv_Ret.callv rfl rfl rfl (T_X10_waysBy L p1 (μ2 110 26) e14) ?_
      show iv_Ret L 161 21 [ivR 110, ivI p1] [ivI r12] (ivST μ13) (some (ivI r)) (ivST μ')
      refine iv_Ret.stl [26] (ls' := [ivR 110, ivI p1]) (st' := [ivI r12]) (w' := (135, μ13, iv_rho)) rfl ?_
      exact hj4 r12 μ13 _ _ (ivR 110) (ivI p1) h
theorem T_lp_X10_mayBe_51 (L : Nat) (l1 : Int) (l2 : Int) (l3 : Int)    : ∀ (n : Nat) (l4 : Int) (l5 : Int) (μ : ivM) (r : Int) (μ' : ivM), lp_X10_mayBe_51 l1 l2 l3 n l4 l5 μ = some (r, μ') → iv_Ret L 162 51 [ivR 110, ivI l1, ivI l2, ivI l3, ivI l4, ivI l5] [] (ivST μ) (some (ivI r)) (ivST μ') := by
  intro n
  induction n with
  | zero => intro l4 l5 μ r μ' h; unfold lp_X10_mayBe_51 at h; cases h
  | succ n ih =>
    intro l4 l5 μ r μ' h
    unfold lp_X10_mayBe_51 at h
    refine iv_Ret.stl [53, 54] (ls' := [ivR 110, ivI l1, ivI l2, ivI l3, ivI l4, ivI l5]) (st' := [ivI l1, ivI l5]) (w' := (135, μ, iv_rho)) rfl ?_
    rcases iv_iteE h with ⟨c23, h⟩ | ⟨c23, h⟩
    · refine iv_Ret.icT (t := 96) rfl (decide_eq_true c23) rfl ?_
      refine iv_Ret.stl [98] (ls' := [ivR 110, ivI l1, ivI l2, ivI l3, ivI l4, ivI l5]) (st' := [ivI l4]) (w' := (135, μ, iv_rho)) rfl ?_
      obtain ⟨rfl, rfl⟩ := iv_retE h
      exact ⟨1, rfl⟩
    · refine iv_Ret.icF (t := 57) rfl (decide_eq_false c23) rfl ?_
      refine iv_Ret.stl [58, 61] (ls' := [ivR 110, ivI l1, ivI l2, ivI l3, ivI l4, ivI l5]) (st' := [ivR 129]) (w' := (135, μ, iv_rho)) rfl ?_
      refine iv_Ret.stl [62, 63, 64, 66, 67, 68] (ls' := [ivR 110, ivI l1, ivI l2, ivI l3, ivI l4, ivI l5]) (st' := [ivI (iv_and l3 (iv_shl 1 l5)), ivI l2, ivR 129]) (w' := (135, μ, iv_rho)) rfl ?_
      obtain ⟨c24, h⟩ := iv_ckE h
      refine iv_Ret.iast (len := 8) rfl rfl rfl rfl c24.1 c24.2 ?_
      show iv_Ret L 162 69 [ivR 110, ivI l1, ivI l2, ivI l3, ivI l4, ivI l5] [] (ivST (iv_upd μ 129 l2.toNat (iv_and l3 (iv_shl 1 l5)))) (some (ivI r)) (ivST μ')
      refine iv_Ret.stl [71, 72, 73] (ls' := [ivR 110, ivI l1, ivI l2, ivI l3, ivI l4, ivI l5]) (st' := [ivI l1, ivR 110, ivI l4]) (w' := (135, (iv_upd μ 129 l2.toNat (iv_and l3 (iv_shl 1 l5))), iv_rho)) rfl ?_
      obtain ⟨r25, μ26, e27, h⟩ := iv_bndE h
      refine iv_Ret.callv rfl rfl rfl (T_X10_givings L l1 e27) ?_
      show iv_Ret L 162 76 [ivR 110, ivI l1, ivI l2, ivI l3, ivI l4, ivI l5] [ivI r25, ivI l4] (ivST μ26) (some (ivI r)) (ivST μ')
      refine iv_letE (fun j28 => ∀ (v30 : Int) (μ31 : ivM) (r32 : Int) (μ33 : ivM) (z29 : ivV), j28 v30 μ31 = some (r32, μ33) → iv_Ret L 162 87 [ivR 110, ivI l1, ivI l2, ivI l3, z29, ivI l5] [ivI v30, ivI l4] (ivST μ31) (some (ivI r32)) (ivST μ33)) h (fun v30 μ31 r32 μ33 z29 h => ?_) (fun j28 hj28 h => ?_)
      · refine iv_Ret.stl [88, 90, 93, 51] (ls' := [ivR 110, ivI l1, ivI l2, ivI l3, ivI (iv_or l4 v30), ivI (iv_wr (l5 + 1))]) (st' := []) (w' := (135, μ31, iv_rho)) rfl ?_
        exact ih (iv_or l4 v30) (iv_wr (l5 + 1)) μ31 _ _ h
      · rcases iv_iteE h with ⟨c34, h⟩ | ⟨c34, h⟩
        · refine iv_Ret.ifT (t := 86) rfl (decide_eq_true c34) rfl ?_
          refine iv_Ret.stl [87] (ls' := [ivR 110, ivI l1, ivI l2, ivI l3, ivI l4, ivI l5]) (st' := [ivI 0, ivI l4]) (w' := (135, μ26, iv_rho)) rfl ?_
          exact hj28 0 μ26 _ _ (ivI l4) h
        · refine iv_Ret.ifF (t := 79) rfl (decide_eq_false c34) rfl ?_
          refine iv_Ret.stl [80, 82, 83, 87] (ls' := [ivR 110, ivI l1, ivI l2, ivI l3, ivI l4, ivI l5]) (st' := [ivI (iv_shl 1 l5), ivI l4]) (w' := (135, μ26, iv_rho)) rfl ?_
          exact hj28 (iv_shl 1 l5) μ26 _ _ (ivI l4) h
theorem T_X10_mayBe (L : Nat) (p1 : Int) (p2 : Int)  {μ μ' : ivM} {r : Int} (h : f_X10_mayBe p1 p2 μ = some (r, μ')) : iv_Ret L 162 0 [ivR 110, ivI p1, ivI p2, ivU, ivU, ivU] [] (ivST μ) (some (ivI r)) (ivST μ') := by
  unfold f_X10_mayBe at h
  refine iv_Ret.stl [1, 2, 3, 6] (ls' := [ivR 110, ivI p1, ivI p2, ivU, ivU, ivU]) (st' := [ivJ 8, ivJ 1, ivJ p1]) (w' := (135, μ, iv_rho)) rfl ?_
  obtain ⟨r1, μ2, e3, h⟩ := iv_bndE h
  refine iv_Ret.calls rfl rfl (T_X10_in L p1 1 8 e3) ?_
  show iv_Ret L 162 9 [ivR 110, ivI p1, ivI p2, ivU, ivU, ivU] [ivI r1] (ivST μ2) (some (ivI r)) (ivST μ')
  refine iv_letE (fun j4 => ∀ (μ11 : ivM) (r12 : Int) (μ13 : ivM) (z5 : ivV) (z6 : ivV) (z7 : ivV) (z8 : ivV) (z9 : ivV) (z10 : ivV), j4 μ11 = some (r12, μ13) → iv_Ret L 162 25 [z5, z6, z7, z8, z9, z10] [] (ivST μ11) (some (ivI r12)) (ivST μ13)) h (fun μ11 r12 μ13 z5 z6 z7 z8 z9 z10 h => ?_) (fun j4 hj4 h => ?_)
  · refine iv_Ret.stl [27] (ls' := [z5, z6, z7, z8, z9, z10]) (st' := [ivI (-2)]) (w' := (135, μ11, iv_rho)) rfl ?_
    obtain ⟨rfl, rfl⟩ := iv_retE h
    exact ⟨1, rfl⟩
  · rcases iv_iteE h with ⟨c14, h⟩ | ⟨c14, h⟩
    · refine iv_Ret.ifT (t := 25) rfl (decide_eq_true c14) rfl ?_
      exact hj4 μ2 _ _ (ivR 110) (ivI p1) (ivI p2) ivU ivU ivU h
    · refine iv_Ret.ifF (t := 12) rfl (decide_eq_false c14) rfl ?_
      refine iv_Ret.stl [13, 14, 15, 16, 17, 18, 19] (ls' := [ivR 110, ivI p1, ivI p2, ivU, ivU, ivU]) (st' := [ivJ (iv_wr (p1 - 1)), ivJ 0, ivJ p2]) (w' := (135, μ2, iv_rho)) rfl ?_
      obtain ⟨r15, μ16, e17, h⟩ := iv_bndE h
      refine iv_Ret.calls rfl rfl (T_X10_in L p2 0 (iv_wr (p1 - 1)) e17) ?_
      show iv_Ret L 162 22 [ivR 110, ivI p1, ivI p2, ivU, ivU, ivU] [ivI r15] (ivST μ16) (some (ivI r)) (ivST μ')
      rcases iv_iteE h with ⟨c18, h⟩ | ⟨c18, h⟩
      · refine iv_Ret.ifF (t := 25) rfl (decide_eq_false (not_not_intro c18)) rfl ?_
        exact hj4 μ16 _ _ (ivR 110) (ivI p1) (ivI p2) ivU ivU ivU h
      · refine iv_Ret.ifT (t := 28) rfl (decide_eq_true c18) rfl ?_
        refine iv_Ret.stl [29, 30, 31, 34] (ls' := [ivR 110, ivI p1, ivI p2, ivU, ivU, ivU]) (st' := [ivI (μ16 110 26), ivI p1, ivR 110]) (w' := (135, μ16, iv_rho)) rfl ?_
        obtain ⟨r19, μ20, e21, h⟩ := iv_bndE h
        refine iv_Ret.callv rfl rfl rfl (T_X10_waysBy L p1 (μ16 110 26) e21) ?_
        show iv_Ret L 162 37 [ivR 110, ivI p1, ivI p2, ivU, ivU, ivU] [ivI r19] (ivST μ20) (some (ivI r)) (ivST μ')
        refine iv_Ret.stl [38, 39, 42] (ls' := [ivR 110, ivI p1, ivI p2, ivU, ivU, ivU]) (st' := [ivR 129]) (w' := (135, μ20, iv_rho)) rfl ?_
        refine iv_Ret.stl [43] (ls' := [ivR 110, ivI p1, ivI p2, ivU, ivU, ivU]) (st' := [ivI p2, ivR 129]) (w' := (135, μ20, iv_rho)) rfl ?_
        obtain ⟨c22, h⟩ := iv_ckE h
        refine iv_Ret.iald (len := 8) rfl rfl rfl c22.1 c22.2 ?_
        show iv_Ret L 162 44 [ivR 110, ivI p1, ivI p2, ivU, ivU, ivU] [ivI (μ20 129 p2.toNat)] (ivST μ20) (some (ivI r)) (ivST μ')
        refine iv_Ret.stl [45, 46, 48, 49, 51] (ls' := [ivR 110, ivI p1, ivI p2, ivI (μ20 129 p2.toNat), ivI 0, ivI 0]) (st' := []) (w' := (135, μ20, iv_rho)) rfl ?_
        exact T_lp_X10_mayBe_51 L p1 p2 (μ20 129 p2.toNat) iv_fuel 0 0 μ20 _ _ h
theorem T_lp_X10_breaks_17 (L : Nat) (l1 : Int)    : ∀ (n : Nat) (l2 : Int) (μ : ivM) (r : Int) (μ' : ivM), lp_X10_breaks_17 l1 n l2 μ = some (r, μ') → iv_Ret L 163 17 [ivR 110, ivI l1, ivI l2] [] (ivST μ) (some (ivI r)) (ivST μ') := by
  intro n
  induction n with
  | zero => intro l2 μ r μ' h; unfold lp_X10_breaks_17 at h; cases h
  | succ n ih =>
    intro l2 μ r μ' h
    unfold lp_X10_breaks_17 at h
    refine iv_Ret.stl [18, 19, 22] (ls' := [ivR 110, ivI l1, ivI l2]) (st' := [ivI (μ 110 26), ivI l2]) (w' := (135, μ, iv_rho)) rfl ?_
    rcases iv_iteE h with ⟨c5, h⟩ | ⟨c5, h⟩
    · refine iv_Ret.icT (t := 44) rfl (decide_eq_true c5) rfl ?_
      refine iv_Ret.stl [46] (ls' := [ivR 110, ivI l1, ivI l2]) (st' := [ivI (-9)]) (w' := (135, μ, iv_rho)) rfl ?_
      obtain ⟨rfl, rfl⟩ := iv_retE h
      exact ⟨1, rfl⟩
    · refine iv_Ret.icF (t := 25) rfl (decide_eq_false c5) rfl ?_
      refine iv_Ret.stl [26, 27, 28, 29, 30] (ls' := [ivR 110, ivI l1, ivI l2]) (st' := [ivI (iv_wr (l2 + 1)), ivI l1, ivR 110]) (w' := (135, μ, iv_rho)) rfl ?_
      obtain ⟨r6, μ7, e8, h⟩ := iv_bndE h
      refine iv_Ret.callv rfl rfl rfl (T_X10_waysBy L l1 (iv_wr (l2 + 1)) e8) ?_
      show iv_Ret L 163 33 [ivR 110, ivI l1, ivI l2] [ivI r6] (ivST μ7) (some (ivI r)) (ivST μ')
      rcases iv_iteE h with ⟨c9, h⟩ | ⟨c9, h⟩
      · refine iv_Ret.ifF (t := 36) rfl (decide_eq_false (not_not_intro c9)) rfl ?_
        refine iv_Ret.stl [37] (ls' := [ivR 110, ivI l1, ivI l2]) (st' := [ivI l2]) (w' := (135, μ7, iv_rho)) rfl ?_
        obtain ⟨rfl, rfl⟩ := iv_retE h
        exact ⟨1, rfl⟩
      · refine iv_Ret.ifT (t := 38) rfl (decide_eq_true c9) rfl ?_
        refine iv_Ret.stl [41, 17] (ls' := [ivR 110, ivI l1, ivI (iv_wr (l2 + 1))]) (st' := []) (w' := (135, μ7, iv_rho)) rfl ?_
        exact ih (iv_wr (l2 + 1)) μ7 _ _ h
theorem T_X10_breaks (L : Nat) (p1 : Int)  {μ μ' : ivM} {r : Int} (h : f_X10_breaks p1 μ = some (r, μ')) : iv_Ret L 163 0 [ivR 110, ivI p1, ivU] [] (ivST μ) (some (ivI r)) (ivST μ') := by
  unfold f_X10_breaks at h
  refine iv_Ret.stl [1, 2, 3, 6] (ls' := [ivR 110, ivI p1, ivU]) (st' := [ivJ 8, ivJ 1, ivJ p1]) (w' := (135, μ, iv_rho)) rfl ?_
  obtain ⟨r1, μ2, e3, h⟩ := iv_bndE h
  refine iv_Ret.calls rfl rfl (T_X10_in L p1 1 8 e3) ?_
  show iv_Ret L 163 9 [ivR 110, ivI p1, ivU] [ivI r1] (ivST μ2) (some (ivI r)) (ivST μ')
  rcases iv_iteE h with ⟨c4, h⟩ | ⟨c4, h⟩
  · refine iv_Ret.ifF (t := 12) rfl (decide_eq_false (not_not_intro c4)) rfl ?_
    refine iv_Ret.stl [14] (ls' := [ivR 110, ivI p1, ivU]) (st' := [ivI (-2)]) (w' := (135, μ2, iv_rho)) rfl ?_
    obtain ⟨rfl, rfl⟩ := iv_retE h
    exact ⟨1, rfl⟩
  · refine iv_Ret.ifT (t := 15) rfl (decide_eq_true c4) rfl ?_
    refine iv_Ret.stl [16, 17] (ls' := [ivR 110, ivI p1, ivI 0]) (st' := []) (w' := (135, μ2, iv_rho)) rfl ?_
    exact T_lp_X10_breaks_17 L p1 iv_fuel 0 μ2 _ _ h
theorem T_lp_X10_twins_88 (L : Nat) (l1 : Int) (l2 : Int) (l3 : Int) (l4 : Int)  {k148 : Int → ivM → Option (Int × ivM)} (hk148 : ∀ (l5 : Int) (μ : ivM) (r : Int) (μ' : ivM) (d6 : ivV), k148 l5 μ = some (r, μ') → iv_Ret L 164 148 [ivR 110, ivI l1, ivI l2, ivI l3, ivI l4, ivI l5, d6] [] (ivST μ) (some (ivI r)) (ivST μ')) : ∀ (n : Nat) (l5 : Int) (l6 : Int) (μ : ivM) (r : Int) (μ' : ivM), lp_X10_twins_88 l1 l2 l3 l4 k148 n l5 l6 μ = some (r, μ') → iv_Ret L 164 88 [ivR 110, ivI l1, ivI l2, ivI l3, ivI l4, ivI l5, ivI l6] [] (ivST μ) (some (ivI r)) (ivST μ') := by
  intro n
  induction n with
  | zero => intro l5 l6 μ r μ' h; unfold lp_X10_twins_88 at h; cases h
  | succ n ih =>
    intro l5 l6 μ r μ' h
    unfold lp_X10_twins_88 at h
    refine iv_Ret.stl [90, 91, 94] (ls' := [ivR 110, ivI l1, ivI l2, ivI l3, ivI l4, ivI l5, ivI l6]) (st' := [ivR 116, ivI l6]) (w' := (135, μ, iv_rho)) rfl ?_
    refine iv_Ret.stl [95] (ls' := [ivR 110, ivI l1, ivI l2, ivI l3, ivI l4, ivI l5, ivI l6]) (st' := [ivI l3, ivR 116, ivI l6]) (w' := (135, μ, iv_rho)) rfl ?_
    obtain ⟨c14, h⟩ := iv_ckE h
    refine iv_Ret.iald (len := 8) rfl rfl rfl c14.1 c14.2 ?_
    show iv_Ret L 164 96 [ivR 110, ivI l1, ivI l2, ivI l3, ivI l4, ivI l5, ivI l6] [ivI (μ 116 l3.toNat), ivI l6] (ivST μ) (some (ivI r)) (ivST μ')
    rcases iv_iteE h with ⟨c15, h⟩ | ⟨c15, h⟩
    · refine iv_Ret.icT (t := 148) rfl (decide_eq_true c15) rfl ?_
      exact hk148 l5 μ _ _ (ivI l6) h
    · refine iv_Ret.icF (t := 99) rfl (decide_eq_false c15) rfl ?_
      refine iv_Ret.stl [101] (ls' := [ivR 110, ivI l1, ivI l2, ivI l3, ivI l4, ivI l5, ivI l6]) (st' := [ivI l5]) (w' := (135, μ, iv_rho)) rfl ?_
      rcases iv_iteE h with ⟨c16, h⟩ | ⟨c16, h⟩
      · refine iv_Ret.ifT (t := 148) rfl (decide_eq_true c16) rfl ?_
        exact hk148 l5 μ _ _ (ivI l6) h
      · refine iv_Ret.ifF (t := 104) rfl (decide_eq_false c16) rfl ?_
        refine iv_Ret.stl [105, 108] (ls' := [ivR 110, ivI l1, ivI l2, ivI l3, ivI l4, ivI l5, ivI l6]) (st' := [ivR 115]) (w' := (135, μ, iv_rho)) rfl ?_
        refine iv_Ret.stl [109, 110, 111, 113, 114] (ls' := [ivR 110, ivI l1, ivI l2, ivI l3, ivI l4, ivI l5, ivI l6]) (st' := [ivI (iv_wr ((iv_wr (5 * l3)) + l6)), ivR 115]) (w' := (135, μ, iv_rho)) rfl ?_
        obtain ⟨c17, h⟩ := iv_ckE h
        refine iv_Ret.iald (len := 40) rfl rfl rfl c17.1 c17.2 ?_
        show iv_Ret L 164 115 [ivR 110, ivI l1, ivI l2, ivI l3, ivI l4, ivI l5, ivI l6] [ivI (μ 115 (iv_wr ((iv_wr (5 * l3)) + l6)).toNat)] (ivST μ) (some (ivI r)) (ivST μ')
        refine iv_Ret.stl [116, 117, 119, 120, 121, 124] (ls' := [ivR 110, ivI l1, ivI l2, ivI l3, ivI l4, ivI l5, ivI l6]) (st' := [ivR 115, ivI (iv_rem (iv_wr ((μ 115 (iv_wr ((iv_wr (5 * l3)) + l6)).toNat) + l1)) 6)]) (w' := (135, μ, iv_rho)) rfl ?_
        refine iv_Ret.stl [125, 127, 128, 130, 131] (ls' := [ivR 110, ivI l1, ivI l2, ivI l3, ivI l4, ivI l5, ivI l6]) (st' := [ivI (iv_wr ((iv_wr (5 * l4)) + l6)), ivR 115, ivI (iv_rem (iv_wr ((μ 115 (iv_wr ((iv_wr (5 * l3)) + l6)).toNat) + l1)) 6)]) (w' := (135, μ, iv_rho)) rfl ?_
        obtain ⟨c18, h⟩ := iv_ckE h
        refine iv_Ret.iald (len := 40) rfl rfl rfl c18.1 c18.2 ?_
        show iv_Ret L 164 132 [ivR 110, ivI l1, ivI l2, ivI l3, ivI l4, ivI l5, ivI l6] [ivI (μ 115 (iv_wr ((iv_wr (5 * l4)) + l6)).toNat), ivI (iv_rem (iv_wr ((μ 115 (iv_wr ((iv_wr (5 * l3)) + l6)).toNat) + l1)) 6)] (ivST μ) (some (ivI r)) (ivST μ')
        refine iv_letE (fun j19 => ∀ (v21 : Int) (μ22 : ivM) (r23 : Int) (μ24 : ivM) (z20 : ivV), j19 v21 μ22 = some (r23, μ24) → iv_Ret L 164 140 [ivR 110, ivI l1, ivI l2, ivI l3, ivI l4, z20, ivI l6] [ivI v21] (ivST μ22) (some (ivI r23)) (ivST μ24)) h (fun v21 μ22 r23 μ24 z20 h => ?_) (fun j19 hj19 h => ?_)
        · refine iv_Ret.stl [142, 145, 88] (ls' := [ivR 110, ivI l1, ivI l2, ivI l3, ivI l4, ivI v21, ivI (iv_wr (l6 + 1))]) (st' := []) (w' := (135, μ22, iv_rho)) rfl ?_
          exact ih v21 (iv_wr (l6 + 1)) μ22 _ _ h
        · rcases iv_iteE h with ⟨c25, h⟩ | ⟨c25, h⟩
          · refine iv_Ret.icF (t := 135) rfl (decide_eq_false (not_not_intro c25)) rfl ?_
            refine iv_Ret.stl [136, 140] (ls' := [ivR 110, ivI l1, ivI l2, ivI l3, ivI l4, ivI l5, ivI l6]) (st' := [ivI 1]) (w' := (135, μ, iv_rho)) rfl ?_
            exact hj19 1 μ _ _ (ivI l5) h
          · refine iv_Ret.icT (t := 139) rfl (decide_eq_true c25) rfl ?_
            refine iv_Ret.stl [140] (ls' := [ivR 110, ivI l1, ivI l2, ivI l3, ivI l4, ivI l5, ivI l6]) (st' := [ivI 0]) (w' := (135, μ, iv_rho)) rfl ?_
            exact hj19 0 μ _ _ (ivI l5) h
theorem T_lp_X10_twins_30 (L : Nat) (l1 : Int) (l3 : Int)  {k167 : Int → ivM → Option (Int × ivM)} (hk167 : ∀ (l2 : Int) (μ : ivM) (r : Int) (μ' : ivM) (d4 : ivV) (d5 : ivV) (d6 : ivV), k167 l2 μ = some (r, μ') → iv_Ret L 164 167 [ivR 110, ivI l1, ivI l2, ivI l3, d4, d5, d6] [] (ivST μ) (some (ivI r)) (ivST μ')) : ∀ (n : Nat) (l2 : Int) (l4 : Int) (μ : ivM) (r : Int) (μ' : ivM) (d5 : ivV) (d6 : ivV), lp_X10_twins_30 l1 l3 k167 n l2 l4 μ = some (r, μ') → iv_Ret L 164 30 [ivR 110, ivI l1, ivI l2, ivI l3, ivI l4, d5, d6] [] (ivST μ) (some (ivI r)) (ivST μ') := by
  intro n
  induction n with
  | zero => intro l2 l4 μ r μ' d5 d6 h; unfold lp_X10_twins_30 at h; cases h
  | succ n ih =>
    intro l2 l4 μ r μ' d5 d6 h
    unfold lp_X10_twins_30 at h
    refine iv_Ret.stl [32, 33, 36] (ls' := [ivR 110, ivI l1, ivI l2, ivI l3, ivI l4, d5, d6]) (st' := [ivI (μ 110 13), ivI l4]) (w' := (135, μ, iv_rho)) rfl ?_
    rcases iv_iteE h with ⟨c6, h⟩ | ⟨c6, h⟩
    · refine iv_Ret.icT (t := 167) rfl (decide_eq_true c6) rfl ?_
      exact hk167 l2 μ _ _ (ivI l4) d5 d6 h
    · refine iv_Ret.icF (t := 39) rfl (decide_eq_false c6) rfl ?_
      refine iv_Ret.stl [40, 42] (ls' := [ivR 110, ivI l1, ivI l2, ivI l3, ivI l4, d5, d6]) (st' := [ivI l4, ivI l3]) (w' := (135, μ, iv_rho)) rfl ?_
      refine iv_letE (fun j7 => ∀ (v10 : Int) (μ11 : ivM) (r12 : Int) (μ13 : ivM) (z8 : ivV) (z9 : ivV), j7 v10 μ11 = some (r12, μ13) → iv_Ret L 164 83 [ivR 110, ivI l1, ivI l2, ivI l3, ivI l4, z8, z9] [ivI v10] (ivST μ11) (some (ivI r12)) (ivST μ13)) h (fun v10 μ11 r12 μ13 z8 z9 h => ?_) (fun j7 hj7 h => ?_)
      · refine iv_Ret.stl [85, 86, 88] (ls' := [ivR 110, ivI l1, ivI l2, ivI l3, ivI l4, ivI v10, ivI 0]) (st' := []) (w' := (135, μ11, iv_rho)) rfl ?_
        refine T_lp_X10_twins_88 L l1 l2 l3 l4 (fun w26 μ28 r29 μ30 z27 h => ?_) iv_fuel v10 0 μ11 _ _ h
        refine iv_Ret.stl [149, 151] (ls' := [ivR 110, ivI l1, ivI l2, ivI l3, ivI l4, ivI w26, z27]) (st' := [ivI w26, ivI l2]) (w' := (135, μ28, iv_rho)) rfl ?_
        refine iv_letE (fun j31 => ∀ (v35 : Int) (μ36 : ivM) (r37 : Int) (μ38 : ivM) (z32 : ivV) (z33 : ivV) (z34 : ivV), j31 v35 μ36 = some (r37, μ38) → iv_Ret L 164 159 [ivR 110, ivI l1, z32, ivI l3, ivI l4, z33, z34] [ivI v35, ivI l2] (ivST μ36) (some (ivI r37)) (ivST μ38)) h (fun v35 μ36 r37 μ38 z32 z33 z34 h => ?_) (fun j31 hj31 h => ?_)
        · refine iv_Ret.stl [160, 161, 164, 30] (ls' := [ivR 110, ivI l1, ivI (iv_wr (l2 + v35)), ivI l3, ivI (iv_wr (l4 + 1)), z33, z34]) (st' := []) (w' := (135, μ36, iv_rho)) rfl ?_
          exact ih (iv_wr (l2 + v35)) (iv_wr (l4 + 1)) μ36 _ _ z33 z34 h
        · rcases iv_iteE h with ⟨c39, h⟩ | ⟨c39, h⟩
          · refine iv_Ret.ifT (t := 158) rfl (decide_eq_true c39) rfl ?_
            refine iv_Ret.stl [159] (ls' := [ivR 110, ivI l1, ivI l2, ivI l3, ivI l4, ivI w26, z27]) (st' := [ivI 0, ivI l2]) (w' := (135, μ28, iv_rho)) rfl ?_
            exact hj31 0 μ28 _ _ (ivI l2) (ivI w26) z27 h
          · refine iv_Ret.ifF (t := 154) rfl (decide_eq_false c39) rfl ?_
            refine iv_Ret.stl [155, 159] (ls' := [ivR 110, ivI l1, ivI l2, ivI l3, ivI l4, ivI w26, z27]) (st' := [ivI 1, ivI l2]) (w' := (135, μ28, iv_rho)) rfl ?_
            exact hj31 1 μ28 _ _ (ivI l2) (ivI w26) z27 h
      · refine iv_letE (fun j40 => ∀ (μ43 : ivM) (r44 : Int) (μ45 : ivM) (z41 : ivV) (z42 : ivV), j40 μ43 = some (r44, μ45) → iv_Ret L 164 82 [ivR 110, ivI l1, ivI l2, ivI l3, ivI l4, z41, z42] [] (ivST μ43) (some (ivI r44)) (ivST μ45)) h (fun μ43 r44 μ45 z41 z42 h => ?_) (fun j40 hj40 h => ?_)
        · refine iv_Ret.stl [83] (ls' := [ivR 110, ivI l1, ivI l2, ivI l3, ivI l4, z41, z42]) (st' := [ivI 0]) (w' := (135, μ43, iv_rho)) rfl ?_
          exact hj7 0 μ43 _ _ z41 z42 h
        · rcases iv_iteE h with ⟨c46, h⟩ | ⟨c46, h⟩
          · refine iv_Ret.icT (t := 82) rfl (decide_eq_true c46) rfl ?_
            exact hj40 μ _ _ d5 d6 h
          · refine iv_Ret.icF (t := 45) rfl (decide_eq_false c46) rfl ?_
            refine iv_Ret.stl [46, 47] (ls' := [ivR 110, ivI l1, ivI l2, ivI l3, ivI l4, d5, d6]) (st' := [ivI l3, ivR 110]) (w' := (135, μ, iv_rho)) rfl ?_
            obtain ⟨r47, μ48, e49, h⟩ := iv_bndE h
            refine iv_Ret.callv rfl rfl rfl (T_X10_isLive L l3 e49) ?_
            show iv_Ret L 164 50 [ivR 110, ivI l1, ivI l2, ivI l3, ivI l4, d5, d6] [ivI r47] (ivST μ48) (some (ivI r)) (ivST μ')
            rcases iv_iteE h with ⟨c50, h⟩ | ⟨c50, h⟩
            · refine iv_Ret.ifT (t := 82) rfl (decide_eq_true c50) rfl ?_
              exact hj40 μ48 _ _ d5 d6 h
            · refine iv_Ret.ifF (t := 53) rfl (decide_eq_false c50) rfl ?_
              refine iv_Ret.stl [54, 56] (ls' := [ivR 110, ivI l1, ivI l2, ivI l3, ivI l4, d5, d6]) (st' := [ivI l4, ivR 110]) (w' := (135, μ48, iv_rho)) rfl ?_
              obtain ⟨r51, μ52, e53, h⟩ := iv_bndE h
              refine iv_Ret.callv rfl rfl rfl (T_X10_isLive L l4 e53) ?_
              show iv_Ret L 164 59 [ivR 110, ivI l1, ivI l2, ivI l3, ivI l4, d5, d6] [ivI r51] (ivST μ52) (some (ivI r)) (ivST μ')
              rcases iv_iteE h with ⟨c54, h⟩ | ⟨c54, h⟩
              · refine iv_Ret.ifT (t := 82) rfl (decide_eq_true c54) rfl ?_
                exact hj40 μ52 _ _ d5 d6 h
              · refine iv_Ret.ifF (t := 62) rfl (decide_eq_false c54) rfl ?_
                refine iv_Ret.stl [63, 66] (ls' := [ivR 110, ivI l1, ivI l2, ivI l3, ivI l4, d5, d6]) (st' := [ivR 116]) (w' := (135, μ52, iv_rho)) rfl ?_
                refine iv_Ret.stl [67] (ls' := [ivR 110, ivI l1, ivI l2, ivI l3, ivI l4, d5, d6]) (st' := [ivI l3, ivR 116]) (w' := (135, μ52, iv_rho)) rfl ?_
                obtain ⟨c55, h⟩ := iv_ckE h
                refine iv_Ret.iald (len := 8) rfl rfl rfl c55.1 c55.2 ?_
                show iv_Ret L 164 68 [ivR 110, ivI l1, ivI l2, ivI l3, ivI l4, d5, d6] [ivI (μ52 116 l3.toNat)] (ivST μ52) (some (ivI r)) (ivST μ')
                refine iv_Ret.stl [69, 72] (ls' := [ivR 110, ivI l1, ivI l2, ivI l3, ivI l4, d5, d6]) (st' := [ivR 116, ivI (μ52 116 l3.toNat)]) (w' := (135, μ52, iv_rho)) rfl ?_
                refine iv_Ret.stl [74] (ls' := [ivR 110, ivI l1, ivI l2, ivI l3, ivI l4, d5, d6]) (st' := [ivI l4, ivR 116, ivI (μ52 116 l3.toNat)]) (w' := (135, μ52, iv_rho)) rfl ?_
                obtain ⟨c56, h⟩ := iv_ckE h
                refine iv_Ret.iald (len := 8) rfl rfl rfl c56.1 c56.2 ?_
                show iv_Ret L 164 75 [ivR 110, ivI l1, ivI l2, ivI l3, ivI l4, d5, d6] [ivI (μ52 116 l4.toNat), ivI (μ52 116 l3.toNat)] (ivST μ52) (some (ivI r)) (ivST μ')
                rcases iv_iteE h with ⟨c57, h⟩ | ⟨c57, h⟩
                · refine iv_Ret.icF (t := 78) rfl (decide_eq_false (not_not_intro c57)) rfl ?_
                  refine iv_Ret.stl [79, 83] (ls' := [ivR 110, ivI l1, ivI l2, ivI l3, ivI l4, d5, d6]) (st' := [ivI 1]) (w' := (135, μ52, iv_rho)) rfl ?_
                  exact hj7 1 μ52 _ _ d5 d6 h
                · refine iv_Ret.icT (t := 82) rfl (decide_eq_true c57) rfl ?_
                  exact hj40 μ52 _ _ d5 d6 h
theorem T_lp_X10_twins_19 (L : Nat) (l1 : Int)    : ∀ (n : Nat) (l2 : Int) (l3 : Int) (μ : ivM) (r : Int) (μ' : ivM) (d4 : ivV) (d5 : ivV) (d6 : ivV), lp_X10_twins_19 l1 n l2 l3 μ = some (r, μ') → iv_Ret L 164 19 [ivR 110, ivI l1, ivI l2, ivI l3, d4, d5, d6] [] (ivST μ) (some (ivI r)) (ivST μ') := by
  intro n
  induction n with
  | zero => intro l2 l3 μ r μ' d4 d5 d6 h; unfold lp_X10_twins_19 at h; cases h
  | succ n ih =>
    intro l2 l3 μ r μ' d4 d5 d6 h
    unfold lp_X10_twins_19 at h
    refine iv_Ret.stl [20, 21, 24] (ls' := [ivR 110, ivI l1, ivI l2, ivI l3, d4, d5, d6]) (st' := [ivI (μ 110 13), ivI l3]) (w' := (135, μ, iv_rho)) rfl ?_
    rcases iv_iteE h with ⟨c5, h⟩ | ⟨c5, h⟩
    · refine iv_Ret.icT (t := 173) rfl (decide_eq_true c5) rfl ?_
      refine iv_Ret.stl [174] (ls' := [ivR 110, ivI l1, ivI l2, ivI l3, d4, d5, d6]) (st' := [ivI l2]) (w' := (135, μ, iv_rho)) rfl ?_
      obtain ⟨rfl, rfl⟩ := iv_retE h
      exact ⟨1, rfl⟩
    · refine iv_Ret.icF (t := 27) rfl (decide_eq_false c5) rfl ?_
      refine iv_Ret.stl [28, 30] (ls' := [ivR 110, ivI l1, ivI l2, ivI l3, ivI 0, d5, d6]) (st' := []) (w' := (135, μ, iv_rho)) rfl ?_
      refine T_lp_X10_twins_30 L l1 l3 (fun w58 μ62 r63 μ64 z59 z60 z61 h => ?_) iv_fuel l2 0 μ _ _ d5 d6 h
      refine iv_Ret.stl [170, 19] (ls' := [ivR 110, ivI l1, ivI w58, ivI (iv_wr (l3 + 1)), z59, z60, z61]) (st' := []) (w' := (135, μ62, iv_rho)) rfl ?_
      exact ih w58 (iv_wr (l3 + 1)) μ62 _ _ z59 z60 z61 h
theorem T_X10_twins (L : Nat) (p1 : Int)  {μ μ' : ivM} {r : Int} (h : f_X10_twins p1 μ = some (r, μ')) : iv_Ret L 164 0 [ivR 110, ivI p1, ivU, ivU, ivU, ivU, ivU] [] (ivST μ) (some (ivI r)) (ivST μ') := by
  unfold f_X10_twins at h
  refine iv_Ret.stl [1, 2, 3, 6] (ls' := [ivR 110, ivI p1, ivU, ivU, ivU, ivU, ivU]) (st' := [ivJ 5, ivJ 1, ivJ p1]) (w' := (135, μ, iv_rho)) rfl ?_
  obtain ⟨r1, μ2, e3, h⟩ := iv_bndE h
  refine iv_Ret.calls rfl rfl (T_X10_in L p1 1 5 e3) ?_
  show iv_Ret L 164 9 [ivR 110, ivI p1, ivU, ivU, ivU, ivU, ivU] [ivI r1] (ivST μ2) (some (ivI r)) (ivST μ')
  rcases iv_iteE h with ⟨c4, h⟩ | ⟨c4, h⟩
  · refine iv_Ret.ifF (t := 12) rfl (decide_eq_false (not_not_intro c4)) rfl ?_
    refine iv_Ret.stl [14] (ls' := [ivR 110, ivI p1, ivU, ivU, ivU, ivU, ivU]) (st' := [ivI (-2)]) (w' := (135, μ2, iv_rho)) rfl ?_
    obtain ⟨rfl, rfl⟩ := iv_retE h
    exact ⟨1, rfl⟩
  · refine iv_Ret.ifT (t := 15) rfl (decide_eq_true c4) rfl ?_
    refine iv_Ret.stl [16, 17, 18, 19] (ls' := [ivR 110, ivI p1, ivI 0, ivI 0, ivU, ivU, ivU]) (st' := []) (w' := (135, μ2, iv_rho)) rfl ?_
    exact T_lp_X10_twins_19 L p1 iv_fuel 0 0 μ2 _ _ ivU ivU ivU h
theorem T_lp_X10_keep_21 (L : Nat) (l1 : Int)  {k50 : ivM → Option (Int × ivM)} (hk50 : ∀  (μ : ivM) (r : Int) (μ' : ivM) (d2 : ivV), k50 μ = some (r, μ') → iv_Ret L 165 50 [ivR 110, ivI l1, d2] [] (ivST μ) (some (ivI r)) (ivST μ')) : ∀ (n : Nat) (l2 : Int) (μ : ivM) (r : Int) (μ' : ivM), lp_X10_keep_21 l1 k50 n l2 μ = some (r, μ') → iv_Ret L 165 21 [ivR 110, ivI l1, ivI l2] [] (ivST μ) (some (ivI r)) (ivST μ') := by
  intro n
  induction n with
  | zero => intro l2 μ r μ' h; unfold lp_X10_keep_21 at h; cases h
  | succ n ih =>
    intro l2 μ r μ' h
    unfold lp_X10_keep_21 at h
    refine iv_Ret.stl [22, 24] (ls' := [ivR 110, ivI l1, ivI l2]) (st' := [ivI 40, ivI l2]) (w' := (135, μ, iv_rho)) rfl ?_
    rcases iv_iteE h with ⟨c6, h⟩ | ⟨c6, h⟩
    · refine iv_Ret.icT (t := 50) rfl (decide_eq_true c6) rfl ?_
      exact hk50 μ _ _ (ivI l2) h
    · refine iv_Ret.icF (t := 27) rfl (decide_eq_false c6) rfl ?_
      refine iv_Ret.stl [28, 31] (ls' := [ivR 110, ivI l1, ivI l2]) (st' := [ivR 131]) (w' := (135, μ, iv_rho)) rfl ?_
      refine iv_Ret.stl [33, 34, 35, 36, 37, 38, 41] (ls' := [ivR 110, ivI l1, ivI l2]) (st' := [ivR 115, ivI (iv_wr ((iv_wr (40 * l1)) + l2)), ivR 131]) (w' := (135, μ, iv_rho)) rfl ?_
      refine iv_Ret.stl [42] (ls' := [ivR 110, ivI l1, ivI l2]) (st' := [ivI l2, ivR 115, ivI (iv_wr ((iv_wr (40 * l1)) + l2)), ivR 131]) (w' := (135, μ, iv_rho)) rfl ?_
      obtain ⟨c7, h⟩ := iv_ckE h
      refine iv_Ret.iald (len := 40) rfl rfl rfl c7.1 c7.2 ?_
      show iv_Ret L 165 43 [ivR 110, ivI l1, ivI l2] [ivI (μ 115 l2.toNat), ivI (iv_wr ((iv_wr (40 * l1)) + l2)), ivR 131] (ivST μ) (some (ivI r)) (ivST μ')
      obtain ⟨c8, h⟩ := iv_ckE h
      refine iv_Ret.iast (len := 80) rfl rfl rfl rfl c8.1 c8.2 ?_
      show iv_Ret L 165 44 [ivR 110, ivI l1, ivI l2] [] (ivST (iv_upd μ 131 (iv_wr ((iv_wr (40 * l1)) + l2)).toNat (μ 115 l2.toNat))) (some (ivI r)) (ivST μ')
      refine iv_Ret.stl [47, 21] (ls' := [ivR 110, ivI l1, ivI (iv_wr (l2 + 1))]) (st' := []) (w' := (135, (iv_upd μ 131 (iv_wr ((iv_wr (40 * l1)) + l2)).toNat (μ 115 l2.toNat)), iv_rho)) rfl ?_
      exact ih (iv_wr (l2 + 1)) (iv_upd μ 131 (iv_wr ((iv_wr (40 * l1)) + l2)).toNat (μ 115 l2.toNat)) _ _ h
theorem T_lp_X10_keep_52 (L : Nat) (l1 : Int)  {k115 : ivM → Option (Int × ivM)} (hk115 : ∀  (μ : ivM) (r : Int) (μ' : ivM) (d2 : ivV), k115 μ = some (r, μ') → iv_Ret L 165 115 [ivR 110, ivI l1, d2] [] (ivST μ) (some (ivI r)) (ivST μ')) : ∀ (n : Nat) (l2 : Int) (μ : ivM) (r : Int) (μ' : ivM), lp_X10_keep_52 l1 k115 n l2 μ = some (r, μ') → iv_Ret L 165 52 [ivR 110, ivI l1, ivI l2] [] (ivST μ) (some (ivI r)) (ivST μ') := by
  intro n
  induction n with
  | zero => intro l2 μ r μ' h; unfold lp_X10_keep_52 at h; cases h
  | succ n ih =>
    intro l2 μ r μ' h
    unfold lp_X10_keep_52 at h
    refine iv_Ret.stl [53, 55] (ls' := [ivR 110, ivI l1, ivI l2]) (st' := [ivI 8, ivI l2]) (w' := (135, μ, iv_rho)) rfl ?_
    rcases iv_iteE h with ⟨c13, h⟩ | ⟨c13, h⟩
    · refine iv_Ret.icT (t := 115) rfl (decide_eq_true c13) rfl ?_
      exact hk115 μ _ _ (ivI l2) h
    · refine iv_Ret.icF (t := 58) rfl (decide_eq_false c13) rfl ?_
      refine iv_Ret.stl [59, 62] (ls' := [ivR 110, ivI l1, ivI l2]) (st' := [ivR 132]) (w' := (135, μ, iv_rho)) rfl ?_
      refine iv_Ret.stl [64, 65, 66, 67, 68, 69, 72] (ls' := [ivR 110, ivI l1, ivI l2]) (st' := [ivR 116, ivI (iv_wr ((iv_wr (8 * l1)) + l2)), ivR 132]) (w' := (135, μ, iv_rho)) rfl ?_
      refine iv_Ret.stl [73] (ls' := [ivR 110, ivI l1, ivI l2]) (st' := [ivI l2, ivR 116, ivI (iv_wr ((iv_wr (8 * l1)) + l2)), ivR 132]) (w' := (135, μ, iv_rho)) rfl ?_
      obtain ⟨c14, h⟩ := iv_ckE h
      refine iv_Ret.iald (len := 8) rfl rfl rfl c14.1 c14.2 ?_
      show iv_Ret L 165 74 [ivR 110, ivI l1, ivI l2] [ivI (μ 116 l2.toNat), ivI (iv_wr ((iv_wr (8 * l1)) + l2)), ivR 132] (ivST μ) (some (ivI r)) (ivST μ')
      obtain ⟨c15, h⟩ := iv_ckE h
      refine iv_Ret.iast (len := 16) rfl rfl rfl rfl c15.1 c15.2 ?_
      show iv_Ret L 165 75 [ivR 110, ivI l1, ivI l2] [] (ivST (iv_upd μ 132 (iv_wr ((iv_wr (8 * l1)) + l2)).toNat (μ 116 l2.toNat))) (some (ivI r)) (ivST μ')
      refine iv_Ret.stl [76, 79] (ls' := [ivR 110, ivI l1, ivI l2]) (st' := [ivR 133]) (w' := (135, (iv_upd μ 132 (iv_wr ((iv_wr (8 * l1)) + l2)).toNat (μ 116 l2.toNat)), iv_rho)) rfl ?_
      refine iv_Ret.stl [81, 82, 83, 84, 85, 86, 89] (ls' := [ivR 110, ivI l1, ivI l2]) (st' := [ivR 117, ivI (iv_wr ((iv_wr (8 * l1)) + l2)), ivR 133]) (w' := (135, (iv_upd μ 132 (iv_wr ((iv_wr (8 * l1)) + l2)).toNat (μ 116 l2.toNat)), iv_rho)) rfl ?_
      refine iv_Ret.stl [90] (ls' := [ivR 110, ivI l1, ivI l2]) (st' := [ivI l2, ivR 117, ivI (iv_wr ((iv_wr (8 * l1)) + l2)), ivR 133]) (w' := (135, (iv_upd μ 132 (iv_wr ((iv_wr (8 * l1)) + l2)).toNat (μ 116 l2.toNat)), iv_rho)) rfl ?_
      obtain ⟨c16, h⟩ := iv_ckE h
      refine iv_Ret.iald (len := 8) rfl rfl rfl c16.1 c16.2 ?_
      show iv_Ret L 165 91 [ivR 110, ivI l1, ivI l2] [ivI ((iv_upd μ 132 (iv_wr ((iv_wr (8 * l1)) + l2)).toNat (μ 116 l2.toNat)) 117 l2.toNat), ivI (iv_wr ((iv_wr (8 * l1)) + l2)), ivR 133] (ivST (iv_upd μ 132 (iv_wr ((iv_wr (8 * l1)) + l2)).toNat (μ 116 l2.toNat))) (some (ivI r)) (ivST μ')
      obtain ⟨c17, h⟩ := iv_ckE h
      refine iv_Ret.iast (len := 16) rfl rfl rfl rfl c17.1 c17.2 ?_
      show iv_Ret L 165 92 [ivR 110, ivI l1, ivI l2] [] (ivST (iv_upd (iv_upd μ 132 (iv_wr ((iv_wr (8 * l1)) + l2)).toNat (μ 116 l2.toNat)) 133 (iv_wr ((iv_wr (8 * l1)) + l2)).toNat ((iv_upd μ 132 (iv_wr ((iv_wr (8 * l1)) + l2)).toNat (μ 116 l2.toNat)) 117 l2.toNat))) (some (ivI r)) (ivST μ')
      refine iv_Ret.stl [93, 96] (ls' := [ivR 110, ivI l1, ivI l2]) (st' := [ivR 134]) (w' := (135, (iv_upd (iv_upd μ 132 (iv_wr ((iv_wr (8 * l1)) + l2)).toNat (μ 116 l2.toNat)) 133 (iv_wr ((iv_wr (8 * l1)) + l2)).toNat ((iv_upd μ 132 (iv_wr ((iv_wr (8 * l1)) + l2)).toNat (μ 116 l2.toNat)) 117 l2.toNat)), iv_rho)) rfl ?_
      refine iv_Ret.stl [98, 99, 100, 101, 102, 103, 106] (ls' := [ivR 110, ivI l1, ivI l2]) (st' := [ivR 118, ivI (iv_wr ((iv_wr (8 * l1)) + l2)), ivR 134]) (w' := (135, (iv_upd (iv_upd μ 132 (iv_wr ((iv_wr (8 * l1)) + l2)).toNat (μ 116 l2.toNat)) 133 (iv_wr ((iv_wr (8 * l1)) + l2)).toNat ((iv_upd μ 132 (iv_wr ((iv_wr (8 * l1)) + l2)).toNat (μ 116 l2.toNat)) 117 l2.toNat)), iv_rho)) rfl ?_
      refine iv_Ret.stl [107] (ls' := [ivR 110, ivI l1, ivI l2]) (st' := [ivI l2, ivR 118, ivI (iv_wr ((iv_wr (8 * l1)) + l2)), ivR 134]) (w' := (135, (iv_upd (iv_upd μ 132 (iv_wr ((iv_wr (8 * l1)) + l2)).toNat (μ 116 l2.toNat)) 133 (iv_wr ((iv_wr (8 * l1)) + l2)).toNat ((iv_upd μ 132 (iv_wr ((iv_wr (8 * l1)) + l2)).toNat (μ 116 l2.toNat)) 117 l2.toNat)), iv_rho)) rfl ?_
      obtain ⟨c18, h⟩ := iv_ckE h
      refine iv_Ret.iald (len := 8) rfl rfl rfl c18.1 c18.2 ?_
      show iv_Ret L 165 108 [ivR 110, ivI l1, ivI l2] [ivI ((iv_upd (iv_upd μ 132 (iv_wr ((iv_wr (8 * l1)) + l2)).toNat (μ 116 l2.toNat)) 133 (iv_wr ((iv_wr (8 * l1)) + l2)).toNat ((iv_upd μ 132 (iv_wr ((iv_wr (8 * l1)) + l2)).toNat (μ 116 l2.toNat)) 117 l2.toNat)) 118 l2.toNat), ivI (iv_wr ((iv_wr (8 * l1)) + l2)), ivR 134] (ivST (iv_upd (iv_upd μ 132 (iv_wr ((iv_wr (8 * l1)) + l2)).toNat (μ 116 l2.toNat)) 133 (iv_wr ((iv_wr (8 * l1)) + l2)).toNat ((iv_upd μ 132 (iv_wr ((iv_wr (8 * l1)) + l2)).toNat (μ 116 l2.toNat)) 117 l2.toNat))) (some (ivI r)) (ivST μ')
      obtain ⟨c19, h⟩ := iv_ckE h
      refine iv_Ret.iast (len := 16) rfl rfl rfl rfl c19.1 c19.2 ?_
      show iv_Ret L 165 109 [ivR 110, ivI l1, ivI l2] [] (ivST (iv_upd (iv_upd (iv_upd μ 132 (iv_wr ((iv_wr (8 * l1)) + l2)).toNat (μ 116 l2.toNat)) 133 (iv_wr ((iv_wr (8 * l1)) + l2)).toNat ((iv_upd μ 132 (iv_wr ((iv_wr (8 * l1)) + l2)).toNat (μ 116 l2.toNat)) 117 l2.toNat)) 134 (iv_wr ((iv_wr (8 * l1)) + l2)).toNat ((iv_upd (iv_upd μ 132 (iv_wr ((iv_wr (8 * l1)) + l2)).toNat (μ 116 l2.toNat)) 133 (iv_wr ((iv_wr (8 * l1)) + l2)).toNat ((iv_upd μ 132 (iv_wr ((iv_wr (8 * l1)) + l2)).toNat (μ 116 l2.toNat)) 117 l2.toNat)) 118 l2.toNat))) (some (ivI r)) (ivST μ')
      refine iv_Ret.stl [112, 52] (ls' := [ivR 110, ivI l1, ivI (iv_wr (l2 + 1))]) (st' := []) (w' := (135, (iv_upd (iv_upd (iv_upd μ 132 (iv_wr ((iv_wr (8 * l1)) + l2)).toNat (μ 116 l2.toNat)) 133 (iv_wr ((iv_wr (8 * l1)) + l2)).toNat ((iv_upd μ 132 (iv_wr ((iv_wr (8 * l1)) + l2)).toNat (μ 116 l2.toNat)) 117 l2.toNat)) 134 (iv_wr ((iv_wr (8 * l1)) + l2)).toNat ((iv_upd (iv_upd μ 132 (iv_wr ((iv_wr (8 * l1)) + l2)).toNat (μ 116 l2.toNat)) 133 (iv_wr ((iv_wr (8 * l1)) + l2)).toNat ((iv_upd μ 132 (iv_wr ((iv_wr (8 * l1)) + l2)).toNat (μ 116 l2.toNat)) 117 l2.toNat)) 118 l2.toNat)), iv_rho)) rfl ?_
      exact ih (iv_wr (l2 + 1)) (iv_upd (iv_upd (iv_upd μ 132 (iv_wr ((iv_wr (8 * l1)) + l2)).toNat (μ 116 l2.toNat)) 133 (iv_wr ((iv_wr (8 * l1)) + l2)).toNat ((iv_upd μ 132 (iv_wr ((iv_wr (8 * l1)) + l2)).toNat (μ 116 l2.toNat)) 117 l2.toNat)) 134 (iv_wr ((iv_wr (8 * l1)) + l2)).toNat ((iv_upd (iv_upd μ 132 (iv_wr ((iv_wr (8 * l1)) + l2)).toNat (μ 116 l2.toNat)) 133 (iv_wr ((iv_wr (8 * l1)) + l2)).toNat ((iv_upd μ 132 (iv_wr ((iv_wr (8 * l1)) + l2)).toNat (μ 116 l2.toNat)) 117 l2.toNat)) 118 l2.toNat)) _ _ h
theorem T_X10_keep (L : Nat) (p1 : Int)  {μ μ' : ivM} {r : Int} (h : f_X10_keep p1 μ = some (r, μ')) : iv_Ret L 165 0 [ivR 110, ivI p1, ivU] [] (ivST μ) (some (ivI r)) (ivST μ') := by
  unfold f_X10_keep at h
  refine iv_Ret.stl [1, 2, 3, 4] (ls' := [ivR 110, ivI p1, ivU]) (st' := [ivJ 1, ivJ 0, ivJ p1]) (w' := (135, μ, iv_rho)) rfl ?_
  obtain ⟨r1, μ2, e3, h⟩ := iv_bndE h
  refine iv_Ret.calls rfl rfl (T_X10_in L p1 0 1 e3) ?_
  show iv_Ret L 165 7 [ivR 110, ivI p1, ivU] [ivI r1] (ivST μ2) (some (ivI r)) (ivST μ')
  rcases iv_iteE h with ⟨c4, h⟩ | ⟨c4, h⟩
  · refine iv_Ret.ifF (t := 10) rfl (decide_eq_false (not_not_intro c4)) rfl ?_
    refine iv_Ret.stl [11] (ls' := [ivR 110, ivI p1, ivU]) (st' := [ivI (-1)]) (w' := (135, μ2, iv_rho)) rfl ?_
    obtain ⟨rfl, rfl⟩ := iv_retE h
    exact ⟨1, rfl⟩
  · refine iv_Ret.ifT (t := 12) rfl (decide_eq_true c4) rfl ?_
    refine iv_Ret.stl [13, 16] (ls' := [ivR 110, ivI p1, ivU]) (st' := [ivR 130]) (w' := (135, μ2, iv_rho)) rfl ?_
    refine iv_Ret.stl [17, 18] (ls' := [ivR 110, ivI p1, ivU]) (st' := [ivI 1, ivI p1, ivR 130]) (w' := (135, μ2, iv_rho)) rfl ?_
    obtain ⟨c5, h⟩ := iv_ckE h
    refine iv_Ret.bast (len := 2) rfl rfl rfl rfl c5.1 c5.2 ?_
    show iv_Ret L 165 19 [ivR 110, ivI p1, ivU] [] (ivST (iv_upd μ2 130 p1.toNat (1 % 2))) (some (ivI r)) (ivST μ')
    refine iv_Ret.stl [20, 21] (ls' := [ivR 110, ivI p1, ivI 0]) (st' := []) (w' := (135, (iv_upd μ2 130 p1.toNat (1 % 2)), iv_rho)) rfl ?_
    refine T_lp_X10_keep_21 L p1 (fun μ10 r11 μ12 z9 h => ?_) iv_fuel 0 (iv_upd μ2 130 p1.toNat (1 % 2)) _ _ h
    refine iv_Ret.stl [51, 52] (ls' := [ivR 110, ivI p1, ivI 0]) (st' := []) (w' := (135, μ10, iv_rho)) rfl ?_
    refine T_lp_X10_keep_52 L p1 (fun μ21 r22 μ23 z20 h => ?_) iv_fuel 0 μ10 _ _ h
    refine iv_Ret.stl [116, 119] (ls' := [ivR 110, ivI p1, z20]) (st' := [ivR 135]) (w' := (135, μ21, iv_rho)) rfl ?_
    refine iv_Ret.stl [120, 121, 124] (ls' := [ivR 110, ivI p1, z20]) (st' := [ivI (μ21 110 15), ivI p1, ivR 135]) (w' := (135, μ21, iv_rho)) rfl ?_
    obtain ⟨c24, h⟩ := iv_ckE h
    refine iv_Ret.iast (len := 2) rfl rfl rfl rfl c24.1 c24.2 ?_
    show iv_Ret L 165 125 [ivR 110, ivI p1, z20] [] (ivST (iv_upd μ21 135 p1.toNat (μ21 110 15))) (some (ivI r22)) (ivST μ23)
    refine iv_Ret.stl [126, 129] (ls' := [ivR 110, ivI p1, z20]) (st' := [ivI ((iv_upd μ21 135 p1.toNat (μ21 110 15)) 110 15)]) (w' := (135, (iv_upd μ21 135 p1.toNat (μ21 110 15)), iv_rho)) rfl ?_
    obtain ⟨rfl, rfl⟩ := iv_retE h
    exact ⟨1, rfl⟩
