theorem T_lp_X10_offOf_12 (L : Nat) (l1 : Int) (l2 : Int)  {k42 : ivM → Option (Int × ivM)} (hk42 : ∀  (μ : ivM) (r : Int) (μ' : ivM) (d1 : ivV) (d3 : ivV), k42 μ = some (r, μ') → iv_Ret L 128 42 [ivR 110, d1, ivI l2, d3] [] (ivST μ) (some (ivI r)) (ivST μ')) : ∀ (n : Nat) (l3 : Int) (μ : ivM) (r : Int) (μ' : ivM), lp_X10_offOf_12 l1 l2 k42 n l3 μ = some (r, μ') → iv_Ret L 128 12 [ivR 110, ivI l1, ivI l2, ivI l3] [] (ivST μ) (some (ivI r)) (ivST μ') := by
  intro n
  induction n with
  | zero => intro l3 μ r μ' h; unfold lp_X10_offOf_12 at h; cases h
  | succ n ih =>
    intro l3 μ r μ' h
    unfold lp_X10_offOf_12 at h
    refine iv_Ret.stl [13, 14, 17] (ls' := [ivR 110, ivI l1, ivI l2, ivI l3]) (st' := [ivI (μ 110 21), ivI l3]) (w' := (135, μ, iv_rho)) rfl ?_
    rcases iv_iteE h with ⟨c2, h⟩ | ⟨c2, h⟩
    · refine iv_Ret.icT (t := 42) rfl (decide_eq_true c2) rfl ?_
      exact hk42 μ _ _ (ivI l1) (ivI l3) h
    · refine iv_Ret.icF (t := 20) rfl (decide_eq_false c2) rfl ?_
      refine iv_Ret.stl [21, 24] (ls' := [ivR 110, ivI l1, ivI l2, ivI l3]) (st' := [ivR 121]) (w' := (135, μ, iv_rho)) rfl ?_
      refine iv_Ret.stl [25, 26, 29] (ls' := [ivR 110, ivI l1, ivI l2, ivI l3]) (st' := [ivR 115, ivI l3, ivR 121]) (w' := (135, μ, iv_rho)) rfl ?_
      refine iv_Ret.stl [30, 31, 32, 33, 34] (ls' := [ivR 110, ivI l1, ivI l2, ivI l3]) (st' := [ivI (iv_wr ((iv_wr (5 * l1)) + l3)), ivR 115, ivI l3, ivR 121]) (w' := (135, μ, iv_rho)) rfl ?_
      obtain ⟨c3, h⟩ := iv_ckE h
      refine iv_Ret.iald (len := 40) rfl rfl rfl c3.1 c3.2 ?_
      show iv_Ret L 128 35 [ivR 110, ivI l1, ivI l2, ivI l3] [ivI (μ 115 (iv_wr ((iv_wr (5 * l1)) + l3)).toNat), ivI l3, ivR 121] (ivST μ) (some (ivI r)) (ivST μ')
      obtain ⟨c4, h⟩ := iv_ckE h
      refine iv_Ret.iast (len := 5) rfl rfl rfl rfl c4.1 c4.2 ?_
      show iv_Ret L 128 36 [ivR 110, ivI l1, ivI l2, ivI l3] [] (ivST (iv_upd μ 121 l3.toNat (μ 115 (iv_wr ((iv_wr (5 * l1)) + l3)).toNat))) (some (ivI r)) (ivST μ')
      refine iv_Ret.stl [39, 12] (ls' := [ivR 110, ivI l1, ivI l2, ivI (iv_wr (l3 + 1))]) (st' := []) (w' := (135, (iv_upd μ 121 l3.toNat (μ 115 (iv_wr ((iv_wr (5 * l1)) + l3)).toNat)), iv_rho)) rfl ?_
      exact ih (iv_wr (l3 + 1)) (iv_upd μ 121 l3.toNat (μ 115 (iv_wr ((iv_wr (5 * l1)) + l3)).toNat)) _ _ h
theorem T_X10_offOf (L : Nat) (p1 : Int) (p2 : Int)  {μ μ' : ivM} {r : Int} (h : f_X10_offOf p1 p2 μ = some (r, μ')) : iv_Ret L 128 0 [ivR 110, ivI p1, ivI p2, ivU] [] (ivST μ) (some (ivI r)) (ivST μ') := by
  unfold f_X10_offOf at h
  refine iv_Ret.stl [1, 2, 5] (ls' := [ivR 110, ivI p1, ivI p2, ivU]) (st' := [ivR 116, ivR 110]) (w' := (135, μ, iv_rho)) rfl ?_
  refine iv_Ret.stl [6] (ls' := [ivR 110, ivI p1, ivI p2, ivU]) (st' := [ivI p1, ivR 116, ivR 110]) (w' := (135, μ, iv_rho)) rfl ?_
  obtain ⟨c1, h⟩ := iv_ckE h
  refine iv_Ret.iald (len := 8) rfl rfl rfl c1.1 c1.2 ?_
  show iv_Ret L 128 7 [ivR 110, ivI p1, ivI p2, ivU] [ivI (μ 116 p1.toNat), ivR 110] (ivST μ) (some (ivI r)) (ivST μ')
  refine iv_Ret.stl [10, 11, 12] (ls' := [ivR 110, ivI p1, ivI p2, ivI 0]) (st' := []) (w' := (135, (iv_upd μ 110 21 (μ 116 p1.toNat)), iv_rho)) rfl ?_
  refine T_lp_X10_offOf_12 L p1 p2 (fun μ7 r8 μ9 z5 z6 h => ?_) iv_fuel 0 (iv_upd μ 110 21 (μ 116 p1.toNat)) _ _ h
  refine iv_Ret.stl [43, 44] (ls' := [ivR 110, z5, ivI p2, z6]) (st' := [ivI p2, ivR 110]) (w' := (135, μ7, iv_rho)) rfl ?_
  obtain ⟨r10, μ11, e12, h⟩ := iv_bndE h
  refine iv_Ret.callv rfl rfl rfl (T_X10_offTried L p2 e12) ?_
  show iv_Ret L 128 47 [ivR 110, z5, ivI p2, z6] [ivI r10] (ivST μ11) (some (ivI r8)) (ivST μ9)
  obtain ⟨rfl, rfl⟩ := iv_retE h
  exact ⟨1, rfl⟩
theorem T_X10_off (L : Nat) (p1 : Int) (p2 : Int)  {μ μ' : ivM} {r : Int} (h : f_X10_off p1 p2 μ = some (r, μ')) : iv_Ret L 129 0 [ivR 110, ivI p1, ivI p2] [] (ivST μ) (some (ivI r)) (ivST μ') := by
  unfold f_X10_off at h
  refine iv_Ret.stl [1, 2] (ls' := [ivR 110, ivI p1, ivI p2]) (st' := [ivI p1, ivR 110]) (w' := (135, μ, iv_rho)) rfl ?_
  obtain ⟨r1, μ2, e3, h⟩ := iv_bndE h
  refine iv_Ret.callv rfl rfl rfl (T_X10_isThing L p1 e3) ?_
  show iv_Ret L 129 5 [ivR 110, ivI p1, ivI p2] [ivI r1] (ivST μ2) (some (ivI r)) (ivST μ')
  refine iv_letE (fun j4 => ∀ (v8 : Int) (μ9 : ivM) (r10 : Int) (μ11 : ivM) (z5 : ivV) (z6 : ivV) (z7 : ivV), j4 v8 μ9 = some (r10, μ11) → iv_Ret L 129 26 [z5, z6, z7] [ivI v8] (ivST μ9) (some (ivI r10)) (ivST μ11)) h (fun v8 μ9 r10 μ11 z5 z6 z7 h => ?_) (fun j4 hj4 h => ?_)
  · obtain ⟨rfl, rfl⟩ := iv_retE h
    exact ⟨1, rfl⟩
  · refine iv_letE (fun j12 => ∀ (μ16 : ivM) (r17 : Int) (μ18 : ivM) (z13 : ivV) (z14 : ivV) (z15 : ivV), j12 μ16 = some (r17, μ18) → iv_Ret L 129 25 [z13, z14, z15] [] (ivST μ16) (some (ivI r17)) (ivST μ18)) h (fun μ16 r17 μ18 z13 z14 z15 h => ?_) (fun j12 hj12 h => ?_)
    · refine iv_Ret.stl [26] (ls' := [z13, z14, z15]) (st' := [ivI (-1)]) (w' := (135, μ16, iv_rho)) rfl ?_
      exact hj4 (-1) μ16 _ _ z13 z14 z15 h
    · rcases iv_iteE h with ⟨c19, h⟩ | ⟨c19, h⟩
      · refine iv_Ret.ifT (t := 25) rfl (decide_eq_true c19) rfl ?_
        exact hj12 μ2 _ _ (ivR 110) (ivI p1) (ivI p2) h
      · refine iv_Ret.ifF (t := 8) rfl (decide_eq_false c19) rfl ?_
        refine iv_Ret.stl [9, 10] (ls' := [ivR 110, ivI p1, ivI p2]) (st' := [ivI p2, ivR 110]) (w' := (135, μ2, iv_rho)) rfl ?_
        obtain ⟨r20, μ21, e22, h⟩ := iv_bndE h
        refine iv_Ret.callv rfl rfl rfl (T_X10_isThing L p2 e22) ?_
        show iv_Ret L 129 13 [ivR 110, ivI p1, ivI p2] [ivI r20] (ivST μ21) (some (ivI r)) (ivST μ')
        rcases iv_iteE h with ⟨c23, h⟩ | ⟨c23, h⟩
        · refine iv_Ret.ifT (t := 25) rfl (decide_eq_true c23) rfl ?_
          exact hj12 μ21 _ _ (ivR 110) (ivI p1) (ivI p2) h
        · refine iv_Ret.ifF (t := 16) rfl (decide_eq_false c23) rfl ?_
          refine iv_Ret.stl [17, 18, 19] (ls' := [ivR 110, ivI p1, ivI p2]) (st' := [ivI p2, ivI p1, ivR 110]) (w' := (135, μ21, iv_rho)) rfl ?_
          obtain ⟨r24, μ25, e26, h⟩ := iv_bndE h
          refine iv_Ret.callv rfl rfl rfl (T_X10_offOf L p1 p2 e26) ?_
          show iv_Ret L 129 22 [ivR 110, ivI p1, ivI p2] [ivI r24] (ivST μ25) (some (ivI r)) (ivST μ')
          refine iv_Ret.stl [26] (ls' := [ivR 110, ivI p1, ivI p2]) (st' := [ivI r24]) (w' := (135, μ25, iv_rho)) rfl ?_
          exact hj4 r24 μ25 _ _ (ivR 110) (ivI p1) (ivI p2) h
theorem T_X10_isLive (L : Nat) (p1 : Int)  {μ μ' : ivM} {r : Int} (h : f_X10_isLive p1 μ = some (r, μ')) : iv_Ret L 130 0 [ivR 110, ivI p1] [] (ivST μ) (some (ivI r)) (ivST μ') := by
  unfold f_X10_isLive at h
  refine iv_Ret.stl [1, 4, 5, 8] (ls' := [ivR 110, ivI p1]) (st' := [ivR 118, ivI (μ 110 15)]) (w' := (135, μ, iv_rho)) rfl ?_
  refine iv_Ret.stl [9] (ls' := [ivR 110, ivI p1]) (st' := [ivI p1, ivR 118, ivI (μ 110 15)]) (w' := (135, μ, iv_rho)) rfl ?_
  obtain ⟨c1, h⟩ := iv_ckE h
  refine iv_Ret.iald (len := 8) rfl rfl rfl c1.1 c1.2 ?_
  show iv_Ret L 130 10 [ivR 110, ivI p1] [ivI (μ 118 p1.toNat), ivI (μ 110 15)] (ivST μ) (some (ivI r)) (ivST μ')
  refine iv_Ret.stl [11, 13] (ls' := [ivR 110, ivI p1]) (st' := [ivI 9, ivI (iv_wr ((μ 110 15) - (μ 118 p1.toNat)))]) (w' := (135, μ, iv_rho)) rfl ?_
  refine iv_letE (fun j2 => ∀ (v5 : Int) (μ6 : ivM) (r7 : Int) (μ8 : ivM) (z3 : ivV) (z4 : ivV), j2 v5 μ6 = some (r7, μ8) → iv_Ret L 130 21 [z3, z4] [ivI v5] (ivST μ6) (some (ivI r7)) (ivST μ8)) h (fun v5 μ6 r7 μ8 z3 z4 h => ?_) (fun j2 hj2 h => ?_)
  · obtain ⟨c9, h⟩ := iv_ckE h
    obtain ⟨rfl, rfl⟩ := iv_retE h
    exact iv_Ret.zret rfl c9
  · rcases iv_iteE h with ⟨c10, h⟩ | ⟨c10, h⟩
    · refine iv_Ret.icT (t := 20) rfl (decide_eq_true c10) rfl ?_
      refine iv_Ret.stl [21] (ls' := [ivR 110, ivI p1]) (st' := [ivI 0]) (w' := (135, μ, iv_rho)) rfl ?_
      exact hj2 0 μ _ _ (ivR 110) (ivI p1) h
    · refine iv_Ret.icF (t := 16) rfl (decide_eq_false c10) rfl ?_
      refine iv_Ret.stl [17, 21] (ls' := [ivR 110, ivI p1]) (st' := [ivI 1]) (w' := (135, μ, iv_rho)) rfl ?_
      exact hj2 1 μ _ _ (ivR 110) (ivI p1) h
theorem T_lp_X10_nearTo_4 (L : Nat) (l1 : Int)    : ∀ (n : Nat) (l2 : Int) (l3 : Int) (μ : ivM) (r : Int) (μ' : ivM), lp_X10_nearTo_4 l1 n l2 l3 μ = some (r, μ') → iv_Ret L 131 4 [ivR 110, ivI l1, ivI l2, ivI l3] [] (ivST μ) (some (ivI r)) (ivST μ') := by
  intro n
  induction n with
  | zero => intro l2 l3 μ r μ' h; unfold lp_X10_nearTo_4 at h; cases h
  | succ n ih =>
    intro l2 l3 μ r μ' h
    unfold lp_X10_nearTo_4 at h
    refine iv_Ret.stl [5, 6, 9] (ls' := [ivR 110, ivI l1, ivI l2, ivI l3]) (st' := [ivI (μ 110 13), ivI l3]) (w' := (135, μ, iv_rho)) rfl ?_
    rcases iv_iteE h with ⟨c1, h⟩ | ⟨c1, h⟩
    · refine iv_Ret.icT (t := 54) rfl (decide_eq_true c1) rfl ?_
      refine iv_Ret.stl [55] (ls' := [ivR 110, ivI l1, ivI l2, ivI l3]) (st' := [ivI l2]) (w' := (135, μ, iv_rho)) rfl ?_
      obtain ⟨rfl, rfl⟩ := iv_retE h
      exact ⟨1, rfl⟩
    · refine iv_Ret.icF (t := 12) rfl (decide_eq_false c1) rfl ?_
      refine iv_Ret.stl [13, 14, 15] (ls' := [ivR 110, ivI l1, ivI l2, ivI l3]) (st' := [ivI l1, ivI l3, ivI l2]) (w' := (135, μ, iv_rho)) rfl ?_
      refine iv_letE (fun j2 => ∀ (v4 : Int) (μ5 : ivM) (r6 : Int) (μ7 : ivM) (z3 : ivV), j2 v4 μ5 = some (r6, μ7) → iv_Ret L 131 46 [ivR 110, ivI l1, z3, ivI l3] [ivI v4, ivI l2] (ivST μ5) (some (ivI r6)) (ivST μ7)) h (fun v4 μ5 r6 μ7 z3 h => ?_) (fun j2 hj2 h => ?_)
      · refine iv_Ret.stl [47, 48, 51, 4] (ls' := [ivR 110, ivI l1, ivI (iv_or l2 v4), ivI (iv_wr (l3 + 1))]) (st' := []) (w' := (135, μ5, iv_rho)) rfl ?_
        exact ih (iv_or l2 v4) (iv_wr (l3 + 1)) μ5 _ _ h
      · refine iv_letE (fun j8 => ∀ (μ10 : ivM) (r11 : Int) (μ12 : ivM) (z9 : ivV), j8 μ10 = some (r11, μ12) → iv_Ret L 131 45 [ivR 110, ivI l1, z9, ivI l3] [ivI l2] (ivST μ10) (some (ivI r11)) (ivST μ12)) h (fun μ10 r11 μ12 z9 h => ?_) (fun j8 hj8 h => ?_)
        · refine iv_Ret.stl [46] (ls' := [ivR 110, ivI l1, z9, ivI l3]) (st' := [ivI 0, ivI l2]) (w' := (135, μ10, iv_rho)) rfl ?_
          exact hj2 0 μ10 _ _ z9 h
        · rcases iv_iteE h with ⟨c13, h⟩ | ⟨c13, h⟩
          · refine iv_Ret.icT (t := 45) rfl (decide_eq_true c13) rfl ?_
            exact hj8 μ _ _ (ivI l2) h
          · refine iv_Ret.icF (t := 18) rfl (decide_eq_false c13) rfl ?_
            refine iv_Ret.stl [19, 20] (ls' := [ivR 110, ivI l1, ivI l2, ivI l3]) (st' := [ivI l3, ivR 110, ivI l2]) (w' := (135, μ, iv_rho)) rfl ?_
            obtain ⟨r14, μ15, e16, h⟩ := iv_bndE h
            refine iv_Ret.callv rfl rfl rfl (T_X10_isLive L l3 e16) ?_
            show iv_Ret L 131 23 [ivR 110, ivI l1, ivI l2, ivI l3] [ivI r14, ivI l2] (ivST μ15) (some (ivI r)) (ivST μ')
            rcases iv_iteE h with ⟨c17, h⟩ | ⟨c17, h⟩
            · refine iv_Ret.ifT (t := 45) rfl (decide_eq_true c17) rfl ?_
              exact hj8 μ15 _ _ (ivI l2) h
            · refine iv_Ret.ifF (t := 26) rfl (decide_eq_false c17) rfl ?_
              refine iv_Ret.stl [27, 28, 29] (ls' := [ivR 110, ivI l1, ivI l2, ivI l3]) (st' := [ivI l3, ivI l1, ivR 110, ivI l2]) (w' := (135, μ15, iv_rho)) rfl ?_
              obtain ⟨r18, μ19, e20, h⟩ := iv_bndE h
              refine iv_Ret.callv rfl rfl rfl (T_X10_offOf L l1 l3 e20) ?_
              show iv_Ret L 131 32 [ivR 110, ivI l1, ivI l2, ivI l3] [ivI r18, ivI l2] (ivST μ19) (some (ivI r)) (ivST μ')
              refine iv_Ret.stl [33, 36] (ls' := [ivR 110, ivI l1, ivI l2, ivI l3]) (st' := [ivI (μ19 110 12), ivI r18, ivI l2]) (w' := (135, μ19, iv_rho)) rfl ?_
              rcases iv_iteE h with ⟨c21, h⟩ | ⟨c21, h⟩
              · refine iv_Ret.icT (t := 45) rfl (decide_eq_true c21) rfl ?_
                exact hj8 μ19 _ _ (ivI l2) h
              · refine iv_Ret.icF (t := 39) rfl (decide_eq_false c21) rfl ?_
                refine iv_Ret.stl [40, 41, 42, 46] (ls' := [ivR 110, ivI l1, ivI l2, ivI l3]) (st' := [ivI (iv_shl 1 l3), ivI l2]) (w' := (135, μ19, iv_rho)) rfl ?_
                exact hj2 (iv_shl 1 l3) μ19 _ _ (ivI l2) h
theorem T_X10_nearTo (L : Nat) (p1 : Int)  {μ μ' : ivM} {r : Int} (h : f_X10_nearTo p1 μ = some (r, μ')) : iv_Ret L 131 0 [ivR 110, ivI p1, ivU, ivU] [] (ivST μ) (some (ivI r)) (ivST μ') := by
  unfold f_X10_nearTo at h
  refine iv_Ret.stl [1, 2, 3, 4] (ls' := [ivR 110, ivI p1, ivI 0, ivI 0]) (st' := []) (w' := (135, μ, iv_rho)) rfl ?_
  exact T_lp_X10_nearTo_4 L p1 iv_fuel 0 0 μ _ _ h
theorem T_X10_near (L : Nat) (p1 : Int)  {μ μ' : ivM} {r : Int} (h : f_X10_near p1 μ = some (r, μ')) : iv_Ret L 132 0 [ivR 110, ivI p1] [] (ivST μ) (some (ivI r)) (ivST μ') := by
  unfold f_X10_near at h
  refine iv_Ret.stl [1, 2] (ls' := [ivR 110, ivI p1]) (st' := [ivI p1, ivR 110]) (w' := (135, μ, iv_rho)) rfl ?_
  obtain ⟨r1, μ2, e3, h⟩ := iv_bndE h
  refine iv_Ret.callv rfl rfl rfl (T_X10_isThing L p1 e3) ?_
  show iv_Ret L 132 5 [ivR 110, ivI p1] [ivI r1] (ivST μ2) (some (ivI r)) (ivST μ')
  rcases iv_iteE h with ⟨c4, h⟩ | ⟨c4, h⟩
  · refine iv_Ret.ifF (t := 8) rfl (decide_eq_false (not_not_intro c4)) rfl ?_
    refine iv_Ret.stl [9] (ls' := [ivR 110, ivI p1]) (st' := [ivI (-1)]) (w' := (135, μ2, iv_rho)) rfl ?_
    obtain ⟨rfl, rfl⟩ := iv_retE h
    exact ⟨1, rfl⟩
  · refine iv_Ret.ifT (t := 10) rfl (decide_eq_true c4) rfl ?_
    refine iv_Ret.stl [11, 12] (ls' := [ivR 110, ivI p1]) (st' := [ivI p1, ivR 110]) (w' := (135, μ2, iv_rho)) rfl ?_
    obtain ⟨r5, μ6, e7, h⟩ := iv_bndE h
    refine iv_Ret.callv rfl rfl rfl (T_X10_isLive L p1 e7) ?_
    show iv_Ret L 132 15 [ivR 110, ivI p1] [ivI r5] (ivST μ6) (some (ivI r)) (ivST μ')
    refine iv_letE (fun j8 => ∀ (v11 : Int) (μ12 : ivM) (r13 : Int) (μ14 : ivM) (z9 : ivV) (z10 : ivV), j8 v11 μ12 = some (r13, μ14) → iv_Ret L 132 28 [z9, z10] [ivI v11] (ivST μ12) (some (ivI r13)) (ivST μ14)) h (fun v11 μ12 r13 μ14 z9 z10 h => ?_) (fun j8 hj8 h => ?_)
    · obtain ⟨rfl, rfl⟩ := iv_retE h
      exact ⟨1, rfl⟩
    · rcases iv_iteE h with ⟨c15, h⟩ | ⟨c15, h⟩
      · refine iv_Ret.ifT (t := 26) rfl (decide_eq_true c15) rfl ?_
        refine iv_Ret.stl [28] (ls' := [ivR 110, ivI p1]) (st' := [ivI (-3)]) (w' := (135, μ6, iv_rho)) rfl ?_
        exact hj8 (-3) μ6 _ _ (ivR 110) (ivI p1) h
      · refine iv_Ret.ifF (t := 18) rfl (decide_eq_false c15) rfl ?_
        refine iv_Ret.stl [19, 20] (ls' := [ivR 110, ivI p1]) (st' := [ivI p1, ivR 110]) (w' := (135, μ6, iv_rho)) rfl ?_
        obtain ⟨r16, μ17, e18, h⟩ := iv_bndE h
        refine iv_Ret.callv rfl rfl rfl (T_X10_nearTo L p1 e18) ?_
        show iv_Ret L 132 23 [ivR 110, ivI p1] [ivI r16] (ivST μ17) (some (ivI r)) (ivST μ')
        refine iv_Ret.stl [28] (ls' := [ivR 110, ivI p1]) (st' := [ivI r16]) (w' := (135, μ17, iv_rho)) rfl ?_
        exact hj8 r16 μ17 _ _ (ivR 110) (ivI p1) h
theorem T_X10_knows (L : Nat) (p1 : Int)  {μ μ' : ivM} {r : Int} (h : f_X10_knows p1 μ = some (r, μ')) : iv_Ret L 133 0 [ivR 110, ivI p1] [] (ivST μ) (some (ivI r)) (ivST μ') := by
  unfold f_X10_knows at h
  refine iv_Ret.stl [1, 2] (ls' := [ivR 110, ivI p1]) (st' := [ivI p1, ivR 110]) (w' := (135, μ, iv_rho)) rfl ?_
  obtain ⟨r1, μ2, e3, h⟩ := iv_bndE h
  refine iv_Ret.callv rfl rfl rfl (T_X10_isThing L p1 e3) ?_
  show iv_Ret L 133 5 [ivR 110, ivI p1] [ivI r1] (ivST μ2) (some (ivI r)) (ivST μ')
  refine iv_letE (fun j4 => ∀ (v7 : Int) (μ8 : ivM) (r9 : Int) (μ10 : ivM) (z5 : ivV) (z6 : ivV), j4 v7 μ8 = some (r9, μ10) → iv_Ret L 133 18 [z5, z6] [ivI v7] (ivST μ8) (some (ivI r9)) (ivST μ10)) h (fun v7 μ8 r9 μ10 z5 z6 h => ?_) (fun j4 hj4 h => ?_)
  · obtain ⟨rfl, rfl⟩ := iv_retE h
    exact ⟨1, rfl⟩
  · rcases iv_iteE h with ⟨c11, h⟩ | ⟨c11, h⟩
    · refine iv_Ret.ifT (t := 17) rfl (decide_eq_true c11) rfl ?_
      refine iv_Ret.stl [18] (ls' := [ivR 110, ivI p1]) (st' := [ivI (-1)]) (w' := (135, μ2, iv_rho)) rfl ?_
      exact hj4 (-1) μ2 _ _ (ivR 110) (ivI p1) h
    · refine iv_Ret.ifF (t := 8) rfl (decide_eq_false c11) rfl ?_
      refine iv_Ret.stl [9, 12] (ls' := [ivR 110, ivI p1]) (st' := [ivR 117]) (w' := (135, μ2, iv_rho)) rfl ?_
      refine iv_Ret.stl [13] (ls' := [ivR 110, ivI p1]) (st' := [ivI p1, ivR 117]) (w' := (135, μ2, iv_rho)) rfl ?_
      obtain ⟨c12, h⟩ := iv_ckE h
      refine iv_Ret.iald (len := 8) rfl rfl rfl c12.1 c12.2 ?_
      show iv_Ret L 133 14 [ivR 110, ivI p1] [ivI (μ2 117 p1.toNat)] (ivST μ2) (some (ivI r)) (ivST μ')
      refine iv_Ret.stl [18] (ls' := [ivR 110, ivI p1]) (st' := [ivI (μ2 117 p1.toNat)]) (w' := (135, μ2, iv_rho)) rfl ?_
      exact hj4 (μ2 117 p1.toNat) μ2 _ _ (ivR 110) (ivI p1) h
theorem T_lp_X10_liveSet_4 (L : Nat)     : ∀ (n : Nat) (l1 : Int) (l2 : Int) (μ : ivM) (r : Int) (μ' : ivM), lp_X10_liveSet_4  n l1 l2 μ = some (r, μ') → iv_Ret L 134 4 [ivR 110, ivI l1, ivI l2] [] (ivST μ) (some (ivI r)) (ivST μ') := by
  intro n
  induction n with
  | zero => intro l1 l2 μ r μ' h; unfold lp_X10_liveSet_4 at h; cases h
  | succ n ih =>
    intro l1 l2 μ r μ' h
    unfold lp_X10_liveSet_4 at h
    refine iv_Ret.stl [5, 6, 9] (ls' := [ivR 110, ivI l1, ivI l2]) (st' := [ivI (μ 110 13), ivI l2]) (w' := (135, μ, iv_rho)) rfl ?_
    rcases iv_iteE h with ⟨c1, h⟩ | ⟨c1, h⟩
    · refine iv_Ret.icT (t := 36) rfl (decide_eq_true c1) rfl ?_
      refine iv_Ret.stl [37] (ls' := [ivR 110, ivI l1, ivI l2]) (st' := [ivI l1]) (w' := (135, μ, iv_rho)) rfl ?_
      obtain ⟨rfl, rfl⟩ := iv_retE h
      exact ⟨1, rfl⟩
    · refine iv_Ret.icF (t := 12) rfl (decide_eq_false c1) rfl ?_
      refine iv_Ret.stl [13, 14, 15] (ls' := [ivR 110, ivI l1, ivI l2]) (st' := [ivI l2, ivR 110, ivI l1]) (w' := (135, μ, iv_rho)) rfl ?_
      obtain ⟨r2, μ3, e4, h⟩ := iv_bndE h
      refine iv_Ret.callv rfl rfl rfl (T_X10_isLive L l2 e4) ?_
      show iv_Ret L 134 18 [ivR 110, ivI l1, ivI l2] [ivI r2, ivI l1] (ivST μ3) (some (ivI r)) (ivST μ')
      refine iv_letE (fun j5 => ∀ (v7 : Int) (μ8 : ivM) (r9 : Int) (μ10 : ivM) (z6 : ivV), j5 v7 μ8 = some (r9, μ10) → iv_Ret L 134 28 [ivR 110, z6, ivI l2] [ivI v7, ivI l1] (ivST μ8) (some (ivI r9)) (ivST μ10)) h (fun v7 μ8 r9 μ10 z6 h => ?_) (fun j5 hj5 h => ?_)
      · refine iv_Ret.stl [29, 30, 33, 4] (ls' := [ivR 110, ivI (iv_or l1 v7), ivI (iv_wr (l2 + 1))]) (st' := []) (w' := (135, μ8, iv_rho)) rfl ?_
        exact ih (iv_or l1 v7) (iv_wr (l2 + 1)) μ8 _ _ h
      · rcases iv_iteE h with ⟨c11, h⟩ | ⟨c11, h⟩
        · refine iv_Ret.ifT (t := 27) rfl (decide_eq_true c11) rfl ?_
          refine iv_Ret.stl [28] (ls' := [ivR 110, ivI l1, ivI l2]) (st' := [ivI 0, ivI l1]) (w' := (135, μ3, iv_rho)) rfl ?_
          exact hj5 0 μ3 _ _ (ivI l1) h
        · refine iv_Ret.ifF (t := 21) rfl (decide_eq_false c11) rfl ?_
          refine iv_Ret.stl [22, 23, 24, 28] (ls' := [ivR 110, ivI l1, ivI l2]) (st' := [ivI (iv_shl 1 l2), ivI l1]) (w' := (135, μ3, iv_rho)) rfl ?_
          exact hj5 (iv_shl 1 l2) μ3 _ _ (ivI l1) h
theorem T_X10_liveSet (L : Nat)   {μ μ' : ivM} {r : Int} (h : f_X10_liveSet  μ = some (r, μ')) : iv_Ret L 134 0 [ivR 110, ivU, ivU] [] (ivST μ) (some (ivI r)) (ivST μ') := by
  unfold f_X10_liveSet at h
  refine iv_Ret.stl [1, 2, 3, 4] (ls' := [ivR 110, ivI 0, ivI 0]) (st' := []) (w' := (135, μ, iv_rho)) rfl ?_
  exact T_lp_X10_liveSet_4 L  iv_fuel 0 0 μ _ _ h
theorem T_X10_live (L : Nat)   {μ μ' : ivM} {r : Int} (h : f_X10_live  μ = some (r, μ')) : iv_Ret L 135 0 [ivR 110] [] (ivST μ) (some (ivI r)) (ivST μ') := by
  unfold f_X10_live at h
  refine iv_Ret.stl [1] (ls' := [ivR 110]) (st' := [ivR 110]) (w' := (135, μ, iv_rho)) rfl ?_
  obtain ⟨r1, μ2, e3, h⟩ := iv_bndE h
  refine iv_Ret.callv rfl rfl rfl (T_X10_liveSet L  e3) ?_
  show iv_Ret L 135 4 [ivR 110] [ivI r1] (ivST μ2) (some (ivI r)) (ivST μ')
  obtain ⟨rfl, rfl⟩ := iv_retE h
  exact ⟨1, rfl⟩
theorem T_lp_X10_days_32 (L : Nat) (l2 : Int)  {k70 : ivM → Option (Int × ivM)} (hk70 : ∀  (μ : ivM) (r : Int) (μ' : ivM) (d1 : ivV) (d3 : ivV), k70 μ = some (r, μ') → iv_Ret L 136 70 [ivR 110, d1, ivI l2, d3] [] (ivST μ) (some (ivI r)) (ivST μ')) : ∀ (n : Nat) (l3 : Int) (μ : ivM) (r : Int) (μ' : ivM) (d1 : ivV), lp_X10_days_32 l2 k70 n l3 μ = some (r, μ') → iv_Ret L 136 32 [ivR 110, d1, ivI l2, ivI l3] [] (ivST μ) (some (ivI r)) (ivST μ') := by
  intro n
  induction n with
  | zero => intro l3 μ r μ' d1 h; unfold lp_X10_days_32 at h; cases h
  | succ n ih =>
    intro l3 μ r μ' d1 h
    unfold lp_X10_days_32 at h
    refine iv_Ret.stl [33, 34, 37] (ls' := [ivR 110, d1, ivI l2, ivI l3]) (st' := [ivI (μ 110 13), ivI l3]) (w' := (135, μ, iv_rho)) rfl ?_
    rcases iv_iteE h with ⟨c8, h⟩ | ⟨c8, h⟩
    · refine iv_Ret.icT (t := 70) rfl (decide_eq_true c8) rfl ?_
      exact hk70 μ _ _ d1 (ivI l3) h
    · refine iv_Ret.icF (t := 40) rfl (decide_eq_false c8) rfl ?_
      refine iv_Ret.stl [41, 44] (ls' := [ivR 110, d1, ivI l2, ivI l3]) (st' := [ivR 117]) (w' := (135, μ, iv_rho)) rfl ?_
      refine iv_Ret.stl [45, 46, 47] (ls' := [ivR 110, d1, ivI l2, ivI l3]) (st' := [ivI l3, ivR 110, ivI l3, ivR 117]) (w' := (135, μ, iv_rho)) rfl ?_
      obtain ⟨r9, μ10, e11, h⟩ := iv_bndE h
      refine iv_Ret.callv rfl rfl rfl (T_X10_isLive L l3 e11) ?_
      show iv_Ret L 136 50 [ivR 110, d1, ivI l2, ivI l3] [ivI r9, ivI l3, ivR 117] (ivST μ10) (some (ivI r)) (ivST μ')
      refine iv_letE (fun j12 => ∀ (v14 : Int) (μ15 : ivM) (r16 : Int) (μ17 : ivM) (z13 : ivV), j12 v14 μ15 = some (r16, μ17) → iv_Ret L 136 63 [ivR 110, z13, ivI l2, ivI l3] [ivI v14, ivI l3, ivR 117] (ivST μ15) (some (ivI r16)) (ivST μ17)) h (fun v14 μ15 r16 μ17 z13 h => ?_) (fun j12 hj12 h => ?_)
      · obtain ⟨c18, h⟩ := iv_ckE h
        refine iv_Ret.iast (len := 8) rfl rfl rfl rfl c18.1 c18.2 ?_
        show iv_Ret L 136 64 [ivR 110, z13, ivI l2, ivI l3] [] (ivST (iv_upd μ15 117 l3.toNat v14)) (some (ivI r16)) (ivST μ17)
        refine iv_Ret.stl [67, 32] (ls' := [ivR 110, z13, ivI l2, ivI (iv_wr (l3 + 1))]) (st' := []) (w' := (135, (iv_upd μ15 117 l3.toNat v14), iv_rho)) rfl ?_
        exact ih (iv_wr (l3 + 1)) (iv_upd μ15 117 l3.toNat v14) _ _ z13 h
      · rcases iv_iteE h with ⟨c19, h⟩ | ⟨c19, h⟩
        · refine iv_Ret.ifT (t := 62) rfl (decide_eq_true c19) rfl ?_
          refine iv_Ret.stl [63] (ls' := [ivR 110, d1, ivI l2, ivI l3]) (st' := [ivI 0, ivI l3, ivR 117]) (w' := (135, μ10, iv_rho)) rfl ?_
          exact hj12 0 μ10 _ _ d1 h
        · refine iv_Ret.ifF (t := 53) rfl (decide_eq_false c19) rfl ?_
          refine iv_Ret.stl [54, 57] (ls' := [ivR 110, d1, ivI l2, ivI l3]) (st' := [ivR 117, ivI l3, ivR 117]) (w' := (135, μ10, iv_rho)) rfl ?_
          refine iv_Ret.stl [58] (ls' := [ivR 110, d1, ivI l2, ivI l3]) (st' := [ivI l3, ivR 117, ivI l3, ivR 117]) (w' := (135, μ10, iv_rho)) rfl ?_
          obtain ⟨c20, h⟩ := iv_ckE h
          refine iv_Ret.iald (len := 8) rfl rfl rfl c20.1 c20.2 ?_
          show iv_Ret L 136 59 [ivR 110, d1, ivI l2, ivI l3] [ivI (μ10 117 l3.toNat), ivI l3, ivR 117] (ivST μ10) (some (ivI r)) (ivST μ')
          refine iv_Ret.stl [63] (ls' := [ivR 110, d1, ivI l2, ivI l3]) (st' := [ivI (μ10 117 l3.toNat), ivI l3, ivR 117]) (w' := (135, μ10, iv_rho)) rfl ?_
          exact hj12 (μ10 117 l3.toNat) μ10 _ _ d1 h
theorem T_X10_days (L : Nat) (p1 : Int)  {μ μ' : ivM} {r : Int} (h : f_X10_days p1 μ = some (r, μ')) : iv_Ret L 136 0 [ivR 110, ivI p1, ivU, ivU] [] (ivST μ) (some (ivI r)) (ivST μ') := by
  unfold f_X10_days at h
  refine iv_Ret.stl [1, 2, 3, 6] (ls' := [ivR 110, ivI p1, ivU, ivU]) (st' := [ivJ 99, ivJ 1, ivJ p1]) (w' := (135, μ, iv_rho)) rfl ?_
  obtain ⟨r1, μ2, e3, h⟩ := iv_bndE h
  refine iv_Ret.calls rfl rfl (T_X10_in L p1 1 99 e3) ?_
  show iv_Ret L 136 9 [ivR 110, ivI p1, ivU, ivU] [ivI r1] (ivST μ2) (some (ivI r)) (ivST μ')
  rcases iv_iteE h with ⟨c4, h⟩ | ⟨c4, h⟩
  · refine iv_Ret.ifF (t := 12) rfl (decide_eq_false (not_not_intro c4)) rfl ?_
    refine iv_Ret.stl [14] (ls' := [ivR 110, ivI p1, ivU, ivU]) (st' := [ivI (-2)]) (w' := (135, μ2, iv_rho)) rfl ?_
    obtain ⟨rfl, rfl⟩ := iv_retE h
    exact ⟨1, rfl⟩
  · refine iv_Ret.ifT (t := 15) rfl (decide_eq_true c4) rfl ?_
    refine iv_Ret.stl [16] (ls' := [ivR 110, ivI p1, ivU, ivU]) (st' := [ivR 110]) (w' := (135, μ2, iv_rho)) rfl ?_
    obtain ⟨r5, μ6, e7, h⟩ := iv_bndE h
    refine iv_Ret.callv rfl rfl rfl (T_X10_liveSet L  e7) ?_
    show iv_Ret L 136 19 [ivR 110, ivI p1, ivU, ivU] [ivI r5] (ivST μ6) (some (ivI r)) (ivST μ')
    refine iv_Ret.stl [20, 21, 22, 25, 26, 27, 30, 31, 32] (ls' := [ivR 110, ivI p1, ivI r5, ivI 0]) (st' := []) (w' := (135, (iv_upd μ6 110 15 (iv_wr ((μ6 110 15) + p1))), iv_rho)) rfl ?_
    refine T_lp_X10_days_32 L r5 (fun μ23 r24 μ25 z21 z22 h => ?_) iv_fuel 0 (iv_upd μ6 110 15 (iv_wr ((μ6 110 15) + p1))) _ _ (ivI p1) h
    refine iv_Ret.stl [71, 72] (ls' := [ivR 110, z21, ivI r5, z22]) (st' := [ivR 110, ivI r5]) (w' := (135, μ23, iv_rho)) rfl ?_
    obtain ⟨r26, μ27, e28, h⟩ := iv_bndE h
    refine iv_Ret.callv rfl rfl rfl (T_X10_liveSet L  e28) ?_
    show iv_Ret L 136 75 [ivR 110, z21, ivI r5, z22] [ivI r26, ivI r5] (ivST μ27) (some (ivI r24)) (ivST μ25)
    refine iv_Ret.stl [76, 77, 78] (ls' := [ivR 110, z21, ivI r5, z22]) (st' := [ivI (iv_and r5 (iv_xor r26 (-1)))]) (w' := (135, μ27, iv_rho)) rfl ?_
    obtain ⟨rfl, rfl⟩ := iv_retE h
    exact ⟨1, rfl⟩
theorem T_X10_fades (L : Nat) (p1 : Int)  {μ μ' : ivM} {r : Int} (h : f_X10_fades p1 μ = some (r, μ')) : iv_Ret L 137 0 [ivR 110, ivI p1] [] (ivST μ) (some (ivI r)) (ivST μ') := by
  unfold f_X10_fades at h
  refine iv_Ret.stl [1, 2] (ls' := [ivR 110, ivI p1]) (st' := [ivI p1, ivR 110]) (w' := (135, μ, iv_rho)) rfl ?_
  obtain ⟨r1, μ2, e3, h⟩ := iv_bndE h
  refine iv_Ret.callv rfl rfl rfl (T_X10_isThing L p1 e3) ?_
  show iv_Ret L 137 5 [ivR 110, ivI p1] [ivI r1] (ivST μ2) (some (ivI r)) (ivST μ')
  rcases iv_iteE h with ⟨c4, h⟩ | ⟨c4, h⟩
  · refine iv_Ret.ifF (t := 8) rfl (decide_eq_false (not_not_intro c4)) rfl ?_
    refine iv_Ret.stl [9] (ls' := [ivR 110, ivI p1]) (st' := [ivI (-1)]) (w' := (135, μ2, iv_rho)) rfl ?_
    obtain ⟨rfl, rfl⟩ := iv_retE h
    exact ⟨1, rfl⟩
  · refine iv_Ret.ifT (t := 10) rfl (decide_eq_true c4) rfl ?_
    refine iv_Ret.stl [11, 12] (ls' := [ivR 110, ivI p1]) (st' := [ivI p1, ivR 110]) (w' := (135, μ2, iv_rho)) rfl ?_
    obtain ⟨r5, μ6, e7, h⟩ := iv_bndE h
    refine iv_Ret.callv rfl rfl rfl (T_X10_isLive L p1 e7) ?_
    show iv_Ret L 137 15 [ivR 110, ivI p1] [ivI r5] (ivST μ6) (some (ivI r)) (ivST μ')
    refine iv_letE (fun j8 => ∀ (v11 : Int) (μ12 : ivM) (r13 : Int) (μ14 : ivM) (z9 : ivV) (z10 : ivV), j8 v11 μ12 = some (r13, μ14) → iv_Ret L 137 37 [z9, z10] [ivI v11] (ivST μ12) (some (ivI r13)) (ivST μ14)) h (fun v11 μ12 r13 μ14 z9 z10 h => ?_) (fun j8 hj8 h => ?_)
    · obtain ⟨rfl, rfl⟩ := iv_retE h
      exact ⟨1, rfl⟩
    · rcases iv_iteE h with ⟨c15, h⟩ | ⟨c15, h⟩
      · refine iv_Ret.ifT (t := 35) rfl (decide_eq_true c15) rfl ?_
        refine iv_Ret.stl [37] (ls' := [ivR 110, ivI p1]) (st' := [ivI (-3)]) (w' := (135, μ6, iv_rho)) rfl ?_
        exact hj8 (-3) μ6 _ _ (ivR 110) (ivI p1) h
      · refine iv_Ret.ifF (t := 18) rfl (decide_eq_false c15) rfl ?_
        refine iv_Ret.stl [19, 22] (ls' := [ivR 110, ivI p1]) (st' := [ivR 118]) (w' := (135, μ6, iv_rho)) rfl ?_
        refine iv_Ret.stl [23] (ls' := [ivR 110, ivI p1]) (st' := [ivI p1, ivR 118]) (w' := (135, μ6, iv_rho)) rfl ?_
        obtain ⟨c16, h⟩ := iv_ckE h
        refine iv_Ret.iald (len := 8) rfl rfl rfl c16.1 c16.2 ?_
        show iv_Ret L 137 24 [ivR 110, ivI p1] [ivI (μ6 118 p1.toNat)] (ivST μ6) (some (ivI r)) (ivST μ')
        refine iv_Ret.stl [26, 27, 28, 31, 32, 37] (ls' := [ivR 110, ivI p1]) (st' := [ivI (iv_wr ((iv_wr ((μ6 118 p1.toNat) + 10)) - (μ6 110 15)))]) (w' := (135, μ6, iv_rho)) rfl ?_
        exact hj8 (iv_wr ((iv_wr ((μ6 118 p1.toNat) + 10)) - (μ6 110 15))) μ6 _ _ (ivR 110) (ivI p1) h
theorem T_X10_isKnown (L : Nat) (p1 : Int) (p2 : Int)  {μ μ' : ivM} {r : Int} (h : f_X10_isKnown p1 p2 μ = some (r, μ')) : iv_Ret L 138 0 [ivR 110, ivI p1, ivI p2] [] (ivST μ) (some (ivI r)) (ivST μ') := by
  unfold f_X10_isKnown at h
  refine iv_Ret.stl [1, 4] (ls' := [ivR 110, ivI p1, ivI p2]) (st' := [ivR 117]) (w' := (135, μ, iv_rho)) rfl ?_
  refine iv_Ret.stl [5] (ls' := [ivR 110, ivI p1, ivI p2]) (st' := [ivI p2, ivR 117]) (w' := (135, μ, iv_rho)) rfl ?_
  obtain ⟨c1, h⟩ := iv_ckE h
  refine iv_Ret.iald (len := 8) rfl rfl rfl c1.1 c1.2 ?_
  show iv_Ret L 138 6 [ivR 110, ivI p1, ivI p2] [ivI (μ 117 p2.toNat)] (ivST μ) (some (ivI r)) (ivST μ')
  refine iv_Ret.stl [7, 8, 9, 10, 11] (ls' := [ivR 110, ivI p1, ivI p2]) (st' := [ivI 1, ivI (iv_and (iv_shr (μ 117 p2.toNat) p1) 1)]) (w' := (135, μ, iv_rho)) rfl ?_
  refine iv_letE (fun j2 => ∀ (v6 : Int) (μ7 : ivM) (r8 : Int) (μ9 : ivM) (z3 : ivV) (z4 : ivV) (z5 : ivV), j2 v6 μ7 = some (r8, μ9) → iv_Ret L 138 19 [z3, z4, z5] [ivI v6] (ivST μ7) (some (ivI r8)) (ivST μ9)) h (fun v6 μ7 r8 μ9 z3 z4 z5 h => ?_) (fun j2 hj2 h => ?_)
  · obtain ⟨c10, h⟩ := iv_ckE h
    obtain ⟨rfl, rfl⟩ := iv_retE h
    exact iv_Ret.zret rfl c10
  · rcases iv_iteE h with ⟨c11, h⟩ | ⟨c11, h⟩
    · refine iv_Ret.icF (t := 14) rfl (decide_eq_false (not_not_intro c11)) rfl ?_
      refine iv_Ret.stl [15, 19] (ls' := [ivR 110, ivI p1, ivI p2]) (st' := [ivI 1]) (w' := (135, μ, iv_rho)) rfl ?_
      exact hj2 1 μ _ _ (ivR 110) (ivI p1) (ivI p2) h
    · refine iv_Ret.icT (t := 18) rfl (decide_eq_true c11) rfl ?_
      refine iv_Ret.stl [19] (ls' := [ivR 110, ivI p1, ivI p2]) (st' := [ivI 0]) (w' := (135, μ, iv_rho)) rfl ?_
      exact hj2 0 μ _ _ (ivR 110) (ivI p1) (ivI p2) h
theorem T_X10_say (L : Nat) (p1 : Int) (p2 : Int) (p3 : Int)  {μ μ' : ivM} {r : Int} (h : f_X10_say p1 p2 p3 μ = some (r, μ')) : iv_Ret L 139 0 [ivR 110, ivI p1, ivI p2, ivI p3] [] (ivST μ) (some (ivI r)) (ivST μ') := by
  unfold f_X10_say at h
  refine iv_Ret.stl [1, 2] (ls' := [ivR 110, ivI p1, ivI p2, ivI p3]) (st' := [ivI p1, ivR 110]) (w' := (135, μ, iv_rho)) rfl ?_
  obtain ⟨r1, μ2, e3, h⟩ := iv_bndE h
  refine iv_Ret.callv rfl rfl rfl (T_X10_isPerson L p1 e3) ?_
  show iv_Ret L 139 5 [ivR 110, ivI p1, ivI p2, ivI p3] [ivI r1] (ivST μ2) (some (ivI r)) (ivST μ')
  refine iv_letE (fun j4 => ∀ (μ9 : ivM) (r10 : Int) (μ11 : ivM) (z5 : ivV) (z6 : ivV) (z7 : ivV) (z8 : ivV), j4 μ9 = some (r10, μ11) → iv_Ret L 139 16 [z5, z6, z7, z8] [] (ivST μ9) (some (ivI r10)) (ivST μ11)) h (fun μ9 r10 μ11 z5 z6 z7 z8 h => ?_) (fun j4 hj4 h => ?_)
  · refine iv_Ret.stl [17] (ls' := [z5, z6, z7, z8]) (st' := [ivI (-1)]) (w' := (135, μ9, iv_rho)) rfl ?_
    obtain ⟨rfl, rfl⟩ := iv_retE h
    exact ⟨1, rfl⟩
  · rcases iv_iteE h with ⟨c12, h⟩ | ⟨c12, h⟩
    · refine iv_Ret.ifT (t := 16) rfl (decide_eq_true c12) rfl ?_
      exact hj4 μ2 _ _ (ivR 110) (ivI p1) (ivI p2) (ivI p3) h
    · refine iv_Ret.ifF (t := 8) rfl (decide_eq_false c12) rfl ?_
      refine iv_Ret.stl [9, 10] (ls' := [ivR 110, ivI p1, ivI p2, ivI p3]) (st' := [ivI p2, ivR 110]) (w' := (135, μ2, iv_rho)) rfl ?_
      obtain ⟨r13, μ14, e15, h⟩ := iv_bndE h
      refine iv_Ret.callv rfl rfl rfl (T_X10_isThing L p2 e15) ?_
      show iv_Ret L 139 13 [ivR 110, ivI p1, ivI p2, ivI p3] [ivI r13] (ivST μ14) (some (ivI r)) (ivST μ')
      rcases iv_iteE h with ⟨c16, h⟩ | ⟨c16, h⟩
      · refine iv_Ret.ifF (t := 16) rfl (decide_eq_false (not_not_intro c16)) rfl ?_
        exact hj4 μ14 _ _ (ivR 110) (ivI p1) (ivI p2) (ivI p3) h
      · refine iv_Ret.ifT (t := 18) rfl (decide_eq_true c16) rfl ?_
        refine iv_Ret.stl [19, 20, 21, 22, 23, 26, 27, 28, 29, 30] (ls' := [ivR 110, ivI p1, ivI p2, ivI p3]) (st' := [ivJ (iv_wr ((iv_shl 1 (μ14 110 14)) - 1)), ivJ 0, ivJ p3]) (w' := (135, μ14, iv_rho)) rfl ?_
        obtain ⟨r17, μ18, e19, h⟩ := iv_bndE h
        refine iv_Ret.calls rfl rfl (T_X10_in L p3 0 (iv_wr ((iv_shl 1 (μ14 110 14)) - 1)) e19) ?_
        show iv_Ret L 139 33 [ivR 110, ivI p1, ivI p2, ivI p3] [ivI r17] (ivST μ18) (some (ivI r)) (ivST μ')
        rcases iv_iteE h with ⟨c20, h⟩ | ⟨c20, h⟩
        · refine iv_Ret.ifF (t := 36) rfl (decide_eq_false (not_not_intro c20)) rfl ?_
          refine iv_Ret.stl [38] (ls' := [ivR 110, ivI p1, ivI p2, ivI p3]) (st' := [ivI (-2)]) (w' := (135, μ18, iv_rho)) rfl ?_
          obtain ⟨rfl, rfl⟩ := iv_retE h
          exact ⟨1, rfl⟩
        · refine iv_Ret.ifT (t := 39) rfl (decide_eq_true c20) rfl ?_
          refine iv_Ret.stl [40, 41, 42] (ls' := [ivR 110, ivI p1, ivI p2, ivI p3]) (st' := [ivI p2, ivI p1, ivR 110]) (w' := (135, μ18, iv_rho)) rfl ?_
          obtain ⟨r21, μ22, e23, h⟩ := iv_bndE h
          refine iv_Ret.callv rfl rfl rfl (T_X10_isKnown L p1 p2 e23) ?_
          show iv_Ret L 139 45 [ivR 110, ivI p1, ivI p2, ivI p3] [ivI r21] (ivST μ22) (some (ivI r)) (ivST μ')
          rcases iv_iteE h with ⟨c24, h⟩ | ⟨c24, h⟩
          · refine iv_Ret.ifF (t := 48) rfl (decide_eq_false (not_not_intro c24)) rfl ?_
            refine iv_Ret.stl [50] (ls' := [ivR 110, ivI p1, ivI p2, ivI p3]) (st' := [ivI (-3)]) (w' := (135, μ22, iv_rho)) rfl ?_
            obtain ⟨rfl, rfl⟩ := iv_retE h
            exact ⟨1, rfl⟩
          · refine iv_Ret.ifT (t := 51) rfl (decide_eq_true c24) rfl ?_
            refine iv_Ret.stl [52, 55] (ls' := [ivR 110, ivI p1, ivI p2, ivI p3]) (st' := [ivR 118]) (w' := (135, μ22, iv_rho)) rfl ?_
            refine iv_Ret.stl [56, 57, 60] (ls' := [ivR 110, ivI p1, ivI p2, ivI p3]) (st' := [ivI (μ22 110 15), ivI p2, ivR 118]) (w' := (135, μ22, iv_rho)) rfl ?_
            obtain ⟨c25, h⟩ := iv_ckE h
            refine iv_Ret.iast (len := 8) rfl rfl rfl rfl c25.1 c25.2 ?_
            show iv_Ret L 139 61 [ivR 110, ivI p1, ivI p2, ivI p3] [] (ivST (iv_upd μ22 118 p2.toNat (μ22 110 15))) (some (ivI r)) (ivST μ')
            refine iv_Ret.stl [62, 65] (ls' := [ivR 110, ivI p1, ivI p2, ivI p3]) (st' := [ivR 117]) (w' := (135, (iv_upd μ22 118 p2.toNat (μ22 110 15)), iv_rho)) rfl ?_
            refine iv_Ret.stl [66, 67] (ls' := [ivR 110, ivI p1, ivI p2, ivI p3]) (st' := [ivI p2, ivR 117, ivI p2, ivR 117]) (w' := (135, (iv_upd μ22 118 p2.toNat (μ22 110 15)), iv_rho)) rfl ?_
            obtain ⟨c26, h⟩ := iv_ckE h
            refine iv_Ret.iald (len := 8) rfl rfl rfl c26.1 c26.2 ?_
            show iv_Ret L 139 68 [ivR 110, ivI p1, ivI p2, ivI p3] [ivI ((iv_upd μ22 118 p2.toNat (μ22 110 15)) 117 p2.toNat), ivI p2, ivR 117] (ivST (iv_upd μ22 118 p2.toNat (μ22 110 15))) (some (ivI r)) (ivST μ')
            refine iv_Ret.stl [69, 70] (ls' := [ivR 110, ivI p1, ivI p2, ivI p3]) (st' := [ivI (iv_or ((iv_upd μ22 118 p2.toNat (μ22 110 15)) 117 p2.toNat) p3), ivI p2, ivR 117]) (w' := (135, (iv_upd μ22 118 p2.toNat (μ22 110 15)), iv_rho)) rfl ?_
            obtain ⟨c27, h⟩ := iv_ckE h
            refine iv_Ret.iast (len := 8) rfl rfl rfl rfl c27.1 c27.2 ?_
            show iv_Ret L 139 71 [ivR 110, ivI p1, ivI p2, ivI p3] [] (ivST (iv_upd (iv_upd μ22 118 p2.toNat (μ22 110 15)) 117 p2.toNat (iv_or ((iv_upd μ22 118 p2.toNat (μ22 110 15)) 117 p2.toNat) p3))) (some (ivI r)) (ivST μ')
            refine iv_Ret.stl [72, 75] (ls' := [ivR 110, ivI p1, ivI p2, ivI p3]) (st' := [ivR 117]) (w' := (135, (iv_upd (iv_upd μ22 118 p2.toNat (μ22 110 15)) 117 p2.toNat (iv_or ((iv_upd μ22 118 p2.toNat (μ22 110 15)) 117 p2.toNat) p3)), iv_rho)) rfl ?_
            refine iv_Ret.stl [76] (ls' := [ivR 110, ivI p1, ivI p2, ivI p3]) (st' := [ivI p2, ivR 117]) (w' := (135, (iv_upd (iv_upd μ22 118 p2.toNat (μ22 110 15)) 117 p2.toNat (iv_or ((iv_upd μ22 118 p2.toNat (μ22 110 15)) 117 p2.toNat) p3)), iv_rho)) rfl ?_
            obtain ⟨c28, h⟩ := iv_ckE h
            refine iv_Ret.iald (len := 8) rfl rfl rfl c28.1 c28.2 ?_
            show iv_Ret L 139 77 [ivR 110, ivI p1, ivI p2, ivI p3] [ivI ((iv_upd (iv_upd μ22 118 p2.toNat (μ22 110 15)) 117 p2.toNat (iv_or ((iv_upd μ22 118 p2.toNat (μ22 110 15)) 117 p2.toNat) p3)) 117 p2.toNat)] (ivST (iv_upd (iv_upd μ22 118 p2.toNat (μ22 110 15)) 117 p2.toNat (iv_or ((iv_upd μ22 118 p2.toNat (μ22 110 15)) 117 p2.toNat) p3))) (some (ivI r)) (ivST μ')
            obtain ⟨rfl, rfl⟩ := iv_retE h
            exact ⟨1, rfl⟩
theorem T_X10_give (L : Nat) (p1 : Int) (p2 : Int) (p3 : Int)  {μ μ' : ivM} {r : Int} (h : f_X10_give p1 p2 p3 μ = some (r, μ')) : iv_Ret L 140 0 [ivR 110, ivI p1, ivI p2, ivI p3] [] (ivST μ) (some (ivI r)) (ivST μ') := by
  unfold f_X10_give at h
  refine iv_Ret.stl [1, 2] (ls' := [ivR 110, ivI p1, ivI p2, ivI p3]) (st' := [ivI p1, ivR 110]) (w' := (135, μ, iv_rho)) rfl ?_
  obtain ⟨r1, μ2, e3, h⟩ := iv_bndE h
  refine iv_Ret.callv rfl rfl rfl (T_X10_isPerson L p1 e3) ?_
  show iv_Ret L 140 5 [ivR 110, ivI p1, ivI p2, ivI p3] [ivI r1] (ivST μ2) (some (ivI r)) (ivST μ')
  refine iv_letE (fun j4 => ∀ (μ9 : ivM) (r10 : Int) (μ11 : ivM) (z5 : ivV) (z6 : ivV) (z7 : ivV) (z8 : ivV), j4 μ9 = some (r10, μ11) → iv_Ret L 140 24 [z5, z6, z7, z8] [] (ivST μ9) (some (ivI r10)) (ivST μ11)) h (fun μ9 r10 μ11 z5 z6 z7 z8 h => ?_) (fun j4 hj4 h => ?_)
  · refine iv_Ret.stl [25] (ls' := [z5, z6, z7, z8]) (st' := [ivI (-1)]) (w' := (135, μ9, iv_rho)) rfl ?_
    obtain ⟨rfl, rfl⟩ := iv_retE h
    exact ⟨1, rfl⟩
  · rcases iv_iteE h with ⟨c12, h⟩ | ⟨c12, h⟩
    · refine iv_Ret.ifT (t := 24) rfl (decide_eq_true c12) rfl ?_
      exact hj4 μ2 _ _ (ivR 110) (ivI p1) (ivI p2) (ivI p3) h
    · refine iv_Ret.ifF (t := 8) rfl (decide_eq_false c12) rfl ?_
      refine iv_Ret.stl [9, 10] (ls' := [ivR 110, ivI p1, ivI p2, ivI p3]) (st' := [ivI p2, ivR 110]) (w' := (135, μ2, iv_rho)) rfl ?_
      obtain ⟨r13, μ14, e15, h⟩ := iv_bndE h
      refine iv_Ret.callv rfl rfl rfl (T_X10_isPerson L p2 e15) ?_
      show iv_Ret L 140 13 [ivR 110, ivI p1, ivI p2, ivI p3] [ivI r13] (ivST μ14) (some (ivI r)) (ivST μ')
      rcases iv_iteE h with ⟨c16, h⟩ | ⟨c16, h⟩
      · refine iv_Ret.ifT (t := 24) rfl (decide_eq_true c16) rfl ?_
        exact hj4 μ14 _ _ (ivR 110) (ivI p1) (ivI p2) (ivI p3) h
      · refine iv_Ret.ifF (t := 16) rfl (decide_eq_false c16) rfl ?_
        refine iv_Ret.stl [17, 18] (ls' := [ivR 110, ivI p1, ivI p2, ivI p3]) (st' := [ivI p3, ivR 110]) (w' := (135, μ14, iv_rho)) rfl ?_
        obtain ⟨r17, μ18, e19, h⟩ := iv_bndE h
        refine iv_Ret.callv rfl rfl rfl (T_X10_isThing L p3 e19) ?_
        show iv_Ret L 140 21 [ivR 110, ivI p1, ivI p2, ivI p3] [ivI r17] (ivST μ18) (some (ivI r)) (ivST μ')
        rcases iv_iteE h with ⟨c20, h⟩ | ⟨c20, h⟩
        · refine iv_Ret.ifF (t := 24) rfl (decide_eq_false (not_not_intro c20)) rfl ?_
          exact hj4 μ18 _ _ (ivR 110) (ivI p1) (ivI p2) (ivI p3) h
        · refine iv_Ret.ifT (t := 26) rfl (decide_eq_true c20) rfl ?_
          refine iv_Ret.stl [27, 28] (ls' := [ivR 110, ivI p1, ivI p2, ivI p3]) (st' := [ivI p2, ivI p1]) (w' := (135, μ18, iv_rho)) rfl ?_
          refine iv_letE (fun j21 => ∀ (μ26 : ivM) (r27 : Int) (μ28 : ivM) (z22 : ivV) (z23 : ivV) (z24 : ivV) (z25 : ivV), j21 μ26 = some (r27, μ28) → iv_Ret L 140 40 [z22, z23, z24, z25] [] (ivST μ26) (some (ivI r27)) (ivST μ28)) h (fun μ26 r27 μ28 z22 z23 z24 z25 h => ?_) (fun j21 hj21 h => ?_)
          · refine iv_Ret.stl [42] (ls' := [z22, z23, z24, z25]) (st' := [ivI (-3)]) (w' := (135, μ26, iv_rho)) rfl ?_
            obtain ⟨rfl, rfl⟩ := iv_retE h
            exact ⟨1, rfl⟩
          · rcases iv_iteE h with ⟨c29, h⟩ | ⟨c29, h⟩
            · refine iv_Ret.icT (t := 40) rfl (decide_eq_true c29) rfl ?_
              exact hj21 μ18 _ _ (ivR 110) (ivI p1) (ivI p2) (ivI p3) h
            · refine iv_Ret.icF (t := 31) rfl (decide_eq_false c29) rfl ?_
              refine iv_Ret.stl [32, 33, 34] (ls' := [ivR 110, ivI p1, ivI p2, ivI p3]) (st' := [ivI p3, ivI p1, ivR 110]) (w' := (135, μ18, iv_rho)) rfl ?_
              obtain ⟨r30, μ31, e32, h⟩ := iv_bndE h
              refine iv_Ret.callv rfl rfl rfl (T_X10_isKnown L p1 p3 e32) ?_
              show iv_Ret L 140 37 [ivR 110, ivI p1, ivI p2, ivI p3] [ivI r30] (ivST μ31) (some (ivI r)) (ivST μ')
              rcases iv_iteE h with ⟨c33, h⟩ | ⟨c33, h⟩
              · refine iv_Ret.ifF (t := 40) rfl (decide_eq_false (not_not_intro c33)) rfl ?_
                exact hj21 μ31 _ _ (ivR 110) (ivI p1) (ivI p2) (ivI p3) h
              · refine iv_Ret.ifT (t := 43) rfl (decide_eq_true c33) rfl ?_
                refine iv_Ret.stl [44, 47] (ls' := [ivR 110, ivI p1, ivI p2, ivI p3]) (st' := [ivR 118]) (w' := (135, μ31, iv_rho)) rfl ?_
                refine iv_Ret.stl [48, 49, 52] (ls' := [ivR 110, ivI p1, ivI p2, ivI p3]) (st' := [ivI (μ31 110 15), ivI p3, ivR 118]) (w' := (135, μ31, iv_rho)) rfl ?_
                obtain ⟨c34, h⟩ := iv_ckE h
                refine iv_Ret.iast (len := 8) rfl rfl rfl rfl c34.1 c34.2 ?_
                show iv_Ret L 140 53 [ivR 110, ivI p1, ivI p2, ivI p3] [] (ivST (iv_upd μ31 118 p3.toNat (μ31 110 15))) (some (ivI r)) (ivST μ')
                refine iv_Ret.stl [54, 57] (ls' := [ivR 110, ivI p1, ivI p2, ivI p3]) (st' := [ivR 117]) (w' := (135, (iv_upd μ31 118 p3.toNat (μ31 110 15)), iv_rho)) rfl ?_
                refine iv_Ret.stl [58, 59, 62] (ls' := [ivR 110, ivI p1, ivI p2, ivI p3]) (st' := [ivR 117, ivI p3, ivR 117]) (w' := (135, (iv_upd μ31 118 p3.toNat (μ31 110 15)), iv_rho)) rfl ?_
                refine iv_Ret.stl [63] (ls' := [ivR 110, ivI p1, ivI p2, ivI p3]) (st' := [ivI p3, ivR 117, ivI p3, ivR 117]) (w' := (135, (iv_upd μ31 118 p3.toNat (μ31 110 15)), iv_rho)) rfl ?_
                obtain ⟨c35, h⟩ := iv_ckE h
                refine iv_Ret.iald (len := 8) rfl rfl rfl c35.1 c35.2 ?_
                show iv_Ret L 140 64 [ivR 110, ivI p1, ivI p2, ivI p3] [ivI ((iv_upd μ31 118 p3.toNat (μ31 110 15)) 117 p3.toNat), ivI p3, ivR 117] (ivST (iv_upd μ31 118 p3.toNat (μ31 110 15))) (some (ivI r)) (ivST μ')
                refine iv_Ret.stl [65, 66, 67, 68, 69, 70, 71, 72, 73, 74] (ls' := [ivR 110, ivI p1, ivI p2, ivI p3]) (st' := [ivI (iv_and (iv_or ((iv_upd μ31 118 p3.toNat (μ31 110 15)) 117 p3.toNat) (iv_shl 1 p2)) (iv_xor (iv_shl 1 p1) (-1))), ivI p3, ivR 117]) (w' := (135, (iv_upd μ31 118 p3.toNat (μ31 110 15)), iv_rho)) rfl ?_
                obtain ⟨c36, h⟩ := iv_ckE h
                refine iv_Ret.iast (len := 8) rfl rfl rfl rfl c36.1 c36.2 ?_
                show iv_Ret L 140 75 [ivR 110, ivI p1, ivI p2, ivI p3] [] (ivST (iv_upd (iv_upd μ31 118 p3.toNat (μ31 110 15)) 117 p3.toNat (iv_and (iv_or ((iv_upd μ31 118 p3.toNat (μ31 110 15)) 117 p3.toNat) (iv_shl 1 p2)) (iv_xor (iv_shl 1 p1) (-1))))) (some (ivI r)) (ivST μ')
                refine iv_Ret.stl [76, 79] (ls' := [ivR 110, ivI p1, ivI p2, ivI p3]) (st' := [ivR 117]) (w' := (135, (iv_upd (iv_upd μ31 118 p3.toNat (μ31 110 15)) 117 p3.toNat (iv_and (iv_or ((iv_upd μ31 118 p3.toNat (μ31 110 15)) 117 p3.toNat) (iv_shl 1 p2)) (iv_xor (iv_shl 1 p1) (-1)))), iv_rho)) rfl ?_
                refine iv_Ret.stl [80] (ls' := [ivR 110, ivI p1, ivI p2, ivI p3]) (st' := [ivI p3, ivR 117]) (w' := (135, (iv_upd (iv_upd μ31 118 p3.toNat (μ31 110 15)) 117 p3.toNat (iv_and (iv_or ((iv_upd μ31 118 p3.toNat (μ31 110 15)) 117 p3.toNat) (iv_shl 1 p2)) (iv_xor (iv_shl 1 p1) (-1)))), iv_rho)) rfl ?_
                obtain ⟨c37, h⟩ := iv_ckE h
                refine iv_Ret.iald (len := 8) rfl rfl rfl c37.1 c37.2 ?_
                show iv_Ret L 140 81 [ivR 110, ivI p1, ivI p2, ivI p3] [ivI ((iv_upd (iv_upd μ31 118 p3.toNat (μ31 110 15)) 117 p3.toNat (iv_and (iv_or ((iv_upd μ31 118 p3.toNat (μ31 110 15)) 117 p3.toNat) (iv_shl 1 p2)) (iv_xor (iv_shl 1 p1) (-1)))) 117 p3.toNat)] (ivST (iv_upd (iv_upd μ31 118 p3.toNat (μ31 110 15)) 117 p3.toNat (iv_and (iv_or ((iv_upd μ31 118 p3.toNat (μ31 110 15)) 117 p3.toNat) (iv_shl 1 p2)) (iv_xor (iv_shl 1 p1) (-1))))) (some (ivI r)) (ivST μ')
                obtain ⟨rfl, rfl⟩ := iv_retE h
                exact ⟨1, rfl⟩
theorem T_lp_X10_layFresh_35 (L : Nat) (l1 : Int) (l2 : Int) (l3 : Int)  {k65 : ivM → Option (Int × ivM)} (hk65 : ∀  (μ : ivM) (r : Int) (μ' : ivM) (d4 : ivV) (d5 : ivV) (d6 : ivV), k65 μ = some (r, μ') → iv_Ret L 141 65 [ivR 110, ivI l1, ivI l2, ivI l3, d4, d5, d6] [] (ivST μ) (some (ivI r)) (ivST μ')) : ∀ (n : Nat) (l4 : Int) (l5 : Int) (μ : ivM) (r : Int) (μ' : ivM) (d6 : ivV), lp_X10_layFresh_35 l1 l2 l3 k65 n l4 l5 μ = some (r, μ') → iv_Ret L 141 35 [ivR 110, ivI l1, ivI l2, ivI l3, ivI l4, ivI l5, d6] [] (ivST μ) (some (ivI r)) (ivST μ') := by
  intro n
  induction n with
  | zero => intro l4 l5 μ r μ' d6 h; unfold lp_X10_layFresh_35 at h; cases h
  | succ n ih =>
    intro l4 l5 μ r μ' d6 h
    unfold lp_X10_layFresh_35 at h
    refine iv_Ret.stl [37] (ls' := [ivR 110, ivI l1, ivI l2, ivI l3, ivI l4, ivI l5, d6]) (st' := [ivI l5]) (w' := (135, μ, iv_rho)) rfl ?_
    rcases iv_iteE h with ⟨c3, h⟩ | ⟨c3, h⟩
    · refine iv_Ret.ifT (t := 65) rfl (decide_eq_true c3) rfl ?_
      exact hk65 μ _ _ (ivI l4) (ivI l5) d6 h
    · refine iv_Ret.ifF (t := 40) rfl (decide_eq_false c3) rfl ?_
      refine iv_Ret.stl [41, 44] (ls' := [ivR 110, ivI l1, ivI l2, ivI l3, ivI l4, ivI l5, d6]) (st' := [ivR 121]) (w' := (135, μ, iv_rho)) rfl ?_
      refine iv_Ret.stl [46, 48, 50, 51] (ls' := [ivR 110, ivI l1, ivI l2, ivI l3, ivI l4, ivI l5, d6]) (st' := [ivI (iv_rem l4 6), ivI l5, ivR 121]) (w' := (135, μ, iv_rho)) rfl ?_
      obtain ⟨c4, h⟩ := iv_ckE h
      refine iv_Ret.iast (len := 5) rfl rfl rfl rfl c4.1 c4.2 ?_
      show iv_Ret L 141 52 [ivR 110, ivI l1, ivI l2, ivI l3, ivI l4, ivI l5, d6] [] (ivST (iv_upd μ 121 l5.toNat (iv_rem l4 6))) (some (ivI r)) (ivST μ')
      refine iv_Ret.stl [54, 56, 57, 59, 62, 35] (ls' := [ivR 110, ivI l1, ivI l2, ivI l3, ivI (iv_div l4 6), ivI (iv_wr (l5 + (-1))), d6]) (st' := []) (w' := (135, (iv_upd μ 121 l5.toNat (iv_rem l4 6)), iv_rho)) rfl ?_
      exact ih (iv_div l4 6) (iv_wr (l5 + (-1))) (iv_upd μ 121 l5.toNat (iv_rem l4 6)) _ _ d6 h
theorem T_lp_X10_layFresh_71 (L : Nat) (l1 : Int) (l2 : Int) (l3 : Int)  {k120 : Int → ivM → Option (Int × ivM)} (hk120 : ∀ (l5 : Int) (μ : ivM) (r : Int) (μ' : ivM) (d4 : ivV) (d6 : ivV), k120 l5 μ = some (r, μ') → iv_Ret L 141 120 [ivR 110, ivI l1, ivI l2, ivI l3, d4, ivI l5, d6] [] (ivST μ) (some (ivI r)) (ivST μ')) : ∀ (n : Nat) (l5 : Int) (l6 : Int) (μ : ivM) (r : Int) (μ' : ivM) (d4 : ivV), lp_X10_layFresh_71 l1 l2 l3 k120 n l5 l6 μ = some (r, μ') → iv_Ret L 141 71 [ivR 110, ivI l1, ivI l2, ivI l3, d4, ivI l5, ivI l6] [] (ivST μ) (some (ivI r)) (ivST μ') := by
  intro n
  induction n with
  | zero => intro l5 l6 μ r μ' d4 h; unfold lp_X10_layFresh_71 at h; cases h
  | succ n ih =>
    intro l5 l6 μ r μ' d4 h
    unfold lp_X10_layFresh_71 at h
    refine iv_Ret.stl [73, 74, 77] (ls' := [ivR 110, ivI l1, ivI l2, ivI l3, d4, ivI l5, ivI l6]) (st' := [ivI (μ 110 13), ivI l6]) (w' := (135, μ, iv_rho)) rfl ?_
    rcases iv_iteE h with ⟨c11, h⟩ | ⟨c11, h⟩
    · refine iv_Ret.icT (t := 120) rfl (decide_eq_true c11) rfl ?_
      exact hk120 l5 μ _ _ d4 (ivI l6) h
    · refine iv_Ret.icF (t := 80) rfl (decide_eq_false c11) rfl ?_
      refine iv_Ret.stl [82] (ls' := [ivR 110, ivI l1, ivI l2, ivI l3, d4, ivI l5, ivI l6]) (st' := [ivI l5]) (w' := (135, μ, iv_rho)) rfl ?_
      rcases iv_iteE h with ⟨c12, h⟩ | ⟨c12, h⟩
      · refine iv_Ret.ifT (t := 120) rfl (decide_eq_true c12) rfl ?_
        exact hk120 l5 μ _ _ d4 (ivI l6) h
      · refine iv_Ret.ifF (t := 85) rfl (decide_eq_false c12) rfl ?_
        refine iv_Ret.stl [86, 88] (ls' := [ivR 110, ivI l1, ivI l2, ivI l3, d4, ivI l5, ivI l6]) (st' := [ivI l6, ivR 110]) (w' := (135, μ, iv_rho)) rfl ?_
        obtain ⟨r13, μ14, e15, h⟩ := iv_bndE h
        refine iv_Ret.callv rfl rfl rfl (T_X10_isLive L l6 e15) ?_
        show iv_Ret L 141 91 [ivR 110, ivI l1, ivI l2, ivI l3, d4, ivI l5, ivI l6] [ivI r13] (ivST μ14) (some (ivI r)) (ivST μ')
        refine iv_letE (fun j16 => ∀ (v19 : Int) (μ20 : ivM) (r21 : Int) (μ22 : ivM) (z17 : ivV) (z18 : ivV), j16 v19 μ20 = some (r21, μ22) → iv_Ret L 141 112 [ivR 110, ivI l1, ivI l2, ivI l3, z17, z18, ivI l6] [ivI v19] (ivST μ20) (some (ivI r21)) (ivST μ22)) h (fun v19 μ20 r21 μ22 z17 z18 h => ?_) (fun j16 hj16 h => ?_)
        · refine iv_Ret.stl [114, 117, 71] (ls' := [ivR 110, ivI l1, ivI l2, ivI l3, (iv_un z17), ivI v19, ivI (iv_wr (l6 + 1))]) (st' := []) (w' := (135, μ20, iv_rho)) rfl ?_
          exact ih v19 (iv_wr (l6 + 1)) μ20 _ _ (iv_un z17) h
        · refine iv_letE (fun j23 => ∀ (μ26 : ivM) (r27 : Int) (μ28 : ivM) (z24 : ivV) (z25 : ivV), j23 μ26 = some (r27, μ28) → iv_Ret L 141 107 [ivR 110, ivI l1, ivI l2, ivI l3, z24, z25, ivI l6] [] (ivST μ26) (some (ivI r27)) (ivST μ28)) h (fun μ26 r27 μ28 z24 z25 h => ?_) (fun j23 hj23 h => ?_)
          · refine iv_Ret.stl [108, 112] (ls' := [ivR 110, ivI l1, ivI l2, ivI l3, z24, z25, ivI l6]) (st' := [ivI 1]) (w' := (135, μ26, iv_rho)) rfl ?_
            exact hj16 1 μ26 _ _ z24 z25 h
          · rcases iv_iteE h with ⟨c29, h⟩ | ⟨c29, h⟩
            · refine iv_Ret.ifT (t := 107) rfl (decide_eq_true c29) rfl ?_
              exact hj23 μ14 _ _ d4 (ivI l5) h
            · refine iv_Ret.ifF (t := 94) rfl (decide_eq_false c29) rfl ?_
              refine iv_Ret.stl [95, 97] (ls' := [ivR 110, ivI l1, ivI l2, ivI l3, d4, ivI l5, ivI l6]) (st' := [ivI l6, ivR 110]) (w' := (135, μ14, iv_rho)) rfl ?_
              obtain ⟨r30, μ31, e32, h⟩ := iv_bndE h
              refine iv_Ret.callv rfl rfl rfl (T_X10_offTried L l6 e32) ?_
              show iv_Ret L 141 100 [ivR 110, ivI l1, ivI l2, ivI l3, d4, ivI l5, ivI l6] [ivI r30] (ivST μ31) (some (ivI r)) (ivST μ')
              refine iv_Ret.stl [101, 104] (ls' := [ivR 110, ivI l1, ivI l2, ivI l3, d4, ivI l5, ivI l6]) (st' := [ivI (μ31 110 12), ivI r30]) (w' := (135, μ31, iv_rho)) rfl ?_
              rcases iv_iteE h with ⟨c33, h⟩ | ⟨c33, h⟩
              · refine iv_Ret.icT (t := 111) rfl (decide_eq_true c33) rfl ?_
                refine iv_Ret.stl [112] (ls' := [ivR 110, ivI l1, ivI l2, ivI l3, d4, ivI l5, ivI l6]) (st' := [ivI 0]) (w' := (135, μ31, iv_rho)) rfl ?_
                exact hj16 0 μ31 _ _ d4 (ivI l5) h
              · refine iv_Ret.icF (t := 107) rfl (decide_eq_false c33) rfl ?_
                exact hj23 μ31 _ _ d4 (ivI l5) h
theorem T_lp_X10_layFresh_17 (L : Nat) (l1 : Int) (l2 : Int)  {k133 : ivM → Option (Int × ivM)} (hk133 : ∀  (μ : ivM) (r : Int) (μ' : ivM) (d3 : ivV) (d4 : ivV) (d5 : ivV) (d6 : ivV), k133 μ = some (r, μ') → iv_Ret L 141 133 [ivR 110, ivI l1, ivI l2, d3, d4, d5, d6] [] (ivST μ) (some (ivI r)) (ivST μ')) : ∀ (n : Nat) (l3 : Int) (μ : ivM) (r : Int) (μ' : ivM) (d4 : ivV) (d5 : ivV) (d6 : ivV), lp_X10_layFresh_17 l1 l2 k133 n l3 μ = some (r, μ') → iv_Ret L 141 17 [ivR 110, ivI l1, ivI l2, ivI l3, d4, d5, d6] [] (ivST μ) (some (ivI r)) (ivST μ') := by
  intro n
  induction n with
  | zero => intro l3 μ r μ' d4 d5 d6 h; unfold lp_X10_layFresh_17 at h; cases h
  | succ n ih =>
    intro l3 μ r μ' d4 d5 d6 h
    unfold lp_X10_layFresh_17 at h
    refine iv_Ret.stl [18, 19] (ls' := [ivR 110, ivI l1, ivI l2, ivI l3, d4, d5, d6]) (st' := [ivI l1, ivI l3]) (w' := (135, μ, iv_rho)) rfl ?_
    rcases iv_iteE h with ⟨c2, h⟩ | ⟨c2, h⟩
    · refine iv_Ret.icT (t := 133) rfl (decide_eq_true c2) rfl ?_
      exact hk133 μ _ _ (ivI l3) d4 d5 d6 h
    · refine iv_Ret.icF (t := 22) rfl (decide_eq_false c2) rfl ?_
      refine iv_Ret.stl [23, 24, 27, 28, 30, 31, 32, 33, 35] (ls' := [ivR 110, ivI l1, ivI l2, ivI l3, ivI l3, ivI (iv_wr (l2 - 1)), d6]) (st' := []) (w' := (135, (iv_upd μ 110 21 l2), iv_rho)) rfl ?_
      refine T_lp_X10_layFresh_35 L l1 l2 l3 (fun μ8 r9 μ10 z5 z6 z7 h => ?_) iv_fuel l3 (iv_wr (l2 - 1)) (iv_upd μ 110 21 l2) _ _ d6 h
      refine iv_Ret.stl [66, 68, 69, 71] (ls' := [ivR 110, ivI l1, ivI l2, ivI l3, (iv_un z5), ivI 1, ivI 0]) (st' := []) (w' := (135, μ8, iv_rho)) rfl ?_
      refine T_lp_X10_layFresh_71 L l1 l2 l3 (fun w35 μ37 r38 μ39 z34 z36 h => ?_) iv_fuel 1 0 μ8 _ _ (iv_un z5) h
      refine iv_Ret.stl [122] (ls' := [ivR 110, ivI l1, ivI l2, ivI l3, z34, ivI w35, z36]) (st' := [ivI w35]) (w' := (135, μ37, iv_rho)) rfl ?_
      rcases iv_iteE h with ⟨c40, h⟩ | ⟨c40, h⟩
      · refine iv_Ret.ifT (t := 127) rfl (decide_eq_true c40) rfl ?_
        refine iv_Ret.stl [130, 17] (ls' := [ivR 110, ivI l1, ivI l2, ivI (iv_wr (l3 + 1)), z34, ivI w35, z36]) (st' := []) (w' := (135, μ37, iv_rho)) rfl ?_
        exact ih (iv_wr (l3 + 1)) μ37 _ _ z34 (ivI w35) z36 h
      · refine iv_Ret.ifF (t := 125) rfl (decide_eq_false c40) rfl ?_
        refine iv_Ret.stl [126] (ls' := [ivR 110, ivI l1, ivI l2, ivI l3, z34, ivI w35, z36]) (st' := [ivI 1]) (w' := (135, μ37, iv_rho)) rfl ?_
        obtain ⟨rfl, rfl⟩ := iv_retE h
        exact ⟨1, rfl⟩
theorem T_lp_X10_layFresh_4 (L : Nat)     : ∀ (n : Nat) (l1 : Int) (l2 : Int) (μ : ivM) (r : Int) (μ' : ivM) (d3 : ivV) (d4 : ivV) (d5 : ivV) (d6 : ivV), lp_X10_layFresh_4  n l1 l2 μ = some (r, μ') → iv_Ret L 141 4 [ivR 110, ivI l1, ivI l2, d3, d4, d5, d6] [] (ivST μ) (some (ivI r)) (ivST μ') := by
  intro n
  induction n with
  | zero => intro l1 l2 μ r μ' d3 d4 d5 d6 h; unfold lp_X10_layFresh_4 at h; cases h
  | succ n ih =>
    intro l1 l2 μ r μ' d3 d4 d5 d6 h
    unfold lp_X10_layFresh_4 at h
    refine iv_Ret.stl [5, 7] (ls' := [ivR 110, ivI l1, ivI l2, d3, d4, d5, d6]) (st' := [ivI 6, ivI l2]) (w' := (135, μ, iv_rho)) rfl ?_
    rcases iv_iteE h with ⟨c1, h⟩ | ⟨c1, h⟩
    · refine iv_Ret.icT (t := 139) rfl (decide_eq_true c1) rfl ?_
      refine iv_Ret.stl [140] (ls' := [ivR 110, ivI l1, ivI l2, d3, d4, d5, d6]) (st' := [ivI 0]) (w' := (135, μ, iv_rho)) rfl ?_
      obtain ⟨rfl, rfl⟩ := iv_retE h
      exact ⟨1, rfl⟩
    · refine iv_Ret.icF (t := 10) rfl (decide_eq_false c1) rfl ?_
      refine iv_Ret.stl [11, 13, 14, 15, 16, 17] (ls' := [ivR 110, ivI (iv_wr (l1 * 6)), ivI l2, ivI 0, d4, d5, d6]) (st' := []) (w' := (135, μ, iv_rho)) rfl ?_
      refine T_lp_X10_layFresh_17 L (iv_wr (l1 * 6)) l2 (fun μ45 r46 μ47 z41 z42 z43 z44 h => ?_) iv_fuel 0 μ _ _ d4 d5 d6 h
      refine iv_Ret.stl [136, 4] (ls' := [ivR 110, ivI (iv_wr (l1 * 6)), ivI (iv_wr (l2 + 1)), z41, z42, z43, z44]) (st' := []) (w' := (135, μ45, iv_rho)) rfl ?_
      exact ih (iv_wr (l1 * 6)) (iv_wr (l2 + 1)) μ45 _ _ z41 z42 z43 z44 h
theorem T_X10_layFresh (L : Nat)   {μ μ' : ivM} {r : Int} (h : f_X10_layFresh  μ = some (r, μ')) : iv_Ret L 141 0 [ivR 110, ivU, ivU, ivU, ivU, ivU, ivU] [] (ivST μ) (some (ivI r)) (ivST μ') := by
  unfold f_X10_layFresh at h
  refine iv_Ret.stl [1, 2, 3, 4] (ls' := [ivR 110, ivI 1, ivI 1, ivU, ivU, ivU, ivU]) (st' := []) (w' := (135, μ, iv_rho)) rfl ?_
  exact T_lp_X10_layFresh_4 L  iv_fuel 1 1 μ _ _ ivU ivU ivU ivU h
theorem T_X10_fresh (L : Nat) (p1 : Int)  {μ μ' : ivM} {r : Int} (h : f_X10_fresh p1 μ = some (r, μ')) : iv_Ret L 142 0 [ivR 110, ivI p1] [] (ivST μ) (some (ivI r)) (ivST μ') := by
  unfold f_X10_fresh at h
  refine iv_Ret.stl [1] (ls' := [ivR 110, ivI p1]) (st' := [ivR 110]) (w' := (135, μ, iv_rho)) rfl ?_
  obtain ⟨r1, μ2, e3, h⟩ := iv_bndE h
  refine iv_Ret.callv rfl rfl rfl (T_X10_layFresh L  e3) ?_
  show iv_Ret L 142 4 [ivR 110, ivI p1] [ivI r1] (ivST μ2) (some (ivI r)) (ivST μ')
  refine iv_letE (fun j4 => ∀ (v7 : Int) (μ8 : ivM) (r9 : Int) (μ10 : ivM) (z5 : ivV) (z6 : ivV), j4 v7 μ8 = some (r9, μ10) → iv_Ret L 142 34 [z5, z6] [ivI v7] (ivST μ8) (some (ivI r9)) (ivST μ10)) h (fun v7 μ8 r9 μ10 z5 z6 h => ?_) (fun j4 hj4 h => ?_)
  · obtain ⟨rfl, rfl⟩ := iv_retE h
    exact ⟨1, rfl⟩
  · refine iv_letE (fun j11 => ∀ (μ14 : ivM) (r15 : Int) (μ16 : ivM) (z12 : ivV) (z13 : ivV), j11 μ14 = some (r15, μ16) → iv_Ret L 142 32 [z12, z13] [] (ivST μ14) (some (ivI r15)) (ivST μ16)) h (fun μ14 r15 μ16 z12 z13 h => ?_) (fun j11 hj11 h => ?_)
    · refine iv_Ret.stl [34] (ls' := [z12, z13]) (st' := [ivI (-9)]) (w' := (135, μ14, iv_rho)) rfl ?_
      exact hj4 (-9) μ14 _ _ z12 z13 h
    · rcases iv_iteE h with ⟨c17, h⟩ | ⟨c17, h⟩
      · refine iv_Ret.ifT (t := 32) rfl (decide_eq_true c17) rfl ?_
        exact hj11 μ2 _ _ (ivR 110) (ivI p1) h
      · refine iv_Ret.ifF (t := 7) rfl (decide_eq_false c17) rfl ?_
        refine iv_Ret.stl [8, 9, 10, 11, 14, 15, 16, 17] (ls' := [ivR 110, ivI p1]) (st' := [ivJ (iv_wr ((μ2 110 21) - 1)), ivJ 0, ivJ p1]) (w' := (135, μ2, iv_rho)) rfl ?_
        obtain ⟨r18, μ19, e20, h⟩ := iv_bndE h
        refine iv_Ret.calls rfl rfl (T_X10_in L p1 0 (iv_wr ((μ2 110 21) - 1)) e20) ?_
        show iv_Ret L 142 20 [ivR 110, ivI p1] [ivI r18] (ivST μ19) (some (ivI r)) (ivST μ')
        rcases iv_iteE h with ⟨c21, h⟩ | ⟨c21, h⟩
        · refine iv_Ret.ifT (t := 32) rfl (decide_eq_true c21) rfl ?_
          exact hj11 μ19 _ _ (ivR 110) (ivI p1) h
        · refine iv_Ret.ifF (t := 23) rfl (decide_eq_false c21) rfl ?_
          refine iv_Ret.stl [24, 27] (ls' := [ivR 110, ivI p1]) (st' := [ivR 121]) (w' := (135, μ19, iv_rho)) rfl ?_
          refine iv_Ret.stl [28] (ls' := [ivR 110, ivI p1]) (st' := [ivI p1, ivR 121]) (w' := (135, μ19, iv_rho)) rfl ?_
          obtain ⟨c22, h⟩ := iv_ckE h
          refine iv_Ret.iald (len := 5) rfl rfl rfl c22.1 c22.2 ?_
          show iv_Ret L 142 29 [ivR 110, ivI p1] [ivI (μ19 121 p1.toNat)] (ivST μ19) (some (ivI r)) (ivST μ')
          refine iv_Ret.stl [34] (ls' := [ivR 110, ivI p1]) (st' := [ivI (μ19 121 p1.toNat)]) (w' := (135, μ19, iv_rho)) rfl ?_
          exact hj4 (μ19 121 p1.toNat) μ19 _ _ (ivR 110) (ivI p1) h
theorem T_lp_X10_anew_48 (L : Nat) (l1 : Int) (l2 : Int)  {k78 : ivM → Option (Int × ivM)} (hk78 : ∀  (μ : ivM) (r : Int) (μ' : ivM) (d3 : ivV), k78 μ = some (r, μ') → iv_Ret L 143 78 [ivR 110, ivI l1, ivI l2, d3] [] (ivST μ) (some (ivI r)) (ivST μ')) : ∀ (n : Nat) (l3 : Int) (μ : ivM) (r : Int) (μ' : ivM), lp_X10_anew_48 l1 l2 k78 n l3 μ = some (r, μ') → iv_Ret L 143 48 [ivR 110, ivI l1, ivI l2, ivI l3] [] (ivST μ) (some (ivI r)) (ivST μ') := by
  intro n
  induction n with
  | zero => intro l3 μ r μ' h; unfold lp_X10_anew_48 at h; cases h
  | succ n ih =>
    intro l3 μ r μ' h
    unfold lp_X10_anew_48 at h
    refine iv_Ret.stl [49, 50, 53] (ls' := [ivR 110, ivI l1, ivI l2, ivI l3]) (st' := [ivI (μ 110 21), ivI l3]) (w' := (135, μ, iv_rho)) rfl ?_
    rcases iv_iteE h with ⟨c34, h⟩ | ⟨c34, h⟩
    · refine iv_Ret.icT (t := 78) rfl (decide_eq_true c34) rfl ?_
      exact hk78 μ _ _ (ivI l3) h
    · refine iv_Ret.icF (t := 56) rfl (decide_eq_false c34) rfl ?_
      refine iv_Ret.stl [57, 60] (ls' := [ivR 110, ivI l1, ivI l2, ivI l3]) (st' := [ivR 115]) (w' := (135, μ, iv_rho)) rfl ?_
      refine iv_Ret.stl [61, 62, 63, 64, 65, 66, 69] (ls' := [ivR 110, ivI l1, ivI l2, ivI l3]) (st' := [ivR 121, ivI (iv_wr ((iv_wr (5 * l2)) + l3)), ivR 115]) (w' := (135, μ, iv_rho)) rfl ?_
      refine iv_Ret.stl [70] (ls' := [ivR 110, ivI l1, ivI l2, ivI l3]) (st' := [ivI l3, ivR 121, ivI (iv_wr ((iv_wr (5 * l2)) + l3)), ivR 115]) (w' := (135, μ, iv_rho)) rfl ?_
      obtain ⟨c35, h⟩ := iv_ckE h
      refine iv_Ret.iald (len := 5) rfl rfl rfl c35.1 c35.2 ?_
      show iv_Ret L 143 71 [ivR 110, ivI l1, ivI l2, ivI l3] [ivI (μ 121 l3.toNat), ivI (iv_wr ((iv_wr (5 * l2)) + l3)), ivR 115] (ivST μ) (some (ivI r)) (ivST μ')
      obtain ⟨c36, h⟩ := iv_ckE h
      refine iv_Ret.iast (len := 40) rfl rfl rfl rfl c36.1 c36.2 ?_
      show iv_Ret L 143 72 [ivR 110, ivI l1, ivI l2, ivI l3] [] (ivST (iv_upd μ 115 (iv_wr ((iv_wr (5 * l2)) + l3)).toNat (μ 121 l3.toNat))) (some (ivI r)) (ivST μ')
      refine iv_Ret.stl [75, 48] (ls' := [ivR 110, ivI l1, ivI l2, ivI (iv_wr (l3 + 1))]) (st' := []) (w' := (135, (iv_upd μ 115 (iv_wr ((iv_wr (5 * l2)) + l3)).toNat (μ 121 l3.toNat)), iv_rho)) rfl ?_
      exact ih (iv_wr (l3 + 1)) (iv_upd μ 115 (iv_wr ((iv_wr (5 * l2)) + l3)).toNat (μ 121 l3.toNat)) _ _ h
theorem T_X10_anew (L : Nat) (p1 : Int) (p2 : Int)  {μ μ' : ivM} {r : Int} (h : f_X10_anew p1 p2 μ = some (r, μ')) : iv_Ret L 143 0 [ivR 110, ivI p1, ivI p2, ivU] [] (ivST μ) (some (ivI r)) (ivST μ') := by
  unfold f_X10_anew at h
  refine iv_Ret.stl [1, 2] (ls' := [ivR 110, ivI p1, ivI p2, ivU]) (st' := [ivI p1, ivR 110]) (w' := (135, μ, iv_rho)) rfl ?_
  obtain ⟨r1, μ2, e3, h⟩ := iv_bndE h
  refine iv_Ret.callv rfl rfl rfl (T_X10_isPerson L p1 e3) ?_
  show iv_Ret L 143 5 [ivR 110, ivI p1, ivI p2, ivU] [ivI r1] (ivST μ2) (some (ivI r)) (ivST μ')
  refine iv_letE (fun j4 => ∀ (μ9 : ivM) (r10 : Int) (μ11 : ivM) (z5 : ivV) (z6 : ivV) (z7 : ivV) (z8 : ivV), j4 μ9 = some (r10, μ11) → iv_Ret L 143 16 [z5, z6, z7, z8] [] (ivST μ9) (some (ivI r10)) (ivST μ11)) h (fun μ9 r10 μ11 z5 z6 z7 z8 h => ?_) (fun j4 hj4 h => ?_)
  · refine iv_Ret.stl [17] (ls' := [z5, z6, z7, z8]) (st' := [ivI (-1)]) (w' := (135, μ9, iv_rho)) rfl ?_
    obtain ⟨rfl, rfl⟩ := iv_retE h
    exact ⟨1, rfl⟩
  · rcases iv_iteE h with ⟨c12, h⟩ | ⟨c12, h⟩
    · refine iv_Ret.ifT (t := 16) rfl (decide_eq_true c12) rfl ?_
      exact hj4 μ2 _ _ (ivR 110) (ivI p1) (ivI p2) ivU h
    · refine iv_Ret.ifF (t := 8) rfl (decide_eq_false c12) rfl ?_
      refine iv_Ret.stl [9, 10] (ls' := [ivR 110, ivI p1, ivI p2, ivU]) (st' := [ivI p2, ivR 110]) (w' := (135, μ2, iv_rho)) rfl ?_
      obtain ⟨r13, μ14, e15, h⟩ := iv_bndE h
      refine iv_Ret.callv rfl rfl rfl (T_X10_isThing L p2 e15) ?_
      show iv_Ret L 143 13 [ivR 110, ivI p1, ivI p2, ivU] [ivI r13] (ivST μ14) (some (ivI r)) (ivST μ')
      rcases iv_iteE h with ⟨c16, h⟩ | ⟨c16, h⟩
      · refine iv_Ret.ifF (t := 16) rfl (decide_eq_false (not_not_intro c16)) rfl ?_
        exact hj4 μ14 _ _ (ivR 110) (ivI p1) (ivI p2) ivU h
      · refine iv_Ret.ifT (t := 18) rfl (decide_eq_true c16) rfl ?_
        refine iv_Ret.stl [19, 20] (ls' := [ivR 110, ivI p1, ivI p2, ivU]) (st' := [ivI p2, ivR 110]) (w' := (135, μ14, iv_rho)) rfl ?_
        obtain ⟨r17, μ18, e19, h⟩ := iv_bndE h
        refine iv_Ret.callv rfl rfl rfl (T_X10_isLive L p2 e19) ?_
        show iv_Ret L 143 23 [ivR 110, ivI p1, ivI p2, ivU] [ivI r17] (ivST μ18) (some (ivI r)) (ivST μ')
        refine iv_letE (fun j20 => ∀ (μ25 : ivM) (r26 : Int) (μ27 : ivM) (z21 : ivV) (z22 : ivV) (z23 : ivV) (z24 : ivV), j20 μ25 = some (r26, μ27) → iv_Ret L 143 33 [z21, z22, z23, z24] [] (ivST μ25) (some (ivI r26)) (ivST μ27)) h (fun μ25 r26 μ27 z21 z22 z23 z24 h => ?_) (fun j20 hj20 h => ?_)
        · refine iv_Ret.stl [35] (ls' := [z21, z22, z23, z24]) (st' := [ivI (-3)]) (w' := (135, μ25, iv_rho)) rfl ?_
          obtain ⟨rfl, rfl⟩ := iv_retE h
          exact ⟨1, rfl⟩
        · rcases iv_iteE h with ⟨c28, h⟩ | ⟨c28, h⟩
          · refine iv_Ret.ifF (t := 26) rfl (decide_eq_false (not_not_intro c28)) rfl ?_
            refine iv_Ret.stl [27] (ls' := [ivR 110, ivI p1, ivI p2, ivU]) (st' := [ivR 110]) (w' := (135, μ18, iv_rho)) rfl ?_
            obtain ⟨r29, μ30, e31, h⟩ := iv_bndE h
            refine iv_Ret.callv rfl rfl rfl (T_X10_layFresh L  e31) ?_
            show iv_Ret L 143 30 [ivR 110, ivI p1, ivI p2, ivU] [ivI r29] (ivST μ30) (some (ivI r)) (ivST μ')
            rcases iv_iteE h with ⟨c32, h⟩ | ⟨c32, h⟩
            · refine iv_Ret.ifF (t := 33) rfl (decide_eq_false (not_not_intro c32)) rfl ?_
              exact hj20 μ30 _ _ (ivR 110) (ivI p1) (ivI p2) ivU h
            · refine iv_Ret.ifT (t := 36) rfl (decide_eq_true c32) rfl ?_
              refine iv_Ret.stl [37, 40] (ls' := [ivR 110, ivI p1, ivI p2, ivU]) (st' := [ivR 116]) (w' := (135, μ30, iv_rho)) rfl ?_
              refine iv_Ret.stl [41, 42, 45] (ls' := [ivR 110, ivI p1, ivI p2, ivU]) (st' := [ivI (μ30 110 21), ivI p2, ivR 116]) (w' := (135, μ30, iv_rho)) rfl ?_
              obtain ⟨c33, h⟩ := iv_ckE h
              refine iv_Ret.iast (len := 8) rfl rfl rfl rfl c33.1 c33.2 ?_
              show iv_Ret L 143 46 [ivR 110, ivI p1, ivI p2, ivU] [] (ivST (iv_upd μ30 116 p2.toNat (μ30 110 21))) (some (ivI r)) (ivST μ')
              refine iv_Ret.stl [47, 48] (ls' := [ivR 110, ivI p1, ivI p2, ivI 0]) (st' := []) (w' := (135, (iv_upd μ30 116 p2.toNat (μ30 110 21)), iv_rho)) rfl ?_
              refine T_lp_X10_anew_48 L p1 p2 (fun μ38 r39 μ40 z37 h => ?_) iv_fuel 0 (iv_upd μ30 116 p2.toNat (μ30 110 21)) _ _ h
              refine iv_Ret.stl [79, 82] (ls' := [ivR 110, ivI p1, ivI p2, z37]) (st' := [ivR 118]) (w' := (135, μ38, iv_rho)) rfl ?_
              refine iv_Ret.stl [83, 84, 87] (ls' := [ivR 110, ivI p1, ivI p2, z37]) (st' := [ivI (μ38 110 15), ivI p2, ivR 118]) (w' := (135, μ38, iv_rho)) rfl ?_
              obtain ⟨c41, h⟩ := iv_ckE h
              refine iv_Ret.iast (len := 8) rfl rfl rfl rfl c41.1 c41.2 ?_
              show iv_Ret L 143 88 [ivR 110, ivI p1, ivI p2, z37] [] (ivST (iv_upd μ38 118 p2.toNat (μ38 110 15))) (some (ivI r39)) (ivST μ40)
              refine iv_Ret.stl [89, 92] (ls' := [ivR 110, ivI p1, ivI p2, z37]) (st' := [ivR 117]) (w' := (135, (iv_upd μ38 118 p2.toNat (μ38 110 15)), iv_rho)) rfl ?_
              refine iv_Ret.stl [93, 94, 95, 96] (ls' := [ivR 110, ivI p1, ivI p2, z37]) (st' := [ivI (iv_shl 1 p1), ivI p2, ivR 117]) (w' := (135, (iv_upd μ38 118 p2.toNat (μ38 110 15)), iv_rho)) rfl ?_
              obtain ⟨c42, h⟩ := iv_ckE h
              refine iv_Ret.iast (len := 8) rfl rfl rfl rfl c42.1 c42.2 ?_
              show iv_Ret L 143 97 [ivR 110, ivI p1, ivI p2, z37] [] (ivST (iv_upd (iv_upd μ38 118 p2.toNat (μ38 110 15)) 117 p2.toNat (iv_shl 1 p1))) (some (ivI r39)) (ivST μ40)
              refine iv_Ret.stl [98, 101] (ls' := [ivR 110, ivI p1, ivI p2, z37]) (st' := [ivI ((iv_upd (iv_upd μ38 118 p2.toNat (μ38 110 15)) 117 p2.toNat (iv_shl 1 p1)) 110 21)]) (w' := (135, (iv_upd (iv_upd μ38 118 p2.toNat (μ38 110 15)) 117 p2.toNat (iv_shl 1 p1)), iv_rho)) rfl ?_
              obtain ⟨rfl, rfl⟩ := iv_retE h
              exact ⟨1, rfl⟩
          · refine iv_Ret.ifT (t := 33) rfl (decide_eq_true c28) rfl ?_
            exact hj20 μ18 _ _ (ivR 110) (ivI p1) (ivI p2) ivU h
theorem T_lp_X10_liftsOf_4 (L : Nat) (l1 : Int)    : ∀ (n : Nat) (l2 : Int) (l3 : Int) (μ : ivM) (r : Int) (μ' : ivM), lp_X10_liftsOf_4 l1 n l2 l3 μ = some (r, μ') → iv_Ret L 144 4 [ivR 110, ivI l1, ivI l2, ivI l3] [] (ivST μ) (some (ivI r)) (ivST μ') := by
  intro n
  induction n with
  | zero => intro l2 l3 μ r μ' h; unfold lp_X10_liftsOf_4 at h; cases h
  | succ n ih =>
    intro l2 l3 μ r μ' h
    unfold lp_X10_liftsOf_4 at h
    refine iv_Ret.stl [5, 6, 9] (ls' := [ivR 110, ivI l1, ivI l2, ivI l3]) (st' := [ivI (μ 110 13), ivI l3]) (w' := (135, μ, iv_rho)) rfl ?_
    rcases iv_iteE h with ⟨c1, h⟩ | ⟨c1, h⟩
    · refine iv_Ret.icT (t := 68) rfl (decide_eq_true c1) rfl ?_
      refine iv_Ret.stl [69] (ls' := [ivR 110, ivI l1, ivI l2, ivI l3]) (st' := [ivI l2]) (w' := (135, μ, iv_rho)) rfl ?_
      obtain ⟨rfl, rfl⟩ := iv_retE h
      exact ⟨1, rfl⟩
    · refine iv_Ret.icF (t := 12) rfl (decide_eq_false c1) rfl ?_
      refine iv_Ret.stl [13, 14, 15] (ls' := [ivR 110, ivI l1, ivI l2, ivI l3]) (st' := [ivI l3, ivR 110, ivI l2]) (w' := (135, μ, iv_rho)) rfl ?_
      obtain ⟨r2, μ3, e4, h⟩ := iv_bndE h
      refine iv_Ret.callv rfl rfl rfl (T_X10_isLive L l3 e4) ?_
      show iv_Ret L 144 18 [ivR 110, ivI l1, ivI l2, ivI l3] [ivI r2, ivI l2] (ivST μ3) (some (ivI r)) (ivST μ')
      refine iv_letE (fun j5 => ∀ (v7 : Int) (μ8 : ivM) (r9 : Int) (μ10 : ivM) (z6 : ivV), j5 v7 μ8 = some (r9, μ10) → iv_Ret L 144 60 [ivR 110, ivI l1, z6, ivI l3] [ivI v7, ivI l2] (ivST μ8) (some (ivI r9)) (ivST μ10)) h (fun v7 μ8 r9 μ10 z6 h => ?_) (fun j5 hj5 h => ?_)
      · refine iv_Ret.stl [61, 62, 65, 4] (ls' := [ivR 110, ivI l1, ivI (iv_or l2 v7), ivI (iv_wr (l3 + 1))]) (st' := []) (w' := (135, μ8, iv_rho)) rfl ?_
        exact ih (iv_or l2 v7) (iv_wr (l3 + 1)) μ8 _ _ h
      · refine iv_letE (fun j11 => ∀ (μ13 : ivM) (r14 : Int) (μ15 : ivM) (z12 : ivV), j11 μ13 = some (r14, μ15) → iv_Ret L 144 59 [ivR 110, ivI l1, z12, ivI l3] [ivI l2] (ivST μ13) (some (ivI r14)) (ivST μ15)) h (fun μ13 r14 μ15 z12 h => ?_) (fun j11 hj11 h => ?_)
        · refine iv_Ret.stl [60] (ls' := [ivR 110, ivI l1, z12, ivI l3]) (st' := [ivI 0, ivI l2]) (w' := (135, μ13, iv_rho)) rfl ?_
          exact hj5 0 μ13 _ _ z12 h
        · rcases iv_iteE h with ⟨c16, h⟩ | ⟨c16, h⟩
          · refine iv_Ret.ifT (t := 59) rfl (decide_eq_true c16) rfl ?_
            exact hj11 μ3 _ _ (ivI l2) h
          · refine iv_Ret.ifF (t := 21) rfl (decide_eq_false c16) rfl ?_
            refine iv_Ret.stl [22, 23, 24] (ls' := [ivR 110, ivI l1, ivI l2, ivI l3]) (st' := [ivI l3, ivI l1, ivR 110, ivI l2]) (w' := (135, μ3, iv_rho)) rfl ?_
            obtain ⟨r17, μ18, e19, h⟩ := iv_bndE h
            refine iv_Ret.callv rfl rfl rfl (T_X10_isKnown L l1 l3 e19) ?_
            show iv_Ret L 144 27 [ivR 110, ivI l1, ivI l2, ivI l3] [ivI r17, ivI l2] (ivST μ18) (some (ivI r)) (ivST μ')
            rcases iv_iteE h with ⟨c20, h⟩ | ⟨c20, h⟩
            · refine iv_Ret.ifT (t := 59) rfl (decide_eq_true c20) rfl ?_
              exact hj11 μ18 _ _ (ivI l2) h
            · refine iv_Ret.ifF (t := 30) rfl (decide_eq_false c20) rfl ?_
              refine iv_Ret.stl [31, 34] (ls' := [ivR 110, ivI l1, ivI l2, ivI l3]) (st' := [ivR 116, ivI l2]) (w' := (135, μ18, iv_rho)) rfl ?_
              refine iv_Ret.stl [35] (ls' := [ivR 110, ivI l1, ivI l2, ivI l3]) (st' := [ivI l3, ivR 116, ivI l2]) (w' := (135, μ18, iv_rho)) rfl ?_
              obtain ⟨c21, h⟩ := iv_ckE h
              refine iv_Ret.iald (len := 8) rfl rfl rfl c21.1 c21.2 ?_
              show iv_Ret L 144 36 [ivR 110, ivI l1, ivI l2, ivI l3] [ivI (μ18 116 l3.toNat), ivI l2] (ivST μ18) (some (ivI r)) (ivST μ')
              refine iv_Ret.stl [37, 40] (ls' := [ivR 110, ivI l1, ivI l2, ivI l3]) (st' := [ivR 119, ivI (μ18 116 l3.toNat), ivI l2]) (w' := (135, μ18, iv_rho)) rfl ?_
              refine iv_Ret.stl [41] (ls' := [ivR 110, ivI l1, ivI l2, ivI l3]) (st' := [ivI l1, ivR 119, ivI (μ18 116 l3.toNat), ivI l2]) (w' := (135, μ18, iv_rho)) rfl ?_
              obtain ⟨c22, h⟩ := iv_ckE h
              refine iv_Ret.iald (len := 6) rfl rfl rfl c22.1 c22.2 ?_
              show iv_Ret L 144 42 [ivR 110, ivI l1, ivI l2, ivI l3] [ivI (μ18 119 l1.toNat), ivI (μ18 116 l3.toNat), ivI l2] (ivST μ18) (some (ivI r)) (ivST μ')
              rcases iv_iteE h with ⟨c23, h⟩ | ⟨c23, h⟩
              · refine iv_Ret.icT (t := 59) rfl (decide_eq_true c23) rfl ?_
                exact hj11 μ18 _ _ (ivI l2) h
              · refine iv_Ret.icF (t := 45) rfl (decide_eq_false c23) rfl ?_
                refine iv_Ret.stl [46, 47] (ls' := [ivR 110, ivI l1, ivI l2, ivI l3]) (st' := [ivI l3, ivR 110, ivI l2]) (w' := (135, μ18, iv_rho)) rfl ?_
                obtain ⟨r24, μ25, e26, h⟩ := iv_bndE h
                refine iv_Ret.callv rfl rfl rfl (T_X10_nearTo L l3 e26) ?_
                show iv_Ret L 144 50 [ivR 110, ivI l1, ivI l2, ivI l3] [ivI r24, ivI l2] (ivST μ25) (some (ivI r)) (ivST μ')
                rcases iv_iteE h with ⟨c27, h⟩ | ⟨c27, h⟩
                · refine iv_Ret.ifF (t := 53) rfl (decide_eq_false (not_not_intro c27)) rfl ?_
                  refine iv_Ret.stl [54, 55, 56, 60] (ls' := [ivR 110, ivI l1, ivI l2, ivI l3]) (st' := [ivI (iv_shl 1 l3), ivI l2]) (w' := (135, μ25, iv_rho)) rfl ?_
                  exact hj5 (iv_shl 1 l3) μ25 _ _ (ivI l2) h
                · refine iv_Ret.ifT (t := 59) rfl (decide_eq_true c27) rfl ?_
                  exact hj11 μ25 _ _ (ivI l2) h
theorem T_X10_liftsOf (L : Nat) (p1 : Int)  {μ μ' : ivM} {r : Int} (h : f_X10_liftsOf p1 μ = some (r, μ')) : iv_Ret L 144 0 [ivR 110, ivI p1, ivU, ivU] [] (ivST μ) (some (ivI r)) (ivST μ') := by
  unfold f_X10_liftsOf at h
  refine iv_Ret.stl [1, 2, 3, 4] (ls' := [ivR 110, ivI p1, ivI 0, ivI 0]) (st' := []) (w' := (135, μ, iv_rho)) rfl ?_
  exact T_lp_X10_liftsOf_4 L p1 iv_fuel 0 0 μ _ _ h
theorem T_X10_lifts (L : Nat) (p1 : Int)  {μ μ' : ivM} {r : Int} (h : f_X10_lifts p1 μ = some (r, μ')) : iv_Ret L 145 0 [ivR 110, ivI p1] [] (ivST μ) (some (ivI r)) (ivST μ') := by
  unfold f_X10_lifts at h
  refine iv_Ret.stl [1, 2] (ls' := [ivR 110, ivI p1]) (st' := [ivI p1, ivR 110]) (w' := (135, μ, iv_rho)) rfl ?_
  obtain ⟨r1, μ2, e3, h⟩ := iv_bndE h
  refine iv_Ret.callv rfl rfl rfl (T_X10_isPerson L p1 e3) ?_
  show iv_Ret L 145 5 [ivR 110, ivI p1] [ivI r1] (ivST μ2) (some (ivI r)) (ivST μ')
  refine iv_letE (fun j4 => ∀ (v7 : Int) (μ8 : ivM) (r9 : Int) (μ10 : ivM) (z5 : ivV) (z6 : ivV), j4 v7 μ8 = some (r9, μ10) → iv_Ret L 145 17 [z5, z6] [ivI v7] (ivST μ8) (some (ivI r9)) (ivST μ10)) h (fun v7 μ8 r9 μ10 z5 z6 h => ?_) (fun j4 hj4 h => ?_)
  · obtain ⟨rfl, rfl⟩ := iv_retE h
    exact ⟨1, rfl⟩
  · rcases iv_iteE h with ⟨c11, h⟩ | ⟨c11, h⟩
    · refine iv_Ret.ifT (t := 16) rfl (decide_eq_true c11) rfl ?_
      refine iv_Ret.stl [17] (ls' := [ivR 110, ivI p1]) (st' := [ivI (-1)]) (w' := (135, μ2, iv_rho)) rfl ?_
      exact hj4 (-1) μ2 _ _ (ivR 110) (ivI p1) h
    · refine iv_Ret.ifF (t := 8) rfl (decide_eq_false c11) rfl ?_
      refine iv_Ret.stl [9, 10] (ls' := [ivR 110, ivI p1]) (st' := [ivI p1, ivR 110]) (w' := (135, μ2, iv_rho)) rfl ?_
      obtain ⟨r12, μ13, e14, h⟩ := iv_bndE h
      refine iv_Ret.callv rfl rfl rfl (T_X10_liftsOf L p1 e14) ?_
      show iv_Ret L 145 13 [ivR 110, ivI p1] [ivI r12] (ivST μ13) (some (ivI r)) (ivST μ')
      refine iv_Ret.stl [17] (ls' := [ivR 110, ivI p1]) (st' := [ivI r12]) (w' := (135, μ13, iv_rho)) rfl ?_
      exact hj4 r12 μ13 _ _ (ivR 110) (ivI p1) h
theorem T_X10_isThings (L : Nat) (p1 : Int)  {μ μ' : ivM} {r : Int} (h : f_X10_isThings p1 μ = some (r, μ')) : iv_Ret L 146 0 [ivR 110, ivI p1] [] (ivST μ) (some (ivI r)) (ivST μ') := by
  unfold f_X10_isThings at h
  refine iv_Ret.stl [1, 2, 3, 4, 5, 8, 9, 10, 11, 12] (ls' := [ivR 110, ivI p1]) (st' := [ivJ (iv_wr ((iv_shl 1 (μ 110 13)) - 1)), ivJ 0, ivJ p1]) (w' := (135, μ, iv_rho)) rfl ?_
  obtain ⟨r1, μ2, e3, h⟩ := iv_bndE h
  refine iv_Ret.calls rfl rfl (T_X10_in L p1 0 (iv_wr ((iv_shl 1 (μ 110 13)) - 1)) e3) ?_
  show iv_Ret L 146 15 [ivR 110, ivI p1] [ivI r1] (ivST μ2) (some (ivI r)) (ivST μ')
  obtain ⟨c4, h⟩ := iv_ckE h
  obtain ⟨rfl, rfl⟩ := iv_retE h
  exact iv_Ret.zret rfl c4
theorem T_lp_X10_breaksAt_6 (L : Nat) (l1 : Int) (l2 : Int) (l3 : Int)  {k52 : Int → ivM → Option (Int × ivM)} (hk52 : ∀ (l5 : Int) (μ : ivM) (r : Int) (μ' : ivM) (d0 : ivV) (d1 : ivV) (d2 : ivV) (d3 : ivV) (d4 : ivV), k52 l5 μ = some (r, μ') → iv_Ret L 147 52 [d0, d1, d2, d3, d4, ivI l5] [] (ivST μ) (some (ivI r)) (ivST μ')) : ∀ (n : Nat) (l4 : Int) (l5 : Int) (μ : ivM) (r : Int) (μ' : ivM), lp_X10_breaksAt_6 l1 l2 l3 k52 n l4 l5 μ = some (r, μ') → iv_Ret L 147 6 [ivR 110, ivI l1, ivI l2, ivI l3, ivI l4, ivI l5] [] (ivST μ) (some (ivI r)) (ivST μ') := by
  intro n
  induction n with
  | zero => intro l4 l5 μ r μ' h; unfold lp_X10_breaksAt_6 at h; cases h
  | succ n ih =>
    intro l4 l5 μ r μ' h
    unfold lp_X10_breaksAt_6 at h
    refine iv_Ret.stl [8, 9, 12] (ls' := [ivR 110, ivI l1, ivI l2, ivI l3, ivI l4, ivI l5]) (st' := [ivI (μ 110 13), ivI l5]) (w' := (135, μ, iv_rho)) rfl ?_
    rcases iv_iteE h with ⟨c1, h⟩ | ⟨c1, h⟩
    · refine iv_Ret.icT (t := 61) rfl (decide_eq_true c1) rfl ?_
      refine iv_Ret.stl [63] (ls' := [ivR 110, ivI l1, ivI l2, ivI l3, ivI l4, ivI l5]) (st' := [ivI (-9)]) (w' := (135, μ, iv_rho)) rfl ?_
      obtain ⟨rfl, rfl⟩ := iv_retE h
      exact ⟨1, rfl⟩
    · refine iv_Ret.icF (t := 15) rfl (decide_eq_false c1) rfl ?_
      refine iv_Ret.stl [16, 18, 19, 20, 21, 22] (ls' := [ivR 110, ivI l1, ivI l2, ivI l3, ivI l4, ivI l5]) (st' := [ivI 1, ivI (iv_and (iv_shr l3 l5) 1)]) (w' := (135, μ, iv_rho)) rfl ?_
      refine iv_letE (fun j2 => ∀ (w3 : Int) (μ4 : ivM) (r5 : Int) (μ6 : ivM), j2 w3 μ4 = some (r5, μ6) → iv_Ret L 147 55 [ivR 110, ivI l1, ivI l2, ivI l3, ivI w3, ivI l5] [] (ivST μ4) (some (ivI r5)) (ivST μ6)) h (fun w3 μ4 r5 μ6 h => ?_) (fun j2 hj2 h => ?_)
      · refine iv_Ret.stl [58, 6] (ls' := [ivR 110, ivI l1, ivI l2, ivI l3, ivI w3, ivI (iv_wr (l5 + 1))]) (st' := []) (w' := (135, μ4, iv_rho)) rfl ?_
        exact ih w3 (iv_wr (l5 + 1)) μ4 _ _ h
      · rcases iv_iteE h with ⟨c7, h⟩ | ⟨c7, h⟩
        · refine iv_Ret.icF (t := 25) rfl (decide_eq_false (not_not_intro c7)) rfl ?_
          refine iv_Ret.stl [27, 28, 31] (ls' := [ivR 110, ivI l1, ivI l2, ivI l3, ivI l4, ivI l5]) (st' := [ivR 116, ivI l4]) (w' := (135, μ, iv_rho)) rfl ?_
          refine iv_Ret.stl [33] (ls' := [ivR 110, ivI l1, ivI l2, ivI l3, ivI l4, ivI l5]) (st' := [ivI l5, ivR 116, ivI l4]) (w' := (135, μ, iv_rho)) rfl ?_
          obtain ⟨c8, h⟩ := iv_ckE h
          refine iv_Ret.iald (len := 8) rfl rfl rfl c8.1 c8.2 ?_
          show iv_Ret L 147 34 [ivR 110, ivI l1, ivI l2, ivI l3, ivI l4, ivI l5] [ivI (μ 116 l5.toNat), ivI l4] (ivST μ) (some (ivI r)) (ivST μ')
          refine iv_Ret.stl [35, 37, 38, 40, 41, 42, 43] (ls' := [ivR 110, ivI l1, ivI l2, ivI l3, ivI (iv_wr (l4 + (μ 116 l5.toNat))), ivI l5]) (st' := [ivI (iv_and (iv_shr l1 l5) 1)]) (w' := (135, μ, iv_rho)) rfl ?_
          rcases iv_iteE h with ⟨c9, h⟩ | ⟨c9, h⟩
          · refine iv_Ret.ifT (t := 52) rfl (decide_eq_true c9) rfl ?_
            exact hk52 l5 μ _ _ (ivR 110) (ivI l1) (ivI l2) (ivI l3) (ivI (iv_wr (l4 + (μ 116 l5.toNat)))) h
          · refine iv_Ret.ifF (t := 46) rfl (decide_eq_false c9) rfl ?_
            refine iv_Ret.stl [48, 49] (ls' := [ivR 110, ivI l1, ivI l2, ivI l3, ivI (iv_wr (l4 + (μ 116 l5.toNat))), ivI l5]) (st' := [ivI l2, ivI (iv_wr (l4 + (μ 116 l5.toNat)))]) (w' := (135, μ, iv_rho)) rfl ?_
            rcases iv_iteE h with ⟨c10, h⟩ | ⟨c10, h⟩
            · refine iv_Ret.icT (t := 55) rfl (decide_eq_true c10) rfl ?_
              exact hj2 (iv_wr (l4 + (μ 116 l5.toNat))) μ _ _ h
            · refine iv_Ret.icF (t := 52) rfl (decide_eq_false c10) rfl ?_
              exact hk52 l5 μ _ _ (ivR 110) (ivI l1) (ivI l2) (ivI l3) (ivI (iv_wr (l4 + (μ 116 l5.toNat)))) h
        · refine iv_Ret.icT (t := 55) rfl (decide_eq_true c7) rfl ?_
          exact hj2 l4 μ _ _ h
theorem T_X10_breaksAt (L : Nat) (p1 : Int) (p2 : Int) (p3 : Int)  {μ μ' : ivM} {r : Int} (h : f_X10_breaksAt p1 p2 p3 μ = some (r, μ')) : iv_Ret L 147 0 [ivR 110, ivI p1, ivI p2, ivI p3, ivU, ivU] [] (ivST μ) (some (ivI r)) (ivST μ') := by
  unfold f_X10_breaksAt at h
  refine iv_Ret.stl [1, 3, 4, 6] (ls' := [ivR 110, ivI p1, ivI p2, ivI p3, ivI 0, ivI 0]) (st' := []) (w' := (135, μ, iv_rho)) rfl ?_
  refine T_lp_X10_breaksAt_6 L p1 p2 p3 (fun w16 μ17 r18 μ19 z11 z12 z13 z14 z15 h => ?_) iv_fuel 0 0 μ _ _ h
  refine iv_Ret.stl [54] (ls' := [z11, z12, z13, z14, z15, ivI w16]) (st' := [ivI w16]) (w' := (135, μ17, iv_rho)) rfl ?_
  obtain ⟨rfl, rfl⟩ := iv_retE h
  exact ⟨1, rfl⟩
theorem T_X10_stands (L : Nat) (p1 : Int) (p2 : Int)  {μ μ' : ivM} {r : Int} (h : f_X10_stands p1 p2 μ = some (r, μ')) : iv_Ret L 148 0 [ivR 110, ivI p1, ivI p2] [] (ivST μ) (some (ivI r)) (ivST μ') := by
  unfold f_X10_stands at h
  refine iv_Ret.stl [1, 2] (ls' := [ivR 110, ivI p1, ivI p2]) (st' := [ivI p1, ivR 110]) (w' := (135, μ, iv_rho)) rfl ?_
  obtain ⟨r1, μ2, e3, h⟩ := iv_bndE h
  refine iv_Ret.callv rfl rfl rfl (T_X10_isPerson L p1 e3) ?_
  show iv_Ret L 148 5 [ivR 110, ivI p1, ivI p2] [ivI r1] (ivST μ2) (some (ivI r)) (ivST μ')
  rcases iv_iteE h with ⟨c4, h⟩ | ⟨c4, h⟩
  · refine iv_Ret.ifF (t := 8) rfl (decide_eq_false (not_not_intro c4)) rfl ?_
    refine iv_Ret.stl [9] (ls' := [ivR 110, ivI p1, ivI p2]) (st' := [ivI (-1)]) (w' := (135, μ2, iv_rho)) rfl ?_
    obtain ⟨rfl, rfl⟩ := iv_retE h
    exact ⟨1, rfl⟩
  · refine iv_Ret.ifT (t := 10) rfl (decide_eq_true c4) rfl ?_
    refine iv_Ret.stl [11, 12] (ls' := [ivR 110, ivI p1, ivI p2]) (st' := [ivI p2, ivR 110]) (w' := (135, μ2, iv_rho)) rfl ?_
    obtain ⟨r5, μ6, e7, h⟩ := iv_bndE h
    refine iv_Ret.callv rfl rfl rfl (T_X10_isThings L p2 e7) ?_
    show iv_Ret L 148 15 [ivR 110, ivI p1, ivI p2] [ivI r5] (ivST μ6) (some (ivI r)) (ivST μ')
    refine iv_letE (fun j8 => ∀ (v12 : Int) (μ13 : ivM) (r14 : Int) (μ15 : ivM) (z9 : ivV) (z10 : ivV) (z11 : ivV), j8 v12 μ13 = some (r14, μ15) → iv_Ret L 148 39 [z9, z10, z11] [ivI v12] (ivST μ13) (some (ivI r14)) (ivST μ15)) h (fun v12 μ13 r14 μ15 z9 z10 z11 h => ?_) (fun j8 hj8 h => ?_)
    · obtain ⟨rfl, rfl⟩ := iv_retE h
      exact ⟨1, rfl⟩
    · rcases iv_iteE h with ⟨c16, h⟩ | ⟨c16, h⟩
      · refine iv_Ret.ifT (t := 37) rfl (decide_eq_true c16) rfl ?_
        refine iv_Ret.stl [39] (ls' := [ivR 110, ivI p1, ivI p2]) (st' := [ivI (-2)]) (w' := (135, μ6, iv_rho)) rfl ?_
        exact hj8 (-2) μ6 _ _ (ivR 110) (ivI p1) (ivI p2) h
      · refine iv_Ret.ifF (t := 18) rfl (decide_eq_false c16) rfl ?_
        refine iv_Ret.stl [19, 20, 21] (ls' := [ivR 110, ivI p1, ivI p2]) (st' := [ivI p1, ivR 110, ivR 110]) (w' := (135, μ6, iv_rho)) rfl ?_
        obtain ⟨r17, μ18, e19, h⟩ := iv_bndE h
        refine iv_Ret.callv rfl rfl rfl (T_X10_liftsOf L p1 e19) ?_
        show iv_Ret L 148 24 [ivR 110, ivI p1, ivI p2] [ivI r17, ivR 110] (ivST μ18) (some (ivI r)) (ivST μ')
        refine iv_Ret.stl [25, 28] (ls' := [ivR 110, ivI p1, ivI p2]) (st' := [ivR 119, ivI r17, ivR 110]) (w' := (135, μ18, iv_rho)) rfl ?_
        refine iv_Ret.stl [29] (ls' := [ivR 110, ivI p1, ivI p2]) (st' := [ivI p1, ivR 119, ivI r17, ivR 110]) (w' := (135, μ18, iv_rho)) rfl ?_
        obtain ⟨c20, h⟩ := iv_ckE h
        refine iv_Ret.iald (len := 6) rfl rfl rfl c20.1 c20.2 ?_
        show iv_Ret L 148 30 [ivR 110, ivI p1, ivI p2] [ivI (μ18 119 p1.toNat), ivI r17, ivR 110] (ivST μ18) (some (ivI r)) (ivST μ')
        refine iv_Ret.stl [31] (ls' := [ivR 110, ivI p1, ivI p2]) (st' := [ivI p2, ivI (μ18 119 p1.toNat), ivI r17, ivR 110]) (w' := (135, μ18, iv_rho)) rfl ?_
        obtain ⟨r21, μ22, e23, h⟩ := iv_bndE h
        refine iv_Ret.callv rfl rfl rfl (T_X10_breaksAt L r17 (μ18 119 p1.toNat) p2 e23) ?_
        show iv_Ret L 148 34 [ivR 110, ivI p1, ivI p2] [ivI r21] (ivST μ22) (some (ivI r)) (ivST μ')
        refine iv_Ret.stl [39] (ls' := [ivR 110, ivI p1, ivI p2]) (st' := [ivI r21]) (w' := (135, μ22, iv_rho)) rfl ?_
        exact hj8 r21 μ22 _ _ (ivR 110) (ivI p1) (ivI p2) h
theorem T_lp_X10_leastLoad_5 (L : Nat) (l1 : Int) (l2 : Int)    : ∀ (n : Nat) (l3 : Int) (l4 : Int) (μ : ivM) (r : Int) (μ' : ivM), lp_X10_leastLoad_5 l1 l2 n l3 l4 μ = some (r, μ') → iv_Ret L 150 5 [ivR 110, ivI l1, ivI l2, ivI l3, ivI l4] [] (ivST μ) (some (ivI r)) (ivST μ') := by
  intro n
  induction n with
  | zero => intro l3 l4 μ r μ' h; unfold lp_X10_leastLoad_5 at h; cases h
  | succ n ih =>
    intro l3 l4 μ r μ' h
    unfold lp_X10_leastLoad_5 at h
    refine iv_Ret.stl [7] (ls' := [ivR 110, ivI l1, ivI l2, ivI l3, ivI l4]) (st' := [ivI l4]) (w' := (135, μ, iv_rho)) rfl ?_
    rcases iv_iteE h with ⟨c1, h⟩ | ⟨c1, h⟩
    · refine iv_Ret.ifT (t := 70) rfl (decide_eq_true c1) rfl ?_
      refine iv_Ret.stl [72] (ls' := [ivR 110, ivI l1, ivI l2, ivI l3, ivI l4]) (st' := [ivI (-9)]) (w' := (135, μ, iv_rho)) rfl ?_
      obtain ⟨rfl, rfl⟩ := iv_retE h
      exact ⟨1, rfl⟩
    · refine iv_Ret.ifF (t := 10) rfl (decide_eq_false c1) rfl ?_
      refine iv_Ret.stl [11, 14] (ls' := [ivR 110, ivI l1, ivI l2, ivI l3, ivI l4]) (st' := [ivR 124]) (w' := (135, μ, iv_rho)) rfl ?_
      refine iv_Ret.stl [17, 18, 19, 20, 21] (ls' := [ivR 110, ivI l1, ivI l2, ivI l3, ivI l4]) (st' := [ivI (iv_wr ((iv_wr (256 * l1)) + l3)), ivR 124]) (w' := (135, μ, iv_rho)) rfl ?_
      obtain ⟨c2, h⟩ := iv_ckE h
      refine iv_Ret.bald (len := 1536) rfl rfl rfl c2.1 c2.2 ?_
      show iv_Ret L 150 22 [ivR 110, ivI l1, ivI l2, ivI l3, ivI l4] [ivI (μ 124 (iv_wr ((iv_wr (256 * l1)) + l3)).toNat)] (ivST μ) (some (ivI r)) (ivST μ')
      refine iv_letE (fun j3 => ∀ (μ5 : ivM) (r6 : Int) (μ7 : ivM) (z4 : ivV), j3 μ5 = some (r6, μ7) → iv_Ret L 150 50 [ivR 110, ivI l1, ivI l2, ivI l3, z4] [] (ivST μ5) (some (ivI r6)) (ivST μ7)) h (fun μ5 r6 μ7 z4 h => ?_) (fun j3 hj3 h => ?_)
      · refine iv_Ret.stl [51, 52, 53, 54, 55, 56, 57] (ls' := [ivR 110, ivI l1, ivI l2, ivI (iv_and (iv_wr (l3 - l2)) l2), z4]) (st' := [ivI (iv_and (iv_wr (l3 - l2)) l2)]) (w' := (135, μ5, iv_rho)) rfl ?_
        refine iv_letE (fun j8 => ∀ (v10 : Int) (μ11 : ivM) (r12 : Int) (μ13 : ivM) (z9 : ivV), j8 v10 μ11 = some (r12, μ13) → iv_Ret L 150 65 [ivR 110, ivI l1, ivI l2, ivI (iv_and (iv_wr (l3 - l2)) l2), z9] [ivI v10] (ivST μ11) (some (ivI r12)) (ivST μ13)) h (fun v10 μ11 r12 μ13 z9 h => ?_) (fun j8 hj8 h => ?_)
        · refine iv_Ret.stl [67, 5] (ls' := [ivR 110, ivI l1, ivI l2, ivI (iv_and (iv_wr (l3 - l2)) l2), ivI v10]) (st' := []) (w' := (135, μ11, iv_rho)) rfl ?_
          exact ih (iv_and (iv_wr (l3 - l2)) l2) v10 μ11 _ _ h
        · rcases iv_iteE h with ⟨c14, h⟩ | ⟨c14, h⟩
          · refine iv_Ret.ifT (t := 64) rfl (decide_eq_true c14) rfl ?_
            refine iv_Ret.stl [65] (ls' := [ivR 110, ivI l1, ivI l2, ivI (iv_and (iv_wr (l3 - l2)) l2), z4]) (st' := [ivI 0]) (w' := (135, μ5, iv_rho)) rfl ?_
            exact hj8 0 μ5 _ _ z4 h
          · refine iv_Ret.ifF (t := 60) rfl (decide_eq_false c14) rfl ?_
            refine iv_Ret.stl [61, 65] (ls' := [ivR 110, ivI l1, ivI l2, ivI (iv_and (iv_wr (l3 - l2)) l2), z4]) (st' := [ivI 1]) (w' := (135, μ5, iv_rho)) rfl ?_
            exact hj8 1 μ5 _ _ z4 h
      · rcases iv_iteE h with ⟨c15, h⟩ | ⟨c15, h⟩
        · refine iv_Ret.ifT (t := 50) rfl (decide_eq_true c15) rfl ?_
          exact hj3 μ _ _ (ivI l4) h
        · refine iv_Ret.ifF (t := 25) rfl (decide_eq_false c15) rfl ?_
          refine iv_Ret.stl [26, 29] (ls' := [ivR 110, ivI l1, ivI l2, ivI l3, ivI l4]) (st' := [ivR 123]) (w' := (135, μ, iv_rho)) rfl ?_
          refine iv_Ret.stl [32, 33, 34, 37, 38, 39, 40, 41, 42, 43, 44] (ls' := [ivR 110, ivI l1, ivI l2, ivI l3, ivI l4]) (st' := [ivI (iv_wr ((iv_wr ((iv_wr (256 * l1)) + 256)) + (iv_and l2 (iv_xor l3 (-1))))), ivR 123]) (w' := (135, μ, iv_rho)) rfl ?_
          obtain ⟨c16, h⟩ := iv_ckE h
          refine iv_Ret.bald (len := 1792) rfl rfl rfl c16.1 c16.2 ?_
          show iv_Ret L 150 45 [ivR 110, ivI l1, ivI l2, ivI l3, ivI l4] [ivI (μ 123 (iv_wr ((iv_wr ((iv_wr (256 * l1)) + 256)) + (iv_and l2 (iv_xor l3 (-1))))).toNat)] (ivST μ) (some (ivI r)) (ivST μ')
          rcases iv_iteE h with ⟨c17, h⟩ | ⟨c17, h⟩
          · refine iv_Ret.ifT (t := 50) rfl (decide_eq_true c17) rfl ?_
            exact hj3 μ _ _ (ivI l4) h
          · refine iv_Ret.ifF (t := 48) rfl (decide_eq_false c17) rfl ?_
            refine iv_Ret.stl [49] (ls' := [ivR 110, ivI l1, ivI l2, ivI l3, ivI l4]) (st' := [ivI l3]) (w' := (135, μ, iv_rho)) rfl ?_
            obtain ⟨rfl, rfl⟩ := iv_retE h
            exact ⟨1, rfl⟩
theorem T_X10_leastLoad (L : Nat) (p1 : Int) (p2 : Int)  {μ μ' : ivM} {r : Int} (h : f_X10_leastLoad p1 p2 μ = some (r, μ')) : iv_Ret L 150 0 [ivR 110, ivI p1, ivI p2, ivU, ivU] [] (ivST μ) (some (ivI r)) (ivST μ') := by
  unfold f_X10_leastLoad at h
  refine iv_Ret.stl [1, 2, 3, 5] (ls' := [ivR 110, ivI p1, ivI p2, ivI 0, ivI 1]) (st' := []) (w' := (135, μ, iv_rho)) rfl ?_
  exact T_lp_X10_leastLoad_5 L p1 p2 iv_fuel 0 1 μ _ _ h
theorem T_lp_X10_layCan_2 (L : Nat) (l1 : Int)  {k34 : ivM → Option (Int × ivM)} (hk34 : ∀  (μ : ivM) (r : Int) (μ' : ivM) (d2 : ivV) (d3 : ivV) (d4 : ivV) (d5 : ivV), k34 μ = some (r, μ') → iv_Ret L 149 34 [ivR 110, ivI l1, d2, d3, d4, d5] [] (ivST μ) none (ivST μ')) : ∀ (n : Nat) (l2 : Int) (μ : ivM) (r : Int) (μ' : ivM) (d3 : ivV) (d4 : ivV) (d5 : ivV), lp_X10_layCan_2 l1 k34 n l2 μ = some (r, μ') → iv_Ret L 149 2 [ivR 110, ivI l1, ivI l2, d3, d4, d5] [] (ivST μ) none (ivST μ') := by
  intro n
  induction n with
  | zero => intro l2 μ r μ' d3 d4 d5 h; unfold lp_X10_layCan_2 at h; cases h
  | succ n ih =>
    intro l2 μ r μ' d3 d4 d5 h
    unfold lp_X10_layCan_2 at h
    refine iv_Ret.stl [3, 6] (ls' := [ivR 110, ivI l1, ivI l2, d3, d4, d5]) (st' := [ivI 256, ivI l2]) (w' := (135, μ, iv_rho)) rfl ?_
    rcases iv_iteE h with ⟨c1, h⟩ | ⟨c1, h⟩
    · refine iv_Ret.icT (t := 34) rfl (decide_eq_true c1) rfl ?_
      exact hk34 μ _ _ (ivI l2) d3 d4 d5 h
    · refine iv_Ret.icF (t := 9) rfl (decide_eq_false c1) rfl ?_
      refine iv_Ret.stl [10, 13] (ls' := [ivR 110, ivI l1, ivI l2, d3, d4, d5]) (st' := [ivR 123]) (w' := (135, μ, iv_rho)) rfl ?_
      refine iv_Ret.stl [16, 17, 18, 19] (ls' := [ivR 110, ivI l1, ivI l2, d3, d4, d5]) (st' := [ivI l2, ivI (iv_wr (1536 + l2)), ivR 123]) (w' := (135, μ, iv_rho)) rfl ?_
      refine iv_letE (fun j2 => ∀ (v6 : Int) (μ7 : ivM) (r8 : Int) (μ9 : ivM) (z3 : ivV) (z4 : ivV) (z5 : ivV), j2 v6 μ7 = some (r8, μ9) → iv_Ret L 149 27 [ivR 110, ivI l1, ivI l2, z3, z4, z5] [ivI v6, ivI (iv_wr (1536 + l2)), ivR 123] (ivST μ7) none (ivST μ9)) h (fun v6 μ7 r8 μ9 z3 z4 z5 h => ?_) (fun j2 hj2 h => ?_)
      · obtain ⟨c10, h⟩ := iv_ckE h
        refine iv_Ret.bast (len := 1792) rfl rfl rfl rfl c10.1 c10.2 ?_
        show iv_Ret L 149 28 [ivR 110, ivI l1, ivI l2, z3, z4, z5] [] (ivST (iv_upd μ7 123 (iv_wr (1536 + l2)).toNat (v6 % 2))) none (ivST μ9)
        refine iv_Ret.stl [31, 2] (ls' := [ivR 110, ivI l1, ivI (iv_wr (l2 + 1)), z3, z4, z5]) (st' := []) (w' := (135, (iv_upd μ7 123 (iv_wr (1536 + l2)).toNat (v6 % 2)), iv_rho)) rfl ?_
        exact ih (iv_wr (l2 + 1)) (iv_upd μ7 123 (iv_wr (1536 + l2)).toNat (v6 % 2)) _ _ z3 z4 z5 h
      · rcases iv_iteE h with ⟨c11, h⟩ | ⟨c11, h⟩
        · refine iv_Ret.ifF (t := 22) rfl (decide_eq_false (not_not_intro c11)) rfl ?_
          refine iv_Ret.stl [23, 27] (ls' := [ivR 110, ivI l1, ivI l2, d3, d4, d5]) (st' := [ivI 1, ivI (iv_wr (1536 + l2)), ivR 123]) (w' := (135, μ, iv_rho)) rfl ?_
          exact hj2 1 μ _ _ d3 d4 d5 h
        · refine iv_Ret.ifT (t := 26) rfl (decide_eq_true c11) rfl ?_
          refine iv_Ret.stl [27] (ls' := [ivR 110, ivI l1, ivI l2, d3, d4, d5]) (st' := [ivI 0, ivI (iv_wr (1536 + l2)), ivR 123]) (w' := (135, μ, iv_rho)) rfl ?_
          exact hj2 0 μ _ _ d3 d4 d5 h
theorem T_lp_X10_layCan_77 (L : Nat) (l1 : Int) (l2 : Int) (l3 : Int) (l4 : Int)  {k140 : ivM → Option (Int × ivM)} (hk140 : ∀  (μ : ivM) (r : Int) (μ' : ivM) (d3 : ivV) (d4 : ivV) (d5 : ivV), k140 μ = some (r, μ') → iv_Ret L 149 140 [ivR 110, ivI l1, ivI l2, d3, d4, d5] [] (ivST μ) none (ivST μ')) : ∀ (n : Nat) (l5 : Int) (μ : ivM) (r : Int) (μ' : ivM), lp_X10_layCan_77 l1 l2 l3 l4 k140 n l5 μ = some (r, μ') → iv_Ret L 149 77 [ivR 110, ivI l1, ivI l2, ivI l3, ivI l4, ivI l5] [] (ivST μ) none (ivST μ') := by
  intro n
  induction n with
  | zero => intro l5 μ r μ' h; unfold lp_X10_layCan_77 at h; cases h
  | succ n ih =>
    intro l5 μ r μ' h
    unfold lp_X10_layCan_77 at h
    refine iv_Ret.stl [79, 80, 81, 84, 85] (ls' := [ivR 110, ivI l1, ivI l2, ivI l3, ivI l4, ivI l5]) (st' := [ivI (iv_shl 1 (μ 110 13)), ivI l5]) (w' := (135, μ, iv_rho)) rfl ?_
    rcases iv_iteE h with ⟨c35, h⟩ | ⟨c35, h⟩
    · refine iv_Ret.icT (t := 140) rfl (decide_eq_true c35) rfl ?_
      exact hk140 μ _ _ (ivI l3) (ivI l4) (ivI l5) h
    · refine iv_Ret.icF (t := 88) rfl (decide_eq_false c35) rfl ?_
      refine iv_Ret.stl [89, 92] (ls' := [ivR 110, ivI l1, ivI l2, ivI l3, ivI l4, ivI l5]) (st' := [ivR 124]) (w' := (135, μ, iv_rho)) rfl ?_
      refine iv_Ret.stl [95, 96, 97, 99, 100, 102] (ls' := [ivR 110, ivI l1, ivI l2, ivI l3, ivI l4, ivI l5]) (st' := [ivI l5, ivI (iv_wr ((iv_wr (256 * l2)) + l5)), ivR 124]) (w' := (135, μ, iv_rho)) rfl ?_
      refine iv_letE (fun j36 => ∀ (v37 : Int) (μ38 : ivM) (r39 : Int) (μ40 : ivM), j36 v37 μ38 = some (r39, μ40) → iv_Ret L 149 133 [ivR 110, ivI l1, ivI l2, ivI l3, ivI l4, ivI l5] [ivI v37, ivI (iv_wr ((iv_wr (256 * l2)) + l5)), ivR 124] (ivST μ38) none (ivST μ40)) h (fun v37 μ38 r39 μ40 h => ?_) (fun j36 hj36 h => ?_)
      · obtain ⟨c41, h⟩ := iv_ckE h
        refine iv_Ret.bast (len := 1536) rfl rfl rfl rfl c41.1 c41.2 ?_
        show iv_Ret L 149 134 [ivR 110, ivI l1, ivI l2, ivI l3, ivI l4, ivI l5] [] (ivST (iv_upd μ38 124 (iv_wr ((iv_wr (256 * l2)) + l5)).toNat (v37 % 2))) none (ivST μ40)
        refine iv_Ret.stl [137, 77] (ls' := [ivR 110, ivI l1, ivI l2, ivI l3, ivI l4, ivI (iv_wr (l5 + 1))]) (st' := []) (w' := (135, (iv_upd μ38 124 (iv_wr ((iv_wr (256 * l2)) + l5)).toNat (v37 % 2)), iv_rho)) rfl ?_
        exact ih (iv_wr (l5 + 1)) (iv_upd μ38 124 (iv_wr ((iv_wr (256 * l2)) + l5)).toNat (v37 % 2)) _ _ h
      · refine iv_letE (fun j42 => ∀ (μ43 : ivM) (r44 : Int) (μ45 : ivM), j42 μ43 = some (r44, μ45) → iv_Ret L 149 128 [ivR 110, ivI l1, ivI l2, ivI l3, ivI l4, ivI l5] [ivI (iv_wr ((iv_wr (256 * l2)) + l5)), ivR 124] (ivST μ43) none (ivST μ45)) h (fun μ43 r44 μ45 h => ?_) (fun j42 hj42 h => ?_)
        · refine iv_Ret.stl [129, 133] (ls' := [ivR 110, ivI l1, ivI l2, ivI l3, ivI l4, ivI l5]) (st' := [ivI 1, ivI (iv_wr ((iv_wr (256 * l2)) + l5)), ivR 124]) (w' := (135, μ43, iv_rho)) rfl ?_
          exact hj36 1 μ43 _ _ h
        · rcases iv_iteE h with ⟨c46, h⟩ | ⟨c46, h⟩
          · refine iv_Ret.ifT (t := 128) rfl (decide_eq_true c46) rfl ?_
            exact hj42 μ _ _ h
          · refine iv_Ret.ifF (t := 105) rfl (decide_eq_false c46) rfl ?_
            refine iv_Ret.stl [106] (ls' := [ivR 110, ivI l1, ivI l2, ivI l3, ivI l4, ivI l5]) (st' := [ivI l3, ivI (iv_wr ((iv_wr (256 * l2)) + l5)), ivR 124]) (w' := (135, μ, iv_rho)) rfl ?_
            refine iv_letE (fun j47 => ∀ (μ48 : ivM) (r49 : Int) (μ50 : ivM), j47 μ48 = some (r49, μ50) → iv_Ret L 149 132 [ivR 110, ivI l1, ivI l2, ivI l3, ivI l4, ivI l5] [ivI (iv_wr ((iv_wr (256 * l2)) + l5)), ivR 124] (ivST μ48) none (ivST μ50)) h (fun μ48 r49 μ50 h => ?_) (fun j47 hj47 h => ?_)
            · refine iv_Ret.stl [133] (ls' := [ivR 110, ivI l1, ivI l2, ivI l3, ivI l4, ivI l5]) (st' := [ivI 0, ivI (iv_wr ((iv_wr (256 * l2)) + l5)), ivR 124]) (w' := (135, μ48, iv_rho)) rfl ?_
              exact hj36 0 μ48 _ _ h
            · rcases iv_iteE h with ⟨c51, h⟩ | ⟨c51, h⟩
              · refine iv_Ret.ifT (t := 132) rfl (decide_eq_true c51) rfl ?_
                exact hj47 μ _ _ h
              · refine iv_Ret.ifF (t := 109) rfl (decide_eq_false c51) rfl ?_
                refine iv_Ret.stl [110, 112, 113, 116] (ls' := [ivR 110, ivI l1, ivI l2, ivI l3, ivI l4, ivI l5]) (st' := [ivR 119, ivI l4, ivR 110, ivI (iv_wr ((iv_wr (256 * l2)) + l5)), ivR 124]) (w' := (135, μ, iv_rho)) rfl ?_
                refine iv_Ret.stl [117] (ls' := [ivR 110, ivI l1, ivI l2, ivI l3, ivI l4, ivI l5]) (st' := [ivI l2, ivR 119, ivI l4, ivR 110, ivI (iv_wr ((iv_wr (256 * l2)) + l5)), ivR 124]) (w' := (135, μ, iv_rho)) rfl ?_
                obtain ⟨c52, h⟩ := iv_ckE h
                refine iv_Ret.iald (len := 6) rfl rfl rfl c52.1 c52.2 ?_
                show iv_Ret L 149 118 [ivR 110, ivI l1, ivI l2, ivI l3, ivI l4, ivI l5] [ivI (μ 119 l2.toNat), ivI l4, ivR 110, ivI (iv_wr ((iv_wr (256 * l2)) + l5)), ivR 124] (ivST μ) none (ivST μ')
                refine iv_Ret.stl [120] (ls' := [ivR 110, ivI l1, ivI l2, ivI l3, ivI l4, ivI l5]) (st' := [ivI l5, ivI (μ 119 l2.toNat), ivI l4, ivR 110, ivI (iv_wr ((iv_wr (256 * l2)) + l5)), ivR 124]) (w' := (135, μ, iv_rho)) rfl ?_
                obtain ⟨r53, μ54, e55, h⟩ := iv_bndE h
                refine iv_Ret.callv rfl rfl rfl (T_X10_breaksAt L l4 (μ 119 l2.toNat) l5 e55) ?_
                show iv_Ret L 149 123 [ivR 110, ivI l1, ivI l2, ivI l3, ivI l4, ivI l5] [ivI r53, ivI (iv_wr ((iv_wr (256 * l2)) + l5)), ivR 124] (ivST μ54) none (ivST μ')
                refine iv_Ret.stl [125] (ls' := [ivR 110, ivI l1, ivI l2, ivI l3, ivI l4, ivI l5]) (st' := [ivI (-9), ivI r53, ivI (iv_wr ((iv_wr (256 * l2)) + l5)), ivR 124]) (w' := (135, μ54, iv_rho)) rfl ?_
                rcases iv_iteE h with ⟨c56, h⟩ | ⟨c56, h⟩
                · refine iv_Ret.icF (t := 128) rfl (decide_eq_false (not_not_intro c56)) rfl ?_
                  exact hj42 μ54 _ _ h
                · refine iv_Ret.icT (t := 132) rfl (decide_eq_true c56) rfl ?_
                  exact hj47 μ54 _ _ h
theorem T_lp_X10_layCan_143 (L : Nat) (l1 : Int) (l2 : Int)  {k190 : ivM → Option (Int × ivM)} (hk190 : ∀  (μ : ivM) (r : Int) (μ' : ivM) (d3 : ivV) (d4 : ivV) (d5 : ivV), k190 μ = some (r, μ') → iv_Ret L 149 190 [ivR 110, ivI l1, ivI l2, d3, d4, d5] [] (ivST μ) none (ivST μ')) : ∀ (n : Nat) (l5 : Int) (μ : ivM) (r : Int) (μ' : ivM) (d3 : ivV) (d4 : ivV), lp_X10_layCan_143 l1 l2 k190 n l5 μ = some (r, μ') → iv_Ret L 149 143 [ivR 110, ivI l1, ivI l2, d3, d4, ivI l5] [] (ivST μ) none (ivST μ') := by
  intro n
  induction n with
  | zero => intro l5 μ r μ' d3 d4 h; unfold lp_X10_layCan_143 at h; cases h
  | succ n ih =>
    intro l5 μ r μ' d3 d4 h
    unfold lp_X10_layCan_143 at h
    refine iv_Ret.stl [145, 146, 147, 150, 151] (ls' := [ivR 110, ivI l1, ivI l2, d3, d4, ivI l5]) (st' := [ivI (iv_shl 1 (μ 110 13)), ivI l5]) (w' := (135, μ, iv_rho)) rfl ?_
    rcases iv_iteE h with ⟨c63, h⟩ | ⟨c63, h⟩
    · refine iv_Ret.icT (t := 190) rfl (decide_eq_true c63) rfl ?_
      exact hk190 μ _ _ d3 d4 (ivI l5) h
    · refine iv_Ret.icF (t := 154) rfl (decide_eq_false c63) rfl ?_
      refine iv_Ret.stl [155, 158] (ls' := [ivR 110, ivI l1, ivI l2, d3, d4, ivI l5]) (st' := [ivR 123]) (w' := (135, μ, iv_rho)) rfl ?_
      refine iv_Ret.stl [161, 162, 163, 165, 166, 167, 168, 170] (ls' := [ivR 110, ivI l1, ivI l2, d3, d4, ivI l5]) (st' := [ivI l5, ivI l2, ivR 110, ivI (iv_wr ((iv_wr (256 * l2)) + l5)), ivR 123]) (w' := (135, μ, iv_rho)) rfl ?_
      obtain ⟨r64, μ65, e66, h⟩ := iv_bndE h
      refine iv_Ret.callv rfl rfl rfl (T_X10_leastLoad L l2 l5 e66) ?_
      show iv_Ret L 149 173 [ivR 110, ivI l1, ivI l2, d3, d4, ivI l5] [ivI r64, ivI (iv_wr ((iv_wr (256 * l2)) + l5)), ivR 123] (ivST μ65) none (ivST μ')
      refine iv_Ret.stl [175] (ls' := [ivR 110, ivI l1, ivI l2, d3, d4, ivI l5]) (st' := [ivI (-9), ivI r64, ivI (iv_wr ((iv_wr (256 * l2)) + l5)), ivR 123]) (w' := (135, μ65, iv_rho)) rfl ?_
      refine iv_letE (fun j67 => ∀ (v70 : Int) (μ71 : ivM) (r72 : Int) (μ73 : ivM) (z68 : ivV) (z69 : ivV), j67 v70 μ71 = some (r72, μ73) → iv_Ret L 149 183 [ivR 110, ivI l1, ivI l2, z68, z69, ivI l5] [ivI v70, ivI (iv_wr ((iv_wr (256 * l2)) + l5)), ivR 123] (ivST μ71) none (ivST μ73)) h (fun v70 μ71 r72 μ73 z68 z69 h => ?_) (fun j67 hj67 h => ?_)
      · obtain ⟨c74, h⟩ := iv_ckE h
        refine iv_Ret.bast (len := 1792) rfl rfl rfl rfl c74.1 c74.2 ?_
        show iv_Ret L 149 184 [ivR 110, ivI l1, ivI l2, z68, z69, ivI l5] [] (ivST (iv_upd μ71 123 (iv_wr ((iv_wr (256 * l2)) + l5)).toNat (v70 % 2))) none (ivST μ73)
        refine iv_Ret.stl [187, 143] (ls' := [ivR 110, ivI l1, ivI l2, z68, (iv_un z69), ivI (iv_wr (l5 + 1))]) (st' := []) (w' := (135, (iv_upd μ71 123 (iv_wr ((iv_wr (256 * l2)) + l5)).toNat (v70 % 2)), iv_rho)) rfl ?_
        exact ih (iv_wr (l5 + 1)) (iv_upd μ71 123 (iv_wr ((iv_wr (256 * l2)) + l5)).toNat (v70 % 2)) _ _ z68 (iv_un z69) h
      · rcases iv_iteE h with ⟨c75, h⟩ | ⟨c75, h⟩
        · refine iv_Ret.icT (t := 182) rfl (decide_eq_true c75) rfl ?_
          refine iv_Ret.stl [183] (ls' := [ivR 110, ivI l1, ivI l2, d3, d4, ivI l5]) (st' := [ivI 0, ivI (iv_wr ((iv_wr (256 * l2)) + l5)), ivR 123]) (w' := (135, μ65, iv_rho)) rfl ?_
          exact hj67 0 μ65 _ _ d3 d4 h
        · refine iv_Ret.icF (t := 178) rfl (decide_eq_false c75) rfl ?_
          refine iv_Ret.stl [179, 183] (ls' := [ivR 110, ivI l1, ivI l2, d3, d4, ivI l5]) (st' := [ivI 1, ivI (iv_wr ((iv_wr (256 * l2)) + l5)), ivR 123]) (w' := (135, μ65, iv_rho)) rfl ?_
          exact hj67 1 μ65 _ _ d3 d4 h
theorem T_lp_X10_layCan_36 (L : Nat) (l1 : Int)    : ∀ (n : Nat) (l2 : Int) (μ : ivM) (r : Int) (μ' : ivM) (d3 : ivV) (d4 : ivV) (d5 : ivV), lp_X10_layCan_36 l1 n l2 μ = some (r, μ') → iv_Ret L 149 36 [ivR 110, ivI l1, ivI l2, d3, d4, d5] [] (ivST μ) none (ivST μ') := by
  intro n
  induction n with
  | zero => intro l2 μ r μ' d3 d4 d5 h; unfold lp_X10_layCan_36 at h; cases h
  | succ n ih =>
    intro l2 μ r μ' d3 d4 d5 h
    unfold lp_X10_layCan_36 at h
    refine iv_Ret.stl [37] (ls' := [ivR 110, ivI l1, ivI l2, d3, d4, d5]) (st' := [ivI l2]) (w' := (135, μ, iv_rho)) rfl ?_
    rcases iv_iteE h with ⟨c19, h⟩ | ⟨c19, h⟩
    · refine iv_Ret.ifT (t := 196) rfl (decide_eq_true c19) rfl ?_
      obtain ⟨rfl, rfl⟩ := iv_retE h
      exact ⟨1, rfl⟩
    · refine iv_Ret.ifF (t := 40) rfl (decide_eq_false c19) rfl ?_
      refine iv_Ret.stl [41, 42, 45] (ls' := [ivR 110, ivI l1, ivI l2, d3, d4, d5]) (st' := [ivI (μ 110 14), ivI l2]) (w' := (135, μ, iv_rho)) rfl ?_
      refine iv_letE (fun j20 => ∀ (v24 : Int) (μ25 : ivM) (r26 : Int) (μ27 : ivM) (z21 : ivV) (z22 : ivV) (z23 : ivV), j20 v24 μ25 = some (r26, μ27) → iv_Ret L 149 58 [ivR 110, ivI l1, ivI l2, z21, z22, z23] [ivI v24] (ivST μ25) none (ivST μ27)) h (fun v24 μ25 r26 μ27 z21 z22 z23 h => ?_) (fun j20 hj20 h => ?_)
      · refine iv_Ret.stl [59, 60] (ls' := [ivR 110, ivI l1, ivI l2, ivI v24, z22, z23]) (st' := [ivI v24]) (w' := (135, μ25, iv_rho)) rfl ?_
        refine iv_letE (fun j28 => ∀ (v31 : Int) (μ32 : ivM) (r33 : Int) (μ34 : ivM) (z29 : ivV) (z30 : ivV), j28 v31 μ32 = some (r33, μ34) → iv_Ret L 149 72 [ivR 110, ivI l1, ivI l2, ivI v24, z29, z30] [ivI v31] (ivST μ32) none (ivST μ34)) h (fun v31 μ32 r33 μ34 z29 z30 h => ?_) (fun j28 hj28 h => ?_)
        · refine iv_Ret.stl [74, 75, 77] (ls' := [ivR 110, ivI l1, ivI l2, ivI v24, ivI v31, ivI 0]) (st' := []) (w' := (135, μ32, iv_rho)) rfl ?_
          refine T_lp_X10_layCan_77 L l1 l2 v24 v31 (fun μ60 r61 μ62 z57 z58 z59 h => ?_) iv_fuel 0 μ32 _ _ h
          refine iv_Ret.stl [141, 143] (ls' := [ivR 110, ivI l1, ivI l2, z57, (iv_un z58), ivI 0]) (st' := []) (w' := (135, μ60, iv_rho)) rfl ?_
          refine T_lp_X10_layCan_143 L l1 l2 (fun μ79 r80 μ81 z76 z77 z78 h => ?_) iv_fuel 0 μ60 _ _ z57 (iv_un z58) h
          refine iv_Ret.stl [193, 36] (ls' := [ivR 110, ivI l1, ivI (iv_wr (l2 + (-1))), z76, z77, z78]) (st' := []) (w' := (135, μ79, iv_rho)) rfl ?_
          exact ih (iv_wr (l2 + (-1))) μ79 _ _ z76 z77 z78 h
        · rcases iv_iteE h with ⟨c82, h⟩ | ⟨c82, h⟩
          · refine iv_Ret.ifT (t := 71) rfl (decide_eq_true c82) rfl ?_
            refine iv_Ret.stl [72] (ls' := [ivR 110, ivI l1, ivI l2, ivI v24, z22, z23]) (st' := [ivI 0]) (w' := (135, μ25, iv_rho)) rfl ?_
            exact hj28 0 μ25 _ _ z22 z23 h
          · refine iv_Ret.ifF (t := 63) rfl (decide_eq_false c82) rfl ?_
            refine iv_Ret.stl [64, 65] (ls' := [ivR 110, ivI l1, ivI l2, ivI v24, z22, z23]) (st' := [ivI l2, ivR 110]) (w' := (135, μ25, iv_rho)) rfl ?_
            obtain ⟨r83, μ84, e85, h⟩ := iv_bndE h
            refine iv_Ret.callv rfl rfl rfl (T_X10_liftsOf L l2 e85) ?_
            show iv_Ret L 149 68 [ivR 110, ivI l1, ivI l2, ivI v24, z22, z23] [ivI r83] (ivST μ84) none (ivST μ27)
            refine iv_Ret.stl [72] (ls' := [ivR 110, ivI l1, ivI l2, ivI v24, z22, z23]) (st' := [ivI r83]) (w' := (135, μ84, iv_rho)) rfl ?_
            exact hj28 r83 μ84 _ _ z22 z23 h
      · refine iv_letE (fun j86 => ∀ (μ90 : ivM) (r91 : Int) (μ92 : ivM) (z87 : ivV) (z88 : ivV) (z89 : ivV), j86 μ90 = some (r91, μ92) → iv_Ret L 149 57 [ivR 110, ivI l1, ivI l2, z87, z88, z89] [] (ivST μ90) none (ivST μ92)) h (fun μ90 r91 μ92 z87 z88 z89 h => ?_) (fun j86 hj86 h => ?_)
        · refine iv_Ret.stl [58] (ls' := [ivR 110, ivI l1, ivI l2, z87, z88, z89]) (st' := [ivI 0]) (w' := (135, μ90, iv_rho)) rfl ?_
          exact hj20 0 μ90 _ _ z87 z88 z89 h
        · rcases iv_iteE h with ⟨c93, h⟩ | ⟨c93, h⟩
          · refine iv_Ret.icT (t := 57) rfl (decide_eq_true c93) rfl ?_
            exact hj86 μ _ _ d3 d4 d5 h
          · refine iv_Ret.icF (t := 48) rfl (decide_eq_false c93) rfl ?_
            refine iv_Ret.stl [49, 50] (ls' := [ivR 110, ivI l1, ivI l2, d3, d4, d5]) (st' := [ivI l1, ivI l2]) (w' := (135, μ, iv_rho)) rfl ?_
            rcases iv_iteE h with ⟨c94, h⟩ | ⟨c94, h⟩
            · refine iv_Ret.icT (t := 57) rfl (decide_eq_true c94) rfl ?_
              exact hj86 μ _ _ d3 d4 d5 h
            · refine iv_Ret.icF (t := 53) rfl (decide_eq_false c94) rfl ?_
              refine iv_Ret.stl [54, 58] (ls' := [ivR 110, ivI l1, ivI l2, d3, d4, d5]) (st' := [ivI 1]) (w' := (135, μ, iv_rho)) rfl ?_
              exact hj20 1 μ _ _ d3 d4 d5 h
theorem T_X10_layCan (L : Nat) (p1 : Int)  {μ μ' : ivM} {r : Int} (h : f_X10_layCan p1 μ = some (r, μ')) : iv_Ret L 149 0 [ivR 110, ivI p1, ivU, ivU, ivU, ivU] [] (ivST μ) none (ivST μ') := by
  unfold f_X10_layCan at h
  refine iv_Ret.stl [1, 2] (ls' := [ivR 110, ivI p1, ivI 0, ivU, ivU, ivU]) (st' := []) (w' := (135, μ, iv_rho)) rfl ?_
  refine T_lp_X10_layCan_2 L p1 (fun μ16 r17 μ18 z12 z13 z14 z15 h => ?_) iv_fuel 0 μ _ _ ivU ivU ivU h
  refine iv_Ret.stl [35, 36] (ls' := [ivR 110, ivI p1, ivI 5, z13, z14, z15]) (st' := []) (w' := (135, μ16, iv_rho)) rfl ?_
  exact T_lp_X10_layCan_36 L p1 iv_fuel 5 μ16 _ _ z13 z14 z15 h
